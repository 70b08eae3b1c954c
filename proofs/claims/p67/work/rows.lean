section
-- ===== PART A: goes FIRST, ahead of the names: the tables' words, and 'selects' of the private methods out of them =====
/-- a private method of a class that the tables say can be made, by its rows of tables_1 -/
def lw_okq (q : MethodName × Nat) : Prop := (q.1.cls ≠ "java/lang/invoke/MethodHandle" ∧ q.1.cls ≠ "java/lang/invoke/VarHandle") ∧ Cond.instantiable q.1.cls q.2 ∈ tables_1 ∧ Cond.privateMethod q.1 ∈ tables_1 ∧ Cond.instanceMethod q.1 ∈ tables_1
theorem lw_p0 : lw_okq (⟨"java/lang/Throwable", "fillInStackTrace", "(I)Ljava/lang/Throwable;"⟩, 6) := ⟨⟨by decide +kernel, by decide +kernel⟩, List.mem_of_getElem? (i := 448) (by decide +kernel), List.mem_of_getElem? (i := 446) (by decide +kernel), List.mem_of_getElem? (i := 447) (by decide +kernel)⟩
theorem lw_p1 : lw_okq (⟨"MoonlitFloor$SetupReader", "restart", "()V"⟩, 11) := ⟨⟨by decide +kernel, by decide +kernel⟩, List.mem_of_getElem? (i := 291) (by decide +kernel), List.mem_of_getElem? (i := 481) (by decide +kernel), List.mem_of_getElem? (i := 482) (by decide +kernel)⟩
theorem lw_p2 : lw_okq (⟨"MoonlitFloor$Tokens", "add", "(LMoonlitFloor$Sign;II)V"⟩, 5) := ⟨⟨by decide +kernel, by decide +kernel⟩, List.mem_of_getElem? (i := 297) (by decide +kernel), List.mem_of_getElem? (i := 583) (by decide +kernel), List.mem_of_getElem? (i := 584) (by decide +kernel)⟩
theorem lw_p3 : lw_okq (⟨"MoonlitFloor$SetupReader", "readFloor", "()V"⟩, 11) := ⟨⟨by decide +kernel, by decide +kernel⟩, List.mem_of_getElem? (i := 291) (by decide +kernel), List.mem_of_getElem? (i := 592) (by decide +kernel), List.mem_of_getElem? (i := 593) (by decide +kernel)⟩
theorem lw_p4 : lw_okq (⟨"MoonlitFloor$SetupReader", "fail", "(I)V"⟩, 11) := ⟨⟨by decide +kernel, by decide +kernel⟩, List.mem_of_getElem? (i := 291) (by decide +kernel), List.mem_of_getElem? (i := 602) (by decide +kernel), List.mem_of_getElem? (i := 603) (by decide +kernel)⟩
theorem lw_p5 : lw_okq (⟨"MoonlitFloor$SetupReader", "takeNumber", "(II)I"⟩, 11) := ⟨⟨by decide +kernel, by decide +kernel⟩, List.mem_of_getElem? (i := 291) (by decide +kernel), List.mem_of_getElem? (i := 614) (by decide +kernel), List.mem_of_getElem? (i := 615) (by decide +kernel)⟩
theorem lw_p6 : lw_okq (⟨"MoonlitFloor$SetupReader", "number", "(II)I"⟩, 11) := ⟨⟨by decide +kernel, by decide +kernel⟩, List.mem_of_getElem? (i := 291) (by decide +kernel), List.mem_of_getElem? (i := 618) (by decide +kernel), List.mem_of_getElem? (i := 619) (by decide +kernel)⟩
theorem lw_p7 : lw_okq (⟨"MoonlitFloor$SetupReader", "readSeparator", "()V"⟩, 11) := ⟨⟨by decide +kernel, by decide +kernel⟩, List.mem_of_getElem? (i := 291) (by decide +kernel), List.mem_of_getElem? (i := 628) (by decide +kernel), List.mem_of_getElem? (i := 629) (by decide +kernel)⟩
theorem lw_p8 : lw_okq (⟨"MoonlitFloor$SetupReader", "closeBracket", "()V"⟩, 11) := ⟨⟨by decide +kernel, by decide +kernel⟩, List.mem_of_getElem? (i := 291) (by decide +kernel), List.mem_of_getElem? (i := 636) (by decide +kernel), List.mem_of_getElem? (i := 637) (by decide +kernel)⟩
theorem lw_p9 : lw_okq (⟨"MoonlitFloor$SetupReader", "finish", "()V"⟩, 11) := ⟨⟨by decide +kernel, by decide +kernel⟩, List.mem_of_getElem? (i := 291) (by decide +kernel), List.mem_of_getElem? (i := 647) (by decide +kernel), List.mem_of_getElem? (i := 648) (by decide +kernel)⟩
theorem lw_p10 : lw_okq (⟨"MoonlitFloor$World", "liesInMoonlight", "(I)Z"⟩, 14) := ⟨⟨by decide +kernel, by decide +kernel⟩, List.mem_of_getElem? (i := 80) (by decide +kernel), List.mem_of_getElem? (i := 667) (by decide +kernel), List.mem_of_getElem? (i := 668) (by decide +kernel)⟩
theorem lw_p11 : lw_okq (⟨"MoonlitFloor$World", "settle", "(I)Z"⟩, 14) := ⟨⟨by decide +kernel, by decide +kernel⟩, List.mem_of_getElem? (i := 80) (by decide +kernel), List.mem_of_getElem? (i := 684) (by decide +kernel), List.mem_of_getElem? (i := 685) (by decide +kernel)⟩
theorem lw_p12 : lw_okq (⟨"MoonlitFloor$SetupReader", "startsEvent", "()Z"⟩, 11) := ⟨⟨by decide +kernel, by decide +kernel⟩, List.mem_of_getElem? (i := 291) (by decide +kernel), List.mem_of_getElem? (i := 688) (by decide +kernel), List.mem_of_getElem? (i := 689) (by decide +kernel)⟩
theorem lw_p13 : lw_okq (⟨"MoonlitFloor$SetupReader", "readEvent", "()I"⟩, 11) := ⟨⟨by decide +kernel, by decide +kernel⟩, List.mem_of_getElem? (i := 291) (by decide +kernel), List.mem_of_getElem? (i := 692) (by decide +kernel), List.mem_of_getElem? (i := 693) (by decide +kernel)⟩
theorem lw_p14 : lw_okq (⟨"MoonlitFloor$SetupReader", "startEvents", "()V"⟩, 11) := ⟨⟨by decide +kernel, by decide +kernel⟩, List.mem_of_getElem? (i := 291) (by decide +kernel), List.mem_of_getElem? (i := 698) (by decide +kernel), List.mem_of_getElem? (i := 699) (by decide +kernel)⟩
theorem lw_p15 : lw_okq (⟨"MoonlitFloor$SetupReader", "takeMinutes", "(I)I"⟩, 11) := ⟨⟨by decide +kernel, by decide +kernel⟩, List.mem_of_getElem? (i := 291) (by decide +kernel), List.mem_of_getElem? (i := 708) (by decide +kernel), List.mem_of_getElem? (i := 709) (by decide +kernel)⟩
def lw_privs_1 : List (MethodName × Nat) := [(⟨"java/lang/Throwable", "fillInStackTrace", "(I)Ljava/lang/Throwable;"⟩, 6), (⟨"MoonlitFloor$SetupReader", "restart", "()V"⟩, 11), (⟨"MoonlitFloor$Tokens", "add", "(LMoonlitFloor$Sign;II)V"⟩, 5), (⟨"MoonlitFloor$SetupReader", "readFloor", "()V"⟩, 11), (⟨"MoonlitFloor$SetupReader", "fail", "(I)V"⟩, 11), (⟨"MoonlitFloor$SetupReader", "takeNumber", "(II)I"⟩, 11), (⟨"MoonlitFloor$SetupReader", "number", "(II)I"⟩, 11), (⟨"MoonlitFloor$SetupReader", "readSeparator", "()V"⟩, 11), (⟨"MoonlitFloor$SetupReader", "closeBracket", "()V"⟩, 11), (⟨"MoonlitFloor$SetupReader", "finish", "()V"⟩, 11), (⟨"MoonlitFloor$World", "liesInMoonlight", "(I)Z"⟩, 14), (⟨"MoonlitFloor$World", "settle", "(I)Z"⟩, 14), (⟨"MoonlitFloor$SetupReader", "startsEvent", "()Z"⟩, 11), (⟨"MoonlitFloor$SetupReader", "readEvent", "()I"⟩, 11), (⟨"MoonlitFloor$SetupReader", "startEvents", "()V"⟩, 11), (⟨"MoonlitFloor$SetupReader", "takeMinutes", "(I)I"⟩, 11)]
theorem lw_r1 : ∀ q ∈ lw_privs_1, lw_okq q := List.forall_mem_cons.mpr ⟨lw_p0, List.forall_mem_cons.mpr ⟨lw_p1, List.forall_mem_cons.mpr ⟨lw_p2, List.forall_mem_cons.mpr ⟨lw_p3, List.forall_mem_cons.mpr ⟨lw_p4, List.forall_mem_cons.mpr ⟨lw_p5, List.forall_mem_cons.mpr ⟨lw_p6, List.forall_mem_cons.mpr ⟨lw_p7, List.forall_mem_cons.mpr ⟨lw_p8, List.forall_mem_cons.mpr ⟨lw_p9, List.forall_mem_cons.mpr ⟨lw_p10, List.forall_mem_cons.mpr ⟨lw_p11, List.forall_mem_cons.mpr ⟨lw_p12, List.forall_mem_cons.mpr ⟨lw_p13, List.forall_mem_cons.mpr ⟨lw_p14, List.forall_mem_cons.mpr ⟨lw_p15, fun _ h => absurd h List.not_mem_nil⟩⟩⟩⟩⟩⟩⟩⟩⟩⟩⟩⟩⟩⟩⟩⟩
theorem lw_p16 : lw_okq (⟨"MoonlitFloor$SetupReader", "readSpill", "()V"⟩, 11) := ⟨⟨by decide +kernel, by decide +kernel⟩, List.mem_of_getElem? (i := 291) (by decide +kernel), List.mem_of_getElem? (i := 722) (by decide +kernel), List.mem_of_getElem? (i := 723) (by decide +kernel)⟩
theorem lw_p17 : lw_okq (⟨"MoonlitFloor$SetupReader", "readCurtains", "(I)V"⟩, 11) := ⟨⟨by decide +kernel, by decide +kernel⟩, List.mem_of_getElem? (i := 291) (by decide +kernel), List.mem_of_getElem? (i := 734) (by decide +kernel), List.mem_of_getElem? (i := 735) (by decide +kernel)⟩
theorem lw_p18 : lw_okq (⟨"MoonlitFloor$SetupReader", "readCarry", "()V"⟩, 11) := ⟨⟨by decide +kernel, by decide +kernel⟩, List.mem_of_getElem? (i := 291) (by decide +kernel), List.mem_of_getElem? (i := 738) (by decide +kernel), List.mem_of_getElem? (i := 739) (by decide +kernel)⟩
theorem lw_p19 : lw_okq (⟨"MoonlitFloor$SetupReader", "readRepeat", "()V"⟩, 11) := ⟨⟨by decide +kernel, by decide +kernel⟩, List.mem_of_getElem? (i := 291) (by decide +kernel), List.mem_of_getElem? (i := 742) (by decide +kernel), List.mem_of_getElem? (i := 743) (by decide +kernel)⟩
theorem lw_p20 : lw_okq (⟨"MoonlitFloor$SetupReader", "readTiles", "(LMoonlitFloor$Sign;)V"⟩, 11) := ⟨⟨by decide +kernel, by decide +kernel⟩, List.mem_of_getElem? (i := 291) (by decide +kernel), List.mem_of_getElem? (i := 752) (by decide +kernel), List.mem_of_getElem? (i := 753) (by decide +kernel)⟩
theorem lw_p21 : lw_okq (⟨"MoonlitFloor$SetupReader", "readItem", "(LMoonlitFloor$Sign;)V"⟩, 11) := ⟨⟨by decide +kernel, by decide +kernel⟩, List.mem_of_getElem? (i := 291) (by decide +kernel), List.mem_of_getElem? (i := 760) (by decide +kernel), List.mem_of_getElem? (i := 761) (by decide +kernel)⟩
theorem lw_p22 : lw_okq (⟨"MoonlitFloor$SetupReader", "countWanted", "(LMoonlitFloor$Sign;III)I"⟩, 11) := ⟨⟨by decide +kernel, by decide +kernel⟩, List.mem_of_getElem? (i := 291) (by decide +kernel), List.mem_of_getElem? (i := 764) (by decide +kernel), List.mem_of_getElem? (i := 765) (by decide +kernel)⟩
theorem lw_p23 : lw_okq (⟨"MoonlitFloor$SetupReader", "isWanted", "(LMoonlitFloor$Sign;I)Z"⟩, 11) := ⟨⟨by decide +kernel, by decide +kernel⟩, List.mem_of_getElem? (i := 291) (by decide +kernel), List.mem_of_getElem? (i := 768) (by decide +kernel), List.mem_of_getElem? (i := 769) (by decide +kernel)⟩
theorem lw_p24 : lw_okq (⟨"MoonlitFloor$SetupReader", "handleLine", "(LMoonlitFloor$Sign;III)V"⟩, 11) := ⟨⟨by decide +kernel, by decide +kernel⟩, List.mem_of_getElem? (i := 291) (by decide +kernel), List.mem_of_getElem? (i := 779) (by decide +kernel), List.mem_of_getElem? (i := 780) (by decide +kernel)⟩
theorem lw_p25 : lw_okq (⟨"MoonlitFloor$World", "moveCat", "()Z"⟩, 14) := ⟨⟨by decide +kernel, by decide +kernel⟩, List.mem_of_getElem? (i := 80) (by decide +kernel), List.mem_of_getElem? (i := 791) (by decide +kernel), List.mem_of_getElem? (i := 792) (by decide +kernel)⟩
theorem lw_p26 : lw_okq (⟨"MoonlitFloor$World", "spillBowl", "()V"⟩, 14) := ⟨⟨by decide +kernel, by decide +kernel⟩, List.mem_of_getElem? (i := 80) (by decide +kernel), List.mem_of_getElem? (i := 799) (by decide +kernel), List.mem_of_getElem? (i := 800) (by decide +kernel)⟩
theorem lw_p27 : lw_okq (⟨"MoonlitFloor$World", "distance", "(II)I"⟩, 14) := ⟨⟨by decide +kernel, by decide +kernel⟩, List.mem_of_getElem? (i := 80) (by decide +kernel), List.mem_of_getElem? (i := 808) (by decide +kernel), List.mem_of_getElem? (i := 809) (by decide +kernel)⟩
theorem lw_p28 : lw_okq (⟨"MoonlitFloor$World", "startle", "()V"⟩, 14) := ⟨⟨by decide +kernel, by decide +kernel⟩, List.mem_of_getElem? (i := 80) (by decide +kernel), List.mem_of_getElem? (i := 815) (by decide +kernel), List.mem_of_getElem? (i := 816) (by decide +kernel)⟩
theorem lw_p29 : lw_okq (⟨"MoonlitFloor$World", "walk", "(I)V"⟩, 14) := ⟨⟨by decide +kernel, by decide +kernel⟩, List.mem_of_getElem? (i := 80) (by decide +kernel), List.mem_of_getElem? (i := 826) (by decide +kernel), List.mem_of_getElem? (i := 827) (by decide +kernel)⟩
theorem lw_p30 : lw_okq (⟨"MoonlitFloor$World", "canEnter", "(I)Z"⟩, 14) := ⟨⟨by decide +kernel, by decide +kernel⟩, List.mem_of_getElem? (i := 80) (by decide +kernel), List.mem_of_getElem? (i := 830) (by decide +kernel), List.mem_of_getElem? (i := 831) (by decide +kernel)⟩
theorem lw_p31 : lw_okq (⟨"MoonlitFloor$World", "slideRug", "(II)V"⟩, 14) := ⟨⟨by decide +kernel, by decide +kernel⟩, List.mem_of_getElem? (i := 80) (by decide +kernel), List.mem_of_getElem? (i := 838) (by decide +kernel), List.mem_of_getElem? (i := 839) (by decide +kernel)⟩
def lw_privs_2 : List (MethodName × Nat) := [(⟨"MoonlitFloor$SetupReader", "readSpill", "()V"⟩, 11), (⟨"MoonlitFloor$SetupReader", "readCurtains", "(I)V"⟩, 11), (⟨"MoonlitFloor$SetupReader", "readCarry", "()V"⟩, 11), (⟨"MoonlitFloor$SetupReader", "readRepeat", "()V"⟩, 11), (⟨"MoonlitFloor$SetupReader", "readTiles", "(LMoonlitFloor$Sign;)V"⟩, 11), (⟨"MoonlitFloor$SetupReader", "readItem", "(LMoonlitFloor$Sign;)V"⟩, 11), (⟨"MoonlitFloor$SetupReader", "countWanted", "(LMoonlitFloor$Sign;III)I"⟩, 11), (⟨"MoonlitFloor$SetupReader", "isWanted", "(LMoonlitFloor$Sign;I)Z"⟩, 11), (⟨"MoonlitFloor$SetupReader", "handleLine", "(LMoonlitFloor$Sign;III)V"⟩, 11), (⟨"MoonlitFloor$World", "moveCat", "()Z"⟩, 14), (⟨"MoonlitFloor$World", "spillBowl", "()V"⟩, 14), (⟨"MoonlitFloor$World", "distance", "(II)I"⟩, 14), (⟨"MoonlitFloor$World", "startle", "()V"⟩, 14), (⟨"MoonlitFloor$World", "walk", "(I)V"⟩, 14), (⟨"MoonlitFloor$World", "canEnter", "(I)Z"⟩, 14), (⟨"MoonlitFloor$World", "slideRug", "(II)V"⟩, 14)]
theorem lw_r2 : ∀ q ∈ lw_privs_2, lw_okq q := List.forall_mem_cons.mpr ⟨lw_p16, List.forall_mem_cons.mpr ⟨lw_p17, List.forall_mem_cons.mpr ⟨lw_p18, List.forall_mem_cons.mpr ⟨lw_p19, List.forall_mem_cons.mpr ⟨lw_p20, List.forall_mem_cons.mpr ⟨lw_p21, List.forall_mem_cons.mpr ⟨lw_p22, List.forall_mem_cons.mpr ⟨lw_p23, List.forall_mem_cons.mpr ⟨lw_p24, List.forall_mem_cons.mpr ⟨lw_p25, List.forall_mem_cons.mpr ⟨lw_p26, List.forall_mem_cons.mpr ⟨lw_p27, List.forall_mem_cons.mpr ⟨lw_p28, List.forall_mem_cons.mpr ⟨lw_p29, List.forall_mem_cons.mpr ⟨lw_p30, List.forall_mem_cons.mpr ⟨lw_p31, fun _ h => absurd h List.not_mem_nil⟩⟩⟩⟩⟩⟩⟩⟩⟩⟩⟩⟩⟩⟩⟩⟩
theorem lw_p32 : lw_okq (⟨"MoonlitFloor$World", "enter", "(I)V"⟩, 14) := ⟨⟨by decide +kernel, by decide +kernel⟩, List.mem_of_getElem? (i := 80) (by decide +kernel), List.mem_of_getElem? (i := 843) (by decide +kernel), List.mem_of_getElem? (i := 844) (by decide +kernel)⟩
theorem lw_p33 : lw_okq (⟨"MoonlitFloor$World", "drySpills", "()V"⟩, 14) := ⟨⟨by decide +kernel, by decide +kernel⟩, List.mem_of_getElem? (i := 80) (by decide +kernel), List.mem_of_getElem? (i := 855) (by decide +kernel), List.mem_of_getElem? (i := 856) (by decide +kernel)⟩
theorem lw_p34 : lw_okq (⟨"MoonlitFloor$World", "endNight", "()V"⟩, 14) := ⟨⟨by decide +kernel, by decide +kernel⟩, List.mem_of_getElem? (i := 80) (by decide +kernel), List.mem_of_getElem? (i := 864) (by decide +kernel), List.mem_of_getElem? (i := 865) (by decide +kernel)⟩
theorem lw_p35 : lw_okq (⟨"MoonlitFloor$World", "stirCurtains", "()V"⟩, 14) := ⟨⟨by decide +kernel, by decide +kernel⟩, List.mem_of_getElem? (i := 80) (by decide +kernel), List.mem_of_getElem? (i := 879) (by decide +kernel), List.mem_of_getElem? (i := 880) (by decide +kernel)⟩
theorem lw_p36 : lw_okq (⟨"MoonlitFloor$SetupReader", "readSetting", "()V"⟩, 11) := ⟨⟨by decide +kernel, by decide +kernel⟩, List.mem_of_getElem? (i := 291) (by decide +kernel), List.mem_of_getElem? (i := 884) (by decide +kernel), List.mem_of_getElem? (i := 885) (by decide +kernel)⟩
theorem lw_p37 : lw_okq (⟨"MoonlitFloor$SetupReader", "readWalker", "()V"⟩, 11) := ⟨⟨by decide +kernel, by decide +kernel⟩, List.mem_of_getElem? (i := 291) (by decide +kernel), List.mem_of_getElem? (i := 890) (by decide +kernel), List.mem_of_getElem? (i := 891) (by decide +kernel)⟩
theorem lw_p38 : lw_okq (⟨"MoonlitFloor$SetupReader", "readCat", "()V"⟩, 11) := ⟨⟨by decide +kernel, by decide +kernel⟩, List.mem_of_getElem? (i := 291) (by decide +kernel), List.mem_of_getElem? (i := 898) (by decide +kernel), List.mem_of_getElem? (i := 899) (by decide +kernel)⟩
theorem lw_p39 : lw_okq (⟨"MoonlitFloor$SetupReader", "readDraught", "()V"⟩, 11) := ⟨⟨by decide +kernel, by decide +kernel⟩, List.mem_of_getElem? (i := 291) (by decide +kernel), List.mem_of_getElem? (i := 905) (by decide +kernel), List.mem_of_getElem? (i := 906) (by decide +kernel)⟩
theorem lw_p40 : lw_okq (⟨"MoonlitFloor$SetupReader", "readCloud", "()V"⟩, 11) := ⟨⟨by decide +kernel, by decide +kernel⟩, List.mem_of_getElem? (i := 291) (by decide +kernel), List.mem_of_getElem? (i := 909) (by decide +kernel), List.mem_of_getElem? (i := 910) (by decide +kernel)⟩
theorem lw_p41 : lw_okq (⟨"MoonlitFloor", "requireSetup", "()V"⟩, 8) := ⟨⟨by decide +kernel, by decide +kernel⟩, List.mem_of_getElem? (i := 39) (by decide +kernel), List.mem_of_getElem? (i := 968) (by decide +kernel), List.mem_of_getElem? (i := 969) (by decide +kernel)⟩
theorem lw_p42 : lw_okq (⟨"MoonlitFloor", "requireTile", "(I)V"⟩, 8) := ⟨⟨by decide +kernel, by decide +kernel⟩, List.mem_of_getElem? (i := 39) (by decide +kernel), List.mem_of_getElem? (i := 988) (by decide +kernel), List.mem_of_getElem? (i := 989) (by decide +kernel)⟩
theorem lw_p43 : lw_okq (⟨"MoonlitFloor", "requireColumn", "(I)V"⟩, 8) := ⟨⟨by decide +kernel, by decide +kernel⟩, List.mem_of_getElem? (i := 39) (by decide +kernel), List.mem_of_getElem? (i := 1001) (by decide +kernel), List.mem_of_getElem? (i := 1002) (by decide +kernel)⟩
theorem lw_p44 : lw_okq (⟨"MoonlitFloor", "requireForetellable", "(I)V"⟩, 8) := ⟨⟨by decide +kernel, by decide +kernel⟩, List.mem_of_getElem? (i := 39) (by decide +kernel), List.mem_of_getElem? (i := 1051) (by decide +kernel), List.mem_of_getElem? (i := 1052) (by decide +kernel)⟩
theorem lw_p45 : lw_okq (⟨"MoonlitFloor", "foretellSteps", "(II)I"⟩, 8) := ⟨⟨by decide +kernel, by decide +kernel⟩, List.mem_of_getElem? (i := 39) (by decide +kernel), List.mem_of_getElem? (i := 1056) (by decide +kernel), List.mem_of_getElem? (i := 1057) (by decide +kernel)⟩
theorem lw_p46 : lw_okq (⟨"MoonlitFloor", "requirePace", "(I)V"⟩, 8) := ⟨⟨by decide +kernel, by decide +kernel⟩, List.mem_of_getElem? (i := 39) (by decide +kernel), List.mem_of_getElem? (i := 1077) (by decide +kernel), List.mem_of_getElem? (i := 1078) (by decide +kernel)⟩
theorem lw_p47 : lw_okq (⟨"MoonlitFloor", "requireSlot", "(I)V"⟩, 8) := ⟨⟨by decide +kernel, by decide +kernel⟩, List.mem_of_getElem? (i := 39) (by decide +kernel), List.mem_of_getElem? (i := 1137) (by decide +kernel), List.mem_of_getElem? (i := 1138) (by decide +kernel)⟩
def lw_privs_3 : List (MethodName × Nat) := [(⟨"MoonlitFloor$World", "enter", "(I)V"⟩, 14), (⟨"MoonlitFloor$World", "drySpills", "()V"⟩, 14), (⟨"MoonlitFloor$World", "endNight", "()V"⟩, 14), (⟨"MoonlitFloor$World", "stirCurtains", "()V"⟩, 14), (⟨"MoonlitFloor$SetupReader", "readSetting", "()V"⟩, 11), (⟨"MoonlitFloor$SetupReader", "readWalker", "()V"⟩, 11), (⟨"MoonlitFloor$SetupReader", "readCat", "()V"⟩, 11), (⟨"MoonlitFloor$SetupReader", "readDraught", "()V"⟩, 11), (⟨"MoonlitFloor$SetupReader", "readCloud", "()V"⟩, 11), (⟨"MoonlitFloor", "requireSetup", "()V"⟩, 8), (⟨"MoonlitFloor", "requireTile", "(I)V"⟩, 8), (⟨"MoonlitFloor", "requireColumn", "(I)V"⟩, 8), (⟨"MoonlitFloor", "requireForetellable", "(I)V"⟩, 8), (⟨"MoonlitFloor", "foretellSteps", "(II)I"⟩, 8), (⟨"MoonlitFloor", "requirePace", "(I)V"⟩, 8), (⟨"MoonlitFloor", "requireSlot", "(I)V"⟩, 8)]
theorem lw_r3 : ∀ q ∈ lw_privs_3, lw_okq q := List.forall_mem_cons.mpr ⟨lw_p32, List.forall_mem_cons.mpr ⟨lw_p33, List.forall_mem_cons.mpr ⟨lw_p34, List.forall_mem_cons.mpr ⟨lw_p35, List.forall_mem_cons.mpr ⟨lw_p36, List.forall_mem_cons.mpr ⟨lw_p37, List.forall_mem_cons.mpr ⟨lw_p38, List.forall_mem_cons.mpr ⟨lw_p39, List.forall_mem_cons.mpr ⟨lw_p40, List.forall_mem_cons.mpr ⟨lw_p41, List.forall_mem_cons.mpr ⟨lw_p42, List.forall_mem_cons.mpr ⟨lw_p43, List.forall_mem_cons.mpr ⟨lw_p44, List.forall_mem_cons.mpr ⟨lw_p45, List.forall_mem_cons.mpr ⟨lw_p46, List.forall_mem_cons.mpr ⟨lw_p47, fun _ h => absurd h List.not_mem_nil⟩⟩⟩⟩⟩⟩⟩⟩⟩⟩⟩⟩⟩⟩⟩⟩
theorem lw_p48 : lw_okq (⟨"java/util/ArrayList", "add", "(Ljava/lang/Object;[Ljava/lang/Object;I)V"⟩, 3) := ⟨⟨by decide +kernel, by decide +kernel⟩, List.mem_of_getElem? (i := 1174) (by decide +kernel), List.mem_of_getElem? (i := 1318) (by decide +kernel), List.mem_of_getElem? (i := 1319) (by decide +kernel)⟩
theorem lw_p49 : lw_okq (⟨"java/util/ArrayList", "grow", "()[Ljava/lang/Object;"⟩, 3) := ⟨⟨by decide +kernel, by decide +kernel⟩, List.mem_of_getElem? (i := 1174) (by decide +kernel), List.mem_of_getElem? (i := 1322) (by decide +kernel), List.mem_of_getElem? (i := 1323) (by decide +kernel)⟩
theorem lw_p50 : lw_okq (⟨"java/util/ArrayList", "grow", "(I)[Ljava/lang/Object;"⟩, 3) := ⟨⟨by decide +kernel, by decide +kernel⟩, List.mem_of_getElem? (i := 1174) (by decide +kernel), List.mem_of_getElem? (i := 1326) (by decide +kernel), List.mem_of_getElem? (i := 1327) (by decide +kernel)⟩
theorem lw_p51 : lw_okq (⟨"java/util/ArrayList", "rangeCheckForAdd", "(I)V"⟩, 3) := ⟨⟨by decide +kernel, by decide +kernel⟩, List.mem_of_getElem? (i := 1174) (by decide +kernel), List.mem_of_getElem? (i := 1617) (by decide +kernel), List.mem_of_getElem? (i := 1618) (by decide +kernel)⟩
theorem lw_p52 : lw_okq (⟨"java/util/ArrayList", "fastRemove", "([Ljava/lang/Object;I)V"⟩, 3) := ⟨⟨by decide +kernel, by decide +kernel⟩, List.mem_of_getElem? (i := 1174) (by decide +kernel), List.mem_of_getElem? (i := 1626) (by decide +kernel), List.mem_of_getElem? (i := 1627) (by decide +kernel)⟩
theorem lw_p53 : lw_okq (⟨"MoonlitFloor", "appendWord", "(I)V"⟩, 8) := ⟨⟨by decide +kernel, by decide +kernel⟩, List.mem_of_getElem? (i := 39) (by decide +kernel), List.mem_of_getElem? (i := 1731) (by decide +kernel), List.mem_of_getElem? (i := 1732) (by decide +kernel)⟩
theorem lw_p54 : lw_okq (⟨"MoonlitFloor", "requireRecord", "(I)V"⟩, 8) := ⟨⟨by decide +kernel, by decide +kernel⟩, List.mem_of_getElem? (i := 39) (by decide +kernel), List.mem_of_getElem? (i := 1801) (by decide +kernel), List.mem_of_getElem? (i := 1802) (by decide +kernel)⟩
def lw_privs_4 : List (MethodName × Nat) := [(⟨"java/util/ArrayList", "add", "(Ljava/lang/Object;[Ljava/lang/Object;I)V"⟩, 3), (⟨"java/util/ArrayList", "grow", "()[Ljava/lang/Object;"⟩, 3), (⟨"java/util/ArrayList", "grow", "(I)[Ljava/lang/Object;"⟩, 3), (⟨"java/util/ArrayList", "rangeCheckForAdd", "(I)V"⟩, 3), (⟨"java/util/ArrayList", "fastRemove", "([Ljava/lang/Object;I)V"⟩, 3), (⟨"MoonlitFloor", "appendWord", "(I)V"⟩, 8), (⟨"MoonlitFloor", "requireRecord", "(I)V"⟩, 8)]
theorem lw_r4 : ∀ q ∈ lw_privs_4, lw_okq q := List.forall_mem_cons.mpr ⟨lw_p48, List.forall_mem_cons.mpr ⟨lw_p49, List.forall_mem_cons.mpr ⟨lw_p50, List.forall_mem_cons.mpr ⟨lw_p51, List.forall_mem_cons.mpr ⟨lw_p52, List.forall_mem_cons.mpr ⟨lw_p53, List.forall_mem_cons.mpr ⟨lw_p54, fun _ h => absurd h List.not_mem_nil⟩⟩⟩⟩⟩⟩⟩
def lw_privs : List (MethodName × Nat) := lw_privs_1 ++ (lw_privs_2 ++ (lw_privs_3 ++ (lw_privs_4)))
def lw_tbl : List Cond := k2_sels lw_privs ++ tables_1
theorem lw_privs_ok : ∀ q ∈ lw_privs, lw_okq q := by
  show ∀ q ∈ lw_privs_1 ++ (lw_privs_2 ++ (lw_privs_3 ++ (lw_privs_4))), lw_okq q
  exact List.forall_mem_append.mpr ⟨lw_r1, List.forall_mem_append.mpr ⟨lw_r2, List.forall_mem_append.mpr ⟨lw_r3, lw_r4⟩⟩⟩
-- ===== end of PART A; then your names; then what follows =====
/-! ===== BEGIN words of one list among another's, by their places ===== -/
theorem goodIn_r {big : List Cond} (ws : List Cond) (ps : List Nat) (hp : ws = ps.filterMap (fun i => big[i]?)) (h : ws.all goodWord = true) : GoodIn big ws := by
  intro w hw
  have h1 := List.all_eq_true.mp h w hw
  rw [hp] at hw
  obtain ⟨i, -, hi⟩ := List.mem_filterMap.mp hw
  have hm : w ∈ big := by first | exact List.mem_of_getElem? hi | exact List.getElem?_mem hi
  exact ⟨hm, good_of_word h1⟩
theorem goodIn_app {big a b : List Cond} (ha : GoodIn big a) (hb : GoodIn big b) : GoodIn big (a ++ b) := fun w h => (List.mem_append.mp h).elim (ha w) (hb w)
theorem goodIn_ca {big a b : List Cond} {c : Cond} (ha : GoodIn big (c :: a)) (hb : GoodIn big b) : GoodIn big (c :: (a ++ b)) := fun w h => (List.mem_cons.mp h).elim (fun e => ha w (List.mem_cons.mpr (Or.inl e))) (fun h => (List.mem_append.mp h).elim (fun h => ha w (List.mem_cons.mpr (Or.inr h))) (hb w))
theorem goodIn_sub {big ws : List Cond} (hm : ∀ w ∈ ws, w ∈ big) (h : ws.all goodWord = true) : GoodIn big ws := fun w hw => ⟨hm w hw, good_of_word (List.all_eq_true.mp h w hw)⟩
/-! ===== END ===== -/

/-! ===== BEGIN exceptions that leave a method, and their catching by the caller (launches without stack traces) ===== -/
section VXA
/-! The laws vx_back, vx_callV, vx_callS, vx_callSW, vx_throw0, vx_throwS follow proofs of the library, with one case more: JvmDerived/Free/Laws.lean (Back.of_free), Shelf42/LK1.lean (callV, callS), Shelf/KitTraced.lean (throwNew0V, throwNewS). -/
/-- where a method has thrown q: the class by its name, the cell, what was written, the world -/
def vx_T (XC : String → State → State → Prop) (st : State) (q : Addr) (t : State) (mc ms : Nat) (free : Addr → Prop) : Prop :=
  ∃ (E : String) (ce : Cell) (L : List Loc), XC E st t ∧ t.heap[q]? = some ce ∧ ce.vm = .none ∧ st.vm.findClass E = some ce.cls ∧ st.WarmedH t.vm ∧ st.sameButNew ({ t with vm := st.vm } : State) L mc ms ∧ ∀ z ∈ L, free z.base
def vx_Q (Qc : Array Value → State → Outcome → State → Prop) (XC : String → State → State → Prop) (mc ms : Nat) (free : Addr → Prop) : Array Value → State → Outcome → State → Prop := fun a st o t =>
  (Qc a st o t ∧ ∃ L, FrameEnd st o t L mc ms ∧ ∀ q ∈ L, free q.base) ∨ ∃ q, o = .threw q ∧ vx_T XC st q t mc ms free
/-- a callee that returns or throws -/
def vx_Met (l : Launch) (y : MethodName) (ws : List Cond) (rm : Room) (Pc : Array Value → State → Prop) (Qc : Array Value → State → Outcome → State → Prop) (XC : String → State → State → Prop) (mc ms : Nat) (free : Addr → Prop) : Prop :=
  MetFree l y (headSpec ws rm) Pc (fun _ _ _ _ _ => True) (vx_Q Qc XC mc ms free)
def vx_Post (XC : String → State → State → Prop) (mc ms : Nat) (free : Addr → Prop) : Pt → Array Value → Addr → Pt → Prop := fun A a q B =>
  ∃ (g : JFrame) (mk : MethodId) (t : State) (L : List Loc) (E : String) (ce : Cell), B.U.heap = t.heap ∧ B.U.vm = t.vm ∧ XC E (A.U.calling g mk a) t ∧ t.heap[q]? = some ce ∧ ce.vm = .none ∧ A.U.vm.findClass E = some ce.cls ∧ B.locs = A.locs ++ L ∧ (∀ z ∈ L, free z.base) ∧ B.cells = A.cells + mc ∧ B.slots = A.slots + ms
def vx_Back (l : Launch) (R : Room) (p : Program) (e : Env) (below : List Frame) (s : State) (sargs : Array Value) (y : MethodName) (len W9 : Nat)
    (Pre : Pt → Array Value → Prop) (Post : Pt → Array Value → Option Value → Pt → Prop) (PostX : Pt → Array Value → Addr → Pt → Prop) : Prop :=
  ∀ (m : MethodId) (meth : Method) (c : Code) (A : Pt) (g : JFrame) (ig : Instr) (mk : MethodId) (a : Array Value),
    Stand p l e R s m sargs below meth c A.U A.locs A.cells A.slots → g.method = m → g.locals.size = c.maxLocals → decode c.code g.pc = .ok (ig, len) →
    2 * g.monitorRoom + (g.stack.map fun v => v.category).sum ≤ W9 → A.U.methodNamed? y = some mk → Pre A a →
    (∃ (v : Option Value) (B : Pt), Stand p l e R s m sargs below meth c B.U B.locs B.cells B.slots ∧ Post A a v B ∧
      Steps p.tables e below (doInvoke e (A.U.setTop g) [] mk a).1 (B.U.setTop { g with pc := g.pc + len, stack := v.toList ++ g.stack })) ∨
    (∃ (q : Addr) (B : Pt), Stand p l e R s m sargs below meth c B.U B.locs B.cells B.slots ∧ PostX A a q B ∧
      Steps p.tables e below (doInvoke e (A.U.setTop g) [] mk a).1 ((B.U.setTop g).pushFrame (.throwing q)))
section Payer
variable {l : Launch} {R : Room} {p : Program} {e : Env} {below : List Frame} {s : State} {sargs : Array Value} {y : MethodName} {len W9 : Nat}
theorem vx_back {ws : List Cond} {rm : Room} {Pc : Array Value → State → Prop} {Qc : Array Value → State → Outcome → State → Prop} {XC : String → State → State → Prop} {mc ms : Nat} {free : Addr → Prop} {bytes : ByteArray} {maxL : Nat} {ret : Option FieldType}
    (hM : vx_Met l y ws rm Pc Qc XC mc ms free) (hblind : FrameBlind Pc) (hrc : rm.cells = mc) (hrs : rm.slots = ms)
    (hframes : rm.frames + 1 ≤ R.frames) (hlocals : W9 + (maxL + 11) + rm.locals ≤ R.locals)
    (hws : ∀ w ∈ ws, ∀ a' U, s.WarmedH U.vm → w.before a' U = true) (hcode : Cond.code y bytes maxL ret ∈ ws) (hinit : ∀ a' U, s.WarmedH U.vm → (Cond.initialized y.cls).before a' U = true) :
    vx_Back l R p e below s sargs y len W9 (PreOf R mc ms Pc) (PostOf Qc mc ms free) (vx_Post XC mc ms free) := by
  intro m meth c A g ig mk a X hg hsize hdg hW hn hp
  have h1 : (headSpec ws rm).pre.before a A.U = true := atoms_intro fun w hw => hws w hw _ _ X.warmed
  have h2 : (Cond.code y bytes maxL ret).before a A.U = true := hws _ hcode _ _ X.warmed
  have h3 : (Cond.initialized y.cls).before a A.U = true := hinit _ _ X.warmed
  have h4 : A.cells + (headSpec ws rm).room.cells ≤ R.cells := by rw [show (headSpec ws rm).room.cells = mc from hrc]; exact hp.1
  have h5 : A.slots + (headSpec ws rm).room.slots ≤ R.slots := by rw [show (headSpec ws rm).room.slots = ms from hrs]; exact hp.2.1
  have hPc : Pc a (A.U.calling g mk a) := hblind _ _ _ _ hp.2.2
  obtain ⟨U, Ls, c0, s0⟩ := A
  dsimp only [Pt.U, Pt.locs, Pt.cells, Pt.slots] at h1 h2 h3 h4 h5 X hn hPc ⊢
  obtain ⟨methY, cY, hmY, hcY, -, hlY, -, -, -, -⟩ := Cond.code_spec hn h2
  obtain ⟨kY, hkY, -⟩ := className_of_methodNamed hn
  have hinitY : kY.init = .initialized := Cond.initialized_spec (findClass_of_methodNamed hn) hkY h3
  have h : At U g.method c below := by rw [hg]; exact X.here
  have hlocals9 : W9 + (maxL + 11) + (headSpec ws rm).room.locals ≤ R.locals := hlocals
  have happ : (headSpec ws rm).appliesLoose y e.platform (U.calling g mk a) = true :=
    Spec.appliesLoose_calling (g := g) h hdg hn hkY hinitY
      (X.room_calling (g := g) (R' := (headSpec ws rm).room) hsize hmY hcY hframes (by rw [hlY]; omega) h4 h5) h1
  obtain ⟨mid, hmid⟩ := h.above
  have hfr : (U.setTop g).frames = (.java g :: mid) ++ below := by rw [State.frames_setTop' g h.top, hmid]; rfl
  obtain ⟨o, s₂, hsteps, -, hend, hq⟩ := Steps.callFree hM p X.admits X.cas X.clock (acts := []) hfr happ hPc trivial
  have hq' : vx_Q Qc XC mc ms free a (U.calling g mk a) o s₂ := hq
  rw [State.frames_setTop' g h.top] at hend
  obtain ⟨g₀, hg0⟩ := Option.isSome_iff_exists.mp h.top
  obtain ⟨r, hr⟩ := State.topJava?_eq_some.mp hg0
  have hr' : (({ U with heap := s₂.heap, slotsUsed := s₂.slotsUsed } : State).setVm s₂.vm).frames = .java g₀ :: r := hr
  rcases hq' with ⟨hqc, L, hfe, hL⟩ | ⟨q, rfl, E, ce, L, hx, hce, hcv, hcl, hW₂, hsm, hL⟩
  · obtain ⟨⟨v, rfl⟩, hW₂, e2, q2, q3, q4, q5, q6⟩ := id hfe
    have e3 : s₂ = ({ (U.calling g mk a).setFrames s₂.frames with heap := s₂.heap, slotsUsed := s₂.slotsUsed } : State).setVm s₂.vm := by
      have : s₂ = ({ s₂ with vm := (U.calling g mk a).vm } : State).setVm s₂.vm := rfl
      rw [e2] at this
      exact this
    obtain ⟨c₂, i₂, len₂, hc₂, hd₂, hf₂⟩ := hend
    have hW' : U.WarmedH s₂.vm := hW₂
    have hcc : c₂ = c := by
      have h1 : s₂.code? g.method = U.code? g.method := by
        rw [State.code?_eq, State.code?_eq, hW'.alike.method?]
      exact Option.some.inj (hc₂.symm.trans (h1.trans h.code))
    subst hcc
    have hlen : len₂ = len := by rw [hdg] at hd₂; cases hd₂; rfl
    subst hlen
    have hs₂ : s₂ = (({ U with heap := s₂.heap, slotsUsed := s₂.slotsUsed } : State).setVm s₂.vm).setTop { g with pc := g.pc + len₂, stack := v.toList ++ g.stack } := by
      refine e3.trans ?_
      rw [hf₂, State.calling_eq h.top, State.setFrames_setFrames, State.setTop_of_frames _ hr', hr]
      rfl
    have hsame : U.sameButNew ({ U with heap := s₂.heap, slotsUsed := s₂.slotsUsed } : State) L mc ms := by
      refine ⟨?_, q2, q3, q4, q5, q6⟩
      obtain ⟨t, ht, -⟩ := State.frames_cons hr
      show ({ U with heap := s₂.heap, slotsUsed := s₂.slotsUsed } : State) = { U.setFrames U.frames with heap := s₂.heap, slotsUsed := s₂.slotsUsed }
      rw [State.setFrames_self ht]
    subst hg
    refine Or.inl ⟨v, ⟨(({ U with heap := s₂.heap, slotsUsed := s₂.slotsUsed } : State).setVm s₂.vm), Ls ++ L, c0 + mc, s0 + ms⟩,
      ⟨X.admits, X.cas, X.clock, X.frames, X.room, X.hears, X.method, X.code, (X.here.setHeapUsed s₂.heap s₂.slotsUsed).setVm hW'.alike, X.tail, State.WarmedH.trans X.warmed hW', X.limits, X.bytes, X.same.trans (hsame.setVm s.vm)⟩,
      ⟨g, mk, s₂, L, rfl, rfl, hqc, rfl, hL, rfl, rfl⟩, ?_⟩
    show Steps p.tables e below _ ((({ U with heap := s₂.heap, slotsUsed := s₂.slotsUsed } : State).setVm s₂.vm).setTop { g with pc := g.pc + len₂, stack := v.toList ++ g.stack })
    rw [← hs₂]
    exact hsteps
  · obtain ⟨e2, q2, q3, q4, q5, q6⟩ := id hsm
    have e3 : s₂ = ({ (U.calling g mk a).setFrames s₂.frames with heap := s₂.heap, slotsUsed := s₂.slotsUsed } : State).setVm s₂.vm := by
      have : s₂ = ({ s₂ with vm := (U.calling g mk a).vm } : State).setVm s₂.vm := rfl
      rw [e2] at this
      exact this
    have hf₂ : s₂.frames = .throwing q :: .java g :: U.frames.tail := hend
    have hW' : U.WarmedH s₂.vm := hW₂
    have hs₂ : s₂ = ((({ U with heap := s₂.heap, slotsUsed := s₂.slotsUsed } : State).setVm s₂.vm).setTop g).pushFrame (.throwing q) := by
      refine e3.trans ?_
      rw [hf₂, State.calling_eq h.top, State.setFrames_setFrames, State.pushFrame, State.frames_setTop _ hr', State.setTop_of_frames _ hr', State.setFrames_setFrames, hr]
      rfl
    have hsame : U.sameButNew ({ U with heap := s₂.heap, slotsUsed := s₂.slotsUsed } : State) L mc ms := by
      refine ⟨?_, q2, q3, q4, q5, q6⟩
      obtain ⟨t, ht, -⟩ := State.frames_cons hr
      show ({ U with heap := s₂.heap, slotsUsed := s₂.slotsUsed } : State) = { U.setFrames U.frames with heap := s₂.heap, slotsUsed := s₂.slotsUsed }
      rw [State.setFrames_self ht]
    subst hg
    refine Or.inr ⟨q, ⟨(({ U with heap := s₂.heap, slotsUsed := s₂.slotsUsed } : State).setVm s₂.vm), Ls ++ L, c0 + mc, s0 + ms⟩,
      ⟨X.admits, X.cas, X.clock, X.frames, X.room, X.hears, X.method, X.code, (X.here.setHeapUsed s₂.heap s₂.slotsUsed).setVm hW'.alike, X.tail, State.WarmedH.trans X.warmed hW', X.limits, X.bytes, X.same.trans (hsame.setVm s.vm)⟩,
      ⟨g, mk, s₂, L, E, ce, rfl, rfl, hx, hce, hcv, hcl, rfl, hL, rfl, rfl⟩, ?_⟩
    show Steps p.tables e below _ (((({ U with heap := s₂.heap, slotsUsed := s₂.slotsUsed } : State).setVm s₂.vm).setTop g).pushFrame (.throwing q))
    rw [← hs₂]
    exact hsteps
end Payer
section Calls
variable {p : Program} {l : Launch} {e : Env} {R : Room} {s : State} {m : MethodId} {args : Array Value} {below : List Frame} {meth : Method} {c : Code} {T : State} {locs : List Loc} {cells slots : Nat}
theorem vx_callV (X : Stand p l e R s m args below meth c T locs cells slots) (hexec : p.tables.exec = Jvm.exec) {own C : String} {index : Nat} {y : MethodName} {bytes : ByteArray} {maxL : Nat} {ret : Option FieldType}
    (hown : s.vm.findClass own = some m.cls) (hlink : (Cond.methodLink own index y).before args s = true) (hinst : (Cond.instanceMethod y).before args s = true) (hsel : (Cond.selects C y y).before args s = true)
    (hcode : (Cond.code y bytes maxL ret).before args s = true) (hy : y.cls ≠ "java/lang/invoke/MethodHandle" ∧ y.cls ≠ "java/lang/invoke/VarHandle")
    {W9 : Nat} {Pre : Pt → Array Value → Prop} {Post : Pt → Array Value → Option Value → Pt → Prop} {PostX : Pt → Array Value → Addr → Pt → Prop} (hK : vx_Back l R p e below s args y 3 W9 Pre Post PostX)
    {b : Addr} {cellB : Cell} (hcell : T.heap[b]? = some cellB) (hobj : cellB.vm.isStatics = false) (hcls : s.vm.findClass C = some cellB.cls)
    {g : JFrame} (hg : g.method = m) (hsize : g.locals.size = c.maxLocals) {argsL rest : List Value} (hlen : ∀ sig, parseMethodDescriptor y.desc = some sig → argsL.length = sig.parameters.length)
    (hstack : g.stack = argsL.reverse ++ .ref b :: rest) (hW : 2 * g.monitorRoom + (rest.map fun v => v.category).sum ≤ W9) (hdg : decode c.code g.pc = .ok (.invokevirtual index, 3))
    (hpre : ∀ vm₁, s.WarmedH vm₁ → Pre ⟨T.setVm vm₁, locs, cells, slots⟩ (Value.ref b :: argsL).toArray) :
    (∃ (v : Option Value) (vm₁ : Vm) (B : Pt), s.WarmedH vm₁ ∧ Stand p l e R s m args below meth c B.U B.locs B.cells B.slots ∧ Post ⟨T.setVm vm₁, locs, cells, slots⟩ (Value.ref b :: argsL).toArray v B ∧
      ∀ target, Steps p.tables e below (B.U.setTop { g with pc := g.pc + 3, stack := v.toList ++ rest }) target → Steps p.tables e below (T.setTop g) target) ∨
    (∃ (q : Addr) (vm₁ : Vm) (B : Pt), s.WarmedH vm₁ ∧ Stand p l e R s m args below meth c B.U B.locs B.cells B.slots ∧ PostX ⟨T.setVm vm₁, locs, cells, slots⟩ (Value.ref b :: argsL).toArray q B ∧
      Steps p.tables e below (T.setTop g) ((B.U.setTop { g with stack := rest }).pushFrame (.throwing q))) := by
  obtain ⟨mk, methM, hnamed, hmethM, hstM, habM⟩ := Cond.instanceMethod_spec hinst
  obtain ⟨methM', cM, hmethM', -, -, -, -, -, -, hsigM⟩ := Cond.code_spec hnamed hcode
  cases hmethM.symm.trans hmethM'
  obtain ⟨c2, r2, m2, q1, q2, q3, q4, kP, hkP, hkPi⟩ := Cond.selects_spec hsel
  cases hcls.symm.trans q1
  cases (State.methodFound?_of_named hnamed hy).symm.trans q2
  cases hnamed.symm.trans q3
  have hselP : selectMethod e.platform s.vm cellB.cls mk = .method mk := by rw [Launch.admits_selectMethod X.admits]; exact q4
  obtain ⟨vm₁, X₁, hstep₁⟩ := X.invokevirtual hexec hown hlink hnamed hmethM hstM hkP hkPi hy (a := b) (cell := cellB) hcell
    (fun z h => by rw [h] at hobj; cases hobj) hselP hmethM habM hkP hkPi (g := g) hg (argsL := argsL) (rest := rest) (hlen _ hsigM) hstack hdg
  rcases hK m meth c ⟨T.setVm vm₁, locs, cells, slots⟩ { g with stack := rest } (.invokevirtual index) mk (Value.ref b :: argsL).toArray X₁ hg hsize hdg hW (X₁.named hnamed) (hpre vm₁ X₁.warmed) with ⟨v, B, X', hpost, hsteps⟩ | ⟨q, B, X', hpost, hsteps⟩
  · exact Or.inl ⟨v, vm₁, B, X₁.warmed, X', hpost, fun target h => hstep₁ _ fun acts => by rw [doInvoke_state]; exact hsteps.trans h⟩
  · exact Or.inr ⟨q, vm₁, B, X₁.warmed, X', hpost, hstep₁ _ fun acts => by rw [doInvoke_state]; exact hsteps⟩
theorem vx_callS (X : Stand p l e R s m args below meth c T locs cells slots) (hexec : p.tables.exec = Jvm.exec) {own : String} {index : Nat} {y : MethodName} {bytes : ByteArray} {maxL : Nat} {ret : Option FieldType}
    (hown : s.vm.findClass own = some m.cls) (hlink : (Cond.methodLink own index y).before args s = true) (hstat : (Cond.static y).before args s = true) (hinit : (Cond.initialized y.cls).before args s = true)
    (hcode : (Cond.code y bytes maxL ret).before args s = true) (hy : y.cls ≠ "java/lang/invoke/MethodHandle" ∧ y.cls ≠ "java/lang/invoke/VarHandle")
    {W9 : Nat} {Pre : Pt → Array Value → Prop} {Post : Pt → Array Value → Option Value → Pt → Prop} {PostX : Pt → Array Value → Addr → Pt → Prop} (hK : vx_Back l R p e below s args y 3 W9 Pre Post PostX)
    {g : JFrame} (hg : g.method = m) (hsize : g.locals.size = c.maxLocals) {argsL rest : List Value} (hlen : ∀ sig, parseMethodDescriptor y.desc = some sig → argsL.length = sig.parameters.length)
    (hstack : g.stack = argsL.reverse ++ rest) (hW : 2 * g.monitorRoom + (rest.map fun v => v.category).sum ≤ W9) (hdg : decode c.code g.pc = .ok (.invokestatic index, 3))
    (hpre : ∀ vm₁, s.WarmedH vm₁ → Pre ⟨T.setVm vm₁, locs, cells, slots⟩ argsL.toArray) :
    (∃ (v : Option Value) (vm₁ : Vm) (B : Pt), s.WarmedH vm₁ ∧ Stand p l e R s m args below meth c B.U B.locs B.cells B.slots ∧ Post ⟨T.setVm vm₁, locs, cells, slots⟩ argsL.toArray v B ∧
      ∀ target, Steps p.tables e below (B.U.setTop { g with pc := g.pc + 3, stack := v.toList ++ rest }) target → Steps p.tables e below (T.setTop g) target) ∨
    (∃ (q : Addr) (vm₁ : Vm) (B : Pt), s.WarmedH vm₁ ∧ Stand p l e R s m args below meth c B.U B.locs B.cells B.slots ∧ PostX ⟨T.setVm vm₁, locs, cells, slots⟩ argsL.toArray q B ∧
      Steps p.tables e below (T.setTop g) ((B.U.setTop { g with stack := rest }).pushFrame (.throwing q))) := by
  obtain ⟨mk, hnamed⟩ := Cond.code_named hcode
  obtain ⟨methM, cM, hmethM, -, -, -, -, -, -, hsigM⟩ := Cond.code_spec hnamed hcode
  have hstatic : methM.isStatic = true := Cond.static_spec hnamed hmethM hstat
  obtain ⟨kP, hkP, -⟩ := className_of_methodNamed hnamed
  have hinitP : kP.init = .initialized := Cond.initialized_spec (findClass_of_methodNamed hnamed) hkP hinit
  obtain ⟨vm₁, X₁, hstep₁⟩ := X.invokestatic hexec hown hlink hnamed hmethM hstatic hkP hinitP hy (g := g) hg (argsL := argsL) (rest := rest) (hlen _ hsigM) hstack hdg
  rcases hK m meth c ⟨T.setVm vm₁, locs, cells, slots⟩ { g with stack := rest } (.invokestatic index) mk argsL.toArray X₁ hg hsize hdg hW (X₁.named hnamed) (hpre vm₁ X₁.warmed) with ⟨v, B, X', hpost, hsteps⟩ | ⟨q, B, X', hpost, hsteps⟩
  · exact Or.inl ⟨v, vm₁, B, X₁.warmed, X', hpost, fun target h => hstep₁ _ fun acts => by rw [doInvoke_state]; exact hsteps.trans h⟩
  · exact Or.inr ⟨q, vm₁, B, X₁.warmed, X', hpost, hstep₁ _ fun acts => by rw [doInvoke_state]; exact hsteps⟩
end Calls
theorem vx_cls {s : State} {T : State} {vm₁ : Vm} {E : String} {k : ClassId} (hW : s.WarmedH vm₁) (h : (T.setVm vm₁).vm.findClass E = some k) : s.vm.findClass E = some k := by
  have h1 : vm₁.findClass E = some k := h
  rw [hW.alike.findClass] at h1
  exact h1
/-- the method's frame g, with q thrown over it -/
def vx_W (p : Program) (l : Launch) (e : Env) (R : Room) (s : State) (m : MethodId) (args : Array Value) (below : List Frame) (meth : Method) (c : Code) (H : Heap) (locs : List Loc) (cells slots : Nat) (Q : State → Prop) (g : JFrame) (q : Addr) : Prop :=
  ∀ T : State, T.heap = H → Stand p l e R s m args below meth c T locs cells slots → ∃ t, Steps p.tables e below ((T.setTop g).pushFrame (.throwing q)) t ∧ Q t
def vx_Run (p : Program) (l : Launch) (e : Env) (R : Room) (s : State) (m : MethodId) (args : Array Value) (below : List Frame) (meth : Method) (c : Code) (H : Heap) (locs : List Loc) (cells slots mc ms : Nat) (g : JFrame) (rest : List Value) (Qa : State → Outcome → State → Prop) (XC : String → State → State → Prop) (free : Addr → Prop) : Prop :=
  ∀ T : State, T.heap = H → Stand p l e R s m args below meth c T locs cells slots →
    (∃ (v : Option Value) (st₀ t T' : State) (L : List Loc), st₀.heap = H ∧ Stand p l e R s m args below meth c T' (locs ++ L) (cells + mc) (slots + ms) ∧ (∀ q ∈ L, free q.base) ∧ T'.heap = t.heap ∧ T'.vm = t.vm ∧ Qa st₀ (.returned v) t ∧
      Goes p e below T g T' { g with pc := g.pc + 3, stack := v.toList ++ rest }) ∨
    (∃ (q : Addr) (st₀ t T' : State) (L : List Loc) (E : String) (ce : Cell), st₀.heap = H ∧ Stand p l e R s m args below meth c T' (locs ++ L) (cells + mc) (slots + ms) ∧ (∀ z ∈ L, free z.base) ∧ T'.heap = t.heap ∧ T'.vm = t.vm ∧ XC E st₀ t ∧ t.heap[q]? = some ce ∧ ce.vm = .none ∧ s.vm.findClass E = some ce.cls ∧
      Steps p.tables e below (T.setTop g) ((T'.setTop { g with stack := rest }).pushFrame (.throwing q)))
def vx_X {S : Type} (px : S → Prop) (B : String → S → State → Prop) (A : Nat → Prop) : String → State → State → Prop := fun E st t => ∃ u : S, px u ∧ B E u t ∧ va_F A st t
section Runs
variable {p : Program} {l : Launch} {e : Env} {R : Room} {s : State} {m : MethodId} {args : Array Value} {below : List Frame} {meth : Method} {c : Code} {H : Heap} {locs : List Loc} {cells slots : Nat}
variable {y : MethodName} {bytes cc : ByteArray} {maxL nL mc ms n index : Nat} {ret : Option FieldType} {ws : List Cond} {rm : Room} {Pc : Array Value → State → Prop} {Qc : Array Value → State → Outcome → State → Prop} {XC : String → State → State → Prop} {free : Addr → Prop} {Ts : List Cond} {own C : String} {b : Addr} {As rest : List Value} {g : JFrame}
theorem vx_callBack (cb : CallB R s args own index y bytes maxL ret ws rm mc ms n) (hM : vx_Met l y ws rm Pc Qc XC mc ms free) (hbl : FrameBlind Pc) : vx_Back l R p e below s args y 3 8 (PreOf R mc ms Pc) (PostOf Qc mc ms free) (vx_Post XC mc ms free) := by
  obtain ⟨hrc, hrs, hfr, hlo, hws, hcw, -, hini, -⟩ := cb
  exact vx_back (bytes := bytes) (maxL := maxL) (ret := ret) hM hbl hrc hrs hfr hlo hws hcw (fun a' U hW => word_at hW (Or.inl (by first | rfl | simp [Cond.onTables, Cond.keeps, Cond.steady])) hini)
theorem vx_runV (S : CallFix p m c cc nL s args Ts own) (hM : vx_Met l y ws rm Pc Qc XC mc ms free) (cw : CallW R s args own C index y bytes maxL ret ws rm mc ms n) (hp : PreV s H C b Pc As)
    (hg : g.method = m) (hn : As.length = n) (hsize : g.locals.size = nL) (hstack : g.stack = As.reverse ++ .ref b :: rest) (hW : 2 * g.monitorRoom + (rest.map fun v => v.category).sum ≤ 8) (hdg : decode cc g.pc = .ok (.invokevirtual index, 3)) (hf : cells + mc ≤ R.cells ∧ slots + ms ≤ R.slots) :
    vx_Run p l e R s m args below meth c H locs cells slots mc ms g rest (Qc (Value.ref b :: As).toArray) XC free := by
  have hK : vx_Back l R p e below s args y 3 8 (PreOf R mc ms Pc) (PostOf Qc mc ms free) (vx_Post XC mc ms free) := vx_callBack cw.1 hM hp.1
  obtain ⟨⟨-, -, -, -, -, -, hcode, -, hy, hlen, hl⟩, hin, hse⟩ := cw
  obtain ⟨hx, hb, hml, ho, -⟩ := S
  obtain ⟨-, ⟨cellB, hcB, hoB, hclB⟩, hPc⟩ := hp
  intro T hT X
  rcases vx_callV X hx (C := C) (bytes := bytes) (maxL := maxL) (ret := ret) ho hl hin hse hcode hy hK (by rw [hT]; exact hcB) hoB hclB hg (hsize.trans hml.symm) (argsL := As) (rest := rest) (fun sig h => hn.trans (hlen sig h)) hstack hW (by rw [hb]; exact hdg)
    (fun vm₁ hW₁ => ⟨hf.1, hf.2, hPc (T.setVm vm₁) hT hW₁⟩) with ⟨v, vm₁, ⟨U', l2, c2, s2⟩, hW₁, X', ⟨g', mk, t, L, e1, e2, hq, h1, hL, h2, h3⟩, st⟩ | ⟨q, vm₁, ⟨U', l2, c2, s2⟩, hW₁, X', ⟨g', mk, t, L, E, ce, e1, e2, hq, hce, hcv, hcl, h1, hL, h2, h3⟩, st⟩
  · dsimp only [Pt.U, Pt.locs, Pt.cells, Pt.slots] at X' e1 e2 h1 h2 h3 st
    subst h1; subst h2; subst h3
    exact Or.inl ⟨v, (T.setVm vm₁).calling g' mk (Value.ref b :: As).toArray, t, U', L, hT, X', hL, e1, e2, hq, st⟩
  · dsimp only [Pt.U, Pt.locs, Pt.cells, Pt.slots] at X' e1 e2 h1 h2 h3 st hcl
    subst h1; subst h2; subst h3
    exact Or.inr ⟨q, (T.setVm vm₁).calling g' mk (Value.ref b :: As).toArray, t, U', L, E, ce, hT, X', hL, e1, e2, hq, hce, hcv, vx_cls hW₁ hcl, st⟩
theorem vx_runS (S : CallFix p m c cc nL s args Ts own) (hM : vx_Met l y ws rm Pc Qc XC mc ms free) (cw : CallB R s args own index y bytes maxL ret ws rm mc ms n ∧ (Cond.static y).before args s = true) (hp : PreS s H Pc As)
    (hg : g.method = m) (hn : As.length = n) (hsize : g.locals.size = nL) (hstack : g.stack = As.reverse ++ rest) (hW : 2 * g.monitorRoom + (rest.map fun v => v.category).sum ≤ 8) (hdg : decode cc g.pc = .ok (.invokestatic index, 3)) (hf : cells + mc ≤ R.cells ∧ slots + ms ≤ R.slots) :
    vx_Run p l e R s m args below meth c H locs cells slots mc ms g rest (Qc As.toArray) XC free := by
  have hK : vx_Back l R p e below s args y 3 8 (PreOf R mc ms Pc) (PostOf Qc mc ms free) (vx_Post XC mc ms free) := vx_callBack cw.1 hM hp.1
  obtain ⟨⟨-, -, -, -, -, -, hcode, hini, hy, hlen, hl⟩, hstt⟩ := cw
  obtain ⟨hx, hb, hml, ho, -⟩ := S
  intro T hT X
  rcases vx_callS X hx (bytes := bytes) (maxL := maxL) (ret := ret) ho hl hstt hini hcode hy hK hg (hsize.trans hml.symm) (argsL := As) (rest := rest) (fun sig h => hn.trans (hlen sig h)) hstack hW (by rw [hb]; exact hdg)
    (fun vm₁ hW₁ => ⟨hf.1, hf.2, hp.2 (T.setVm vm₁) hT hW₁⟩) with ⟨v, vm₁, ⟨U', l2, c2, s2⟩, hW₁, X', ⟨g', mk, t, L, e1, e2, hq, h1, hL, h2, h3⟩, st⟩ | ⟨q, vm₁, ⟨U', l2, c2, s2⟩, hW₁, X', ⟨g', mk, t, L, E, ce, e1, e2, hq, hce, hcv, hcl, h1, hL, h2, h3⟩, st⟩
  · dsimp only [Pt.U, Pt.locs, Pt.cells, Pt.slots] at X' e1 e2 h1 h2 h3 st
    subst h1; subst h2; subst h3
    exact Or.inl ⟨v, (T.setVm vm₁).calling g' mk As.toArray, t, U', L, hT, X', hL, e1, e2, hq, st⟩
  · dsimp only [Pt.U, Pt.locs, Pt.cells, Pt.slots] at X' e1 e2 h1 h2 h3 st hcl
    subst h1; subst h2; subst h3
    exact Or.inr ⟨q, (T.setVm vm₁).calling g' mk As.toArray, t, U', L, E, ce, hT, X', hL, e1, e2, hq, hce, hcv, vx_cls hW₁ hcl, st⟩
end Runs
section Rows
variable {p : Program} {l : Launch} {e : Env} {R : Room} {s : State} {m : MethodId} {args : Array Value} {below : List Frame} {meth : Method} {c : Code} {H : Heap} {locs : List Loc} {cells slots : Nat} {Q : State → Prop}
variable {mc ms : Nat} {free : Addr → Prop} {A0 A1 : Nat → Prop} {H0 : Heap} {a : Array Value} {pc : Nat} {ls : Array Slot} {st0 rest : List Value}
theorem vx_keep {st₀ t T' : State} {L : List Loc} (h0 : st₀.heap = H) (e1 : T'.heap = t.heap) (hS : va_S A0 H0 H locs) (hA : ∀ q, q < H.size → A1 q → A0 q) (hf : ∀ q, free q → A0 q) (hL : ∀ q ∈ L, free q.base) (hF : va_F A1 st₀ t) :
    H.size ≤ T'.heap.size ∧ (∀ q : Nat, q < H.size → ¬ A1 q → T'.heap[q]? = H[q]?) ∧ va_S A0 H0 T'.heap (locs ++ L) := by
  obtain ⟨hz, hk⟩ := hF
  rw [h0] at hz hk
  exact ⟨by rw [e1]; exact hz, fun q h1 h2 => by rw [e1]; exact hk q h1 h2,
    ⟨Nat.le_trans hS.1 (by rw [e1]; exact hz), fun q h1 h2 => by rw [e1, hk q (Nat.lt_of_lt_of_le h1 hS.1) (fun z => h2 (hA q (Nat.lt_of_lt_of_le h1 hS.1) z))]; exact hS.2.1 q h1 h2, fun q hq => by
      rcases List.mem_append.mp hq with h | h
      · exact hS.2.2 q h
      · exact hf _ (hL q h)⟩⟩
theorem vx_calli {S SX : Type} {post : Int32 → S → Prop} {px : SX → Prop} {B : S → State → Prop} {BX : String → SX → State → Prop} {AX : Nat → Prop} (hr : vx_Run p l e R s m args below meth c H locs cells slots mc ms (F0 m pc ls st0) rest (va_Qi post B A1 a) (vx_X px BX AX) free) (hS : va_S A0 H0 H locs) (hA : ∀ q, q < H.size → A1 q → A0 q) (hf : ∀ q, free q → A0 q) (hAX : ∀ q, q < H.size → AX q → A0 q)
    (kx : ∀ (E : String) (ce : Cell) (q9 : Addr) (u : SX) (t : State) (H1 : Heap) (locs1 : List Loc), t.heap = H1 → s.vm.Alike t.vm → px u → BX E u t → H.size ≤ H1.size → (∀ q : Nat, q < H.size → ¬ AX q → H1[q]? = H[q]?) → va_S A0 H0 H1 locs1 → H1[q9]? = some ce → ce.vm = .none → s.vm.findClass E = some ce.cls → vx_W p l e R s m args below meth c H1 locs1 (cells + mc) (slots + ms) Q (F0 m pc ls rest) q9)
    (kk : ∀ (r : Int32) (u : S) (t : State) (H1 : Heap) (locs1 : List Loc), t.heap = H1 → s.vm.Alike t.vm → post r u → B u t → H.size ≤ H1.size → (∀ q : Nat, q < H.size → ¬ A1 q → H1[q]? = H[q]?) → va_S A0 H0 H1 locs1 → W p l e R s m args below meth c H1 locs1 (cells + mc) (slots + ms) Q (F0 m (pc + 3) ls (.int r :: rest))) : W p l e R s m args below meth c H locs cells slots Q (F0 m pc ls st0) := by
  intro T hT X
  rcases hr T hT X with ⟨v, st₀, t, T', L, h0, X', hL, e1, e2, ⟨⟨r, u, hv, hp, hb⟩, hF⟩, st⟩ | ⟨q, st₀, t, T', L, E, ce, h0, X', hL, e1, e2, ⟨u, hp, hb, hF⟩, hce, hcv, hcl, st⟩
  · cases hv
    obtain ⟨k1, k2, k3⟩ := vx_keep h0 e1 hS hA hf hL hF
    obtain ⟨t2, a1, b1⟩ := kk r u t T'.heap (locs ++ L) e1.symm (by rw [← e2]; exact X'.warmed.alike) hp hb k1 k2 k3 T' rfl X'
    exact ⟨t2, st t2 a1, b1⟩
  · obtain ⟨k1, k2, k3⟩ := vx_keep h0 e1 hS hAX hf hL hF
    obtain ⟨t2, a1, b1⟩ := kx E ce q u t T'.heap (locs ++ L) e1.symm (by rw [← e2]; exact X'.warmed.alike) hp hb k1 k2 k3 (by rw [e1]; exact hce) hcv hcl T' rfl X'
    exact ⟨t2, st.trans a1, b1⟩
theorem vx_calll {S SX : Type} {post : Int64 → S → Prop} {px : SX → Prop} {B : S → State → Prop} {BX : String → SX → State → Prop} {AX : Nat → Prop} (hr : vx_Run p l e R s m args below meth c H locs cells slots mc ms (F0 m pc ls st0) rest (va_Ql post B A1 a) (vx_X px BX AX) free) (hS : va_S A0 H0 H locs) (hA : ∀ q, q < H.size → A1 q → A0 q) (hf : ∀ q, free q → A0 q) (hAX : ∀ q, q < H.size → AX q → A0 q)
    (kx : ∀ (E : String) (ce : Cell) (q9 : Addr) (u : SX) (t : State) (H1 : Heap) (locs1 : List Loc), t.heap = H1 → s.vm.Alike t.vm → px u → BX E u t → H.size ≤ H1.size → (∀ q : Nat, q < H.size → ¬ AX q → H1[q]? = H[q]?) → va_S A0 H0 H1 locs1 → H1[q9]? = some ce → ce.vm = .none → s.vm.findClass E = some ce.cls → vx_W p l e R s m args below meth c H1 locs1 (cells + mc) (slots + ms) Q (F0 m pc ls rest) q9)
    (kk : ∀ (r : Int64) (u : S) (t : State) (H1 : Heap) (locs1 : List Loc), t.heap = H1 → s.vm.Alike t.vm → post r u → B u t → H.size ≤ H1.size → (∀ q : Nat, q < H.size → ¬ A1 q → H1[q]? = H[q]?) → va_S A0 H0 H1 locs1 → W p l e R s m args below meth c H1 locs1 (cells + mc) (slots + ms) Q (F0 m (pc + 3) ls (.long r :: rest))) : W p l e R s m args below meth c H locs cells slots Q (F0 m pc ls st0) := by
  intro T hT X
  rcases hr T hT X with ⟨v, st₀, t, T', L, h0, X', hL, e1, e2, ⟨⟨r, u, hv, hp, hb⟩, hF⟩, st⟩ | ⟨q, st₀, t, T', L, E, ce, h0, X', hL, e1, e2, ⟨u, hp, hb, hF⟩, hce, hcv, hcl, st⟩
  · cases hv
    obtain ⟨k1, k2, k3⟩ := vx_keep h0 e1 hS hA hf hL hF
    obtain ⟨t2, a1, b1⟩ := kk r u t T'.heap (locs ++ L) e1.symm (by rw [← e2]; exact X'.warmed.alike) hp hb k1 k2 k3 T' rfl X'
    exact ⟨t2, st t2 a1, b1⟩
  · obtain ⟨k1, k2, k3⟩ := vx_keep h0 e1 hS hAX hf hL hF
    obtain ⟨t2, a1, b1⟩ := kx E ce q u t T'.heap (locs ++ L) e1.symm (by rw [← e2]; exact X'.warmed.alike) hp hb k1 k2 k3 (by rw [e1]; exact hce) hcv hcl T' rfl X'
    exact ⟨t2, st.trans a1, b1⟩
theorem vx_callf {S SX : Type} {post : UInt32 → S → Prop} {px : SX → Prop} {B : S → State → Prop} {BX : String → SX → State → Prop} {AX : Nat → Prop} (hr : vx_Run p l e R s m args below meth c H locs cells slots mc ms (F0 m pc ls st0) rest (va_Qf post B A1 a) (vx_X px BX AX) free) (hS : va_S A0 H0 H locs) (hA : ∀ q, q < H.size → A1 q → A0 q) (hf : ∀ q, free q → A0 q) (hAX : ∀ q, q < H.size → AX q → A0 q)
    (kx : ∀ (E : String) (ce : Cell) (q9 : Addr) (u : SX) (t : State) (H1 : Heap) (locs1 : List Loc), t.heap = H1 → s.vm.Alike t.vm → px u → BX E u t → H.size ≤ H1.size → (∀ q : Nat, q < H.size → ¬ AX q → H1[q]? = H[q]?) → va_S A0 H0 H1 locs1 → H1[q9]? = some ce → ce.vm = .none → s.vm.findClass E = some ce.cls → vx_W p l e R s m args below meth c H1 locs1 (cells + mc) (slots + ms) Q (F0 m pc ls rest) q9)
    (kk : ∀ (r : UInt32) (u : S) (t : State) (H1 : Heap) (locs1 : List Loc), t.heap = H1 → s.vm.Alike t.vm → post r u → B u t → H.size ≤ H1.size → (∀ q : Nat, q < H.size → ¬ A1 q → H1[q]? = H[q]?) → va_S A0 H0 H1 locs1 → W p l e R s m args below meth c H1 locs1 (cells + mc) (slots + ms) Q (F0 m (pc + 3) ls (.float r :: rest))) : W p l e R s m args below meth c H locs cells slots Q (F0 m pc ls st0) := by
  intro T hT X
  rcases hr T hT X with ⟨v, st₀, t, T', L, h0, X', hL, e1, e2, ⟨⟨r, u, hv, hp, hb⟩, hF⟩, st⟩ | ⟨q, st₀, t, T', L, E, ce, h0, X', hL, e1, e2, ⟨u, hp, hb, hF⟩, hce, hcv, hcl, st⟩
  · cases hv
    obtain ⟨k1, k2, k3⟩ := vx_keep h0 e1 hS hA hf hL hF
    obtain ⟨t2, a1, b1⟩ := kk r u t T'.heap (locs ++ L) e1.symm (by rw [← e2]; exact X'.warmed.alike) hp hb k1 k2 k3 T' rfl X'
    exact ⟨t2, st t2 a1, b1⟩
  · obtain ⟨k1, k2, k3⟩ := vx_keep h0 e1 hS hAX hf hL hF
    obtain ⟨t2, a1, b1⟩ := kx E ce q u t T'.heap (locs ++ L) e1.symm (by rw [← e2]; exact X'.warmed.alike) hp hb k1 k2 k3 (by rw [e1]; exact hce) hcv hcl T' rfl X'
    exact ⟨t2, st.trans a1, b1⟩
theorem vx_calld {S SX : Type} {post : UInt64 → S → Prop} {px : SX → Prop} {B : S → State → Prop} {BX : String → SX → State → Prop} {AX : Nat → Prop} (hr : vx_Run p l e R s m args below meth c H locs cells slots mc ms (F0 m pc ls st0) rest (va_Qd post B A1 a) (vx_X px BX AX) free) (hS : va_S A0 H0 H locs) (hA : ∀ q, q < H.size → A1 q → A0 q) (hf : ∀ q, free q → A0 q) (hAX : ∀ q, q < H.size → AX q → A0 q)
    (kx : ∀ (E : String) (ce : Cell) (q9 : Addr) (u : SX) (t : State) (H1 : Heap) (locs1 : List Loc), t.heap = H1 → s.vm.Alike t.vm → px u → BX E u t → H.size ≤ H1.size → (∀ q : Nat, q < H.size → ¬ AX q → H1[q]? = H[q]?) → va_S A0 H0 H1 locs1 → H1[q9]? = some ce → ce.vm = .none → s.vm.findClass E = some ce.cls → vx_W p l e R s m args below meth c H1 locs1 (cells + mc) (slots + ms) Q (F0 m pc ls rest) q9)
    (kk : ∀ (r : UInt64) (u : S) (t : State) (H1 : Heap) (locs1 : List Loc), t.heap = H1 → s.vm.Alike t.vm → post r u → B u t → H.size ≤ H1.size → (∀ q : Nat, q < H.size → ¬ A1 q → H1[q]? = H[q]?) → va_S A0 H0 H1 locs1 → W p l e R s m args below meth c H1 locs1 (cells + mc) (slots + ms) Q (F0 m (pc + 3) ls (.double r :: rest))) : W p l e R s m args below meth c H locs cells slots Q (F0 m pc ls st0) := by
  intro T hT X
  rcases hr T hT X with ⟨v, st₀, t, T', L, h0, X', hL, e1, e2, ⟨⟨r, u, hv, hp, hb⟩, hF⟩, st⟩ | ⟨q, st₀, t, T', L, E, ce, h0, X', hL, e1, e2, ⟨u, hp, hb, hF⟩, hce, hcv, hcl, st⟩
  · cases hv
    obtain ⟨k1, k2, k3⟩ := vx_keep h0 e1 hS hA hf hL hF
    obtain ⟨t2, a1, b1⟩ := kk r u t T'.heap (locs ++ L) e1.symm (by rw [← e2]; exact X'.warmed.alike) hp hb k1 k2 k3 T' rfl X'
    exact ⟨t2, st t2 a1, b1⟩
  · obtain ⟨k1, k2, k3⟩ := vx_keep h0 e1 hS hAX hf hL hF
    obtain ⟨t2, a1, b1⟩ := kx E ce q u t T'.heap (locs ++ L) e1.symm (by rw [← e2]; exact X'.warmed.alike) hp hb k1 k2 k3 (by rw [e1]; exact hce) hcv hcl T' rfl X'
    exact ⟨t2, st.trans a1, b1⟩
theorem vx_callv {S SX : Type} {post : S → Prop} {px : SX → Prop} {B : S → State → Prop} {BX : String → SX → State → Prop} {AX : Nat → Prop} (hr : vx_Run p l e R s m args below meth c H locs cells slots mc ms (F0 m pc ls st0) rest (va_Qv post B A1 a) (vx_X px BX AX) free) (hS : va_S A0 H0 H locs) (hA : ∀ q, q < H.size → A1 q → A0 q) (hf : ∀ q, free q → A0 q) (hAX : ∀ q, q < H.size → AX q → A0 q)
    (kx : ∀ (E : String) (ce : Cell) (q9 : Addr) (u : SX) (t : State) (H1 : Heap) (locs1 : List Loc), t.heap = H1 → s.vm.Alike t.vm → px u → BX E u t → H.size ≤ H1.size → (∀ q : Nat, q < H.size → ¬ AX q → H1[q]? = H[q]?) → va_S A0 H0 H1 locs1 → H1[q9]? = some ce → ce.vm = .none → s.vm.findClass E = some ce.cls → vx_W p l e R s m args below meth c H1 locs1 (cells + mc) (slots + ms) Q (F0 m pc ls rest) q9)
    (kk : ∀ (u : S) (t : State) (H1 : Heap) (locs1 : List Loc), t.heap = H1 → s.vm.Alike t.vm → post u → B u t → H.size ≤ H1.size → (∀ q : Nat, q < H.size → ¬ A1 q → H1[q]? = H[q]?) → va_S A0 H0 H1 locs1 → W p l e R s m args below meth c H1 locs1 (cells + mc) (slots + ms) Q (F0 m (pc + 3) ls (rest))) : W p l e R s m args below meth c H locs cells slots Q (F0 m pc ls st0) := by
  intro T hT X
  rcases hr T hT X with ⟨v, st₀, t, T', L, h0, X', hL, e1, e2, ⟨⟨u, hv, hp, hb⟩, hF⟩, st⟩ | ⟨q, st₀, t, T', L, E, ce, h0, X', hL, e1, e2, ⟨u, hp, hb, hF⟩, hce, hcv, hcl, st⟩
  · cases hv
    obtain ⟨k1, k2, k3⟩ := vx_keep h0 e1 hS hA hf hL hF
    obtain ⟨t2, a1, b1⟩ := kk u t T'.heap (locs ++ L) e1.symm (by rw [← e2]; exact X'.warmed.alike) hp hb k1 k2 k3 T' rfl X'
    exact ⟨t2, st t2 a1, b1⟩
  · obtain ⟨k1, k2, k3⟩ := vx_keep h0 e1 hS hAX hf hL hF
    obtain ⟨t2, a1, b1⟩ := kx E ce q u t T'.heap (locs ++ L) e1.symm (by rw [← e2]; exact X'.warmed.alike) hp hb k1 k2 k3 (by rw [e1]; exact hce) hcv hcl T' rfl X'
    exact ⟨t2, st.trans a1, b1⟩
/-- caught by the row x of this method's table; the rows ahead don't take it -/
theorem vx_catch {own name : String} {E : String} {ce : Cell} {q : Addr} (hown : s.vm.findClass own = some m.cls) (pre : List ExceptionTableEntry) (x : ExceptionTableEntry) (suf : List ExceptionTableEntry) (hsplit : c.exceptionTable.toList = pre ++ x :: suf)
    (hpass : ∀ z ∈ pre, covers z pc = false ∨ (z.catchType ≠ 0 ∧ ∃ nm : String, (Cond.classLink own z.catchType nm).before args s = true ∧ va_Nc E nm s)) (hx : covers x pc = true) (h0 : x.catchType ≠ 0)
    (hlink : (Cond.classLink own x.catchType name).before args s = true) (hcast : (Cond.castable E name).before args s = true) (hcell : H[q]? = some ce) (hv : ce.vm = .none) (hcl : s.vm.findClass E = some ce.cls)
    (kk : W p l e R s m args below meth c H locs cells slots Q (F0 m x.handlerPc ls [.ref q])) : vx_W p l e R s m args below meth c H locs cells slots Q (F0 m pc ls rest) q := by
  intro T hT X
  have hpl : e.platform.magicAccessors = ({} : Platform).magicAccessors := by rw [X.admits.platform]
  obtain ⟨c3, c4, hc3, hc4, hasg⟩ := Cond.castable_spec hcast
  cases Option.some.inj (hc3.symm.trans hcl)
  obtain ⟨c5, hc5, hcl5⟩ := Cond.classLink_spec hown hlink e.platform hpl
  cases Option.some.inj (hc4.symm.trans hc5)
  obtain ⟨vm', X', st⟩ := X.thenCaughtThrough q (g := F0 m pc ls rest) rfl (Steps.refl _) (by rw [hT]; exact hcell) (by rw [hv]; rfl) (by obtain ⟨k9, h9, -⟩ := Vm.findClass_spec hcl; exact ⟨k9, h9⟩) pre x suf hsplit
    (fun z hz => by
      rcases hpass z hz with h | ⟨hz0, nm, hl1, hn1⟩
      · exact Or.inl h
      · obtain ⟨c6, hc6, hcl6⟩ := Cond.classLink_spec hown hl1 e.platform hpl
        obtain ⟨a8, b8, h1, h2, h3⟩ := hn1
        cases Option.some.inj (h1.symm.trans hcl)
        cases Option.some.inj (h2.symm.trans hc6)
        exact Or.inr ⟨hz0, _, hcl6, h3⟩) hx (Or.inr ⟨h0, c4, hcl5, hasg⟩)
  obtain ⟨t, a1, b1⟩ := kk (T.setVm vm') hT X'
  exact ⟨t, st.trans a1, b1⟩
end Rows
section Ends
variable {p : Program} {l : Launch} {e : Env} {R : Room} {s : State} {m : MethodId} {args : Array Value} {below : List Frame} {meth : Method} {c : Code} {H : Heap} {locs : List Loc} {cells slots : Nat} {Q : State → Prop}
variable {mc ms : Nat} {free : Addr → Prop} {A0 A1 : Nat → Prop} {H0 : Heap} {a : Array Value} {ls : Array Slot} {st0 rest : List Value}
variable {Qc : Array Value → State → Outcome → State → Prop} {XC : String → State → State → Prop}
/-- what a body that may throw owes at its end -/
def vx_MQ (below : List Frame) (Qc : Array Value → State → Outcome → State → Prop) (XC : String → State → State → Prop) (a : Array Value) (s : State) (mc ms : Nat) (free : Addr → Prop) : State → Prop := fun t =>
  ∃ o, t.status = .running ∧ Ended t below o ∧ vx_Q Qc XC mc ms free a s o t
theorem vx_ret {g : JFrame} {mc ms : Nat} (k : W p l e R s m args below meth c H locs cells slots (MQ below Qc args s mc ms free) g) : W p l e R s m args below meth c H locs cells slots (vx_MQ below Qc XC args s mc ms free) g := by
  intro T hT X
  obtain ⟨t, a1, o, b1, b2, b3, b4⟩ := k T hT X
  exact ⟨t, a1, o, b1, b2, Or.inl ⟨b3, b4⟩⟩
/-- not caught here: it goes on to the caller -/
theorem vx_widen {g : JFrame} {q : Addr} {k n : Nat} (h1 : cells ≤ k) (h2 : slots ≤ n) (kk : vx_W p l e R s m args below meth c H locs k n Q g q) : vx_W p l e R s m args below meth c H locs cells slots Q g q := fun T hT X => kk T hT (stand_widen X h1 h2)
theorem vx_out {pc : Nat} {E : String} {ce : Cell} {q : Addr} {mc ms : Nat} (hout : ∀ x ∈ c.exceptionTable.toList, covers x pc = false) (hlocks : meth.locks = false) (hcell : H[q]? = some ce) (hv : ce.vm = .none) (hcl : s.vm.findClass E = some ce.cls)
    (hx : ∀ t : State, t.heap = H → s.vm.Alike t.vm → XC E s t) (hf : ∀ z ∈ locs, free z.base) (hc : cells ≤ mc) (hs : slots ≤ ms) :
    vx_W p l e R s m args below meth c H locs cells slots (vx_MQ below Qc XC args s mc ms free) (F0 m pc ls rest) q := by
  intro T hT X
  obtain ⟨st1, hrun, hend, hW, hsm⟩ := X.leaveThrown q (g := F0 m pc ls rest) rfl rfl rfl hout hlocks
  have hcell9 : (T.setFrames (.throwing q :: below)).heap[q]? = some ce := by
    show T.heap[q]? = some ce
    rw [hT]; exact hcell
  exact ⟨_, st1, .threw q, hrun, hend, Or.inr ⟨q, rfl, E, ce, locs, hx _ hT hW.alike, hcell9, hv, hcl, hW, hsm.mono hc hs, hf⟩⟩
theorem vx_frame {U : State} {k n : Nat} (h : s.sameButNew ({ U with vm := s.vm } : State) locs k n) : s.heap.size ≤ U.heap.size ∧ ∀ q : Nat, q < s.heap.size → (∀ z ∈ locs, z.base ≠ q) → U.heap[q]? = s.heap[q]? := by
  obtain ⟨-, h2, -, -, -, h6⟩ := h
  refine ⟨h2, fun q hq hz => ?_⟩
  obtain ⟨c9, e1, e2, e3, e4⟩ := h6 q _ (Array.getElem?_eq_getElem hq)
  have hs : c9.slots = (s.heap[q]).slots := Array.ext_getElem? fun i => e4 i fun hm => hz _ hm rfl
  have h9 : c9 = s.heap[q] := by
    rw [hs] at e2
    exact e2
  have e5 : U.heap[q]? = some c9 := e1
  rw [e5, h9, Array.getElem?_eq_getElem hq]
/-- the words of a throw but the four that speak of the heap -/
def vx_no (w : Cond) : Bool := decide (w ≠ .isRef (.static Bundle.tN "UNASSIGNED_STACK" Bundle.steD)) && decide (w ≠ .isRef (.static Bundle.tN "SUPPRESSED_SENTINEL" Bundle.listD)) && decide (w ≠ .laysStatic Bundle.tN "UNASSIGNED_STACK" Bundle.steD) && decide (w ≠ .laysStatic Bundle.tN "SUPPRESSED_SENTINEL" Bundle.listD)
def vx_at0 (own : String) (ic : Nat) (X : String) (names : List String) : List Cond := (Bundle.ownAtoms0 own ic X names).filter vx_no
def vx_atS (own : String) (ic : Nat) (X : String) (names : List String) : List Cond := (Bundle.ownAtoms own ic X names).filter vx_no
/-- a word that the tables alone decide, or a good one -/
def vx_ot (w : Cond) : Bool := w.onTables || goodWord w
theorem vx_ot_at {args a' : Array Value} {s U : State} {w : Cond} (hW : s.WarmedH U.vm) (hvm : s.vm = U.vm) (hg : vx_ot w = true) (h : w.before args s = true) : w.before a' U = true := by
  simp only [vx_ot, Bool.or_eq_true] at hg
  rcases hg with hg | hg
  · exact va_tabs hg hvm h
  · exact word_at hW (good_of_word hg) h
/-- a list's words: the good ones out of the method's own list, the others by premises of their own -/
theorem vx_hat {args : Array Value} {s : State} {L B : List Cond} (h1 : ∀ w ∈ L.filter goodWord, w.before args s = true) (h2 : ∀ w ∈ L.filter (fun w => !goodWord w), w ∈ B) (h3 : ∀ w ∈ B, w.before args s = true) : ∀ w ∈ L, w.before args s = true := by
  intro w hw
  by_cases g : goodWord w = true
  · exact h1 w (List.mem_filter.mpr ⟨hw, g⟩)
  · refine h3 w (h2 w (List.mem_filter.mpr ⟨hw, ?_⟩))
    show (!goodWord w) = true
    cases hgw : goodWord w
    · rfl
    · exact absurd hgw g
theorem vx_c {args : Array Value} {s : State} {w : Cond} {B : List Cond} (h : w.before args s = true) (t : ∀ w ∈ B, w.before args s = true) : ∀ w' ∈ w :: B, w'.before args s = true := fun w' h' => (List.mem_cons.mp h').elim (fun e => by rw [e]; exact h) (t w')
theorem vx_n {args : Array Value} {s : State} : ∀ w ∈ ([] : List Cond), w.before args s = true := fun _ h => nomatch h
theorem vx_own {args : Array Value} {s : State} {L : List Cond} (h1 : ∀ w ∈ L.filter vx_no, w.before args s = true)
    (hU : (Cond.isRef (.static Bundle.tN "UNASSIGNED_STACK" Bundle.steD)).before args s = true) (hN : (Cond.isRef (.static Bundle.tN "SUPPRESSED_SENTINEL" Bundle.listD)).before args s = true)
    (lU : (Cond.laysStatic Bundle.tN "UNASSIGNED_STACK" Bundle.steD).before args s = true) (lN : (Cond.laysStatic Bundle.tN "SUPPRESSED_SENTINEL" Bundle.listD).before args s = true) : ∀ w ∈ L, w.before args s = true := by
  intro w hw
  by_cases e1 : w = .isRef (.static Bundle.tN "UNASSIGNED_STACK" Bundle.steD)
  · rw [e1]; exact hU
  · by_cases e2 : w = .isRef (.static Bundle.tN "SUPPRESSED_SENTINEL" Bundle.listD)
    · rw [e2]; exact hN
    · by_cases e3 : w = .laysStatic Bundle.tN "UNASSIGNED_STACK" Bundle.steD
      · rw [e3]; exact lU
      · by_cases e4 : w = .laysStatic Bundle.tN "SUPPRESSED_SENTINEL" Bundle.listD
        · rw [e4]; exact lN
        · exact h1 w (List.mem_filter.mpr ⟨hw, by unfold vx_no; rw [decide_eq_true e1, decide_eq_true e2, decide_eq_true e3, decide_eq_true e4]; rfl⟩)
/-- where a static field lies, its class's statics cell in H -/
def vx_L (C n d : String) (A : Nat → Prop) (U : State) (H : Heap) : Prop := ∃ (c : ClassId) (k : Class) (i : Nat) (f : Field) (a : Nat) (cell : Cell), U.vm.findClass C = some c ∧ U.fieldFound? C n d = some (c, k, i, f) ∧ f.isStatic = true ∧ k.statics = some a ∧ H[a]? = some cell ∧ cell.vm.isStatics = true ∧ cell.cls = c ∧ f.slot < cell.slots.size ∧ k.staticTypes[f.slot]? = some f.type ∧ ¬ A a
theorem vx_L.moved {C n d : String} {A : Nat → Prop} {u U : State} {H : Heap} (hvm : u.vm.Alike U.vm) (h : vx_L C n d A u H) : vx_L C n d A U H := by
  obtain ⟨c, k, i, f, a, cell, h1, h2, h3, h4, h5, h6, h7, h8, h9, h10⟩ := h
  obtain ⟨k', hi', he⟩ := State.fieldFound?_setVm hvm h2
  exact ⟨c, k', i, f, a, cell, by rw [hvm.findClass]; exact h1, hi', h3, by rw [he]; exact h4, h5, h6, h7, h8, by rw [he]; exact h9, h10⟩
theorem vx_L.kept {C n d : String} {A : Nat → Prop} {U : State} {H H1 : Heap} (h : vx_L C n d A U H) (hq : ∀ a : Nat, a < H.size → ¬ A a → H1[a]? = H[a]?) : vx_L C n d A U H1 := by
  obtain ⟨c, k, i, f, a, cell, h1, h2, h3, h4, h5, h6, h7, h8, h9, h10⟩ := h
  exact ⟨c, k, i, f, a, cell, h1, h2, h3, h4, by rw [hq a (Array.getElem?_eq_some_iff.mp h5).1 h10]; exact h5, h6, h7, h8, h9, h10⟩
theorem vx_L.narrow {C n d : String} {A B : Nat → Prop} {U : State} {H : Heap} (h : vx_L C n d A U H) (hAB : ∀ q, B q → A q) : vx_L C n d B U H := by
  obtain ⟨c, k, i, f, a, cell, h1, h2, h3, h4, h5, h6, h7, h8, h9, h10⟩ := h
  exact ⟨c, k, i, f, a, cell, h1, h2, h3, h4, h5, h6, h7, h8, h9, fun z => h10 (hAB _ z)⟩
theorem vx_L.word {C n d : String} {A : Nat → Prop} {s : State} {args : Array Value} (h : vx_L C n d A s s.heap) : (Cond.laysStatic C n d).before args s = true := by
  obtain ⟨c, k, i, f, a, cell, h1, h2, h3, h4, h5, h6, h7, h8, h9, -⟩ := h
  show (Cond.laysStatic C n d).holds args s none s [] = true
  exact Cond.laysStatic_of h1 h2 h3 h4 h5 h6 h7 h8 h9
/-- .. and what it holds: null or some reference -/
def vx_Zq (C n d : String) (A : Nat → Prop) (U : State) (H : Heap) : Prop := va_Zq C n d A U H ∧ vx_L C n d A U H
theorem vx_Zq.moved {C n d : String} {A : Nat → Prop} {u U : State} {H : Heap} (hvm : u.vm.Alike U.vm) (h : vx_Zq C n d A u H) : vx_Zq C n d A U H := ⟨va_Zq.moved hvm h.1, vx_L.moved hvm h.2⟩
theorem vx_Zq.kept {C n d : String} {A : Nat → Prop} {U : State} {H H1 : Heap} (h : vx_Zq C n d A U H) (hq : ∀ a : Nat, a < H.size → ¬ A a → H1[a]? = H[a]?) : vx_Zq C n d A U H1 := ⟨va_Zq.kept h.1 hq, vx_L.kept h.2 hq⟩
theorem vx_Zq.narrow {C n d : String} {A B : Nat → Prop} {U : State} {H : Heap} (h : vx_Zq C n d A U H) (hAB : ∀ q, B q → A q) : vx_Zq C n d B U H := ⟨va_Zq.narrow h.1 hAB, vx_L.narrow h.2 hAB⟩
theorem vx_Zqof {args : Array Value} {s : State} {C n d : String} {A : Nat → Prop} (hl : (Cond.laysStatic C n d).before args s = true) (hini : (Cond.initialized C).before args s = true) (h : (Cond.isRef (.static C n d)).before args s = true) (hA : ∀ a : Nat, a < s.heap.size → ¬ A a) : vx_Zq C n d A s s.heap := by
  refine ⟨va_Zqof hl hini h hA, ?_⟩
  obtain ⟨c, k, i, f, a, cell, h1, h2, h3, h4, h5, h6, h7, h8, h9⟩ := Cond.laysStatic_spec hl
  exact ⟨c, k, i, f, a, cell, h1, h2, h3, h4, h5, h6, h7, h8, h9, hA a (Array.getElem?_eq_some_iff.mp h5).1⟩
theorem vx_isRef {C n d : String} {v : Value} {A : Nat → Prop} {s : State} {args : Array Value} (h : va_Z C n d v A s s.heap) (hv : v.isRef = true) : (Cond.isRef (.static C n d)).before args s = true := by
  obtain ⟨cf, kf, fi, f, a, cell, h1, h2, h3, h4, h5, h6, h7, -⟩ := h
  have he : (Term.static C n d).eval args s none [] s = some v := by
    simp [Term.eval, State.fieldNamed?, h1, h2, h4, h5, h6, h7]
  simp only [Cond.before, Cond.holds, Cond.value, he]
  cases v <;> simp_all [Value.isRef]
theorem vx_isRefq {C n d : String} {A : Nat → Prop} {s : State} {args : Array Value} (h : va_Zq C n d A s s.heap) : (Cond.isRef (.static C n d)).before args s = true := by
  rcases h with h | ⟨t, h⟩
  · exact vx_isRef h rfl
  · exact vx_isRef h rfl
/-- the same frame, seen from here: as if the method were called anew in this heap -/
theorem vx_rebase {T : State} (X : Stand p l e R s m args below meth c T locs cells slots) {R' : Room} (hf : R'.frames ≤ R.frames) (hl : R'.locals ≤ R.locals) (hc : cells + R'.cells ≤ R.cells) (hs : slots + R'.slots ≤ R.slots) :
    Stand p l e R' ((T.setVm s.vm).setFrames (.invoking m args :: below)) m args below meth c T [] 0 0 := by
  have htop : (T.setVm s.vm).topJava?.isSome := X.here.top
  have hF : ((T.setVm s.vm).setFrames (.invoking m args :: below)).frames = .invoking m args :: below := State.frames_setFrames _ (State.cur_lt_of_top htop)
  obtain ⟨g₀, hg0⟩ := Option.isSome_iff_exists.mp htop
  obtain ⟨r, hr⟩ := State.topJava?_eq_some.mp hg0
  have hl9 : e.platform.stackLimits (T.setVm s.vm).me = e.platform.stackLimits s.me := X.limits
  have hb9 : (T.setVm s.vm).me.stackBytes = s.me.stackBytes := X.bytes
  refine ⟨X.admits, X.cas, X.clock, hF, ?_, X.hears, X.method, X.code, X.here, X.tail, X.warmed, ?_, ?_, ?_⟩
  · have h := X.room
    have hU : ((T.setVm s.vm).setFrames (.invoking m args :: below)).localsInUse = s.localsInUse := by
      rw [State.localsInUse_invoking hF (meth := meth) (c := c) X.method X.code, State.localsInUse_invoking X.frames X.method X.code]
    simp only [State.hasRoom, Bool.and_eq_true, decide_eq_true_eq] at h ⊢
    obtain ⟨⟨⟨⟨h1, h2, h3, h4, h5, h6⟩, h7⟩, h8⟩, h9⟩ := h
    rw [X.frames, List.length_cons] at h2 h3
    have q1 := X.heapSize
    have q2 := X.used
    simp only [hF, hU, List.length_cons, State.stackLimits_setFrames, State.stackBytes_setFrames, hl9, hb9]
    refine ⟨⟨⟨⟨by omega, by omega, by omega, by omega, by omega, h6⟩, ?_⟩, ?_⟩, X.book⟩
    · show T.heap.size + R'.cells ≤ e.platform.maxCells
      omega
    · show T.slotsUsed + R'.slots ≤ e.platform.maxSlots
      omega
  · rw [State.stackLimits_setFrames]; rfl
  · rw [State.stackBytes_setFrames]; rfl
  · refine ⟨?_, Nat.le_refl _, Nat.le_refl _, ?_, ?_, fun a c9 h9 => ⟨c9, h9, rfl, rfl, fun _ _ => rfl⟩⟩
    · obtain ⟨t, ht, -⟩ := State.frames_cons hr
      show T.setVm s.vm = { ((T.setVm s.vm).setFrames (.invoking m args :: below)).setFrames (T.setVm s.vm).frames with heap := T.heap, slotsUsed := T.slotsUsed }
      rw [State.setFrames_setFrames, State.setFrames_self ht]
      rfl
    · show T.slotsUsed = T.slotsUsed + ((T.heap.toList.drop T.heap.size).map (·.slots.size)).sum
      rw [List.drop_eq_nil_of_le (Nat.le_of_eq Array.length_toList)]
      rfl
    · show ((T.heap.toList.drop T.heap.size).map (·.slots.size)).sum ≤ 0
      rw [List.drop_eq_nil_of_le (Nat.le_of_eq Array.length_toList)]
      exact Nat.le_refl _
/-- 'throw new E()': new; dup; invokespecial; athrow -/
theorem vx_throw0 {cc : ByteArray} {pc : Nat} (hexec : p.tables.exec = Jvm.exec) (hb : c.code = cc) (hl : l.stackTraces = false) {own cls : String} {names : List String} {ik ic mc ms : Nat} {A : Nat → Prop}
    (hown : s.vm.findClass own = some m.cls) (hcls : Bundle.fit cls = true) (hnames : ∀ n ∈ names, Bundle.fit n = true)
    (hk : (Cond.classLink own ik cls).before args s = true) (hini : (Cond.initialized cls).before args s = true) (hat : ∀ w ∈ vx_at0 own ic cls names, w.before args s = true)
    (hgood : ∀ w ∈ Cond.classLink own ik cls :: Cond.initialized cls :: vx_at0 own ic cls names, vx_ot w = true)
    (hU : vx_Zq Bundle.tN "UNASSIGNED_STACK" Bundle.steD A s s.heap) (hN : vx_Zq Bundle.tN "SUPPRESSED_SENTINEL" Bundle.listD A s s.heap) (hS : va_S A s.heap H locs) (hsize : ls.size = c.maxLocals)
    (d0 : decode cc pc = .ok (.new ik, 3)) (d3 : decode cc (pc + 3) = .ok (.dup, 1)) (d4 : decode cc (pc + 4) = .ok (.invokespecial ic, 3)) (d7 : decode cc (pc + 7) = .ok (.athrow, 1))
    (hout : ∀ x ∈ c.exceptionTable.toList, covers x (pc + 7) = false)
    (hRframes : names.length + 3 < R.frames) (hRlocals : (rest.map fun v => v.category).sum + (13 * (names.length + 1) + 42) ≤ R.locals) (hRcells : cells + 1 ≤ R.cells) (hRslots : slots + 6 ≤ R.slots) (hlocks : meth.locks = false)
    (hx : ∀ t : State, s.vm.Alike t.vm → H.size ≤ t.heap.size → (∀ q : Nat, q < H.size → t.heap[q]? = H[q]?) → XC cls s t)
    (hf : ∀ z ∈ locs, free z.base) (hc : cells + 1 ≤ mc) (hs : slots + 6 ≤ ms) :
    W p l e R s m args below meth c H locs cells slots (vx_MQ below Qc XC args s mc ms free) (F0 m pc ls rest) := by
  intro T hT X
  have htr : e.platform.stackTraces = false := (show e.platform.stackTraces = l.stackTraces by rw [X.admits.platform]).trans hl
  have Y := vx_rebase X (R' := { frames := R.frames, locals := R.locals, cells := 1, slots := 6 }) (Nat.le_refl _) (Nat.le_refl _) hRcells hRslots
  obtain ⟨s', hA⟩ : ∃ z, z = (T.setVm s.vm).setFrames (.invoking m args :: below) := ⟨_, rfl⟩
  rw [← hA] at Y
  have hvm : s'.vm = s.vm := by rw [hA]; rfl
  have hhp : s'.heap = H := by rw [hA]; exact hT
  have hW0 : s.WarmedH s'.vm := by rw [hvm]; exact State.WarmedH.refl s
  have hat' : ∀ w ∈ vx_at0 own ic cls names, w.before args s' = true := fun w hw => vx_ot_at hW0 hvm.symm (hgood w (List.mem_cons_of_mem _ (List.mem_cons_of_mem _ hw))) (hat w hw)
  have hk' : (Cond.classLink own ik cls).before args s' = true := vx_ot_at hW0 hvm.symm (hgood _ List.mem_cons_self) hk
  have hini' : (Cond.initialized cls).before args s' = true := vx_ot_at hW0 hvm.symm (hgood _ (List.mem_cons_of_mem _ List.mem_cons_self)) hini
  have hU' : vx_Zq Bundle.tN "UNASSIGNED_STACK" Bundle.steD A s' s'.heap := by rw [hhp]; exact vx_Zq.moved hW0.alike (hU.kept hS.2.1)
  have hN' : vx_Zq Bundle.tN "SUPPRESSED_SENTINEL" Bundle.listD A s' s'.heap := by rw [hhp]; exact vx_Zq.moved hW0.alike (hN.kept hS.2.1)
  have h : ∀ w ∈ Bundle.ownAtoms0 own ic cls names, w.before args s' = true := vx_own hat' (vx_isRefq hU'.1) (vx_isRefq hN'.1) hU'.2.word hN'.2.word
  have hown' : s'.vm.findClass own = some m.cls := by rw [hvm]; exact hown
  have hins : (Cond.instantiable cls 6).before args s' = true := h _ (by simp [Bundle.ownAtoms0])
  obtain ⟨vm₁, cX, kX, hfX, hkX, -, -, X₁, st1⟩ := Y.newCold hexec (own := own) (C := cls) (index := ik) (n := 6) hown' hk' hins hini'
    (g := F0 m pc ls rest) rfl (by rw [hb]; exact d0) (Nat.le_refl _) (Nat.le_refl _)
  generalize hT1 : (T.setVm vm₁).pushCell { cls := cX, slots := kX.instanceTypes.map defaultValue, vm := .none } = T1 at X₁ st1
  have hcat : (Value.ref T.heap.size).category = 1 := rfl
  have hcellA : T1.heap[T.heap.size]? = some (freshCell cX kX) := by rw [← hT1]; exact State.heap_pushCell_size _ _
  have d3' : decode c.code (pc + 3) = .ok (.dup, 1) := by rw [hb]; exact d3
  obtain ⟨U, hsteps, hrun, hend, hW, hsame, ce, hce, hO⟩ := X₁.ctorThrow0 hexec htr (own := own) (cls := cls) (names := names) (ic := ic) hown' hcls hnames h (fun x hx => nomatch hx) hfX hkX hcellA (by rw [hhp, hT]; exact Nat.le_refl _)
    (g := { method := m, pc := pc + 4, locals := ls, stack := .ref T.heap.size :: .ref T.heap.size :: rest, locked := none }) rfl hsize rfl rfl (rest := rest) rfl
    (by rw [hb]; exact d4) (by rw [hb]; exact d7) hout hRframes (by simp only [List.map_cons, List.sum_cons, hcat]; omega) hlocks
  obtain ⟨f1, f2⟩ := vx_frame hsame
  rw [hhp] at f1 f2
  have hWs : s.WarmedH U.vm := State.WarmedH.trans hW0 hW
  have hcl : s.vm.findClass cls = some ce.cls := by
    have h9 := hO.cls
    rw [hvm] at h9
    exact h9
  have hall : s.sameButNew ({ U with vm := s.vm } : State) locs mc ms := by
    subst hA
    obtain ⟨e1, e2⟩ := hsame
    rw [State.setFrames_setFrames] at e1
    have h2 : (T.setVm s.vm).sameButNew ({ U with vm := s.vm } : State) [] (0 + 1) (0 + 6) := ⟨e1, e2⟩
    have h3 := X.same.trans h2
    rw [List.append_nil] at h3
    exact h3.mono hc hs
  refine ⟨U, ?_, .threw T.heap.size, hrun, hend, Or.inr ⟨T.heap.size, rfl, cls, ce, locs, hx U hWs.alike f1 (fun q hq => f2 q hq (fun z hz => nomatch hz)), hce, hO.vm, hcl, hWs, hall, hf⟩⟩
  refine st1 _ ?_
  show Steps p.tables e below (T1.setTop { method := m, pc := pc + 3, locals := ls, stack := .ref T.heap.size :: rest, locked := none }) _
  jvm_step X₁.here [X₁.here.top, hexec, d3', Value.category]
  exact hsteps
/-- 'throw new E("text")': new; dup; ldc; invokespecial; athrow -/
theorem vx_throwS {cc : ByteArray} {pc : Nat} (hexec : p.tables.exec = Jvm.exec) (hb : c.code = cc) (hl : l.stackTraces = false) {own cls text : String} {names : List String} {ik is ic mc ms sa : Nat} {A : Nat → Prop}
    (hown : s.vm.findClass own = some m.cls) (hcls : Bundle.fit cls = true) (hnames : ∀ n ∈ names, Bundle.fit n = true)
    (hk : (Cond.classLink own ik cls).before args s = true) (hini : (Cond.initialized cls).before args s = true) (hstr : vk_R own is text sa s) (hat : ∀ w ∈ vx_atS own ic cls names, w.before args s = true)
    (hgood : ∀ w ∈ Cond.classLink own ik cls :: Cond.initialized cls :: vx_atS own ic cls names, vx_ot w = true)
    (hU : vx_Zq Bundle.tN "UNASSIGNED_STACK" Bundle.steD A s s.heap) (hN : vx_Zq Bundle.tN "SUPPRESSED_SENTINEL" Bundle.listD A s s.heap) (hS : va_S A s.heap H locs) (hsize : ls.size = c.maxLocals)
    (d0 : decode cc pc = .ok (.new ik, 3)) (d3 : decode cc (pc + 3) = .ok (.dup, 1)) (d4 : decode cc (pc + 4) = .ok (.ldc is, 2)) (d6 : decode cc (pc + 6) = .ok (.invokespecial ic, 3)) (d9 : decode cc (pc + 9) = .ok (.athrow, 1))
    (hout : ∀ x ∈ c.exceptionTable.toList, covers x (pc + 9) = false)
    (hRframes : names.length + 3 < R.frames) (hRlocals : (rest.map fun v => v.category).sum + (13 * (names.length + 1) + 43) ≤ R.locals) (hRcells : cells + 1 ≤ R.cells) (hRslots : slots + 6 ≤ R.slots) (hlocks : meth.locks = false)
    (hx : ∀ t : State, s.vm.Alike t.vm → H.size ≤ t.heap.size → (∀ q : Nat, q < H.size → t.heap[q]? = H[q]?) → XC cls s t)
    (hf : ∀ z ∈ locs, free z.base) (hc : cells + 1 ≤ mc) (hs : slots + 6 ≤ ms) :
    W p l e R s m args below meth c H locs cells slots (vx_MQ below Qc XC args s mc ms free) (F0 m pc ls rest) := by
  intro T hT X
  have htr : e.platform.stackTraces = false := (show e.platform.stackTraces = l.stackTraces by rw [X.admits.platform]).trans hl
  have Y := vx_rebase X (R' := { frames := R.frames, locals := R.locals, cells := 1, slots := 6 }) (Nat.le_refl _) (Nat.le_refl _) hRcells hRslots
  obtain ⟨s', hA⟩ : ∃ z, z = (T.setVm s.vm).setFrames (.invoking m args :: below) := ⟨_, rfl⟩
  rw [← hA] at Y
  have hvm : s'.vm = s.vm := by rw [hA]; rfl
  have hhp : s'.heap = H := by rw [hA]; exact hT
  have hW0 : s.WarmedH s'.vm := by rw [hvm]; exact State.WarmedH.refl s
  have hat' : ∀ w ∈ vx_atS own ic cls names, w.before args s' = true := fun w hw => vx_ot_at hW0 hvm.symm (hgood w (List.mem_cons_of_mem _ (List.mem_cons_of_mem _ hw))) (hat w hw)
  have hk' : (Cond.classLink own ik cls).before args s' = true := vx_ot_at hW0 hvm.symm (hgood _ List.mem_cons_self) hk
  have hini' : (Cond.initialized cls).before args s' = true := vx_ot_at hW0 hvm.symm (hgood _ (List.mem_cons_of_mem _ List.mem_cons_self)) hini
  have hU' : vx_Zq Bundle.tN "UNASSIGNED_STACK" Bundle.steD A s' s'.heap := by rw [hhp]; exact vx_Zq.moved hW0.alike (hU.kept hS.2.1)
  have hN' : vx_Zq Bundle.tN "SUPPRESSED_SENTINEL" Bundle.listD A s' s'.heap := by rw [hhp]; exact vx_Zq.moved hW0.alike (hN.kept hS.2.1)
  have h : ∀ w ∈ Bundle.ownAtoms own ic cls names, w.before args s' = true := vx_own hat' (vx_isRefq hU'.1) (vx_isRefq hN'.1) hU'.2.word hN'.2.word
  have hown' : s'.vm.findClass own = some m.cls := by rw [hvm]; exact hown
  have hins : (Cond.instantiable cls 6).before args s' = true := h _ (by simp [Bundle.ownAtoms])
  obtain ⟨vm₁, cX, kX, hfX, hkX, -, -, X₁, st1⟩ := Y.newCold hexec (own := own) (C := cls) (index := ik) (n := 6) hown' hk' hins hini'
    (g := F0 m pc ls rest) rfl (by rw [hb]; exact d0) (Nat.le_refl _) (Nat.le_refl _)
  generalize hT1 : (T.setVm vm₁).pushCell { cls := cX, slots := kX.instanceTypes.map defaultValue, vm := .none } = T1 at X₁ st1
  have hcat : (Value.ref T.heap.size).category = 1 := rfl
  have hcellA : T1.heap[T.heap.size]? = some (freshCell cX kX) := by rw [← hT1]; exact State.heap_pushCell_size _ _
  have d3' : decode c.code (pc + 3) = .ok (.dup, 1) := by rw [hb]; exact d3
  have d4' : decode c.code (pc + 4) = .ok (.ldc is, 2) := by rw [hb]; exact d4
  have hstr' : vk_R own is text sa s' := vk_R.warm hW0 hstr
  obtain ⟨U, hsteps, hrun, hend, hW, hsame, ce, hce, hO⟩ := X₁.ctorThrowS hexec htr (own := own) (cls := cls) (names := names) (ic := ic) hown' hcls hnames h (fun x hx => nomatch hx) hfX hkX hcellA (by rw [hhp, hT]; exact Nat.le_refl _) (msg := .ref sa) rfl
    (g := { method := m, pc := pc + 6, locals := ls, stack := .ref sa :: .ref T.heap.size :: .ref T.heap.size :: rest, locked := none }) rfl hsize rfl rfl (rest := rest) rfl
    (by rw [hb]; exact d6) (by rw [hb]; exact d9) hout hRframes (by simp only [List.map_cons, List.sum_cons, hcat]; omega) hlocks
  obtain ⟨f1, f2⟩ := vx_frame hsame
  rw [hhp] at f1 f2
  have hWs : s.WarmedH U.vm := State.WarmedH.trans hW0 hW
  have hcl : s.vm.findClass cls = some ce.cls := by
    have h9 := hO.cls
    rw [hvm] at h9
    exact h9
  have hall : s.sameButNew ({ U with vm := s.vm } : State) locs mc ms := by
    subst hA
    obtain ⟨e1, e2⟩ := hsame
    rw [State.setFrames_setFrames] at e1
    have h2 : (T.setVm s.vm).sameButNew ({ U with vm := s.vm } : State) [] (0 + 1) (0 + 6) := ⟨e1, e2⟩
    have h3 := X.same.trans h2
    rw [List.append_nil] at h3
    exact h3.mono hc hs
  refine ⟨U, ?_, .threw T.heap.size, hrun, hend, Or.inr ⟨T.heap.size, rfl, cls, ce, locs, hx U hWs.alike f1 (fun q hq => f2 q hq (fun z hz => nomatch hz)), hce, hO.vm, hcl, hWs, hall, hf⟩⟩
  refine st1 _ ?_
  show Steps p.tables e below (T1.setTop { method := m, pc := pc + 3, locals := ls, stack := .ref T.heap.size :: rest, locked := none }) _
  jvm_step X₁.here [X₁.here.top, hexec, d3', Value.category]
  exact X₁.ldcString hexec (own := own) (text := text) (index := is) (a := sa) hown' hstr'.1 hstr'.2
    (g := { method := m, pc := pc + 4, locals := ls, stack := .ref T.heap.size :: .ref T.heap.size :: rest, locked := none }) rfl d4' _ hsteps
/-- 'throw new E("text")', the text by a wide index -/
theorem vx_throwSW {cc : ByteArray} {pc : Nat} (hexec : p.tables.exec = Jvm.exec) (hb : c.code = cc) (hl : l.stackTraces = false) {own cls text : String} {names : List String} {ik is ic mc ms sa : Nat} {A : Nat → Prop}
    (hown : s.vm.findClass own = some m.cls) (hcls : Bundle.fit cls = true) (hnames : ∀ n ∈ names, Bundle.fit n = true)
    (hk : (Cond.classLink own ik cls).before args s = true) (hini : (Cond.initialized cls).before args s = true) (hstr : vk_R own is text sa s) (hat : ∀ w ∈ vx_atS own ic cls names, w.before args s = true)
    (hgood : ∀ w ∈ Cond.classLink own ik cls :: Cond.initialized cls :: vx_atS own ic cls names, vx_ot w = true)
    (hU : vx_Zq Bundle.tN "UNASSIGNED_STACK" Bundle.steD A s s.heap) (hN : vx_Zq Bundle.tN "SUPPRESSED_SENTINEL" Bundle.listD A s s.heap) (hS : va_S A s.heap H locs) (hsize : ls.size = c.maxLocals)
    (d0 : decode cc pc = .ok (.new ik, 3)) (d3 : decode cc (pc + 3) = .ok (.dup, 1)) (d4 : decode cc (pc + 4) = .ok (.ldc_w is, 3)) (d7 : decode cc (pc + 7) = .ok (.invokespecial ic, 3)) (d10 : decode cc (pc + 10) = .ok (.athrow, 1))
    (hout : ∀ x ∈ c.exceptionTable.toList, covers x (pc + 10) = false)
    (hRframes : names.length + 3 < R.frames) (hRlocals : (rest.map fun v => v.category).sum + (13 * (names.length + 1) + 43) ≤ R.locals) (hRcells : cells + 1 ≤ R.cells) (hRslots : slots + 6 ≤ R.slots) (hlocks : meth.locks = false)
    (hx : ∀ t : State, s.vm.Alike t.vm → H.size ≤ t.heap.size → (∀ q : Nat, q < H.size → t.heap[q]? = H[q]?) → XC cls s t)
    (hf : ∀ z ∈ locs, free z.base) (hc : cells + 1 ≤ mc) (hs : slots + 6 ≤ ms) :
    W p l e R s m args below meth c H locs cells slots (vx_MQ below Qc XC args s mc ms free) (F0 m pc ls rest) := by
  intro T hT X
  have htr : e.platform.stackTraces = false := (show e.platform.stackTraces = l.stackTraces by rw [X.admits.platform]).trans hl
  have Y := vx_rebase X (R' := { frames := R.frames, locals := R.locals, cells := 1, slots := 6 }) (Nat.le_refl _) (Nat.le_refl _) hRcells hRslots
  obtain ⟨s', hA⟩ : ∃ z, z = (T.setVm s.vm).setFrames (.invoking m args :: below) := ⟨_, rfl⟩
  rw [← hA] at Y
  have hvm : s'.vm = s.vm := by rw [hA]; rfl
  have hhp : s'.heap = H := by rw [hA]; exact hT
  have hW0 : s.WarmedH s'.vm := by rw [hvm]; exact State.WarmedH.refl s
  have hat' : ∀ w ∈ vx_atS own ic cls names, w.before args s' = true := fun w hw => vx_ot_at hW0 hvm.symm (hgood w (List.mem_cons_of_mem _ (List.mem_cons_of_mem _ hw))) (hat w hw)
  have hk' : (Cond.classLink own ik cls).before args s' = true := vx_ot_at hW0 hvm.symm (hgood _ List.mem_cons_self) hk
  have hini' : (Cond.initialized cls).before args s' = true := vx_ot_at hW0 hvm.symm (hgood _ (List.mem_cons_of_mem _ List.mem_cons_self)) hini
  have hU' : vx_Zq Bundle.tN "UNASSIGNED_STACK" Bundle.steD A s' s'.heap := by rw [hhp]; exact vx_Zq.moved hW0.alike (hU.kept hS.2.1)
  have hN' : vx_Zq Bundle.tN "SUPPRESSED_SENTINEL" Bundle.listD A s' s'.heap := by rw [hhp]; exact vx_Zq.moved hW0.alike (hN.kept hS.2.1)
  have h : ∀ w ∈ Bundle.ownAtoms own ic cls names, w.before args s' = true := vx_own hat' (vx_isRefq hU'.1) (vx_isRefq hN'.1) hU'.2.word hN'.2.word
  have hown' : s'.vm.findClass own = some m.cls := by rw [hvm]; exact hown
  have hins : (Cond.instantiable cls 6).before args s' = true := h _ (by simp [Bundle.ownAtoms])
  obtain ⟨vm₁, cX, kX, hfX, hkX, -, -, X₁, st1⟩ := Y.newCold hexec (own := own) (C := cls) (index := ik) (n := 6) hown' hk' hins hini'
    (g := F0 m pc ls rest) rfl (by rw [hb]; exact d0) (Nat.le_refl _) (Nat.le_refl _)
  generalize hT1 : (T.setVm vm₁).pushCell { cls := cX, slots := kX.instanceTypes.map defaultValue, vm := .none } = T1 at X₁ st1
  have hcat : (Value.ref T.heap.size).category = 1 := rfl
  have hcellA : T1.heap[T.heap.size]? = some (freshCell cX kX) := by rw [← hT1]; exact State.heap_pushCell_size _ _
  have d3' : decode c.code (pc + 3) = .ok (.dup, 1) := by rw [hb]; exact d3
  have d4' : decode c.code (pc + 4) = .ok (.ldc_w is, 3) := by rw [hb]; exact d4
  have hstr' : vk_R own is text sa s' := vk_R.warm hW0 hstr
  obtain ⟨U, hsteps, hrun, hend, hW, hsame, ce, hce, hO⟩ := X₁.ctorThrowS hexec htr (own := own) (cls := cls) (names := names) (ic := ic) hown' hcls hnames h (fun x hx => nomatch hx) hfX hkX hcellA (by rw [hhp, hT]; exact Nat.le_refl _) (msg := .ref sa) rfl
    (g := { method := m, pc := pc + 7, locals := ls, stack := .ref sa :: .ref T.heap.size :: .ref T.heap.size :: rest, locked := none }) rfl hsize rfl rfl (rest := rest) rfl
    (by rw [hb]; exact d7) (by rw [hb]; exact d10) hout hRframes (by simp only [List.map_cons, List.sum_cons, hcat]; omega) hlocks
  obtain ⟨f1, f2⟩ := vx_frame hsame
  rw [hhp] at f1 f2
  have hWs : s.WarmedH U.vm := State.WarmedH.trans hW0 hW
  have hcl : s.vm.findClass cls = some ce.cls := by
    have h9 := hO.cls
    rw [hvm] at h9
    exact h9
  have hall : s.sameButNew ({ U with vm := s.vm } : State) locs mc ms := by
    subst hA
    obtain ⟨e1, e2⟩ := hsame
    rw [State.setFrames_setFrames] at e1
    have h2 : (T.setVm s.vm).sameButNew ({ U with vm := s.vm } : State) [] (0 + 1) (0 + 6) := ⟨e1, e2⟩
    have h3 := X.same.trans h2
    rw [List.append_nil] at h3
    exact h3.mono hc hs
  refine ⟨U, ?_, .threw T.heap.size, hrun, hend, Or.inr ⟨T.heap.size, rfl, cls, ce, locs, hx U hWs.alike f1 (fun q hq => f2 q hq (fun z hz => nomatch hz)), hce, hO.vm, hcl, hWs, hall, hf⟩⟩
  refine st1 _ ?_
  show Steps p.tables e below (T1.setTop { method := m, pc := pc + 3, locals := ls, stack := .ref T.heap.size :: rest, locked := none }) _
  jvm_step X₁.here [X₁.here.top, hexec, d3', Value.category]
  exact X₁.ldcStringW hexec (own := own) (text := text) (index := is) (a := sa) hown' hstr'.1 hstr'.2
    (g := { method := m, pc := pc + 4, locals := ls, stack := .ref T.heap.size :: .ref T.heap.size :: rest, locked := none }) rfl d4' _ hsteps
end Ends
section Bodies
variable {l : Launch}
theorem vx_ofW {y : MethodName} {ws ws' : List Cond} {rm : Room} {Pc : Array Value → State → Prop} {Qc : Array Value → State → Outcome → State → Prop} {XC : String → State → State → Prop} {mc ms : Nat} {free : Addr → Prop} {cc : ByteArray} {maxL : Nat} {ret : Option FieldType}
    (hy : plainName y.cls = true) (hw : ws = Cond.code y cc maxL ret :: ws')
    (body : ∀ p e s m args below meth c s₁, BodyLoose p l y (headSpec ws rm) cc maxL ret e s m args below meth c s₁ → c.maxLocals = maxL → (∀ x ∈ c.exceptionTable.toList, False) → Pc args s →
      W p l e (headSpec ws rm).room s m args below meth c s.heap [] 0 0 (vx_MQ below Qc XC args s mc ms free) (entryFrame m args maxL)) : vx_Met l y ws rm Pc Qc XC mc ms free := by
  refine MetFree.of_bodyS (code := cc) (maxLocals := maxL) (ret := ret) hy ?_ ?_
  · intro args s m h hn
    obtain ⟨meth, c, h1, h2, h3, h4, h5, h6, -, -⟩ := Cond.code_spec hn (atoms_spec (ws := ws) h _ (by rw [hw]; exact List.mem_cons_self))
    exact ⟨meth, c, h1, h2, h3, h4, h5, h6⟩
  · intro p e s m args below meth c s₁ B hml hP _
    have hh0 : s₁.heap = s.heap := by rw [B.state]; rfl
    have ht : ∀ x ∈ c.exceptionTable.toList, False := by
      obtain ⟨meth9, c9, h1, h2, -, -, -, -, h7, -⟩ := Cond.code_spec B.named (atoms_spec (ws := ws) B.pre _ (by rw [hw]; exact List.mem_cons_self))
      cases Option.some.inj (h1.symm.trans B.method)
      cases Option.some.inj (h2.symm.trans (Stand.of_body B).code)
      intro x hx
      rw [Array.isEmpty_iff.mp h7] at hx
      cases hx
    obtain ⟨t, a1, o, b1, b2, b3⟩ := body p e s m args below meth c s₁ B hml ht hP s₁ hh0 (Stand.of_body B)
    exact ⟨t, o, a1, b1, b2, b3⟩
/-- the table of a body with handlers -/
theorem vx_table {p : Program} {x y : MethodName} {S : Spec} {cc bytes : ByteArray} {maxL maxL' : Nat} {ret ret' : Option FieldType} {e : Env} {s s₁ : State} {m : MethodId} {args : Array Value} {below : List Frame} {meth : Method} {c : Code} {hh : List (Nat × Nat × Nat × Nat)}
    (B : BodyLoose p l y S cc maxL ret e s m args below meth c s₁) (h : (Cond.codeWith y bytes maxL' ret' hh).before args s = true) : c.exceptionTable.toList = tableOf hh := by
  obtain ⟨m9, meth9, c9, hn9, h1, h2, -, -, h6, -⟩ := Cond.codeWith_spec h
  cases Option.some.inj (hn9.symm.trans B.named)
  cases Option.some.inj (h1.symm.trans B.method)
  cases Option.some.inj (h2.symm.trans (Stand.of_body B).code)
  rw [← h6, table_eq]
end Bodies
end VXA
/-! ===== END ===== -/
/-! ===== BEGIN a static call of a method with an exception table ===== -/
section VXS
variable {p : Program} {l : Launch} {e : Env} {R : Room} {s : State} {m : MethodId} {args : Array Value} {below : List Frame} {meth : Method} {c : Code} {T : State} {H : Heap} {locs : List Loc} {cells slots : Nat}
abbrev vx_CSW (R : Room) (s : State) (args : Array Value) (own : String) (index : Nat) (y : MethodName) (bytes : ByteArray) (maxL : Nat) (ret : Option FieldType) (hh : List (Nat × Nat × Nat × Nat)) (ws : List Cond) (rm : Room) (mc ms n : Nat) : Prop :=
  (rm.cells = mc ∧ rm.slots = ms ∧ rm.frames + 1 ≤ R.frames ∧ 8 + (maxL + 11) + rm.locals ≤ R.locals ∧ (∀ w ∈ ws, ∀ (a' : Array Value) (U : State), s.WarmedH U.vm → w.before a' U = true) ∧ Cond.codeWith y bytes maxL ret hh ∈ ws) ∧
  (Cond.codeWith y bytes maxL ret hh).before args s = true ∧ (Cond.initialized y.cls).before args s = true ∧ (y.cls ≠ "java/lang/invoke/MethodHandle" ∧ y.cls ≠ "java/lang/invoke/VarHandle") ∧
  (∀ sig, parseMethodDescriptor y.desc = some sig → n = sig.parameters.length) ∧ (Cond.methodLink own index y).before args s = true ∧ (Cond.static y).before args s = true
theorem vx_cwSW {own : String} {index maxL mc ms : Nat} {y : MethodName} {bytes : ByteArray} {ret : Option FieldType} {hh : List (Nat × Nat × Nat × Nat)} {Ts ws ws' : List Cond} {rm : Room} (n : Nat) (ht : ∀ w ∈ Ts, w.before args s = true) (hT : GoodIn Ts (va_wsS own index y ws)) (hw : ws = Cond.codeWith y bytes maxL ret hh :: ws') (hrc : rm.cells = mc) (hrs : rm.slots = ms)
    (hd : y.cls ≠ "java/lang/invoke/MethodHandle" ∧ y.cls ≠ "java/lang/invoke/VarHandle" ∧ (parseMethodDescriptor y.desc).map (fun d => d.parameters.length) = some n) (hR : rm.frames + 1 ≤ R.frames ∧ 8 + (maxL + 11) + rm.locals ≤ R.locals) :
    vx_CSW R s args own index y bytes maxL ret hh ws rm mc ms n := by
  have ok : ∀ w ∈ va_wsS own index y ws, w.before args s = true := fun w h => ht w (hT w h).1
  have hG : GoodIn Ts ws := fun w h => hT w (by unfold va_wsS; exact List.mem_append_right _ h)
  have hc : Cond.codeWith y bytes maxL ret hh ∈ ws := by rw [hw]; exact List.mem_cons_self
  refine ⟨⟨hrc, hrs, hR.1, hR.2, pay_in ht hG, hc⟩, ht _ (hG _ hc).1, ok _ (by simp [va_wsS]), ⟨hd.1, hd.2.1⟩, fun sig h => ?_, ok _ (by simp [va_wsS]), ok _ (by simp [va_wsS])⟩
  have h2 := hd.2.2
  rw [h] at h2
  exact (Option.some.inj h2).symm
theorem vx_callSW (X : Stand p l e R s m args below meth c T locs cells slots) (hexec : p.tables.exec = Jvm.exec) {own : String} {index : Nat} {y : MethodName} {bytes : ByteArray} {maxL : Nat} {ret : Option FieldType} {hh : List (Nat × Nat × Nat × Nat)}
    (hown : s.vm.findClass own = some m.cls) (hlink : (Cond.methodLink own index y).before args s = true) (hstat : (Cond.static y).before args s = true) (hinit : (Cond.initialized y.cls).before args s = true)
    (hcode : (Cond.codeWith y bytes maxL ret hh).before args s = true) (hy : y.cls ≠ "java/lang/invoke/MethodHandle" ∧ y.cls ≠ "java/lang/invoke/VarHandle")
    {W9 : Nat} {Pre : Pt → Array Value → Prop} {Post : Pt → Array Value → Option Value → Pt → Prop} (hK : Back l R p e below s args y 3 W9 Pre Post)
    {g : JFrame} (hg : g.method = m) (hsize : g.locals.size = c.maxLocals) {argsL rest : List Value} (hlen : ∀ sig, parseMethodDescriptor y.desc = some sig → argsL.length = sig.parameters.length)
    (hstack : g.stack = argsL.reverse ++ rest) (hW : 2 * g.monitorRoom + (rest.map fun v => v.category).sum ≤ W9) (hdg : decode c.code g.pc = .ok (.invokestatic index, 3))
    (hpre : ∀ vm₁, s.WarmedH vm₁ → Pre ⟨T.setVm vm₁, locs, cells, slots⟩ argsL.toArray) :
    ∃ (v : Option Value) (vm₁ : Vm) (B : Pt), s.WarmedH vm₁ ∧ Stand p l e R s m args below meth c B.U B.locs B.cells B.slots ∧ Post ⟨T.setVm vm₁, locs, cells, slots⟩ argsL.toArray v B ∧
      ∀ target, Steps p.tables e below (B.U.setTop { g with pc := g.pc + 3, stack := v.toList ++ rest }) target → Steps p.tables e below (T.setTop g) target := by
  obtain ⟨mk, methM, cM, hnamed, hmethM, -, -, -, -, -, -, hsigM⟩ := Cond.codeWith_spec hcode
  have hstatic : methM.isStatic = true := Cond.static_spec hnamed hmethM hstat
  obtain ⟨kP, hkP, -⟩ := className_of_methodNamed hnamed
  have hinitP : kP.init = .initialized := Cond.initialized_spec (findClass_of_methodNamed hnamed) hkP hinit
  obtain ⟨vm₁, X₁, hstep₁⟩ := X.invokestatic hexec hown hlink hnamed hmethM hstatic hkP hinitP hy (g := g) hg (argsL := argsL) (rest := rest) (hlen _ hsigM) hstack hdg
  obtain ⟨v, B, X', hpost, hsteps⟩ := hK m meth c ⟨T.setVm vm₁, locs, cells, slots⟩ { g with stack := rest } (.invokestatic index) mk argsL.toArray X₁ hg hsize hdg hW (X₁.named hnamed) (hpre vm₁ X₁.warmed)
  exact ⟨v, vm₁, B, X₁.warmed, X', hpost, fun target h => hstep₁ _ fun acts => by rw [doInvoke_state]; exact hsteps.trans h⟩
theorem vx_runSW {y : MethodName} {bytes cc : ByteArray} {maxL nL mc ms n index : Nat} {ret : Option FieldType} {hh : List (Nat × Nat × Nat × Nat)} {ws : List Cond} {rm : Room} {Pc : Array Value → State → Prop} {Qc : Array Value → State → Outcome → State → Prop} {free : Addr → Prop} {Ts : List Cond} {own : String} {As rest : List Value} {g : JFrame}
    (S : CallFix p m c cc nL s args Ts own) (hM : Met l y ws rm Pc Qc mc ms free) (cw : vx_CSW R s args own index y bytes maxL ret hh ws rm mc ms n) (hp : PreS s H Pc As)
    (hg : g.method = m) (hn : As.length = n) (hsize : g.locals.size = nL) (hstack : g.stack = As.reverse ++ rest) (hW : 2 * g.monitorRoom + (rest.map fun v => v.category).sum ≤ 8) (hdg : decode cc g.pc = .ok (.invokestatic index, 3)) (hf : cells + mc ≤ R.cells ∧ slots + ms ≤ R.slots) :
    va_Run p l e R s m args below meth c H locs cells slots mc ms g rest (Qc As.toArray) (free) := by
  obtain ⟨⟨hrc, hrs, hfr, hlo, hws, hcw⟩, hcode, hini, hy, hlen, hl, hstt⟩ := cw
  have hK : Back l R p e below s args y 3 8 (PreOf R mc ms Pc) (PostOf Qc mc ms free) := va_backW (hh := hh) (bytes := bytes) (maxL := maxL) (ret := ret) hM hp.1 hrc hrs hfr hlo hws hcw (fun a' U hW => word_at hW (Or.inl (by first | rfl | simp [Cond.onTables, Cond.keeps, Cond.steady])) hini)
  obtain ⟨hx, hb, hml, ho, -⟩ := S
  intro T hT X
  obtain ⟨v, vm₁, ⟨U', l2, c2, s2⟩, hW₁, X', ⟨g', mk, t, L, e1, e2, hq, h1, hL, h2, h3⟩, st⟩ := vx_callSW X hx (hh := hh) (bytes := bytes) (maxL := maxL) (ret := ret) ho hl hstt hini hcode hy hK hg (hsize.trans hml.symm) (argsL := As) (rest := rest) (fun sig h => hn.trans (hlen sig h)) hstack hW (by rw [hb]; exact hdg)
    (fun vm₁ hW₁ => ⟨hf.1, hf.2, hp.2 (T.setVm vm₁) hT hW₁⟩)
  dsimp only [Pt.U, Pt.locs, Pt.cells, Pt.slots] at X' e1 e2 h1 h2 h3 st
  subst h1; subst h2; subst h3
  exact ⟨v, (T.setVm vm₁).calling g' mk As.toArray, t, U', L, hT, X', hL, e1, e2, hq, st⟩
/-- not caught here, past rows that name other classes: it goes on to the caller -/
theorem vx_outP {p : Program} {l : Launch} {e : Env} {R : Room} {s : State} {m : MethodId} {args : Array Value} {below : List Frame} {meth : Method} {c : Code} {H : Heap} {locs : List Loc} {cells slots : Nat} {free : Addr → Prop} {ls : Array Slot} {rest : List Value} {Qc : Array Value → State → Outcome → State → Prop} {XC : String → State → State → Prop}
    {pc : Nat} {own E : String} {ce : Cell} {q : Addr} {mc ms : Nat} (hown : s.vm.findClass own = some m.cls) (hlocks : meth.locks = false)
    (hpass : ∀ z ∈ c.exceptionTable.toList, covers z pc = false ∨ (z.catchType ≠ 0 ∧ ∃ nm : String, (Cond.classLink own z.catchType nm).before args s = true ∧ va_Nc E nm s)) (hcell : H[q]? = some ce) (hv : ce.vm = .none) (hcl : s.vm.findClass E = some ce.cls)
    (hx : ∀ t : State, t.heap = H → s.vm.Alike t.vm → XC E s t) (hf : ∀ z ∈ locs, free z.base) (hc : cells ≤ mc) (hs : slots ≤ ms) :
    vx_W p l e R s m args below meth c H locs cells slots (vx_MQ below Qc XC args s mc ms free) (F0 m pc ls rest) q := by
  intro T hT X
  have hpl : e.platform.magicAccessors = ({} : Platform).magicAccessors := by rw [X.admits.platform]
  obtain ⟨vm', hW', X', st⟩ := X.outThrough hlocks q (g := F0 m pc ls rest) rfl rfl rfl (cell := ce) (by rw [hT]; exact hcell) (by rw [hv]; rfl)
    (by obtain ⟨k9, h9, -⟩ := Vm.findClass_spec hcl; exact ⟨k9, h9⟩) (fun z hz => by
      rcases hpass z hz with h | ⟨hz0, nm, hl1, hn1⟩
      · exact Or.inl h
      · obtain ⟨c6, hc6, hcl6⟩ := Cond.classLink_spec hown hl1 e.platform hpl
        obtain ⟨a8, b8, h1, h2, h3⟩ := hn1
        cases Option.some.inj (h1.symm.trans hcl)
        cases Option.some.inj (h2.symm.trans hc6)
        exact Or.inr ⟨hz0, _, hcl6, h3⟩)
  obtain ⟨g₀, hfr⟩ := X'.frames_eq
  have hcell9 : ((T.setVm vm').setFrames (.throwing q :: below)).heap[q]? = some ce := by
    show T.heap[q]? = some ce
    rw [hT]; exact hcell
  have hend : Ended ((T.setVm vm').setFrames (.throwing q :: below)) below (.threw q) := State.frames_setFrames _ (State.cur_lt_of_frames hfr)
  refine ⟨(T.setVm vm').setFrames (.throwing q :: below), ?_, .threw q, X'.here.running, hend, Or.inr ⟨q, rfl, E, ce, locs, hx _ hT (X'.ends _).1.alike, hcell9, hv, hcl, (X'.ends _).1, (X'.ends _).2.mono hc hs, hf⟩⟩
  rw [X.pushThrowing_eq]
  exact st
/-- a thing of a world lies in the heap -/
theorem vx_lt {D : va_G} {cl : List vw_C} {ws : va_W} {H1 : Heap} (h : va_P D cl ws H1) {k : Nat} {q : Nat × va_E} (hk : ws[k]? = some q) : q.1 < H1.size := (h k q hk).lt
end VXS
/-! ===== END ===== -/
/-! ===== BEGIN methods with a table of their own: called by a name, returning or throwing ===== -/
section VXH
/-! vx_backW, vx_callVX, vx_callSX, vx_callVW, vx_runVW, vx_runVX, vx_runSX, vx_ofWH follow the same proofs as their sisters above (Free/Laws.lean, Shelf42/LK1.lean); vx_outP calls Shelf42/NT130.lean (outThrough). -/
section
variable {l : Launch} {R : Room} {p : Program} {e : Env} {below : List Frame} {s : State} {sargs : Array Value} {y : MethodName} {len W9 : Nat}
theorem vx_backW {ws : List Cond} {rm : Room} {Pc : Array Value → State → Prop} {Qc : Array Value → State → Outcome → State → Prop} {XC : String → State → State → Prop} {mc ms : Nat} {free : Addr → Prop} {bytes : ByteArray} {maxL : Nat} {ret : Option FieldType} {hh : List (Nat × Nat × Nat × Nat)}
    (hM : vx_Met l y ws rm Pc Qc XC mc ms free) (hblind : FrameBlind Pc) (hrc : rm.cells = mc) (hrs : rm.slots = ms)
    (hframes : rm.frames + 1 ≤ R.frames) (hlocals : W9 + (maxL + 11) + rm.locals ≤ R.locals)
    (hws : ∀ w ∈ ws, ∀ a' U, s.WarmedH U.vm → w.before a' U = true) (hcode : Cond.codeWith y bytes maxL ret hh ∈ ws) (hinit : ∀ a' U, s.WarmedH U.vm → (Cond.initialized y.cls).before a' U = true) :
    vx_Back l R p e below s sargs y len W9 (PreOf R mc ms Pc) (PostOf Qc mc ms free) (vx_Post XC mc ms free) := by
  intro m meth c A g ig mk a X hg hsize hdg hW hn hp
  have h1 : (headSpec ws rm).pre.before a A.U = true := atoms_intro fun w hw => hws w hw _ _ X.warmed
  have h2 : (Cond.codeWith y bytes maxL ret hh).before a A.U = true := hws _ hcode _ _ X.warmed
  have h3 : (Cond.initialized y.cls).before a A.U = true := hinit _ _ X.warmed
  have h4 : A.cells + (headSpec ws rm).room.cells ≤ R.cells := by rw [show (headSpec ws rm).room.cells = mc from hrc]; exact hp.1
  have h5 : A.slots + (headSpec ws rm).room.slots ≤ R.slots := by rw [show (headSpec ws rm).room.slots = ms from hrs]; exact hp.2.1
  have hPc : Pc a (A.U.calling g mk a) := hblind _ _ _ _ hp.2.2
  obtain ⟨U, Ls, c0, s0⟩ := A
  dsimp only [Pt.U, Pt.locs, Pt.cells, Pt.slots] at h1 h2 h3 h4 h5 X hn hPc ⊢
  obtain ⟨m9, methY, cY, hn9, hmY, hcY, -, hlY, -⟩ := Cond.codeWith_spec h2
  cases Option.some.inj (hn9.symm.trans hn)
  obtain ⟨kY, hkY, -⟩ := className_of_methodNamed hn
  have hinitY : kY.init = .initialized := Cond.initialized_spec (findClass_of_methodNamed hn) hkY h3
  have h : At U g.method c below := by rw [hg]; exact X.here
  have hlocals9 : W9 + (maxL + 11) + (headSpec ws rm).room.locals ≤ R.locals := hlocals
  have happ : (headSpec ws rm).appliesLoose y e.platform (U.calling g mk a) = true :=
    Spec.appliesLoose_calling (g := g) h hdg hn hkY hinitY
      (X.room_calling (g := g) (R' := (headSpec ws rm).room) hsize hmY hcY hframes (by rw [hlY]; omega) h4 h5) h1
  obtain ⟨mid, hmid⟩ := h.above
  have hfr : (U.setTop g).frames = (.java g :: mid) ++ below := by rw [State.frames_setTop' g h.top, hmid]; rfl
  obtain ⟨o, s₂, hsteps, -, hend, hq⟩ := Steps.callFree hM p X.admits X.cas X.clock (acts := []) hfr happ hPc trivial
  have hq' : vx_Q Qc XC mc ms free a (U.calling g mk a) o s₂ := hq
  rw [State.frames_setTop' g h.top] at hend
  obtain ⟨g₀, hg0⟩ := Option.isSome_iff_exists.mp h.top
  obtain ⟨r, hr⟩ := State.topJava?_eq_some.mp hg0
  have hr' : (({ U with heap := s₂.heap, slotsUsed := s₂.slotsUsed } : State).setVm s₂.vm).frames = .java g₀ :: r := hr
  rcases hq' with ⟨hqc, L, hfe, hL⟩ | ⟨q, rfl, E, ce, L, hx, hce, hcv, hcl, hW₂, hsm, hL⟩
  · obtain ⟨⟨v, rfl⟩, hW₂, e2, q2, q3, q4, q5, q6⟩ := id hfe
    have e3 : s₂ = ({ (U.calling g mk a).setFrames s₂.frames with heap := s₂.heap, slotsUsed := s₂.slotsUsed } : State).setVm s₂.vm := by
      have : s₂ = ({ s₂ with vm := (U.calling g mk a).vm } : State).setVm s₂.vm := rfl
      rw [e2] at this
      exact this
    obtain ⟨c₂, i₂, len₂, hc₂, hd₂, hf₂⟩ := hend
    have hW' : U.WarmedH s₂.vm := hW₂
    have hcc : c₂ = c := by
      have h1 : s₂.code? g.method = U.code? g.method := by
        rw [State.code?_eq, State.code?_eq, hW'.alike.method?]
      exact Option.some.inj (hc₂.symm.trans (h1.trans h.code))
    subst hcc
    have hlen : len₂ = len := by rw [hdg] at hd₂; cases hd₂; rfl
    subst hlen
    have hs₂ : s₂ = (({ U with heap := s₂.heap, slotsUsed := s₂.slotsUsed } : State).setVm s₂.vm).setTop { g with pc := g.pc + len₂, stack := v.toList ++ g.stack } := by
      refine e3.trans ?_
      rw [hf₂, State.calling_eq h.top, State.setFrames_setFrames, State.setTop_of_frames _ hr', hr]
      rfl
    have hsame : U.sameButNew ({ U with heap := s₂.heap, slotsUsed := s₂.slotsUsed } : State) L mc ms := by
      refine ⟨?_, q2, q3, q4, q5, q6⟩
      obtain ⟨t, ht, -⟩ := State.frames_cons hr
      show ({ U with heap := s₂.heap, slotsUsed := s₂.slotsUsed } : State) = { U.setFrames U.frames with heap := s₂.heap, slotsUsed := s₂.slotsUsed }
      rw [State.setFrames_self ht]
    subst hg
    refine Or.inl ⟨v, ⟨(({ U with heap := s₂.heap, slotsUsed := s₂.slotsUsed } : State).setVm s₂.vm), Ls ++ L, c0 + mc, s0 + ms⟩,
      ⟨X.admits, X.cas, X.clock, X.frames, X.room, X.hears, X.method, X.code, (X.here.setHeapUsed s₂.heap s₂.slotsUsed).setVm hW'.alike, X.tail, State.WarmedH.trans X.warmed hW', X.limits, X.bytes, X.same.trans (hsame.setVm s.vm)⟩,
      ⟨g, mk, s₂, L, rfl, rfl, hqc, rfl, hL, rfl, rfl⟩, ?_⟩
    show Steps p.tables e below _ ((({ U with heap := s₂.heap, slotsUsed := s₂.slotsUsed } : State).setVm s₂.vm).setTop { g with pc := g.pc + len₂, stack := v.toList ++ g.stack })
    rw [← hs₂]
    exact hsteps
  · obtain ⟨e2, q2, q3, q4, q5, q6⟩ := id hsm
    have e3 : s₂ = ({ (U.calling g mk a).setFrames s₂.frames with heap := s₂.heap, slotsUsed := s₂.slotsUsed } : State).setVm s₂.vm := by
      have : s₂ = ({ s₂ with vm := (U.calling g mk a).vm } : State).setVm s₂.vm := rfl
      rw [e2] at this
      exact this
    have hf₂ : s₂.frames = .throwing q :: .java g :: U.frames.tail := hend
    have hW' : U.WarmedH s₂.vm := hW₂
    have hs₂ : s₂ = ((({ U with heap := s₂.heap, slotsUsed := s₂.slotsUsed } : State).setVm s₂.vm).setTop g).pushFrame (.throwing q) := by
      refine e3.trans ?_
      rw [hf₂, State.calling_eq h.top, State.setFrames_setFrames, State.pushFrame, State.frames_setTop _ hr', State.setTop_of_frames _ hr', State.setFrames_setFrames, hr]
      rfl
    have hsame : U.sameButNew ({ U with heap := s₂.heap, slotsUsed := s₂.slotsUsed } : State) L mc ms := by
      refine ⟨?_, q2, q3, q4, q5, q6⟩
      obtain ⟨t, ht, -⟩ := State.frames_cons hr
      show ({ U with heap := s₂.heap, slotsUsed := s₂.slotsUsed } : State) = { U.setFrames U.frames with heap := s₂.heap, slotsUsed := s₂.slotsUsed }
      rw [State.setFrames_self ht]
    subst hg
    refine Or.inr ⟨q, ⟨(({ U with heap := s₂.heap, slotsUsed := s₂.slotsUsed } : State).setVm s₂.vm), Ls ++ L, c0 + mc, s0 + ms⟩,
      ⟨X.admits, X.cas, X.clock, X.frames, X.room, X.hears, X.method, X.code, (X.here.setHeapUsed s₂.heap s₂.slotsUsed).setVm hW'.alike, X.tail, State.WarmedH.trans X.warmed hW', X.limits, X.bytes, X.same.trans (hsame.setVm s.vm)⟩,
      ⟨g, mk, s₂, L, E, ce, rfl, rfl, hx, hce, hcv, hcl, rfl, hL, rfl, rfl⟩, ?_⟩
    show Steps p.tables e below _ (((({ U with heap := s₂.heap, slotsUsed := s₂.slotsUsed } : State).setVm s₂.vm).setTop g).pushFrame (.throwing q))
    rw [← hs₂]
    exact hsteps
end
variable {p : Program} {l : Launch} {e : Env} {R : Room} {s : State} {m : MethodId} {args : Array Value} {below : List Frame} {meth : Method} {c : Code} {T : State} {H : Heap} {locs : List Loc} {cells slots : Nat}
theorem vx_callVX (X : Stand p l e R s m args below meth c T locs cells slots) (hexec : p.tables.exec = Jvm.exec) {own C : String} {index : Nat} {y : MethodName} {bytes : ByteArray} {maxL : Nat} {ret : Option FieldType} {hh : List (Nat × Nat × Nat × Nat)}
    (hown : s.vm.findClass own = some m.cls) (hlink : (Cond.methodLink own index y).before args s = true) (hinst : (Cond.instanceMethod y).before args s = true) (hsel : (Cond.selects C y y).before args s = true)
    (hcode : (Cond.codeWith y bytes maxL ret hh).before args s = true) (hy : y.cls ≠ "java/lang/invoke/MethodHandle" ∧ y.cls ≠ "java/lang/invoke/VarHandle")
    {W9 : Nat} {Pre : Pt → Array Value → Prop} {Post : Pt → Array Value → Option Value → Pt → Prop} {PostX : Pt → Array Value → Addr → Pt → Prop} (hK : vx_Back l R p e below s args y 3 W9 Pre Post PostX)
    {b : Addr} {cellB : Cell} (hcell : T.heap[b]? = some cellB) (hobj : cellB.vm.isStatics = false) (hcls : s.vm.findClass C = some cellB.cls)
    {g : JFrame} (hg : g.method = m) (hsize : g.locals.size = c.maxLocals) {argsL rest : List Value} (hlen : ∀ sig, parseMethodDescriptor y.desc = some sig → argsL.length = sig.parameters.length)
    (hstack : g.stack = argsL.reverse ++ .ref b :: rest) (hW : 2 * g.monitorRoom + (rest.map fun v => v.category).sum ≤ W9) (hdg : decode c.code g.pc = .ok (.invokevirtual index, 3))
    (hpre : ∀ vm₁, s.WarmedH vm₁ → Pre ⟨T.setVm vm₁, locs, cells, slots⟩ (Value.ref b :: argsL).toArray) :
    (∃ (v : Option Value) (vm₁ : Vm) (B : Pt), s.WarmedH vm₁ ∧ Stand p l e R s m args below meth c B.U B.locs B.cells B.slots ∧ Post ⟨T.setVm vm₁, locs, cells, slots⟩ (Value.ref b :: argsL).toArray v B ∧
      ∀ target, Steps p.tables e below (B.U.setTop { g with pc := g.pc + 3, stack := v.toList ++ rest }) target → Steps p.tables e below (T.setTop g) target) ∨
    (∃ (q : Addr) (vm₁ : Vm) (B : Pt), s.WarmedH vm₁ ∧ Stand p l e R s m args below meth c B.U B.locs B.cells B.slots ∧ PostX ⟨T.setVm vm₁, locs, cells, slots⟩ (Value.ref b :: argsL).toArray q B ∧
      Steps p.tables e below (T.setTop g) ((B.U.setTop { g with stack := rest }).pushFrame (.throwing q))) := by
  obtain ⟨mk, methM, hnamed, hmethM, hstM, habM⟩ := Cond.instanceMethod_spec hinst
  obtain ⟨m8, methM', cM, hn8, hmethM', -, -, -, -, -, -, hsigM⟩ := Cond.codeWith_spec hcode
  cases Option.some.inj (hn8.symm.trans hnamed)
  cases hmethM.symm.trans hmethM'
  obtain ⟨c2, r2, m2, q1, q2, q3, q4, kP, hkP, hkPi⟩ := Cond.selects_spec hsel
  cases hcls.symm.trans q1
  cases (State.methodFound?_of_named hnamed hy).symm.trans q2
  cases hnamed.symm.trans q3
  have hselP : selectMethod e.platform s.vm cellB.cls mk = .method mk := by rw [Launch.admits_selectMethod X.admits]; exact q4
  obtain ⟨vm₁, X₁, hstep₁⟩ := X.invokevirtual hexec hown hlink hnamed hmethM hstM hkP hkPi hy (a := b) (cell := cellB) hcell
    (fun z h => by rw [h] at hobj; cases hobj) hselP hmethM habM hkP hkPi (g := g) hg (argsL := argsL) (rest := rest) (hlen _ hsigM) hstack hdg
  rcases hK m meth c ⟨T.setVm vm₁, locs, cells, slots⟩ { g with stack := rest } (.invokevirtual index) mk (Value.ref b :: argsL).toArray X₁ hg hsize hdg hW (X₁.named hnamed) (hpre vm₁ X₁.warmed) with ⟨v, B, X', hpost, hsteps⟩ | ⟨q, B, X', hpost, hsteps⟩
  · exact Or.inl ⟨v, vm₁, B, X₁.warmed, X', hpost, fun target h => hstep₁ _ fun acts => by rw [doInvoke_state]; exact hsteps.trans h⟩
  · exact Or.inr ⟨q, vm₁, B, X₁.warmed, X', hpost, hstep₁ _ fun acts => by rw [doInvoke_state]; exact hsteps⟩
theorem vx_callSX (X : Stand p l e R s m args below meth c T locs cells slots) (hexec : p.tables.exec = Jvm.exec) {own : String} {index : Nat} {y : MethodName} {bytes : ByteArray} {maxL : Nat} {ret : Option FieldType} {hh : List (Nat × Nat × Nat × Nat)}
    (hown : s.vm.findClass own = some m.cls) (hlink : (Cond.methodLink own index y).before args s = true) (hstat : (Cond.static y).before args s = true) (hinit : (Cond.initialized y.cls).before args s = true)
    (hcode : (Cond.codeWith y bytes maxL ret hh).before args s = true) (hy : y.cls ≠ "java/lang/invoke/MethodHandle" ∧ y.cls ≠ "java/lang/invoke/VarHandle")
    {W9 : Nat} {Pre : Pt → Array Value → Prop} {Post : Pt → Array Value → Option Value → Pt → Prop} {PostX : Pt → Array Value → Addr → Pt → Prop} (hK : vx_Back l R p e below s args y 3 W9 Pre Post PostX)
    {g : JFrame} (hg : g.method = m) (hsize : g.locals.size = c.maxLocals) {argsL rest : List Value} (hlen : ∀ sig, parseMethodDescriptor y.desc = some sig → argsL.length = sig.parameters.length)
    (hstack : g.stack = argsL.reverse ++ rest) (hW : 2 * g.monitorRoom + (rest.map fun v => v.category).sum ≤ W9) (hdg : decode c.code g.pc = .ok (.invokestatic index, 3))
    (hpre : ∀ vm₁, s.WarmedH vm₁ → Pre ⟨T.setVm vm₁, locs, cells, slots⟩ argsL.toArray) :
    (∃ (v : Option Value) (vm₁ : Vm) (B : Pt), s.WarmedH vm₁ ∧ Stand p l e R s m args below meth c B.U B.locs B.cells B.slots ∧ Post ⟨T.setVm vm₁, locs, cells, slots⟩ argsL.toArray v B ∧
      ∀ target, Steps p.tables e below (B.U.setTop { g with pc := g.pc + 3, stack := v.toList ++ rest }) target → Steps p.tables e below (T.setTop g) target) ∨
    (∃ (q : Addr) (vm₁ : Vm) (B : Pt), s.WarmedH vm₁ ∧ Stand p l e R s m args below meth c B.U B.locs B.cells B.slots ∧ PostX ⟨T.setVm vm₁, locs, cells, slots⟩ argsL.toArray q B ∧
      Steps p.tables e below (T.setTop g) ((B.U.setTop { g with stack := rest }).pushFrame (.throwing q))) := by
  obtain ⟨mk, methM, cM, hnamed, hmethM, -, -, -, -, -, -, hsigM⟩ := Cond.codeWith_spec hcode
  have hstatic : methM.isStatic = true := Cond.static_spec hnamed hmethM hstat
  obtain ⟨kP, hkP, -⟩ := className_of_methodNamed hnamed
  have hinitP : kP.init = .initialized := Cond.initialized_spec (findClass_of_methodNamed hnamed) hkP hinit
  obtain ⟨vm₁, X₁, hstep₁⟩ := X.invokestatic hexec hown hlink hnamed hmethM hstatic hkP hinitP hy (g := g) hg (argsL := argsL) (rest := rest) (hlen _ hsigM) hstack hdg
  rcases hK m meth c ⟨T.setVm vm₁, locs, cells, slots⟩ { g with stack := rest } (.invokestatic index) mk argsL.toArray X₁ hg hsize hdg hW (X₁.named hnamed) (hpre vm₁ X₁.warmed) with ⟨v, B, X', hpost, hsteps⟩ | ⟨q, B, X', hpost, hsteps⟩
  · exact Or.inl ⟨v, vm₁, B, X₁.warmed, X', hpost, fun target h => hstep₁ _ fun acts => by rw [doInvoke_state]; exact hsteps.trans h⟩
  · exact Or.inr ⟨q, vm₁, B, X₁.warmed, X', hpost, hstep₁ _ fun acts => by rw [doInvoke_state]; exact hsteps⟩
theorem vx_callVW (X : Stand p l e R s m args below meth c T locs cells slots) (hexec : p.tables.exec = Jvm.exec) {own C : String} {index : Nat} {y : MethodName} {bytes : ByteArray} {maxL : Nat} {ret : Option FieldType} {hh : List (Nat × Nat × Nat × Nat)}
    (hown : s.vm.findClass own = some m.cls) (hlink : (Cond.methodLink own index y).before args s = true) (hinst : (Cond.instanceMethod y).before args s = true) (hsel : (Cond.selects C y y).before args s = true)
    (hcode : (Cond.codeWith y bytes maxL ret hh).before args s = true) (hy : y.cls ≠ "java/lang/invoke/MethodHandle" ∧ y.cls ≠ "java/lang/invoke/VarHandle")
    {W9 : Nat} {Pre : Pt → Array Value → Prop} {Post : Pt → Array Value → Option Value → Pt → Prop} (hK : Back l R p e below s args y 3 W9 Pre Post)
    {b : Addr} {cellB : Cell} (hcell : T.heap[b]? = some cellB) (hobj : cellB.vm.isStatics = false) (hcls : s.vm.findClass C = some cellB.cls)
    {g : JFrame} (hg : g.method = m) (hsize : g.locals.size = c.maxLocals) {argsL rest : List Value} (hlen : ∀ sig, parseMethodDescriptor y.desc = some sig → argsL.length = sig.parameters.length)
    (hstack : g.stack = argsL.reverse ++ .ref b :: rest) (hW : 2 * g.monitorRoom + (rest.map fun v => v.category).sum ≤ W9) (hdg : decode c.code g.pc = .ok (.invokevirtual index, 3))
    (hpre : ∀ vm₁, s.WarmedH vm₁ → Pre ⟨T.setVm vm₁, locs, cells, slots⟩ (Value.ref b :: argsL).toArray) :
    ∃ (v : Option Value) (vm₁ : Vm) (B : Pt), s.WarmedH vm₁ ∧ Stand p l e R s m args below meth c B.U B.locs B.cells B.slots ∧ Post ⟨T.setVm vm₁, locs, cells, slots⟩ (Value.ref b :: argsL).toArray v B ∧
      ∀ target, Steps p.tables e below (B.U.setTop { g with pc := g.pc + 3, stack := v.toList ++ rest }) target → Steps p.tables e below (T.setTop g) target := by
  obtain ⟨mk, methM, hnamed, hmethM, hstM, habM⟩ := Cond.instanceMethod_spec hinst
  obtain ⟨m8, methM', cM, hn8, hmethM', -, -, -, -, -, -, hsigM⟩ := Cond.codeWith_spec hcode
  cases Option.some.inj (hn8.symm.trans hnamed)
  cases hmethM.symm.trans hmethM'
  obtain ⟨c2, r2, m2, q1, q2, q3, q4, kP, hkP, hkPi⟩ := Cond.selects_spec hsel
  cases hcls.symm.trans q1
  cases (State.methodFound?_of_named hnamed hy).symm.trans q2
  cases hnamed.symm.trans q3
  have hselP : selectMethod e.platform s.vm cellB.cls mk = .method mk := by rw [Launch.admits_selectMethod X.admits]; exact q4
  obtain ⟨vm₁, X₁, hstep₁⟩ := X.invokevirtual hexec hown hlink hnamed hmethM hstM hkP hkPi hy (a := b) (cell := cellB) hcell
    (fun z h => by rw [h] at hobj; cases hobj) hselP hmethM habM hkP hkPi (g := g) hg (argsL := argsL) (rest := rest) (hlen _ hsigM) hstack hdg
  obtain ⟨v, B, X', hpost, hsteps⟩ := hK m meth c ⟨T.setVm vm₁, locs, cells, slots⟩ { g with stack := rest } (.invokevirtual index) mk (Value.ref b :: argsL).toArray X₁ hg hsize hdg hW (X₁.named hnamed) (hpre vm₁ X₁.warmed)
  exact ⟨v, vm₁, B, X₁.warmed, X', hpost, fun target h => hstep₁ _ fun acts => by rw [doInvoke_state]; exact hsteps.trans h⟩
abbrev vx_CVW (R : Room) (s : State) (args : Array Value) (own C : String) (index : Nat) (y : MethodName) (bytes : ByteArray) (maxL : Nat) (ret : Option FieldType) (hh : List (Nat × Nat × Nat × Nat)) (ws : List Cond) (rm : Room) (mc ms n : Nat) : Prop :=
  (rm.cells = mc ∧ rm.slots = ms ∧ rm.frames + 1 ≤ R.frames ∧ 8 + (maxL + 11) + rm.locals ≤ R.locals ∧ (∀ w ∈ ws, ∀ (a' : Array Value) (U : State), s.WarmedH U.vm → w.before a' U = true) ∧ Cond.codeWith y bytes maxL ret hh ∈ ws) ∧
  (Cond.codeWith y bytes maxL ret hh).before args s = true ∧ (Cond.initialized y.cls).before args s = true ∧ (y.cls ≠ "java/lang/invoke/MethodHandle" ∧ y.cls ≠ "java/lang/invoke/VarHandle") ∧
  (∀ sig, parseMethodDescriptor y.desc = some sig → n = sig.parameters.length) ∧ (Cond.methodLink own index y).before args s = true ∧ (Cond.instanceMethod y).before args s = true ∧ (Cond.selects C y y).before args s = true
theorem vx_cwVW {own C : String} {index maxL mc ms : Nat} {y : MethodName} {bytes : ByteArray} {ret : Option FieldType} {hh : List (Nat × Nat × Nat × Nat)} {Ts ws ws' : List Cond} {rm : Room} (n : Nat) (ht : ∀ w ∈ Ts, w.before args s = true) (hT : GoodIn Ts (wsV own index C y ws)) (hw : ws = Cond.codeWith y bytes maxL ret hh :: ws') (hrc : rm.cells = mc) (hrs : rm.slots = ms)
    (hd : y.cls = C ∧ y.cls ≠ "java/lang/invoke/MethodHandle" ∧ y.cls ≠ "java/lang/invoke/VarHandle" ∧ (parseMethodDescriptor y.desc).map (fun d => d.parameters.length) = some n) (hR : rm.frames + 1 ≤ R.frames ∧ 8 + (maxL + 11) + rm.locals ≤ R.locals) :
    vx_CVW R s args own C index y bytes maxL ret hh ws rm mc ms n := by
  obtain ⟨hC, hd⟩ := hd
  subst hC
  have ok : ∀ w ∈ wsV own index y.cls y ws, w.before args s = true := fun w h => ht w (hT w h).1
  have hG : GoodIn Ts ws := fun w h => hT w (by unfold wsV; exact List.mem_append_right _ h)
  have hc : Cond.codeWith y bytes maxL ret hh ∈ ws := by rw [hw]; exact List.mem_cons_self
  refine ⟨⟨hrc, hrs, hR.1, hR.2, pay_in ht hG, hc⟩, ht _ (hG _ hc).1, ok _ (by simp [wsV]), ⟨hd.1, hd.2.1⟩, fun sig h => ?_, ok _ (by simp [wsV]), ok _ (by simp [wsV]), ok _ (by simp [wsV])⟩
  have h2 := hd.2.2
  rw [h] at h2
  exact (Option.some.inj h2).symm
theorem vx_runVW {y : MethodName} {bytes cc : ByteArray} {maxL nL mc ms n index : Nat} {ret : Option FieldType} {hh : List (Nat × Nat × Nat × Nat)} {ws : List Cond} {rm : Room} {Pc : Array Value → State → Prop} {Qc : Array Value → State → Outcome → State → Prop} {free : Addr → Prop} {Ts : List Cond} {own C : String} {b : Addr} {As rest : List Value} {g : JFrame}
    (S : CallFix p m c cc nL s args Ts own) (hM : Met l y ws rm Pc Qc mc ms free) (cw : vx_CVW R s args own C index y bytes maxL ret hh ws rm mc ms n) (hp : PreV s H C b Pc As)
    (hg : g.method = m) (hn : As.length = n) (hsize : g.locals.size = nL) (hstack : g.stack = As.reverse ++ .ref b :: rest) (hW : 2 * g.monitorRoom + (rest.map fun v => v.category).sum ≤ 8) (hdg : decode cc g.pc = .ok (.invokevirtual index, 3)) (hf : cells + mc ≤ R.cells ∧ slots + ms ≤ R.slots) :
    va_Run p l e R s m args below meth c H locs cells slots mc ms g rest (Qc (Value.ref b :: As).toArray) free := by
  obtain ⟨⟨hrc, hrs, hfr, hlo, hws, hcw⟩, hcode, hini, hy, hlen, hl, hin, hse⟩ := cw
  have hK : Back l R p e below s args y 3 8 (PreOf R mc ms Pc) (PostOf Qc mc ms free) := va_backW (hh := hh) (bytes := bytes) (maxL := maxL) (ret := ret) hM hp.1 hrc hrs hfr hlo hws hcw (fun a' U hW => word_at hW (Or.inl (by first | rfl | simp [Cond.onTables, Cond.keeps, Cond.steady])) hini)
  obtain ⟨hx, hb, hml, ho, -⟩ := S
  obtain ⟨-, ⟨cellB, hcB, hoB, hclB⟩, hPc⟩ := hp
  intro T hT X
  obtain ⟨v, vm₁, ⟨U', l2, c2, s2⟩, hW₁, X', ⟨g', mk, t, L, e1, e2, hq, h1, hL, h2, h3⟩, st⟩ := vx_callVW X hx (C := C) (hh := hh) (bytes := bytes) (maxL := maxL) (ret := ret) ho hl hin hse hcode hy hK (by rw [hT]; exact hcB) hoB hclB hg (hsize.trans hml.symm) (argsL := As) (rest := rest) (fun sig h => hn.trans (hlen sig h)) hstack hW (by rw [hb]; exact hdg)
    (fun vm₁ hW₁ => ⟨hf.1, hf.2, hPc (T.setVm vm₁) hT hW₁⟩)
  dsimp only [Pt.U, Pt.locs, Pt.cells, Pt.slots] at X' e1 e2 h1 h2 h3 st
  subst h1; subst h2; subst h3
  exact ⟨v, (T.setVm vm₁).calling g' mk (Value.ref b :: As).toArray, t, U', L, hT, X', hL, e1, e2, hq, st⟩
section
variable {y : MethodName} {bytes cc : ByteArray} {maxL nL mc ms n index : Nat} {ret : Option FieldType} {ws : List Cond} {rm : Room} {Pc : Array Value → State → Prop} {Qc : Array Value → State → Outcome → State → Prop} {XC : String → State → State → Prop} {free : Addr → Prop} {Ts : List Cond} {own C : String} {b : Addr} {As rest : List Value} {g : JFrame}
theorem vx_runVX {hh : List (Nat × Nat × Nat × Nat)} (S : CallFix p m c cc nL s args Ts own) (hM : vx_Met l y ws rm Pc Qc XC mc ms free) (cw : vx_CVW R s args own C index y bytes maxL ret hh ws rm mc ms n) (hp : PreV s H C b Pc As)
    (hg : g.method = m) (hn : As.length = n) (hsize : g.locals.size = nL) (hstack : g.stack = As.reverse ++ .ref b :: rest) (hW : 2 * g.monitorRoom + (rest.map fun v => v.category).sum ≤ 8) (hdg : decode cc g.pc = .ok (.invokevirtual index, 3)) (hf : cells + mc ≤ R.cells ∧ slots + ms ≤ R.slots) :
    vx_Run p l e R s m args below meth c H locs cells slots mc ms g rest (Qc (Value.ref b :: As).toArray) XC free := by
  obtain ⟨⟨hrc, hrs, hfr, hlo, hws, hcw⟩, hcode, hini, hy, hlen, hl, hin, hse⟩ := cw
  have hK : vx_Back l R p e below s args y 3 8 (PreOf R mc ms Pc) (PostOf Qc mc ms free) (vx_Post XC mc ms free) := vx_backW (hh := hh) (bytes := bytes) (maxL := maxL) (ret := ret) hM hp.1 hrc hrs hfr hlo hws hcw (fun a' U hW => word_at hW (Or.inl (by first | rfl | simp [Cond.onTables, Cond.keeps, Cond.steady])) hini)
  obtain ⟨hx, hb, hml, ho, -⟩ := S
  obtain ⟨-, ⟨cellB, hcB, hoB, hclB⟩, hPc⟩ := hp
  intro T hT X
  rcases vx_callVX X hx (C := C) (hh := hh) (bytes := bytes) (maxL := maxL) (ret := ret) ho hl hin hse hcode hy hK (by rw [hT]; exact hcB) hoB hclB hg (hsize.trans hml.symm) (argsL := As) (rest := rest) (fun sig h => hn.trans (hlen sig h)) hstack hW (by rw [hb]; exact hdg)
    (fun vm₁ hW₁ => ⟨hf.1, hf.2, hPc (T.setVm vm₁) hT hW₁⟩) with ⟨v, vm₁, ⟨U', l2, c2, s2⟩, hW₁, X', ⟨g', mk, t, L, e1, e2, hq, h1, hL, h2, h3⟩, st⟩ | ⟨q, vm₁, ⟨U', l2, c2, s2⟩, hW₁, X', ⟨g', mk, t, L, E, ce, e1, e2, hq, hce, hcv, hcl, h1, hL, h2, h3⟩, st⟩
  · dsimp only [Pt.U, Pt.locs, Pt.cells, Pt.slots] at X' e1 e2 h1 h2 h3 st
    subst h1; subst h2; subst h3
    exact Or.inl ⟨v, (T.setVm vm₁).calling g' mk (Value.ref b :: As).toArray, t, U', L, hT, X', hL, e1, e2, hq, st⟩
  · dsimp only [Pt.U, Pt.locs, Pt.cells, Pt.slots] at X' e1 e2 h1 h2 h3 st hcl
    subst h1; subst h2; subst h3
    exact Or.inr ⟨q, (T.setVm vm₁).calling g' mk (Value.ref b :: As).toArray, t, U', L, E, ce, hT, X', hL, e1, e2, hq, hce, hcv, vx_cls hW₁ hcl, st⟩
theorem vx_runSX {hh : List (Nat × Nat × Nat × Nat)} (S : CallFix p m c cc nL s args Ts own) (hM : vx_Met l y ws rm Pc Qc XC mc ms free) (cw : vx_CSW R s args own index y bytes maxL ret hh ws rm mc ms n) (hp : PreS s H Pc As)
    (hg : g.method = m) (hn : As.length = n) (hsize : g.locals.size = nL) (hstack : g.stack = As.reverse ++ rest) (hW : 2 * g.monitorRoom + (rest.map fun v => v.category).sum ≤ 8) (hdg : decode cc g.pc = .ok (.invokestatic index, 3)) (hf : cells + mc ≤ R.cells ∧ slots + ms ≤ R.slots) :
    vx_Run p l e R s m args below meth c H locs cells slots mc ms g rest (Qc As.toArray) XC free := by
  obtain ⟨⟨hrc, hrs, hfr, hlo, hws, hcw⟩, hcode, hini, hy, hlen, hl, hstt⟩ := cw
  have hK : vx_Back l R p e below s args y 3 8 (PreOf R mc ms Pc) (PostOf Qc mc ms free) (vx_Post XC mc ms free) := vx_backW (hh := hh) (bytes := bytes) (maxL := maxL) (ret := ret) hM hp.1 hrc hrs hfr hlo hws hcw (fun a' U hW => word_at hW (Or.inl (by first | rfl | simp [Cond.onTables, Cond.keeps, Cond.steady])) hini)
  obtain ⟨hx, hb, hml, ho, -⟩ := S
  intro T hT X
  rcases vx_callSX X hx (hh := hh) (bytes := bytes) (maxL := maxL) (ret := ret) ho hl hstt hini hcode hy hK hg (hsize.trans hml.symm) (argsL := As) (rest := rest) (fun sig h => hn.trans (hlen sig h)) hstack hW (by rw [hb]; exact hdg)
    (fun vm₁ hW₁ => ⟨hf.1, hf.2, hp.2 (T.setVm vm₁) hT hW₁⟩) with ⟨v, vm₁, ⟨U', l2, c2, s2⟩, hW₁, X', ⟨g', mk, t, L, e1, e2, hq, h1, hL, h2, h3⟩, st⟩ | ⟨q, vm₁, ⟨U', l2, c2, s2⟩, hW₁, X', ⟨g', mk, t, L, E, ce, e1, e2, hq, hce, hcv, hcl, h1, hL, h2, h3⟩, st⟩
  · dsimp only [Pt.U, Pt.locs, Pt.cells, Pt.slots] at X' e1 e2 h1 h2 h3 st
    subst h1; subst h2; subst h3
    exact Or.inl ⟨v, (T.setVm vm₁).calling g' mk As.toArray, t, U', L, hT, X', hL, e1, e2, hq, st⟩
  · dsimp only [Pt.U, Pt.locs, Pt.cells, Pt.slots] at X' e1 e2 h1 h2 h3 st hcl
    subst h1; subst h2; subst h3
    exact Or.inr ⟨q, (T.setVm vm₁).calling g' mk As.toArray, t, U', L, E, ce, hT, X', hL, e1, e2, hq, hce, hcv, vx_cls hW₁ hcl, st⟩
end
end VXH
theorem vx_ofWH {l : Launch} {y : MethodName} {ws ws' : List Cond} {rm : Room} {Pc : Array Value → State → Prop} {Qc : Array Value → State → Outcome → State → Prop} {XC : String → State → State → Prop} {mc ms : Nat} {free : Addr → Prop} {cc : ByteArray} {maxL : Nat} {ret : Option FieldType} {hh : List (Nat × Nat × Nat × Nat)}
    (hy : plainName y.cls = true) (hw : ws = Cond.codeWith y cc maxL ret hh :: ws')
    (body : ∀ p e s m args below meth c s₁, BodyLoose p l y (headSpec ws rm) cc maxL ret e s m args below meth c s₁ → c.maxLocals = maxL → Pc args s →
      W p l e (headSpec ws rm).room s m args below meth c s.heap [] 0 0 (vx_MQ below Qc XC args s mc ms free) (entryFrame m args maxL)) : vx_Met l y ws rm Pc Qc XC mc ms free := by
  refine MetFree.of_bodyS (code := cc) (maxLocals := maxL) (ret := ret) hy ?_ ?_
  · intro args s m h hn
    obtain ⟨m9, meth, c, hn9, h1, h2, h3, h4, -, h5, h6, -⟩ := Cond.codeWith_spec (atoms_spec (ws := ws) h _ (by rw [hw]; exact List.mem_cons_self))
    cases hn.symm.trans hn9
    exact ⟨meth, c, h1, h2, h3, h4, h5, h6⟩
  · intro p e s m args below meth c s₁ B hml hP _
    have hh0 : s₁.heap = s.heap := by rw [B.state]; rfl
    obtain ⟨t, a1, o, b1, b2, b3⟩ := body p e s m args below meth c s₁ B hml hP s₁ hh0 (Stand.of_body B)
    exact ⟨t, o, a1, b1, b2, b3⟩
/-! ===== END ===== -/
end
section
/-! names, fields and codes, as the task prints them -/
/-! ===== BEGIN printed: names, fields, word lists, decode rows ===== -/
def RX0 : String := "MoonlitFloor$1"
def TX0 : u_T := fun k => match k with
  | _ => ("", "", "", false)
def tyX0 : Nat → FieldType := fun k => match k with
  | _ => .int
abbrev wsX00 : List Cond := u_ws RX0 TX0 0
theorem nmX0 : ∀ a, a < 0 → ∀ b, b < 0 → a ≠ b → (TX0 a).2.1 ≠ (TX0 b).2.1 := by decide +kernel
theorem tyX0_ok : ∀ k, k < 0 → parseFieldDescriptor (TX0 k).2.2.1 = some (tyX0 k) := by decide +kernel
def RX1 : String := "MoonlitFloor$History"
def TX1 : u_T := fun k => match k with
  | 0 => ("MoonlitFloor$History", "past", "[LMoonlitFloor$World;", true)
  | 1 => ("MoonlitFloor$History", "saved", "[LMoonlitFloor$World;", true)
  | 2 => ("MoonlitFloor$History", "inUse", "[I", true)
  | 3 => ("MoonlitFloor$History", "next", "I", false)
  | _ => ("MoonlitFloor$History", "count", "I", false)
def tyX1 : Nat → FieldType := fun k => match k with
  | 0 => .array (.object "MoonlitFloor$World")
  | 1 => .array (.object "MoonlitFloor$World")
  | 2 => .array .int
  | 3 => .int
  | _ => .int
abbrev wsX10 : List Cond := u_ws RX1 TX1 5
theorem nmX1 : ∀ a, a < 5 → ∀ b, b < 5 → a ≠ b → (TX1 a).2.1 ≠ (TX1 b).2.1 := by decide +kernel
theorem tyX1_ok : ∀ k, k < 5 → parseFieldDescriptor (TX1 k).2.2.1 = some (tyX1 k) := by decide +kernel
abbrev cX1_init : ByteArray := prog_3_method_1_code
def yX1_init : MethodName := ⟨RX1, "<init>", "()V"⟩
abbrev cX1_keep : ByteArray := prog_3_method_2_code
def yX1_keep : MethodName := ⟨RX1, "keep", "(LMoonlitFloor$World;)V"⟩
abbrev cX1_store : ByteArray := prog_3_method_4_code
def yX1_store : MethodName := ⟨RX1, "store", "(ILMoonlitFloor$World;)V"⟩
abbrev cX1_fetch : ByteArray := prog_3_method_5_code
def yX1_fetch : MethodName := ⟨RX1, "fetch", "(ILMoonlitFloor$World;)Z"⟩
abbrev cX1_forgetChanges : ByteArray := prog_3_method_6_code
def yX1_forgetChanges : MethodName := ⟨RX1, "forgetChanges", "()V"⟩
abbrev cX1_forgetAll : ByteArray := prog_3_method_7_code
def yX1_forgetAll : MethodName := ⟨RX1, "forgetAll", "()V"⟩
abbrev cX1_worldAt : ByteArray := prog_3_method_8_code
def yX1_worldAt : MethodName := ⟨RX1, "worldAt", "([LMoonlitFloor$World;I)LMoonlitFloor$World;"⟩
def RX2 : String := "MoonlitFloor$Plan"
def TX2 : u_T := fun k => match k with
  | 0 => ("MoonlitFloor$Plan", "draughts", "[I", true)
  | 1 => ("MoonlitFloor$Plan", "cloudFirsts", "[I", true)
  | 2 => ("MoonlitFloor$Plan", "cloudLasts", "[I", true)
  | 3 => ("MoonlitFloor$Plan", "route", "[I", true)
  | 4 => ("MoonlitFloor$Plan", "rows", "I", false)
  | 5 => ("MoonlitFloor$Plan", "columns", "I", false)
  | 6 => ("MoonlitFloor$Plan", "minutesPerRow", "I", false)
  | 7 => ("MoonlitFloor$Plan", "dryingTime", "I", false)
  | 8 => ("MoonlitFloor$Plan", "restTime", "I", false)
  | 9 => ("MoonlitFloor$Plan", "stamina", "I", false)
  | 10 => ("MoonlitFloor$Plan", "noise", "I", false)
  | 11 => ("MoonlitFloor$Plan", "clouds", "I", false)
  | _ => ("MoonlitFloor$Plan", "moves", "I", false)
def tyX2 : Nat → FieldType := fun k => match k with
  | 0 => .array .int
  | 1 => .array .int
  | 2 => .array .int
  | 3 => .array .int
  | 4 => .int
  | 5 => .int
  | 6 => .int
  | 7 => .int
  | 8 => .int
  | 9 => .int
  | 10 => .int
  | 11 => .int
  | _ => .int
abbrev wsX20 : List Cond := u_ws RX2 TX2 13
theorem nmX2 : ∀ a, a < 13 → ∀ b, b < 13 → a ≠ b → (TX2 a).2.1 ≠ (TX2 b).2.1 := by decide +kernel
theorem tyX2_ok : ∀ k, k < 13 → parseFieldDescriptor (TX2 k).2.2.1 = some (tyX2 k) := by decide +kernel
abbrev cX2_init : ByteArray := prog_4_method_1_code
def yX2_init : MethodName := ⟨RX2, "<init>", "()V"⟩
abbrev cX2_reset : ByteArray := prog_4_method_2_code
def yX2_reset : MethodName := ⟨RX2, "reset", "()V"⟩
abbrev cX2_copyFrom : ByteArray := prog_4_method_3_code
def yX2_copyFrom : MethodName := ⟨RX2, "copyFrom", "(LMoonlitFloor$Plan;)V"⟩
abbrev cX2_isCloudy : ByteArray := prog_4_method_4_code
def yX2_isCloudy : MethodName := ⟨RX2, "isCloudy", "(I)Z"⟩
def RX3 : String := "MoonlitFloor$Records"
def TX3 : u_T := fun k => match k with
  | 0 => ("MoonlitFloor$Records", "nights", "[I", true)
  | 1 => ("MoonlitFloor$Records", "steps", "[I", true)
  | _ => ("MoonlitFloor$Records", "count", "I", false)
def tyX3 : Nat → FieldType := fun k => match k with
  | 0 => .array .int
  | 1 => .array .int
  | _ => .int
abbrev wsX30 : List Cond := u_ws RX3 TX3 3
theorem nmX3 : ∀ a, a < 3 → ∀ b, b < 3 → a ≠ b → (TX3 a).2.1 ≠ (TX3 b).2.1 := by decide +kernel
theorem tyX3_ok : ∀ k, k < 3 → parseFieldDescriptor (TX3 k).2.2.1 = some (tyX3 k) := by decide +kernel
abbrev cX3_init : ByteArray := prog_5_method_1_code
def yX3_init : MethodName := ⟨RX3, "<init>", "()V"⟩
abbrev cX3_reset : ByteArray := prog_5_method_2_code
def yX3_reset : MethodName := ⟨RX3, "reset", "()V"⟩
abbrev cX3_copyFrom : ByteArray := prog_5_method_3_code
def yX3_copyFrom : MethodName := ⟨RX3, "copyFrom", "(LMoonlitFloor$Records;)V"⟩
abbrev cX3_rankFor : ByteArray := prog_5_method_4_code
def yX3_rankFor : MethodName := ⟨RX3, "rankFor", "(I)I"⟩
abbrev cX3_add : ByteArray := prog_5_method_5_code
def yX3_add : MethodName := ⟨RX3, "add", "(II)V"⟩
def RX4 : String := "MoonlitFloor$SetupReader"
def TX4 : u_T := fun k => match k with
  | 0 => ("MoonlitFloor$SetupReader", "tokens", "LMoonlitFloor$Tokens;", true)
  | 1 => ("MoonlitFloor$SetupReader", "world", "LMoonlitFloor$World;", true)
  | 2 => ("MoonlitFloor$SetupReader", "bodies", "[I", true)
  | 3 => ("MoonlitFloor$SetupReader", "passesLeft", "[I", true)
  | 4 => ("MoonlitFloor$SetupReader", "nesting", "I", false)
  | 5 => ("MoonlitFloor$SetupReader", "simulated", "I", false)
  | 6 => ("MoonlitFloor$SetupReader", "expectsEntry", "Z", false)
  | 7 => ("MoonlitFloor$SetupReader", "sawEvent", "Z", false)
  | 8 => ("MoonlitFloor$SetupReader", "finished", "Z", false)
  | 9 => ("MoonlitFloor$SetupReader", "errorCode", "I", false)
  | _ => ("MoonlitFloor$SetupReader", "errorPosition", "I", false)
def tyX4 : Nat → FieldType := fun k => match k with
  | 0 => .object "MoonlitFloor$Tokens"
  | 1 => .object "MoonlitFloor$World"
  | 2 => .array .int
  | 3 => .array .int
  | 4 => .int
  | 5 => .int
  | 6 => .boolean
  | 7 => .boolean
  | 8 => .boolean
  | 9 => .int
  | _ => .int
abbrev wsX40 : List Cond := u_ws RX4 TX4 11
theorem nmX4 : ∀ a, a < 11 → ∀ b, b < 11 → a ≠ b → (TX4 a).2.1 ≠ (TX4 b).2.1 := by decide +kernel
theorem tyX4_ok : ∀ k, k < 11 → parseFieldDescriptor (TX4 k).2.2.1 = some (tyX4 k) := by decide +kernel
abbrev cX4_init : ByteArray := prog_6_method_1_code
def yX4_init : MethodName := ⟨RX4, "<init>", "(LMoonlitFloor$World;)V"⟩
abbrev cX4_read : ByteArray := prog_6_method_2_code
def yX4_read : MethodName := ⟨RX4, "read", "([II)Z"⟩
abbrev cX4_restart : ByteArray := prog_6_method_3_code
def yX4_restart : MethodName := ⟨RX4, "restart", "()V"⟩
abbrev cX4_fail : ByteArray := prog_6_method_4_code
def yX4_fail : MethodName := ⟨RX4, "fail", "(I)V"⟩
abbrev cX4_number : ByteArray := prog_6_method_5_code
def yX4_number : MethodName := ⟨RX4, "number", "(II)I"⟩
abbrev cX4_takeNumber : ByteArray := prog_6_method_6_code
def yX4_takeNumber : MethodName := ⟨RX4, "takeNumber", "(II)I"⟩
abbrev cX4_readFloor : ByteArray := prog_6_method_7_code
def yX4_readFloor : MethodName := ⟨RX4, "readFloor", "()V"⟩
abbrev cX4_readSeparator : ByteArray := prog_6_method_8_code
def yX4_readSeparator : MethodName := ⟨RX4, "readSeparator", "()V"⟩
abbrev cX4_closeBracket : ByteArray := prog_6_method_9_code
def yX4_closeBracket : MethodName := ⟨RX4, "closeBracket", "()V"⟩
abbrev cX4_finish : ByteArray := prog_6_method_10_code
def yX4_finish : MethodName := ⟨RX4, "finish", "()V"⟩
abbrev cX4_startsEvent : ByteArray := prog_6_method_11_code
def yX4_startsEvent : MethodName := ⟨RX4, "startsEvent", "()Z"⟩
abbrev cX4_readSetting : ByteArray := prog_6_method_12_code
def yX4_readSetting : MethodName := ⟨RX4, "readSetting", "()V"⟩
abbrev cX4_readWalker : ByteArray := prog_6_method_13_code
def yX4_readWalker : MethodName := ⟨RX4, "readWalker", "()V"⟩
abbrev cX4_readCat : ByteArray := prog_6_method_14_code
def yX4_readCat : MethodName := ⟨RX4, "readCat", "()V"⟩
abbrev cX4_moveOf : ByteArray := prog_6_method_15_code
def yX4_moveOf : MethodName := ⟨RX4, "moveOf", "(LMoonlitFloor$Sign;)I"⟩
abbrev cX4_readDraught : ByteArray := prog_6_method_16_code
def yX4_readDraught : MethodName := ⟨RX4, "readDraught", "()V"⟩
abbrev cX4_readCloud : ByteArray := prog_6_method_17_code
def yX4_readCloud : MethodName := ⟨RX4, "readCloud", "()V"⟩
abbrev cX4_readCurtains : ByteArray := prog_6_method_18_code
def yX4_readCurtains : MethodName := ⟨RX4, "readCurtains", "(I)V"⟩
abbrev cX4_readTiles : ByteArray := prog_6_method_19_code
def yX4_readTiles : MethodName := ⟨RX4, "readTiles", "(LMoonlitFloor$Sign;)V"⟩
abbrev cX4_readItem : ByteArray := prog_6_method_20_code
def yX4_readItem : MethodName := ⟨RX4, "readItem", "(LMoonlitFloor$Sign;)V"⟩
abbrev cX4_countWanted : ByteArray := prog_6_method_21_code
def yX4_countWanted : MethodName := ⟨RX4, "countWanted", "(LMoonlitFloor$Sign;III)I"⟩
abbrev cX4_isWanted : ByteArray := prog_6_method_22_code
def yX4_isWanted : MethodName := ⟨RX4, "isWanted", "(LMoonlitFloor$Sign;I)Z"⟩
abbrev cX4_handleLine : ByteArray := prog_6_method_23_code
def yX4_handleLine : MethodName := ⟨RX4, "handleLine", "(LMoonlitFloor$Sign;III)V"⟩
abbrev cX4_readEvent : ByteArray := prog_6_method_24_code
def yX4_readEvent : MethodName := ⟨RX4, "readEvent", "()I"⟩
abbrev cX4_startEvents : ByteArray := prog_6_method_25_code
def yX4_startEvents : MethodName := ⟨RX4, "startEvents", "()V"⟩
abbrev cX4_readSpill : ByteArray := prog_6_method_26_code
def yX4_readSpill : MethodName := ⟨RX4, "readSpill", "()V"⟩
abbrev cX4_readCarry : ByteArray := prog_6_method_27_code
def yX4_readCarry : MethodName := ⟨RX4, "readCarry", "()V"⟩
abbrev cX4_takeMinutes : ByteArray := prog_6_method_28_code
def yX4_takeMinutes : MethodName := ⟨RX4, "takeMinutes", "(I)I"⟩
abbrev cX4_readRepeat : ByteArray := prog_6_method_29_code
def yX4_readRepeat : MethodName := ⟨RX4, "readRepeat", "()V"⟩
def RX5 : String := "MoonlitFloor$Sign"
def TX5 : u_T := fun k => match k with
  | _ => ("", "", "", false)
def tyX5 : Nat → FieldType := fun k => match k with
  | _ => .int
abbrev wsX50 : List Cond := u_ws RX5 TX5 0
theorem nmX5 : ∀ a, a < 0 → ∀ b, b < 0 → a ≠ b → (TX5 a).2.1 ≠ (TX5 b).2.1 := by decide +kernel
theorem tyX5_ok : ∀ k, k < 0 → parseFieldDescriptor (TX5 k).2.2.1 = some (tyX5 k) := by decide +kernel
def RX6 : String := "MoonlitFloor$Tokens"
def TX6 : u_T := fun k => match k with
  | 0 => ("MoonlitFloor$Tokens", "signs", "[LMoonlitFloor$Sign;", true)
  | 1 => ("MoonlitFloor$Tokens", "starts", "[I", true)
  | 2 => ("MoonlitFloor$Tokens", "numbers", "[I", true)
  | 3 => ("MoonlitFloor$Tokens", "count", "I", false)
  | _ => ("MoonlitFloor$Tokens", "place", "I", false)
def tyX6 : Nat → FieldType := fun k => match k with
  | 0 => .array (.object "MoonlitFloor$Sign")
  | 1 => .array .int
  | 2 => .array .int
  | 3 => .int
  | _ => .int
abbrev wsX60 : List Cond := u_ws RX6 TX6 5
theorem nmX6 : ∀ a, a < 5 → ∀ b, b < 5 → a ≠ b → (TX6 a).2.1 ≠ (TX6 b).2.1 := by decide +kernel
theorem tyX6_ok : ∀ k, k < 5 → parseFieldDescriptor (TX6 k).2.2.1 = some (tyX6 k) := by decide +kernel
abbrev cX6_init : ByteArray := prog_8_method_1_code
def yX6_init : MethodName := ⟨RX6, "<init>", "()V"⟩
abbrev cX6_scan : ByteArray := prog_8_method_2_code
def yX6_scan : MethodName := ⟨RX6, "scan", "([II)V"⟩
abbrev cX6_tokenEnd : ByteArray := prog_8_method_3_code
def yX6_tokenEnd : MethodName := ⟨RX6, "tokenEnd", "([III)I"⟩
abbrev cX6_signOf : ByteArray := prog_8_method_4_code
def yX6_signOf : MethodName := ⟨RX6, "signOf", "([III)LMoonlitFloor$Sign;"⟩
abbrev cX6_spells : ByteArray := prog_8_method_5_code
def yX6_spells : MethodName := ⟨RX6, "spells", "(Ljava/lang/String;[II)Z"⟩
abbrev cX6_numberOf : ByteArray := prog_8_method_6_code
def yX6_numberOf : MethodName := ⟨RX6, "numberOf", "([III)I"⟩
abbrev cX6_isLetter : ByteArray := prog_8_method_7_code
def yX6_isLetter : MethodName := ⟨RX6, "isLetter", "(I)Z"⟩
abbrev cX6_isDigit : ByteArray := prog_8_method_8_code
def yX6_isDigit : MethodName := ⟨RX6, "isDigit", "(I)Z"⟩
abbrev cX6_add : ByteArray := prog_8_method_9_code
def yX6_add : MethodName := ⟨RX6, "add", "(LMoonlitFloor$Sign;II)V"⟩
abbrev cX6_sign : ByteArray := prog_8_method_10_code
def yX6_sign : MethodName := ⟨RX6, "sign", "()LMoonlitFloor$Sign;"⟩
abbrev cX6_start : ByteArray := prog_8_method_11_code
def yX6_start : MethodName := ⟨RX6, "start", "()I"⟩
abbrev cX6_number : ByteArray := prog_8_method_12_code
def yX6_number : MethodName := ⟨RX6, "number", "()I"⟩
abbrev cX6_mark : ByteArray := prog_8_method_13_code
def yX6_mark : MethodName := ⟨RX6, "mark", "()I"⟩
abbrev cX6_goBackTo : ByteArray := prog_8_method_14_code
def yX6_goBackTo : MethodName := ⟨RX6, "goBackTo", "(I)V"⟩
abbrev cX6_goOn : ByteArray := prog_8_method_15_code
def yX6_goOn : MethodName := ⟨RX6, "goOn", "()V"⟩
def RX7 : String := "MoonlitFloor$Walker"
def TX7 : u_T := fun k => match k with
  | 0 => ("MoonlitFloor$Walker", "tile", "I", false)
  | 1 => ("MoonlitFloor$Walker", "column", "I", false)
  | 2 => ("MoonlitFloor$Walker", "right", "Z", false)
  | 3 => ("MoonlitFloor$Walker", "rest", "I", false)
  | 4 => ("MoonlitFloor$Walker", "sincePause", "I", false)
  | 5 => ("MoonlitFloor$Walker", "steps", "I", false)
  | 6 => ("MoonlitFloor$Walker", "tonight", "I", false)
  | 7 => ("MoonlitFloor$Walker", "turns", "I", false)
  | _ => ("MoonlitFloor$Walker", "falls", "I", false)
def tyX7 : Nat → FieldType := fun k => match k with
  | 0 => .int
  | 1 => .int
  | 2 => .boolean
  | 3 => .int
  | 4 => .int
  | 5 => .int
  | 6 => .int
  | 7 => .int
  | _ => .int
abbrev wsX70 : List Cond := u_ws RX7 TX7 9
theorem nmX7 : ∀ a, a < 9 → ∀ b, b < 9 → a ≠ b → (TX7 a).2.1 ≠ (TX7 b).2.1 := by decide +kernel
theorem tyX7_ok : ∀ k, k < 9 → parseFieldDescriptor (TX7 k).2.2.1 = some (tyX7 k) := by decide +kernel
abbrev cX7_init : ByteArray := prog_9_method_1_code
def yX7_init : MethodName := ⟨RX7, "<init>", "()V"⟩
abbrev cX7_reset : ByteArray := prog_9_method_2_code
def yX7_reset : MethodName := ⟨RX7, "reset", "()V"⟩
abbrev cX7_copyFrom : ByteArray := prog_9_method_3_code
def yX7_copyFrom : MethodName := ⟨RX7, "copyFrom", "(LMoonlitFloor$Walker;)V"⟩
abbrev cX7_turnBack : ByteArray := prog_9_method_4_code
def yX7_turnBack : MethodName := ⟨RX7, "turnBack", "()V"⟩
abbrev cX7_countStep : ByteArray := prog_9_method_5_code
def yX7_countStep : MethodName := ⟨RX7, "countStep", "()V"⟩
abbrev cX7_pause : ByteArray := prog_9_method_6_code
def yX7_pause : MethodName := ⟨RX7, "pause", "()V"⟩
abbrev cX7_fall : ByteArray := prog_9_method_7_code
def yX7_fall : MethodName := ⟨RX7, "fall", "(I)V"⟩
def RX8 : String := "MoonlitFloor$World"
def TX8 : u_T := fun k => match k with
  | 0 => ("MoonlitFloor$World", "plan", "LMoonlitFloor$Plan;", true)
  | 1 => ("MoonlitFloor$World", "walker", "LMoonlitFloor$Walker;", true)
  | 2 => ("MoonlitFloor$World", "records", "LMoonlitFloor$Records;", true)
  | 3 => ("MoonlitFloor$World", "closed", "[I", true)
  | 4 => ("MoonlitFloor$World", "wear", "[I", true)
  | 5 => ("MoonlitFloor$World", "spills", "[I", true)
  | 6 => ("MoonlitFloor$World", "bowls", "[I", true)
  | 7 => ("MoonlitFloor$World", "rugs", "[I", true)
  | 8 => ("MoonlitFloor$World", "pace", "I", false)
  | 9 => ("MoonlitFloor$World", "night", "I", false)
  | 10 => ("MoonlitFloor$World", "minute", "I", false)
  | 11 => ("MoonlitFloor$World", "slides", "I", false)
  | 12 => ("MoonlitFloor$World", "catTile", "I", false)
  | _ => ("MoonlitFloor$World", "nextMove", "I", false)
def tyX8 : Nat → FieldType := fun k => match k with
  | 0 => .object "MoonlitFloor$Plan"
  | 1 => .object "MoonlitFloor$Walker"
  | 2 => .object "MoonlitFloor$Records"
  | 3 => .array .int
  | 4 => .array .int
  | 5 => .array .int
  | 6 => .array .int
  | 7 => .array .int
  | 8 => .int
  | 9 => .int
  | 10 => .int
  | 11 => .int
  | 12 => .int
  | _ => .int
abbrev wsX80 : List Cond := u_ws RX8 TX8 14
theorem nmX8 : ∀ a, a < 14 → ∀ b, b < 14 → a ≠ b → (TX8 a).2.1 ≠ (TX8 b).2.1 := by decide +kernel
theorem tyX8_ok : ∀ k, k < 14 → parseFieldDescriptor (TX8 k).2.2.1 = some (tyX8 k) := by decide +kernel
abbrev cX8_init : ByteArray := prog_10_method_1_code
def yX8_init : MethodName := ⟨RX8, "<init>", "()V"⟩
abbrev cX8_reset : ByteArray := prog_10_method_2_code
def yX8_reset : MethodName := ⟨RX8, "reset", "()V"⟩
abbrev cX8_copyFrom : ByteArray := prog_10_method_3_code
def yX8_copyFrom : MethodName := ⟨RX8, "copyFrom", "(LMoonlitFloor$World;)V"⟩
abbrev cX8_tileCount : ByteArray := prog_10_method_4_code
def yX8_tileCount : MethodName := ⟨RX8, "tileCount", "()I"⟩
abbrev cX8_nightLength : ByteArray := prog_10_method_5_code
def yX8_nightLength : MethodName := ⟨RX8, "nightLength", "()I"⟩
abbrev cX8_rowOf : ByteArray := prog_10_method_6_code
def yX8_rowOf : MethodName := ⟨RX8, "rowOf", "(I)I"⟩
abbrev cX8_columnOf : ByteArray := prog_10_method_7_code
def yX8_columnOf : MethodName := ⟨RX8, "columnOf", "(I)I"⟩
abbrev cX8_neighbor : ByteArray := prog_10_method_8_code
def yX8_neighbor : MethodName := ⟨RX8, "neighbor", "(II)I"⟩
abbrev cX8_moonlight : ByteArray := prog_10_method_9_code
def yX8_moonlight : MethodName := ⟨RX8, "moonlight", "()I"⟩
abbrev cX8_isMoonOut : ByteArray := prog_10_method_10_code
def yX8_isMoonOut : MethodName := ⟨RX8, "isMoonOut", "()Z"⟩
abbrev cX8_rowInMoonlight : ByteArray := prog_10_method_11_code
def yX8_rowInMoonlight : MethodName := ⟨RX8, "rowInMoonlight", "()I"⟩
abbrev cX8_isTileLit : ByteArray := prog_10_method_12_code
def yX8_isTileLit : MethodName := ⟨RX8, "isTileLit", "(I)Z"⟩
abbrev cX8_liesInMoonlight : ByteArray := prog_10_method_13_code
def yX8_liesInMoonlight : MethodName := ⟨RX8, "liesInMoonlight", "(I)Z"⟩
abbrev cX8_hasRoomForBowl : ByteArray := prog_10_method_14_code
def yX8_hasRoomForBowl : MethodName := ⟨RX8, "hasRoomForBowl", "(I)Z"⟩
abbrev cX8_triedSteps : ByteArray := prog_10_method_15_code
def yX8_triedSteps : MethodName := ⟨RX8, "triedSteps", "()I"⟩
abbrev cX8_passMinutes : ByteArray := prog_10_method_16_code
def yX8_passMinutes : MethodName := ⟨RX8, "passMinutes", "(I)V"⟩
abbrev cX8_passMinute : ByteArray := prog_10_method_17_code
def yX8_passMinute : MethodName := ⟨RX8, "passMinute", "()V"⟩
abbrev cX8_moveCat : ByteArray := prog_10_method_18_code
def yX8_moveCat : MethodName := ⟨RX8, "moveCat", "()Z"⟩
abbrev cX8_spillBowl : ByteArray := prog_10_method_19_code
def yX8_spillBowl : MethodName := ⟨RX8, "spillBowl", "()V"⟩
abbrev cX8_startle : ByteArray := prog_10_method_20_code
def yX8_startle : MethodName := ⟨RX8, "startle", "()V"⟩
abbrev cX8_distance : ByteArray := prog_10_method_21_code
def yX8_distance : MethodName := ⟨RX8, "distance", "(II)I"⟩
abbrev cX8_walk : ByteArray := prog_10_method_22_code
def yX8_walk : MethodName := ⟨RX8, "walk", "(I)V"⟩
abbrev cX8_canEnter : ByteArray := prog_10_method_23_code
def yX8_canEnter : MethodName := ⟨RX8, "canEnter", "(I)Z"⟩
abbrev cX8_slideRug : ByteArray := prog_10_method_24_code
def yX8_slideRug : MethodName := ⟨RX8, "slideRug", "(II)V"⟩
abbrev cX8_enter : ByteArray := prog_10_method_25_code
def yX8_enter : MethodName := ⟨RX8, "enter", "(I)V"⟩
abbrev cX8_drySpills : ByteArray := prog_10_method_26_code
def yX8_drySpills : MethodName := ⟨RX8, "drySpills", "()V"⟩
abbrev cX8_endNight : ByteArray := prog_10_method_27_code
def yX8_endNight : MethodName := ⟨RX8, "endNight", "()V"⟩
abbrev cX8_stirCurtains : ByteArray := prog_10_method_28_code
def yX8_stirCurtains : MethodName := ⟨RX8, "stirCurtains", "()V"⟩
abbrev cX8_relocate : ByteArray := prog_10_method_29_code
def yX8_relocate : MethodName := ⟨RX8, "relocate", "()V"⟩
abbrev cX8_settle : ByteArray := prog_10_method_30_code
def yX8_settle : MethodName := ⟨RX8, "settle", "(I)Z"⟩
def RX9 : String := "MoonlitFloor"
def TX9 : u_T := fun k => match k with
  | 0 => ("MoonlitFloor", "buffer", "[I", true)
  | 1 => ("MoonlitFloor", "output", "Ljava/lang/StringBuilder;", true)
  | 2 => ("MoonlitFloor", "world", "LMoonlitFloor$World;", true)
  | 3 => ("MoonlitFloor", "draft", "LMoonlitFloor$World;", true)
  | 4 => ("MoonlitFloor", "reader", "LMoonlitFloor$SetupReader;", true)
  | 5 => ("MoonlitFloor", "history", "LMoonlitFloor$History;", true)
  | 6 => ("MoonlitFloor", "filled", "I", false)
  | _ => ("MoonlitFloor", "loaded", "Z", false)
def tyX9 : Nat → FieldType := fun k => match k with
  | 0 => .array .int
  | 1 => .object "java/lang/StringBuilder"
  | 2 => .object "MoonlitFloor$World"
  | 3 => .object "MoonlitFloor$World"
  | 4 => .object "MoonlitFloor$SetupReader"
  | 5 => .object "MoonlitFloor$History"
  | 6 => .int
  | _ => .boolean
abbrev wsX90 : List Cond := u_ws RX9 TX9 8
theorem nmX9 : ∀ a, a < 8 → ∀ b, b < 8 → a ≠ b → (TX9 a).2.1 ≠ (TX9 b).2.1 := by decide +kernel
theorem tyX9_ok : ∀ k, k < 8 → parseFieldDescriptor (TX9 k).2.2.1 = some (tyX9 k) := by decide +kernel
abbrev cX9_init : ByteArray := prog_1_method_1_code
def yX9_init : MethodName := ⟨RX9, "<init>", "()V"⟩
abbrev cX9_append : ByteArray := prog_1_method_2_code
def yX9_append : MethodName := ⟨RX9, "append", "(IIIII)I"⟩
abbrev cX9_appendWord : ByteArray := prog_1_method_3_code
def yX9_appendWord : MethodName := ⟨RX9, "appendWord", "(I)V"⟩
abbrev cX9_parseSetup : ByteArray := prog_1_method_4_code
def yX9_parseSetup : MethodName := ⟨RX9, "parseSetup", "(I)I"⟩
abbrev cX9_night : ByteArray := prog_1_method_11_code
def yX9_night : MethodName := ⟨RX9, "night", "()I"⟩
abbrev cX9_minute : ByteArray := prog_1_method_12_code
def yX9_minute : MethodName := ⟨RX9, "minute", "()I"⟩
abbrev cX9_moonRow : ByteArray := prog_1_method_14_code
def yX9_moonRow : MethodName := ⟨RX9, "moonRow", "()I"⟩
abbrev cX9_moonShines : ByteArray := prog_1_method_15_code
def yX9_moonShines : MethodName := ⟨RX9, "moonShines", "()Z"⟩
abbrev cX9_isLit : ByteArray := prog_1_method_16_code
def yX9_isLit : MethodName := ⟨RX9, "isLit", "(I)Z"⟩
abbrev cX9_isCurtainClosed : ByteArray := prog_1_method_17_code
def yX9_isCurtainClosed : MethodName := ⟨RX9, "isCurtainClosed", "(I)Z"⟩
abbrev cX9_minutesUntilLit : ByteArray := prog_1_method_19_code
def yX9_minutesUntilLit : MethodName := ⟨RX9, "minutesUntilLit", "(I)I"⟩
abbrev cX9_pace : ByteArray := prog_1_method_21_code
def yX9_pace : MethodName := ⟨RX9, "pace", "()I"⟩
abbrev cX9_walkerTile : ByteArray := prog_1_method_23_code
def yX9_walkerTile : MethodName := ⟨RX9, "walkerTile", "()I"⟩
abbrev cX9_facesRight : ByteArray := prog_1_method_24_code
def yX9_facesRight : MethodName := ⟨RX9, "facesRight", "()Z"⟩
abbrev cX9_restRemaining : ByteArray := prog_1_method_25_code
def yX9_restRemaining : MethodName := ⟨RX9, "restRemaining", "()I"⟩
abbrev cX9_stepsSincePause : ByteArray := prog_1_method_26_code
def yX9_stepsSincePause : MethodName := ⟨RX9, "stepsSincePause", "()I"⟩
abbrev cX9_totalSteps : ByteArray := prog_1_method_27_code
def yX9_totalSteps : MethodName := ⟨RX9, "totalSteps", "()I"⟩
abbrev cX9_stepsTonight : ByteArray := prog_1_method_28_code
def yX9_stepsTonight : MethodName := ⟨RX9, "stepsTonight", "()I"⟩
abbrev cX9_turnCount : ByteArray := prog_1_method_29_code
def yX9_turnCount : MethodName := ⟨RX9, "turnCount", "()I"⟩
abbrev cX9_fallCount : ByteArray := prog_1_method_30_code
def yX9_fallCount : MethodName := ⟨RX9, "fallCount", "()I"⟩
abbrev cX9_wear : ByteArray := prog_1_method_32_code
def yX9_wear : MethodName := ⟨RX9, "wear", "(I)I"⟩
abbrev cX9_catTile : ByteArray := prog_1_method_33_code
def yX9_catTile : MethodName := ⟨RX9, "catTile", "()I"⟩
abbrev cX9_hasRug : ByteArray := prog_1_method_34_code
def yX9_hasRug : MethodName := ⟨RX9, "hasRug", "(I)Z"⟩
abbrev cX9_slideCount : ByteArray := prog_1_method_35_code
def yX9_slideCount : MethodName := ⟨RX9, "slideCount", "()I"⟩
abbrev cX9_hasBowl : ByteArray := prog_1_method_36_code
def yX9_hasBowl : MethodName := ⟨RX9, "hasBowl", "(I)Z"⟩
abbrev cX9_spillTime : ByteArray := prog_1_method_37_code
def yX9_spillTime : MethodName := ⟨RX9, "spillTime", "(I)I"⟩
abbrev cX9_recordCount : ByteArray := prog_1_method_39_code
def yX9_recordCount : MethodName := ⟨RX9, "recordCount", "()I"⟩
abbrev cX9_recordNight : ByteArray := prog_1_method_40_code
def yX9_recordNight : MethodName := ⟨RX9, "recordNight", "(I)I"⟩
abbrev cX9_recordSteps : ByteArray := prog_1_method_41_code
def yX9_recordSteps : MethodName := ⟨RX9, "recordSteps", "(I)I"⟩
abbrev cX9_imbalance : ByteArray := prog_1_method_43_code
def yX9_imbalance : MethodName := ⟨RX9, "imbalance", "()I"⟩
abbrev cX9_stepsAfter : ByteArray := prog_1_method_46_code
def yX9_stepsAfter : MethodName := ⟨RX9, "stepsAfter", "(I)I"⟩
abbrev cX9_walkerTileAfter : ByteArray := prog_1_method_47_code
def yX9_walkerTileAfter : MethodName := ⟨RX9, "walkerTileAfter", "(I)I"⟩
abbrev cX9_spillTimeAfter : ByteArray := prog_1_method_48_code
def yX9_spillTimeAfter : MethodName := ⟨RX9, "spillTimeAfter", "(II)I"⟩
abbrev cX9_minutesUntilFall : ByteArray := prog_1_method_50_code
def yX9_minutesUntilFall : MethodName := ⟨RX9, "minutesUntilFall", "()I"⟩
abbrev cX9_stepsAtPace : ByteArray := prog_1_method_51_code
def yX9_stepsAtPace : MethodName := ⟨RX9, "stepsAtPace", "(II)I"⟩
abbrev cX9_bestPace : ByteArray := prog_1_method_52_code
def yX9_bestPace : MethodName := ⟨RX9, "bestPace", "(I)I"⟩
abbrev cX9_bestCurtain : ByteArray := prog_1_method_53_code
def yX9_bestCurtain : MethodName := ⟨RX9, "bestCurtain", "(I)I"⟩
abbrev cX9_foretellSteps : ByteArray := prog_1_method_54_code
def yX9_foretellSteps : MethodName := ⟨RX9, "foretellSteps", "(II)I"⟩
abbrev cX9_advance : ByteArray := prog_1_method_58_code
def yX9_advance : MethodName := ⟨RX9, "advance", "(I)I"⟩
abbrev cX9_setPace : ByteArray := prog_1_method_59_code
def yX9_setPace : MethodName := ⟨RX9, "setPace", "(I)I"⟩
abbrev cX9_setCurtain : ByteArray := prog_1_method_60_code
def yX9_setCurtain : MethodName := ⟨RX9, "setCurtain", "(IZ)Z"⟩
abbrev cX9_placeBowl : ByteArray := prog_1_method_61_code
def yX9_placeBowl : MethodName := ⟨RX9, "placeBowl", "(I)I"⟩
abbrev cX9_mop : ByteArray := prog_1_method_62_code
def yX9_mop : MethodName := ⟨RX9, "mop", "(I)I"⟩
abbrev cX9_turnWalker : ByteArray := prog_1_method_63_code
def yX9_turnWalker : MethodName := ⟨RX9, "turnWalker", "()Z"⟩
abbrev cX9_undoCount : ByteArray := prog_1_method_65_code
def yX9_undoCount : MethodName := ⟨RX9, "undoCount", "()I"⟩
abbrev cX9_saveState : ByteArray := prog_1_method_66_code
def yX9_saveState : MethodName := ⟨RX9, "saveState", "(I)I"⟩
abbrev cX9_restoreState : ByteArray := prog_1_method_67_code
def yX9_restoreState : MethodName := ⟨RX9, "restoreState", "(I)I"⟩
abbrev cX9_requireSetup : ByteArray := prog_1_method_68_code
def yX9_requireSetup : MethodName := ⟨RX9, "requireSetup", "()V"⟩
abbrev cX9_requireTile : ByteArray := prog_1_method_69_code
def yX9_requireTile : MethodName := ⟨RX9, "requireTile", "(I)V"⟩
abbrev cX9_requireColumn : ByteArray := prog_1_method_70_code
def yX9_requireColumn : MethodName := ⟨RX9, "requireColumn", "(I)V"⟩
abbrev cX9_requireRecord : ByteArray := prog_1_method_71_code
def yX9_requireRecord : MethodName := ⟨RX9, "requireRecord", "(I)V"⟩
abbrev cX9_requireSlot : ByteArray := prog_1_method_72_code
def yX9_requireSlot : MethodName := ⟨RX9, "requireSlot", "(I)V"⟩
abbrev cX9_requireForetellable : ByteArray := prog_1_method_73_code
def yX9_requireForetellable : MethodName := ⟨RX9, "requireForetellable", "(I)V"⟩
abbrev cX9_requirePace : ByteArray := prog_1_method_74_code
def yX9_requirePace : MethodName := ⟨RX9, "requirePace", "(I)V"⟩
abbrev cX9_at : ByteArray := prog_1_method_75_code
def yX9_at : MethodName := ⟨RX9, "at", "([II)I"⟩
abbrev cX9_put : ByteArray := prog_1_method_76_code
def yX9_put : MethodName := ⟨RX9, "put", "([III)V"⟩
abbrev cX9_copy : ByteArray := prog_1_method_77_code
def yX9_copy : MethodName := ⟨RX9, "copy", "([I[I)V"⟩
abbrev cX9_sum : ByteArray := prog_1_method_78_code
def yX9_sum : MethodName := ⟨RX9, "sum", "([I)I"⟩
abbrev cX9_countMarked : ByteArray := prog_1_method_79_code
def yX9_countMarked : MethodName := ⟨RX9, "countMarked", "([I)I"⟩
def RX10 : String := "MoonlitFloorLaw$Floor"
def TX10 : u_T := fun k => match k with
  | 0 => ("MoonlitFloorLaw$Floor", "rows", "I", false)
  | 1 => ("MoonlitFloorLaw$Floor", "columns", "I", false)
  | 2 => ("MoonlitFloorLaw$Floor", "light", "I", false)
  | 3 => ("MoonlitFloorLaw$Floor", "pace", "I", false)
  | 4 => ("MoonlitFloorLaw$Floor", "drying", "I", false)
  | 5 => ("MoonlitFloorLaw$Floor", "rest", "I", false)
  | 6 => ("MoonlitFloorLaw$Floor", "stamina", "I", false)
  | 7 => ("MoonlitFloorLaw$Floor", "noise", "I", false)
  | 8 => ("MoonlitFloorLaw$Floor", "night", "I", false)
  | 9 => ("MoonlitFloorLaw$Floor", "minute", "I", false)
  | 10 => ("MoonlitFloorLaw$Floor", "walker", "I", false)
  | 11 => ("MoonlitFloorLaw$Floor", "column", "I", false)
  | 12 => ("MoonlitFloorLaw$Floor", "resting", "I", false)
  | 13 => ("MoonlitFloorLaw$Floor", "since", "I", false)
  | 14 => ("MoonlitFloorLaw$Floor", "total", "I", false)
  | 15 => ("MoonlitFloorLaw$Floor", "tonight", "I", false)
  | 16 => ("MoonlitFloorLaw$Floor", "turns", "I", false)
  | 17 => ("MoonlitFloorLaw$Floor", "falls", "I", false)
  | 18 => ("MoonlitFloorLaw$Floor", "slides", "I", false)
  | 19 => ("MoonlitFloorLaw$Floor", "cat", "I", false)
  | 20 => ("MoonlitFloorLaw$Floor", "next", "I", false)
  | 21 => ("MoonlitFloorLaw$Floor", "right", "Z", false)
  | 22 => ("MoonlitFloorLaw$Floor", "route", "[I", false)
  | 23 => ("MoonlitFloorLaw$Floor", "closed", "[Z", false)
  | 24 => ("MoonlitFloorLaw$Floor", "bowls", "[Z", false)
  | 25 => ("MoonlitFloorLaw$Floor", "rugs", "[Z", false)
  | 26 => ("MoonlitFloorLaw$Floor", "draughts", "[I", false)
  | 27 => ("MoonlitFloorLaw$Floor", "spills", "[I", false)
  | 28 => ("MoonlitFloorLaw$Floor", "wear", "[I", false)
  | 29 => ("MoonlitFloorLaw$Floor", "clouds", "Ljava/util/ArrayList;", true)
  | _ => ("MoonlitFloorLaw$Floor", "records", "Ljava/util/ArrayList;", true)
def tyX10 : Nat → FieldType := fun k => match k with
  | 0 => .int
  | 1 => .int
  | 2 => .int
  | 3 => .int
  | 4 => .int
  | 5 => .int
  | 6 => .int
  | 7 => .int
  | 8 => .int
  | 9 => .int
  | 10 => .int
  | 11 => .int
  | 12 => .int
  | 13 => .int
  | 14 => .int
  | 15 => .int
  | 16 => .int
  | 17 => .int
  | 18 => .int
  | 19 => .int
  | 20 => .int
  | 21 => .boolean
  | 22 => .array .int
  | 23 => .array .boolean
  | 24 => .array .boolean
  | 25 => .array .boolean
  | 26 => .array .int
  | 27 => .array .int
  | 28 => .array .int
  | 29 => .object "java/util/ArrayList"
  | _ => .object "java/util/ArrayList"
abbrev wsX100 : List Cond := u_ws RX10 TX10 31
theorem nmX10 : ∀ a, a < 31 → ∀ b, b < 31 → a ≠ b → (TX10 a).2.1 ≠ (TX10 b).2.1 := by decide +kernel
theorem tyX10_ok : ∀ k, k < 31 → parseFieldDescriptor (TX10 k).2.2.1 = some (tyX10 k) := by decide +kernel
abbrev cX10_init : ByteArray := prog_12_method_1_code
def yX10_init : MethodName := ⟨RX10, "<init>", "()V"⟩
abbrev cX10_tiles : ByteArray := prog_12_method_3_code
def yX10_tiles : MethodName := ⟨RX10, "tiles", "()I"⟩
abbrev cX10_bright : ByteArray := prog_12_method_4_code
def yX10_bright : MethodName := ⟨RX10, "bright", "()I"⟩
abbrev cX10_shines : ByteArray := prog_12_method_5_code
def yX10_shines : MethodName := ⟨RX10, "shines", "()Z"⟩
abbrev cX10_lit : ByteArray := prog_12_method_6_code
def yX10_lit : MethodName := ⟨RX10, "lit", "(I)Z"⟩
abbrev cX10_steps : ByteArray := prog_12_method_7_code
def yX10_steps : MethodName := ⟨RX10, "steps", "()I"⟩
abbrev cX10_beside : ByteArray := prog_12_method_8_code
def yX10_beside : MethodName := ⟨RX10, "beside", "(II)I"⟩
abbrev cX10_ahead : ByteArray := prog_12_method_9_code
def yX10_ahead : MethodName := ⟨RX10, "ahead", "()I"⟩
abbrev cX10_block : ByteArray := prog_12_method_10_code
def yX10_block : MethodName := ⟨RX10, "block", "()I"⟩
abbrev cX10_prowl : ByteArray := prog_12_method_11_code
def yX10_prowl : MethodName := ⟨RX10, "prowl", "()V"⟩
abbrev cX10_walk : ByteArray := prog_12_method_12_code
def yX10_walk : MethodName := ⟨RX10, "walk", "()V"⟩
abbrev cX10_rank : ByteArray := prog_12_method_13_code
def yX10_rank : MethodName := ⟨RX10, "rank", "(I)I"⟩
abbrev cX10_dawn : ByteArray := prog_12_method_14_code
def yX10_dawn : MethodName := ⟨RX10, "dawn", "()V"⟩
abbrev cX10_relocate : ByteArray := prog_12_method_15_code
def yX10_relocate : MethodName := ⟨RX10, "relocate", "()V"⟩
abbrev cX10_advance : ByteArray := prog_12_method_16_code
def yX10_advance : MethodName := ⟨RX10, "advance", "(I)I"⟩
def RX11 : String := "MoonlitFloorModel"
def TX11 : u_T := fun k => match k with
  | _ => ("", "", "", false)
def tyX11 : Nat → FieldType := fun k => match k with
  | _ => .int
abbrev wsX110 : List Cond := u_ws RX11 TX11 0
theorem nmX11 : ∀ a, a < 0 → ∀ b, b < 0 → a ≠ b → (TX11 a).2.1 ≠ (TX11 b).2.1 := by decide +kernel
theorem tyX11_ok : ∀ k, k < 0 → parseFieldDescriptor (TX11 k).2.2.1 = some (tyX11 k) := by decide +kernel
def RJx145de : String := "java/io/Serializable"
def TJx145de : u_T := fun k => match k with
  | _ => ("", "", "", false)
def tyJx145de : Nat → FieldType := fun k => match k with
  | _ => .int
abbrev wsJx145de0 : List Cond := u_ws RJx145de TJx145de 0
theorem nmJx145de : ∀ a, a < 0 → ∀ b, b < 0 → a ≠ b → (TJx145de a).2.1 ≠ (TJx145de b).2.1 := by decide +kernel
theorem tyJx145de_ok : ∀ k, k < 0 → parseFieldDescriptor (TJx145de k).2.2.1 = some (tyJx145de k) := by decide +kernel
def RJ5 : String := "java/lang/AbstractStringBuilder"
def TJ5 : u_T := fun k => match k with
  | _ => ("", "", "", false)
def tyJ5 : Nat → FieldType := fun k => match k with
  | _ => .int
abbrev wsJ50 : List Cond := u_ws RJ5 TJ5 0
theorem nmJ5 : ∀ a, a < 0 → ∀ b, b < 0 → a ≠ b → (TJ5 a).2.1 ≠ (TJ5 b).2.1 := by decide +kernel
theorem tyJ5_ok : ∀ k, k < 0 → parseFieldDescriptor (TJ5 k).2.2.1 = some (tyJ5 k) := by decide +kernel
abbrev cJ5_init_d00df : ByteArray := prog_15_method_2_code
def yJ5_init_d00df : MethodName := ⟨RJ5, "<init>", "(I)V"⟩
abbrev cJ5_init_a7421 : ByteArray := prog_15_method_3_code
def yJ5_init_a7421 : MethodName := ⟨RJ5, "<init>", "(Ljava/lang/String;)V"⟩
abbrev cJ5_length_8abf5 : ByteArray := prog_15_method_6_code
def yJ5_length_8abf5 : MethodName := ⟨RJ5, "length", "()I"⟩
abbrev cJ5_ensureCapacityInternal_d00df : ByteArray := prog_15_method_9_code
def yJ5_ensureCapacityInternal_d00df : MethodName := ⟨RJ5, "ensureCapacityInternal", "(I)V"⟩
abbrev cJ5_newCapacity_0f7a4 : ByteArray := prog_15_method_10_code
def yJ5_newCapacity_0f7a4 : MethodName := ⟨RJ5, "newCapacity", "(I)I"⟩
abbrev cJ5_inflate_da8c8 : ByteArray := prog_15_method_11_code
def yJ5_inflate_da8c8 : MethodName := ⟨RJ5, "inflate", "()V"⟩
abbrev cJ5_charAt_5068e : ByteArray := prog_15_method_14_code
def yJ5_charAt_5068e : MethodName := ⟨RJ5, "charAt", "(I)C"⟩
abbrev cJ5_append_cf1ce : ByteArray := prog_15_method_22_code
def yJ5_append_cf1ce : MethodName := ⟨RJ5, "append", "(Ljava/lang/String;)Ljava/lang/AbstractStringBuilder;"⟩
abbrev cJ5_appendNull_278bc : ByteArray := prog_15_method_26_code
def yJ5_appendNull_278bc : MethodName := ⟨RJ5, "appendNull", "()Ljava/lang/AbstractStringBuilder;"⟩
abbrev cJ5_append_3fe6f : ByteArray := prog_15_method_31_code
def yJ5_append_3fe6f : MethodName := ⟨RJ5, "append", "(C)Ljava/lang/AbstractStringBuilder;"⟩
abbrev cJ5_append_c97b9 : ByteArray := prog_15_method_32_code
def yJ5_append_c97b9 : MethodName := ⟨RJ5, "append", "(I)Ljava/lang/AbstractStringBuilder;"⟩
abbrev cJ5_getValue_6d5f1 : ByteArray := prog_15_method_64_code
def yJ5_getValue_6d5f1 : MethodName := ⟨RJ5, "getValue", "()[B"⟩
abbrev cJ5_isLatin1_aae02 : ByteArray := prog_15_method_68_code
def yJ5_isLatin1_aae02 : MethodName := ⟨RJ5, "isLatin1", "()Z"⟩
abbrev cJ5_inflateIfNeededFor_a7421 : ByteArray := prog_15_method_71_code
def yJ5_inflateIfNeededFor_a7421 : MethodName := ⟨RJ5, "inflateIfNeededFor", "(Ljava/lang/String;)V"⟩
abbrev cJ5_putStringAt_47b60 : ByteArray := prog_15_method_73_code
def yJ5_putStringAt_47b60 : MethodName := ⟨RJ5, "putStringAt", "(ILjava/lang/String;)V"⟩
def RJx2cfe8 : String := "java/lang/Appendable"
def TJx2cfe8 : u_T := fun k => match k with
  | _ => ("", "", "", false)
def tyJx2cfe8 : Nat → FieldType := fun k => match k with
  | _ => .int
abbrev wsJx2cfe80 : List Cond := u_ws RJx2cfe8 TJx2cfe8 0
theorem nmJx2cfe8 : ∀ a, a < 0 → ∀ b, b < 0 → a ≠ b → (TJx2cfe8 a).2.1 ≠ (TJx2cfe8 b).2.1 := by decide +kernel
theorem tyJx2cfe8_ok : ∀ k, k < 0 → parseFieldDescriptor (TJx2cfe8 k).2.2.1 = some (tyJx2cfe8 k) := by decide +kernel
def RJx9f9b0 : String := "java/lang/CharSequence"
def TJx9f9b0 : u_T := fun k => match k with
  | _ => ("", "", "", false)
def tyJx9f9b0 : Nat → FieldType := fun k => match k with
  | _ => .int
abbrev wsJx9f9b00 : List Cond := u_ws RJx9f9b0 TJx9f9b0 0
theorem nmJx9f9b0 : ∀ a, a < 0 → ∀ b, b < 0 → a ≠ b → (TJx9f9b0 a).2.1 ≠ (TJx9f9b0 b).2.1 := by decide +kernel
theorem tyJx9f9b0_ok : ∀ k, k < 0 → parseFieldDescriptor (TJx9f9b0 k).2.2.1 = some (tyJx9f9b0 k) := by decide +kernel
def RJx8e188 : String := "java/lang/Cloneable"
def TJx8e188 : u_T := fun k => match k with
  | _ => ("", "", "", false)
def tyJx8e188 : Nat → FieldType := fun k => match k with
  | _ => .int
abbrev wsJx8e1880 : List Cond := u_ws RJx8e188 TJx8e188 0
theorem nmJx8e188 : ∀ a, a < 0 → ∀ b, b < 0 → a ≠ b → (TJx8e188 a).2.1 ≠ (TJx8e188 b).2.1 := by decide +kernel
theorem tyJx8e188_ok : ∀ k, k < 0 → parseFieldDescriptor (TJx8e188 k).2.2.1 = some (tyJx8e188 k) := by decide +kernel
def RJxb160c : String := "java/lang/Comparable"
def TJxb160c : u_T := fun k => match k with
  | _ => ("", "", "", false)
def tyJxb160c : Nat → FieldType := fun k => match k with
  | _ => .int
abbrev wsJxb160c0 : List Cond := u_ws RJxb160c TJxb160c 0
theorem nmJxb160c : ∀ a, a < 0 → ∀ b, b < 0 → a ≠ b → (TJxb160c a).2.1 ≠ (TJxb160c b).2.1 := by decide +kernel
theorem tyJxb160c_ok : ∀ k, k < 0 → parseFieldDescriptor (TJxb160c k).2.2.1 = some (tyJxb160c k) := by decide +kernel
def RJx29ce0 : String := "java/lang/Enum"
def TJx29ce0 : u_T := fun k => match k with
  | _ => ("", "", "", false)
def tyJx29ce0 : Nat → FieldType := fun k => match k with
  | _ => .int
abbrev wsJx29ce00 : List Cond := u_ws RJx29ce0 TJx29ce0 0
theorem nmJx29ce0 : ∀ a, a < 0 → ∀ b, b < 0 → a ≠ b → (TJx29ce0 a).2.1 ≠ (TJx29ce0 b).2.1 := by decide +kernel
theorem tyJx29ce0_ok : ∀ k, k < 0 → parseFieldDescriptor (TJx29ce0 k).2.2.1 = some (tyJx29ce0 k) := by decide +kernel
abbrev cJx29ce0_ordinal_8abf5 : ByteArray := prog_20_method_2_code
def yJx29ce0_ordinal_8abf5 : MethodName := ⟨RJx29ce0, "ordinal", "()I"⟩
def RJ6 : String := "java/lang/Integer"
def TJ6 : u_T := fun k => match k with
  | _ => ("", "", "", false)
def tyJ6 : Nat → FieldType := fun k => match k with
  | _ => .int
abbrev wsJ60 : List Cond := u_ws RJ6 TJ6 0
theorem nmJ6 : ∀ a, a < 0 → ∀ b, b < 0 → a ≠ b → (TJ6 a).2.1 ≠ (TJ6 b).2.1 := by decide +kernel
theorem tyJ6_ok : ∀ k, k < 0 → parseFieldDescriptor (TJ6 k).2.2.1 = some (tyJ6 k) := by decide +kernel
abbrev cJ6_getChars_ba4f3 : ByteArray := prog_25_method_12_code
def yJ6_getChars_ba4f3 : MethodName := ⟨RJ6, "getChars", "(II[B)I"⟩
abbrev cJ6_stringSize_0f7a4 : ByteArray := prog_25_method_13_code
def yJ6_stringSize_0f7a4 : MethodName := ⟨RJ6, "stringSize", "(I)I"⟩
abbrev cJ6_numberOfLeadingZeros_0f7a4 : ByteArray := prog_25_method_47_code
def yJ6_numberOfLeadingZeros_0f7a4 : MethodName := ⟨RJ6, "numberOfLeadingZeros", "(I)I"⟩
abbrev cJ6_numberOfTrailingZeros_0f7a4 : ByteArray := prog_25_method_48_code
def yJ6_numberOfTrailingZeros_0f7a4 : MethodName := ⟨RJ6, "numberOfTrailingZeros", "(I)I"⟩
def RJxab1ab : String := "java/lang/Iterable"
def TJxab1ab : u_T := fun k => match k with
  | _ => ("", "", "", false)
def tyJxab1ab : Nat → FieldType := fun k => match k with
  | _ => .int
abbrev wsJxab1ab0 : List Cond := u_ws RJxab1ab TJxab1ab 0
theorem nmJxab1ab : ∀ a, a < 0 → ∀ b, b < 0 → a ≠ b → (TJxab1ab a).2.1 ≠ (TJxab1ab b).2.1 := by decide +kernel
theorem tyJxab1ab_ok : ∀ k, k < 0 → parseFieldDescriptor (TJxab1ab k).2.2.1 = some (tyJxab1ab k) := by decide +kernel
def RJ13 : String := "java/lang/Long"
def TJ13 : u_T := fun k => match k with
  | _ => ("", "", "", false)
def tyJ13 : Nat → FieldType := fun k => match k with
  | _ => .int
abbrev wsJ130 : List Cond := u_ws RJ13 TJ13 0
theorem nmJ13 : ∀ a, a < 0 → ∀ b, b < 0 → a ≠ b → (TJ13 a).2.1 ≠ (TJ13 b).2.1 := by decide +kernel
theorem tyJ13_ok : ∀ k, k < 0 → parseFieldDescriptor (TJ13 k).2.2.1 = some (tyJ13 k) := by decide +kernel
abbrev cJ13_numberOfLeadingZeros_95d88 : ByteArray := prog_27_method_48_code
def yJ13_numberOfLeadingZeros_95d88 : MethodName := ⟨RJ13, "numberOfLeadingZeros", "(J)I"⟩
abbrev cJ13_numberOfTrailingZeros_95d88 : ByteArray := prog_27_method_49_code
def yJ13_numberOfTrailingZeros_95d88 : MethodName := ⟨RJ13, "numberOfTrailingZeros", "(J)I"⟩
def RJ9 : String := "java/lang/Math"
def TJ9 : u_T := fun k => match k with
  | _ => ("", "", "", false)
def tyJ9 : Nat → FieldType := fun k => match k with
  | _ => .int
abbrev wsJ90 : List Cond := u_ws RJ9 TJ9 0
theorem nmJ9 : ∀ a, a < 0 → ∀ b, b < 0 → a ≠ b → (TJ9 a).2.1 ≠ (TJ9 b).2.1 := by decide +kernel
theorem tyJ9_ok : ∀ k, k < 0 → parseFieldDescriptor (TJ9 k).2.2.1 = some (tyJ9 k) := by decide +kernel
abbrev cJ9_abs_0f7a4 : ByteArray := prog_28_method_59_code
def yJ9_abs_0f7a4 : MethodName := ⟨RJ9, "abs", "(I)I"⟩
abbrev cJ9_max_7cf53 : ByteArray := prog_28_method_65_code
def yJ9_max_7cf53 : MethodName := ⟨RJ9, "max", "(II)I"⟩
abbrev cJ9_min_7cf53 : ByteArray := prog_28_method_69_code
def yJ9_min_7cf53 : MethodName := ⟨RJ9, "min", "(II)I"⟩
def RJxd2413 : String := "java/lang/Number"
def TJxd2413 : u_T := fun k => match k with
  | _ => ("", "", "", false)
def tyJxd2413 : Nat → FieldType := fun k => match k with
  | _ => .int
abbrev wsJxd24130 : List Cond := u_ws RJxd2413 TJxd2413 0
theorem nmJxd2413 : ∀ a, a < 0 → ∀ b, b < 0 → a ≠ b → (TJxd2413 a).2.1 ≠ (TJxd2413 b).2.1 := by decide +kernel
theorem tyJxd2413_ok : ∀ k, k < 0 → parseFieldDescriptor (TJxd2413 k).2.2.1 = some (tyJxd2413 k) := by decide +kernel
def RJ0 : String := "java/lang/String"
def TJ0 : u_T := fun k => match k with
  | 0 => ("java/lang/String", "value", "[B", true)
  | 1 => ("java/lang/String", "coder", "B", true)
  | 2 => ("java/lang/String", "hash", "I", false)
  | _ => ("java/lang/String", "hashIsZero", "Z", false)
def tyJ0 : Nat → FieldType := fun k => match k with
  | 0 => .array .byte
  | 1 => .byte
  | 2 => .int
  | _ => .boolean
abbrev wsJ00 : List Cond := u_ws RJ0 TJ0 4
theorem nmJ0 : ∀ a, a < 4 → ∀ b, b < 4 → a ≠ b → (TJ0 a).2.1 ≠ (TJ0 b).2.1 := by decide +kernel
theorem tyJ0_ok : ∀ k, k < 4 → parseFieldDescriptor (TJ0 k).2.2.1 = some (tyJ0 k) := by decide +kernel
abbrev cJ0_init_81219 : ByteArray := prog_31_method_53_code
def yJ0_init_81219 : MethodName := ⟨RJ0, "<init>", "(Ljava/lang/StringBuilder;)V"⟩
abbrev cJ0_length_8abf5 : ByteArray := prog_31_method_54_code
def yJ0_length_8abf5 : MethodName := ⟨RJ0, "length", "()I"⟩
abbrev cJ0_charAt_5068e : ByteArray := prog_31_method_56_code
def yJ0_charAt_5068e : MethodName := ⟨RJ0, "charAt", "(I)C"⟩
abbrev cJ0_getBytes_840e7 : ByteArray := prog_31_method_147_code
def yJ0_getBytes_840e7 : MethodName := ⟨RJ0, "getBytes", "([BIB)V"⟩
abbrev cJ0_init_db425 : ByteArray := prog_31_method_150_code
def yJ0_init_db425 : MethodName := ⟨RJ0, "<init>", "(Ljava/lang/AbstractStringBuilder;Ljava/lang/Void;)V"⟩
abbrev cJ0_coder_7d493 : ByteArray := prog_31_method_152_code
def yJ0_coder_7d493 : MethodName := ⟨RJ0, "coder", "()B"⟩
abbrev cJ0_isLatin1_aae02 : ByteArray := prog_31_method_154_code
def yJ0_isLatin1_aae02 : MethodName := ⟨RJ0, "isLatin1", "()Z"⟩
abbrev cJ0_checkIndex_df160 : ByteArray := prog_31_method_155_code
def yJ0_checkIndex_df160 : MethodName := ⟨RJ0, "checkIndex", "(II)V"⟩
abbrev cJ0_checkBoundsOffCount_cabcc : ByteArray := prog_31_method_157_code
def yJ0_checkBoundsOffCount_cabcc : MethodName := ⟨RJ0, "checkBoundsOffCount", "(III)I"⟩
abbrev cJ0_checkBoundsBeginEnd_23922 : ByteArray := prog_31_method_158_code
def yJ0_checkBoundsBeginEnd_23922 : MethodName := ⟨RJ0, "checkBoundsBeginEnd", "(III)V"⟩
def RJ4 : String := "java/lang/StringBuilder"
def TJ4 : u_T := fun k => match k with
  | 0 => ("java/lang/AbstractStringBuilder", "value", "[B", false)
  | 1 => ("java/lang/AbstractStringBuilder", "coder", "B", false)
  | 2 => ("java/lang/AbstractStringBuilder", "maybeLatin1", "Z", false)
  | _ => ("java/lang/AbstractStringBuilder", "count", "I", false)
def tyJ4 : Nat → FieldType := fun k => match k with
  | 0 => .array .byte
  | 1 => .byte
  | 2 => .boolean
  | _ => .int
abbrev wsJ40 : List Cond := u_ws RJ4 TJ4 4
theorem nmJ4 : ∀ a, a < 4 → ∀ b, b < 4 → a ≠ b → (TJ4 a).2.1 ≠ (TJ4 b).2.1 := by decide +kernel
theorem tyJ4_ok : ∀ k, k < 4 → parseFieldDescriptor (TJ4 k).2.2.1 = some (tyJ4 k) := by decide +kernel
abbrev cJ4_init_da8c8 : ByteArray := prog_32_method_1_code
def yJ4_init_da8c8 : MethodName := ⟨RJ4, "<init>", "()V"⟩
abbrev cJ4_init_a7421 : ByteArray := prog_32_method_3_code
def yJ4_init_a7421 : MethodName := ⟨RJ4, "<init>", "(Ljava/lang/String;)V"⟩
abbrev cJ4_append_15ec4 : ByteArray := prog_32_method_7_code
def yJ4_append_15ec4 : MethodName := ⟨RJ4, "append", "(Ljava/lang/String;)Ljava/lang/StringBuilder;"⟩
abbrev cJ4_append_cf468 : ByteArray := prog_32_method_14_code
def yJ4_append_cf468 : MethodName := ⟨RJ4, "append", "(C)Ljava/lang/StringBuilder;"⟩
abbrev cJ4_append_bf812 : ByteArray := prog_32_method_15_code
def yJ4_append_bf812 : MethodName := ⟨RJ4, "append", "(I)Ljava/lang/StringBuilder;"⟩
abbrev cJ4_toString_0e30d : ByteArray := prog_32_method_42_code
def yJ4_toString_0e30d : MethodName := ⟨RJ4, "toString", "()Ljava/lang/String;"⟩
abbrev cJ4_append_cf1ce : ByteArray := prog_32_method_80_code
def yJ4_append_cf1ce : MethodName := ⟨RJ4, "append", "(Ljava/lang/String;)Ljava/lang/AbstractStringBuilder;"⟩
abbrev cJ4_charAt_5068e : ByteArray := prog_32_method_88_code
def yJ4_charAt_5068e : MethodName := ⟨RJ4, "charAt", "(I)C"⟩
abbrev cJ4_length_8abf5 : ByteArray := prog_32_method_93_code
def yJ4_length_8abf5 : MethodName := ⟨RJ4, "length", "()I"⟩
def RJ1 : String := "java/lang/StringLatin1"
def TJ1 : u_T := fun k => match k with
  | _ => ("", "", "", false)
def tyJ1 : Nat → FieldType := fun k => match k with
  | _ => .int
abbrev wsJ10 : List Cond := u_ws RJ1 TJ1 0
theorem nmJ1 : ∀ a, a < 0 → ∀ b, b < 0 → a ≠ b → (TJ1 a).2.1 ≠ (TJ1 b).2.1 := by decide +kernel
theorem tyJ1_ok : ∀ k, k < 0 → parseFieldDescriptor (TJ1 k).2.2.1 = some (tyJ1 k) := by decide +kernel
abbrev cJ1_charAt_3b067 : ByteArray := prog_33_method_2_code
def yJ1_charAt_3b067 : MethodName := ⟨RJ1, "charAt", "([BI)C"⟩
abbrev cJ1_canEncode_fc78d : ByteArray := prog_33_method_3_code
def yJ1_canEncode_fc78d : MethodName := ⟨RJ1, "canEncode", "(C)Z"⟩
abbrev cJ1_inflate_0e8fd : ByteArray := prog_33_method_50_code
def yJ1_inflate_0e8fd : MethodName := ⟨RJ1, "inflate", "([BI[BII)V"⟩
def RJ2 : String := "java/lang/StringUTF16"
def TJ2 : u_T := fun k => match k with
  | _ => ("", "", "", false)
def tyJ2 : Nat → FieldType := fun k => match k with
  | _ => .int
abbrev wsJ20 : List Cond := u_ws RJ2 TJ2 0
theorem nmJ2 : ∀ a, a < 0 → ∀ b, b < 0 → a ≠ b → (TJ2 a).2.1 ≠ (TJ2 b).2.1 := by decide +kernel
theorem tyJ2_ok : ∀ k, k < 0 → parseFieldDescriptor (TJ2 k).2.2.1 = some (tyJ2 k) := by decide +kernel
abbrev cJ2_newBytesFor_77867 : ByteArray := prog_34_method_2_code
def yJ2_newBytesFor_77867 : MethodName := ⟨RJ2, "newBytesFor", "(I)[B"⟩
abbrev cJ2_newBytesLength_0f7a4 : ByteArray := prog_34_method_3_code
def yJ2_newBytesLength_0f7a4 : MethodName := ⟨RJ2, "newBytesLength", "(I)I"⟩
abbrev cJ2_putChar_b72d1 : ByteArray := prog_34_method_4_code
def yJ2_putChar_b72d1 : MethodName := ⟨RJ2, "putChar", "([BII)V"⟩
abbrev cJ2_getChar_3b067 : ByteArray := prog_34_method_5_code
def yJ2_getChar_3b067 : MethodName := ⟨RJ2, "getChar", "([BI)C"⟩
abbrev cJ2_length_9d52b : ByteArray := prog_34_method_6_code
def yJ2_length_9d52b : MethodName := ⟨RJ2, "length", "([B)I"⟩
abbrev cJ2_coderFromArrayLen_85cad : ByteArray := prog_34_method_15_code
def yJ2_coderFromArrayLen_85cad : MethodName := ⟨RJ2, "coderFromArrayLen", "([BI)B"⟩
abbrev cJ2_compress_39247 : ByteArray := prog_34_method_17_code
def yJ2_compress_39247 : MethodName := ⟨RJ2, "compress", "([BII)[B"⟩
abbrev cJ2_compress_5af95 : ByteArray := prog_34_method_22_code
def yJ2_compress_5af95 : MethodName := ⟨RJ2, "compress", "([BI[BII)I"⟩
abbrev cJ2_putCharSB_b72d1 : ByteArray := prog_34_method_71_code
def yJ2_putCharSB_b72d1 : MethodName := ⟨RJ2, "putCharSB", "([BII)V"⟩
abbrev cJ2_getChars_46870 : ByteArray := prog_34_method_77_code
def yJ2_getChars_46870 : MethodName := ⟨RJ2, "getChars", "(III[B)I"⟩
abbrev cJ2_putCharsAt_cd4e5 : ByteArray := prog_34_method_81_code
def yJ2_putCharsAt_cd4e5 : MethodName := ⟨RJ2, "putCharsAt", "([BICCCC)I"⟩
abbrev cJ2_charAt_3b067 : ByteArray := prog_34_method_83_code
def yJ2_charAt_3b067 : MethodName := ⟨RJ2, "charAt", "([BI)C"⟩
abbrev cJ2_inflate_0e8fd : ByteArray := prog_34_method_86_code
def yJ2_inflate_0e8fd : MethodName := ⟨RJ2, "inflate", "([BI[BII)V"⟩
abbrev cJ2_getChars_ba4f3 : ByteArray := prog_34_method_89_code
def yJ2_getChars_ba4f3 : MethodName := ⟨RJ2, "getChars", "(II[B)I"⟩
abbrev cJ2_checkIndex_2214a : ByteArray := prog_34_method_91_code
def yJ2_checkIndex_2214a : MethodName := ⟨RJ2, "checkIndex", "(I[B)V"⟩
abbrev cJ2_checkBoundsBeginEnd_d044e : ByteArray := prog_34_method_93_code
def yJ2_checkBoundsBeginEnd_d044e : MethodName := ⟨RJ2, "checkBoundsBeginEnd", "(II[B)V"⟩
abbrev cJ2_checkBoundsOffCount_d044e : ByteArray := prog_34_method_94_code
def yJ2_checkBoundsOffCount_d044e : MethodName := ⟨RJ2, "checkBoundsOffCount", "(II[B)V"⟩
def RJ10 : String := "java/lang/System"
def TJ10 : u_T := fun k => match k with
  | _ => ("", "", "", false)
def tyJ10 : Nat → FieldType := fun k => match k with
  | _ => .int
abbrev wsJ100 : List Cond := u_ws RJ10 TJ10 0
theorem nmJ10 : ∀ a, a < 0 → ∀ b, b < 0 → a ≠ b → (TJ10 a).2.1 ≠ (TJ10 b).2.1 := by decide +kernel
theorem tyJ10_ok : ∀ k, k < 0 → parseFieldDescriptor (TJ10 k).2.2.1 = some (tyJ10 k) := by decide +kernel
def RJxfd54e : String := "java/lang/constant/Constable"
def TJxfd54e : u_T := fun k => match k with
  | _ => ("", "", "", false)
def tyJxfd54e : Nat → FieldType := fun k => match k with
  | _ => .int
abbrev wsJxfd54e0 : List Cond := u_ws RJxfd54e TJxfd54e 0
theorem nmJxfd54e : ∀ a, a < 0 → ∀ b, b < 0 → a ≠ b → (TJxfd54e a).2.1 ≠ (TJxfd54e b).2.1 := by decide +kernel
theorem tyJxfd54e_ok : ∀ k, k < 0 → parseFieldDescriptor (TJxfd54e k).2.2.1 = some (tyJxfd54e k) := by decide +kernel
def RJx3cf43 : String := "java/lang/constant/ConstantDesc"
def TJx3cf43 : u_T := fun k => match k with
  | _ => ("", "", "", false)
def tyJx3cf43 : Nat → FieldType := fun k => match k with
  | _ => .int
abbrev wsJx3cf430 : List Cond := u_ws RJx3cf43 TJx3cf43 0
theorem nmJx3cf43 : ∀ a, a < 0 → ∀ b, b < 0 → a ≠ b → (TJx3cf43 a).2.1 ≠ (TJx3cf43 b).2.1 := by decide +kernel
theorem tyJx3cf43_ok : ∀ k, k < 0 → parseFieldDescriptor (TJx3cf43 k).2.2.1 = some (tyJx3cf43 k) := by decide +kernel
def RJxa1e45 : String := "java/util/AbstractCollection"
def TJxa1e45 : u_T := fun k => match k with
  | _ => ("", "", "", false)
def tyJxa1e45 : Nat → FieldType := fun k => match k with
  | _ => .int
abbrev wsJxa1e450 : List Cond := u_ws RJxa1e45 TJxa1e45 0
theorem nmJxa1e45 : ∀ a, a < 0 → ∀ b, b < 0 → a ≠ b → (TJxa1e45 a).2.1 ≠ (TJxa1e45 b).2.1 := by decide +kernel
theorem tyJxa1e45_ok : ∀ k, k < 0 → parseFieldDescriptor (TJxa1e45 k).2.2.1 = some (tyJxa1e45 k) := by decide +kernel
abbrev cJxa1e45_init_da8c8 : ByteArray := prog_39_method_1_code
def yJxa1e45_init_da8c8 : MethodName := ⟨RJxa1e45, "<init>", "()V"⟩
def RJxc12de : String := "java/util/AbstractList"
def TJxc12de : u_T := fun k => match k with
  | _ => ("", "", "", false)
def tyJxc12de : Nat → FieldType := fun k => match k with
  | _ => .int
abbrev wsJxc12de0 : List Cond := u_ws RJxc12de TJxc12de 0
theorem nmJxc12de : ∀ a, a < 0 → ∀ b, b < 0 → a ≠ b → (TJxc12de a).2.1 ≠ (TJxc12de b).2.1 := by decide +kernel
theorem tyJxc12de_ok : ∀ k, k < 0 → parseFieldDescriptor (TJxc12de k).2.2.1 = some (tyJxc12de k) := by decide +kernel
abbrev cJxc12de_init_da8c8 : ByteArray := prog_40_method_1_code
def yJxc12de_init_da8c8 : MethodName := ⟨RJxc12de, "<init>", "()V"⟩
def RJx4a65c : String := "java/util/ArrayList"
def TJx4a65c : u_T := fun k => match k with
  | 0 => ("java/util/AbstractList", "modCount", "I", false)
  | 1 => ("java/util/ArrayList", "elementData", "[Ljava/lang/Object;", false)
  | _ => ("java/util/ArrayList", "size", "I", false)
def tyJx4a65c : Nat → FieldType := fun k => match k with
  | 0 => .int
  | 1 => .array (.object "java/lang/Object")
  | _ => .int
abbrev wsJx4a65c0 : List Cond := u_ws RJx4a65c TJx4a65c 3
theorem nmJx4a65c : ∀ a, a < 3 → ∀ b, b < 3 → a ≠ b → (TJx4a65c a).2.1 ≠ (TJx4a65c b).2.1 := by decide +kernel
theorem tyJx4a65c_ok : ∀ k, k < 3 → parseFieldDescriptor (TJx4a65c k).2.2.1 = some (tyJx4a65c k) := by decide +kernel
abbrev cJx4a65c_init_da8c8 : ByteArray := prog_41_method_2_code
def yJx4a65c_init_da8c8 : MethodName := ⟨RJx4a65c, "<init>", "()V"⟩
abbrev cJx4a65c_grow_92f84 : ByteArray := prog_41_method_6_code
def yJx4a65c_grow_92f84 : MethodName := ⟨RJx4a65c, "grow", "(I)[Ljava/lang/Object;"⟩
abbrev cJx4a65c_grow_d5877 : ByteArray := prog_41_method_7_code
def yJx4a65c_grow_d5877 : MethodName := ⟨RJx4a65c, "grow", "()[Ljava/lang/Object;"⟩
abbrev cJx4a65c_size_8abf5 : ByteArray := prog_41_method_8_code
def yJx4a65c_size_8abf5 : MethodName := ⟨RJx4a65c, "size", "()I"⟩
abbrev cJx4a65c_elementData_915e3 : ByteArray := prog_41_method_18_code
def yJx4a65c_elementData_915e3 : MethodName := ⟨RJx4a65c, "elementData", "(I)Ljava/lang/Object;"⟩
abbrev cJx4a65c_get_915e3 : ByteArray := prog_41_method_20_code
def yJx4a65c_get_915e3 : MethodName := ⟨RJx4a65c, "get", "(I)Ljava/lang/Object;"⟩
abbrev cJx4a65c_add_72be8 : ByteArray := prog_41_method_24_code
def yJx4a65c_add_72be8 : MethodName := ⟨RJx4a65c, "add", "(Ljava/lang/Object;[Ljava/lang/Object;I)V"⟩
abbrev cJx4a65c_add_9ea2d : ByteArray := prog_41_method_25_code
def yJx4a65c_add_9ea2d : MethodName := ⟨RJx4a65c, "add", "(Ljava/lang/Object;)Z"⟩
abbrev cJx4a65c_add_7a177 : ByteArray := prog_41_method_26_code
def yJx4a65c_add_7a177 : MethodName := ⟨RJx4a65c, "add", "(ILjava/lang/Object;)V"⟩
abbrev cJx4a65c_remove_915e3 : ByteArray := prog_41_method_29_code
def yJx4a65c_remove_915e3 : MethodName := ⟨RJx4a65c, "remove", "(I)Ljava/lang/Object;"⟩
abbrev cJx4a65c_fastRemove_b59b0 : ByteArray := prog_41_method_39_code
def yJx4a65c_fastRemove_b59b0 : MethodName := ⟨RJx4a65c, "fastRemove", "([Ljava/lang/Object;I)V"⟩
abbrev cJx4a65c_rangeCheckForAdd_d00df : ByteArray := prog_41_method_45_code
def yJx4a65c_rangeCheckForAdd_d00df : MethodName := ⟨RJx4a65c, "rangeCheckForAdd", "(I)V"⟩
def RJ7 : String := "java/util/Arrays"
def TJ7 : u_T := fun k => match k with
  | _ => ("", "", "", false)
def tyJ7 : Nat → FieldType := fun k => match k with
  | _ => .int
abbrev wsJ70 : List Cond := u_ws RJ7 TJ7 0
theorem nmJ7 : ∀ a, a < 0 → ∀ b, b < 0 → a ≠ b → (TJ7 a).2.1 ≠ (TJ7 b).2.1 := by decide +kernel
theorem tyJ7_ok : ∀ k, k < 0 → parseFieldDescriptor (TJ7 k).2.2.1 = some (tyJ7 k) := by decide +kernel
abbrev cJ7_equals_331f6 : ByteArray := prog_42_method_81_code
def yJ7_equals_331f6 : MethodName := ⟨RJ7, "equals", "([J[J)Z"⟩
abbrev cJ7_fill_d0a16 : ByteArray := prog_42_method_101_code
def yJ7_fill_d0a16 : MethodName := ⟨RJ7, "fill", "([JJ)V"⟩
abbrev cJ7_fill_53178 : ByteArray := prog_42_method_103_code
def yJ7_fill_53178 : MethodName := ⟨RJ7, "fill", "([II)V"⟩
abbrev cJ7_copyOf_1904c : ByteArray := prog_42_method_119_code
def yJ7_copyOf_1904c : MethodName := ⟨RJ7, "copyOf", "([Ljava/lang/Object;I)[Ljava/lang/Object;"⟩
abbrev cJ7_copyOf_6403c : ByteArray := prog_42_method_120_code
def yJ7_copyOf_6403c : MethodName := ⟨RJ7, "copyOf", "([Ljava/lang/Object;ILjava/lang/Class;)[Ljava/lang/Object;"⟩
abbrev cJ7_copyOf_9075b : ByteArray := prog_42_method_121_code
def yJ7_copyOf_9075b : MethodName := ⟨RJ7, "copyOf", "([BI)[B"⟩
abbrev cJ7_checkLength_df160 : ByteArray := prog_42_method_131_code
def yJ7_checkLength_df160 : MethodName := ⟨RJ7, "checkLength", "(II)V"⟩
abbrev cJ7_copyOfRange_39247 : ByteArray := prog_42_method_132_code
def yJ7_copyOfRange_39247 : MethodName := ⟨RJ7, "copyOfRange", "([BII)[B"⟩
abbrev cJ7_copyOfRangeByte_39247 : ByteArray := prog_42_method_133_code
def yJ7_copyOfRangeByte_39247 : MethodName := ⟨RJ7, "copyOfRangeByte", "([BII)[B"⟩
def RJx5ef63 : String := "java/util/Collection"
def TJx5ef63 : u_T := fun k => match k with
  | _ => ("", "", "", false)
def tyJx5ef63 : Nat → FieldType := fun k => match k with
  | _ => .int
abbrev wsJx5ef630 : List Cond := u_ws RJx5ef63 TJx5ef63 0
theorem nmJx5ef63 : ∀ a, a < 0 → ∀ b, b < 0 → a ≠ b → (TJx5ef63 a).2.1 ≠ (TJx5ef63 b).2.1 := by decide +kernel
theorem tyJx5ef63_ok : ∀ k, k < 0 → parseFieldDescriptor (TJx5ef63 k).2.2.1 = some (tyJx5ef63 k) := by decide +kernel
def RJxbd725 : String := "java/util/List"
def TJxbd725 : u_T := fun k => match k with
  | _ => ("", "", "", false)
def tyJxbd725 : Nat → FieldType := fun k => match k with
  | _ => .int
abbrev wsJxbd7250 : List Cond := u_ws RJxbd725 TJxbd725 0
theorem nmJxbd725 : ∀ a, a < 0 → ∀ b, b < 0 → a ≠ b → (TJxbd725 a).2.1 ≠ (TJxbd725 b).2.1 := by decide +kernel
theorem tyJxbd725_ok : ∀ k, k < 0 → parseFieldDescriptor (TJxbd725 k).2.2.1 = some (tyJxbd725 k) := by decide +kernel
def RJ15 : String := "java/util/Objects"
def TJ15 : u_T := fun k => match k with
  | _ => ("", "", "", false)
def tyJ15 : Nat → FieldType := fun k => match k with
  | _ => .int
abbrev wsJ150 : List Cond := u_ws RJ15 TJ15 0
theorem nmJ15 : ∀ a, a < 0 → ∀ b, b < 0 → a ≠ b → (TJ15 a).2.1 ≠ (TJ15 b).2.1 := by decide +kernel
theorem tyJ15_ok : ∀ k, k < 0 → parseFieldDescriptor (TJ15 k).2.2.1 = some (tyJ15 k) := by decide +kernel
abbrev cJ15_checkIndex_7cf53 : ByteArray := prog_45_method_17_code
def yJ15_checkIndex_7cf53 : MethodName := ⟨RJ15, "checkIndex", "(II)I"⟩
def RJxf0a74 : String := "java/util/RandomAccess"
def TJxf0a74 : u_T := fun k => match k with
  | _ => ("", "", "", false)
def tyJxf0a74 : Nat → FieldType := fun k => match k with
  | _ => .int
abbrev wsJxf0a740 : List Cond := u_ws RJxf0a74 TJxf0a74 0
theorem nmJxf0a74 : ∀ a, a < 0 → ∀ b, b < 0 → a ≠ b → (TJxf0a74 a).2.1 ≠ (TJxf0a74 b).2.1 := by decide +kernel
theorem tyJxf0a74_ok : ∀ k, k < 0 → parseFieldDescriptor (TJxf0a74 k).2.2.1 = some (tyJxf0a74 k) := by decide +kernel
def RJxa66e6 : String := "java/util/SequencedCollection"
def TJxa66e6 : u_T := fun k => match k with
  | _ => ("", "", "", false)
def tyJxa66e6 : Nat → FieldType := fun k => match k with
  | _ => .int
abbrev wsJxa66e60 : List Cond := u_ws RJxa66e6 TJxa66e6 0
theorem nmJxa66e6 : ∀ a, a < 0 → ∀ b, b < 0 → a ≠ b → (TJxa66e6 a).2.1 ≠ (TJxa66e6 b).2.1 := by decide +kernel
theorem tyJxa66e6_ok : ∀ k, k < 0 → parseFieldDescriptor (TJxa66e6 k).2.2.1 = some (tyJxa66e6 k) := by decide +kernel
def RJx9a822 : String := "jdk/internal/misc/Unsafe"
def TJx9a822 : u_T := fun k => match k with
  | _ => ("", "", "", false)
def tyJx9a822 : Nat → FieldType := fun k => match k with
  | _ => .int
abbrev wsJx9a8220 : List Cond := u_ws RJx9a822 TJx9a822 0
theorem nmJx9a822 : ∀ a, a < 0 → ∀ b, b < 0 → a ≠ b → (TJx9a822 a).2.1 ≠ (TJx9a822 b).2.1 := by decide +kernel
theorem tyJx9a822_ok : ∀ k, k < 0 → parseFieldDescriptor (TJx9a822 k).2.2.1 = some (tyJx9a822 k) := by decide +kernel
abbrev cJx9a822_getLongUnaligned_f02c6 : ByteArray := prog_48_method_334_code
def yJx9a822_getLongUnaligned_f02c6 : MethodName := ⟨RJx9a822, "getLongUnaligned", "(Ljava/lang/Object;J)J"⟩
abbrev cJx9a822_getIntUnaligned_25a47 : ByteArray := prog_48_method_336_code
def yJx9a822_getIntUnaligned_25a47 : MethodName := ⟨RJx9a822, "getIntUnaligned", "(Ljava/lang/Object;J)I"⟩
abbrev cJx9a822_pickPos_7cf53 : ByteArray := prog_48_method_350_code
def yJx9a822_pickPos_7cf53 : MethodName := ⟨RJx9a822, "pickPos", "(II)I"⟩
abbrev cJx9a822_makeLong_0477f : ByteArray := prog_48_method_351_code
def yJx9a822_makeLong_0477f : MethodName := ⟨RJx9a822, "makeLong", "(BBBBBBBB)J"⟩
abbrev cJx9a822_makeLong_4b46d : ByteArray := prog_48_method_352_code
def yJx9a822_makeLong_4b46d : MethodName := ⟨RJx9a822, "makeLong", "(SSSS)J"⟩
abbrev cJx9a822_makeLong_a216e : ByteArray := prog_48_method_353_code
def yJx9a822_makeLong_a216e : MethodName := ⟨RJx9a822, "makeLong", "(II)J"⟩
abbrev cJx9a822_makeInt_4e28c : ByteArray := prog_48_method_354_code
def yJx9a822_makeInt_4e28c : MethodName := ⟨RJx9a822, "makeInt", "(SS)I"⟩
abbrev cJx9a822_makeInt_86272 : ByteArray := prog_48_method_355_code
def yJx9a822_makeInt_86272 : MethodName := ⟨RJx9a822, "makeInt", "(BBBB)I"⟩
abbrev cJx9a822_toUnsignedInt_4d018 : ByteArray := prog_48_method_366_code
def yJx9a822_toUnsignedInt_4d018 : MethodName := ⟨RJx9a822, "toUnsignedInt", "(B)I"⟩
abbrev cJx9a822_toUnsignedInt_f1ed4 : ByteArray := prog_48_method_367_code
def yJx9a822_toUnsignedInt_f1ed4 : MethodName := ⟨RJx9a822, "toUnsignedInt", "(S)I"⟩
abbrev cJx9a822_toUnsignedLong_c5be9 : ByteArray := prog_48_method_368_code
def yJx9a822_toUnsignedLong_c5be9 : MethodName := ⟨RJx9a822, "toUnsignedLong", "(B)J"⟩
abbrev cJx9a822_toUnsignedLong_51cfc : ByteArray := prog_48_method_369_code
def yJx9a822_toUnsignedLong_51cfc : MethodName := ⟨RJx9a822, "toUnsignedLong", "(S)J"⟩
abbrev cJx9a822_toUnsignedLong_3e8ac : ByteArray := prog_48_method_370_code
def yJx9a822_toUnsignedLong_3e8ac : MethodName := ⟨RJx9a822, "toUnsignedLong", "(I)J"⟩
def RJxf92f9 : String := "jdk/internal/misc/UnsafeConstants"
def TJxf92f9 : u_T := fun k => match k with
  | _ => ("", "", "", false)
def tyJxf92f9 : Nat → FieldType := fun k => match k with
  | _ => .int
abbrev wsJxf92f90 : List Cond := u_ws RJxf92f9 TJxf92f9 0
theorem nmJxf92f9 : ∀ a, a < 0 → ∀ b, b < 0 → a ≠ b → (TJxf92f9 a).2.1 ≠ (TJxf92f9 b).2.1 := by decide +kernel
theorem tyJxf92f9_ok : ∀ k, k < 0 → parseFieldDescriptor (TJxf92f9 k).2.2.1 = some (tyJxf92f9 k) := by decide +kernel
def RJ8 : String := "jdk/internal/util/ArraysSupport"
def TJ8 : u_T := fun k => match k with
  | _ => ("", "", "", false)
def tyJ8 : Nat → FieldType := fun k => match k with
  | _ => .int
abbrev wsJ80 : List Cond := u_ws RJ8 TJ8 0
theorem nmJ8 : ∀ a, a < 0 → ∀ b, b < 0 → a ≠ b → (TJ8 a).2.1 ≠ (TJ8 b).2.1 := by decide +kernel
theorem tyJ8_ok : ∀ k, k < 0 → parseFieldDescriptor (TJ8 k).2.2.1 = some (tyJ8 k) := by decide +kernel
abbrev cJ8_vectorizedMismatch_456ae : ByteArray := prog_50_method_3_code
def yJ8_vectorizedMismatch_456ae : MethodName := ⟨RJ8, "vectorizedMismatch", "(Ljava/lang/Object;JLjava/lang/Object;JII)I"⟩
abbrev cJ8_mismatch_974f6 : ByteArray := prog_50_method_23_code
def yJ8_mismatch_974f6 : MethodName := ⟨RJ8, "mismatch", "([J[JI)I"⟩
abbrev cJ8_newLength_cabcc : ByteArray := prog_50_method_27_code
def yJ8_newLength_cabcc : MethodName := ⟨RJ8, "newLength", "(III)I"⟩
abbrev cJ8_hugeLength_7cf53 : ByteArray := prog_50_method_28_code
def yJ8_hugeLength_7cf53 : MethodName := ⟨RJ8, "hugeLength", "(II)I"⟩
def RJ3 : String := "jdk/internal/util/Preconditions"
def TJ3 : u_T := fun k => match k with
  | _ => ("", "", "", false)
def tyJ3 : Nat → FieldType := fun k => match k with
  | _ => .int
abbrev wsJ30 : List Cond := u_ws RJ3 TJ3 0
theorem nmJ3 : ∀ a, a < 0 → ∀ b, b < 0 → a ≠ b → (TJ3 a).2.1 ≠ (TJ3 b).2.1 := by decide +kernel
theorem tyJ3_ok : ∀ k, k < 0 → parseFieldDescriptor (TJ3 k).2.2.1 = some (tyJ3 k) := by decide +kernel
abbrev cJ3_checkIndex_8e157 : ByteArray := prog_51_method_11_code
def yJ3_checkIndex_8e157 : MethodName := ⟨RJ3, "checkIndex", "(IILjava/util/function/BiFunction;)I"⟩
abbrev cJ3_checkFromToIndex_8c36e : ByteArray := prog_51_method_12_code
def yJ3_checkFromToIndex_8c36e : MethodName := ⟨RJ3, "checkFromToIndex", "(IIILjava/util/function/BiFunction;)I"⟩
abbrev cJ3_checkFromIndexSize_8c36e : ByteArray := prog_51_method_13_code
def yJ3_checkFromIndexSize_8c36e : MethodName := ⟨RJ3, "checkFromIndexSize", "(IIILjava/util/function/BiFunction;)I"⟩
def RL : String := "MoonlitFloorLaw"
abbrev cL_put : ByteArray := method_2_code
def yL_put : MethodName := ⟨RL, "put", "(LMoonlitFloor;[II)V"⟩
abbrev cL_flush : ByteArray := method_3_code
def yL_flush : MethodName := ⟨RL, "flush", "(LMoonlitFloor;[I)V"⟩
abbrev cL_said : ByteArray := method_5_code
def yL_said : MethodName := ⟨RL, "said", "(LMoonlitFloor;[I)I"⟩
abbrev cL_cell : ByteArray := method_7_code
def yL_cell : MethodName := ⟨RL, "cell", "([II)I"⟩
abbrev cL_floor : ByteArray := method_8_code
def yL_floor : MethodName := ⟨RL, "floor", "([I)LMoonlitFloorLaw$Floor;"⟩
abbrev cL_text : ByteArray := method_9_code
def yL_text : MethodName := ⟨RL, "text", "(LMoonlitFloorLaw$Floor;I)Ljava/lang/String;"⟩
abbrev cL_told : ByteArray := method_10_code
def yL_told : MethodName := ⟨RL, "told", "(LMoonlitFloor;[ILjava/lang/CharSequence;)I"⟩
abbrev cL_law : ByteArray := code
def yL_law : MethodName := ⟨RL, "law", "([I)Z"⟩
abbrev cL_isOneRow : ByteArray := method_14_code
def yL_isOneRow : MethodName := ⟨RL, "isOneRow", "(LMoonlitFloor;LMoonlitFloorLaw$Floor;)Z"⟩
abbrev cL_isPlaced : ByteArray := method_15_code
def yL_isPlaced : MethodName := ⟨RL, "isPlaced", "(LMoonlitFloor;)Z"⟩
abbrev cL_sees : ByteArray := method_16_code
def yL_sees : MethodName := ⟨RL, "sees", "(LMoonlitFloor;LMoonlitFloorLaw$Floor;[J)V"⟩
abbrev vwCl : List vw_C := [(RJ0, TJ0, 4), (RJ4, TJ4, 4), (RJx4a65c, TJx4a65c, 3), (RJx4a65c, TJx4a65c, 3), (RX1, TX1, 5), (RX2, TX2, 13), (RX3, TX3, 3), (RX4, TX4, 11), (RX6, TX6, 5), (RX7, TX7, 9), (RX8, TX8, 14), (RX9, TX9, 8), (RX10, TX10, 31)]
/-! the words of the tables that go through calls: one list for all methods -/
def sg_T : List Cond := lw_tbl.filter goodWord
theorem sg_mem {w : Cond} (h : w ∈ lw_tbl) (hg : goodWord w = true) : w ∈ sg_T := List.mem_filter.mpr ⟨h, hg⟩
theorem sg_in0 {w : Cond} (i : Nat) (h : (k2_sels lw_privs)[i]? = some w) (hg : goodWord w = true) : w ∈ sg_T := sg_mem (List.mem_append_left _ (List.mem_of_getElem? h)) hg
theorem sg_in1 {w : Cond} (i : Nat) (h : tables_1_1[i]? = some w) (hg : goodWord w = true) : w ∈ sg_T := sg_mem (List.mem_append_right _ (show w ∈ tables_1_1 ++ (tables_1_2 ++ (tables_1_3 ++ (tables_1_4 ++ (tables_1_5 ++ (tables_1_6 ++ (tables_1_7 ++ (tables_1_8 ++ (tables_1_9)))))))) from (List.mem_append_left _ (List.mem_of_getElem? h)))) hg
theorem sg_in2 {w : Cond} (i : Nat) (h : tables_1_2[i]? = some w) (hg : goodWord w = true) : w ∈ sg_T := sg_mem (List.mem_append_right _ (show w ∈ tables_1_1 ++ (tables_1_2 ++ (tables_1_3 ++ (tables_1_4 ++ (tables_1_5 ++ (tables_1_6 ++ (tables_1_7 ++ (tables_1_8 ++ (tables_1_9)))))))) from (List.mem_append_right _ (List.mem_append_left _ (List.mem_of_getElem? h))))) hg
theorem sg_in3 {w : Cond} (i : Nat) (h : tables_1_3[i]? = some w) (hg : goodWord w = true) : w ∈ sg_T := sg_mem (List.mem_append_right _ (show w ∈ tables_1_1 ++ (tables_1_2 ++ (tables_1_3 ++ (tables_1_4 ++ (tables_1_5 ++ (tables_1_6 ++ (tables_1_7 ++ (tables_1_8 ++ (tables_1_9)))))))) from (List.mem_append_right _ (List.mem_append_right _ (List.mem_append_left _ (List.mem_of_getElem? h)))))) hg
theorem sg_in4 {w : Cond} (i : Nat) (h : tables_1_4[i]? = some w) (hg : goodWord w = true) : w ∈ sg_T := sg_mem (List.mem_append_right _ (show w ∈ tables_1_1 ++ (tables_1_2 ++ (tables_1_3 ++ (tables_1_4 ++ (tables_1_5 ++ (tables_1_6 ++ (tables_1_7 ++ (tables_1_8 ++ (tables_1_9)))))))) from (List.mem_append_right _ (List.mem_append_right _ (List.mem_append_right _ (List.mem_append_left _ (List.mem_of_getElem? h))))))) hg
theorem sg_in5 {w : Cond} (i : Nat) (h : tables_1_5[i]? = some w) (hg : goodWord w = true) : w ∈ sg_T := sg_mem (List.mem_append_right _ (show w ∈ tables_1_1 ++ (tables_1_2 ++ (tables_1_3 ++ (tables_1_4 ++ (tables_1_5 ++ (tables_1_6 ++ (tables_1_7 ++ (tables_1_8 ++ (tables_1_9)))))))) from (List.mem_append_right _ (List.mem_append_right _ (List.mem_append_right _ (List.mem_append_right _ (List.mem_append_left _ (List.mem_of_getElem? h)))))))) hg
theorem sg_in6 {w : Cond} (i : Nat) (h : tables_1_6[i]? = some w) (hg : goodWord w = true) : w ∈ sg_T := sg_mem (List.mem_append_right _ (show w ∈ tables_1_1 ++ (tables_1_2 ++ (tables_1_3 ++ (tables_1_4 ++ (tables_1_5 ++ (tables_1_6 ++ (tables_1_7 ++ (tables_1_8 ++ (tables_1_9)))))))) from (List.mem_append_right _ (List.mem_append_right _ (List.mem_append_right _ (List.mem_append_right _ (List.mem_append_right _ (List.mem_append_left _ (List.mem_of_getElem? h))))))))) hg
theorem sg_in7 {w : Cond} (i : Nat) (h : tables_1_7[i]? = some w) (hg : goodWord w = true) : w ∈ sg_T := sg_mem (List.mem_append_right _ (show w ∈ tables_1_1 ++ (tables_1_2 ++ (tables_1_3 ++ (tables_1_4 ++ (tables_1_5 ++ (tables_1_6 ++ (tables_1_7 ++ (tables_1_8 ++ (tables_1_9)))))))) from (List.mem_append_right _ (List.mem_append_right _ (List.mem_append_right _ (List.mem_append_right _ (List.mem_append_right _ (List.mem_append_right _ (List.mem_append_left _ (List.mem_of_getElem? h)))))))))) hg
theorem sg_in8 {w : Cond} (i : Nat) (h : tables_1_8[i]? = some w) (hg : goodWord w = true) : w ∈ sg_T := sg_mem (List.mem_append_right _ (show w ∈ tables_1_1 ++ (tables_1_2 ++ (tables_1_3 ++ (tables_1_4 ++ (tables_1_5 ++ (tables_1_6 ++ (tables_1_7 ++ (tables_1_8 ++ (tables_1_9)))))))) from (List.mem_append_right _ (List.mem_append_right _ (List.mem_append_right _ (List.mem_append_right _ (List.mem_append_right _ (List.mem_append_right _ (List.mem_append_right _ (List.mem_append_left _ (List.mem_of_getElem? h))))))))))) hg
theorem sg_in9 {w : Cond} (i : Nat) (h : tables_1_9[i]? = some w) (hg : goodWord w = true) : w ∈ sg_T := sg_mem (List.mem_append_right _ (show w ∈ tables_1_1 ++ (tables_1_2 ++ (tables_1_3 ++ (tables_1_4 ++ (tables_1_5 ++ (tables_1_6 ++ (tables_1_7 ++ (tables_1_8 ++ (tables_1_9)))))))) from (List.mem_append_right _ (List.mem_append_right _ (List.mem_append_right _ (List.mem_append_right _ (List.mem_append_right _ (List.mem_append_right _ (List.mem_append_right _ (List.mem_append_right _ (List.mem_of_getElem? h))))))))))) hg
theorem sg_gT (x : Cond) : GoodIn (x :: sg_T) sg_T := fun w h => ⟨List.mem_cons_of_mem _ h, good_of_word (List.mem_filter.mp h).2⟩
theorem sg_g1 {x w : Cond} {ws : List Cond} (h : w ∈ sg_T) (k : GoodIn (x :: sg_T) ws) : GoodIn (x :: sg_T) (w :: ws) := fun v hv => (List.mem_cons.mp hv).elim (fun e => by rw [e]; exact sg_gT x w h) (k v)
theorem sg_gV {x : Cond} {own C : String} {idx : Nat} {y : MethodName} {b : ByteArray} {n : Nat} {r : Option FieldType} (h1 : Cond.methodLink own idx y ∈ sg_T) (h2 : Cond.instanceMethod y ∈ sg_T) (h3 : Cond.selects C y y ∈ sg_T) (h4 : Cond.initialized C ∈ sg_T) (h5 : Cond.code y b n r ∈ sg_T) : GoodIn (x :: sg_T) (wsV own idx C y (Cond.code y b n r :: sg_T)) := sg_g1 h1 (sg_g1 h2 (sg_g1 h3 (sg_g1 h4 (sg_g1 h5 (sg_gT x)))))
theorem sg_gS {x : Cond} {own : String} {idx : Nat} {y : MethodName} {b : ByteArray} {n : Nat} {r : Option FieldType} (h1 : Cond.methodLink own idx y ∈ sg_T) (h2 : Cond.static y ∈ sg_T) (h4 : Cond.initialized y.cls ∈ sg_T) (h5 : Cond.code y b n r ∈ sg_T) : GoodIn (x :: sg_T) (va_wsS own idx y (Cond.code y b n r :: sg_T)) := sg_g1 h1 (sg_g1 h2 (sg_g1 h4 (sg_g1 h5 (sg_gT x))))
theorem sg_gC {x : Cond} {y : MethodName} {b : ByteArray} {n : Nat} {r : Option FieldType} (h5 : Cond.code y b n r ∈ sg_T) : GoodIn (x :: sg_T) (Cond.code y b n r :: sg_T) := sg_g1 h5 (sg_gT x)
end
section
theorem kt_1_0 : Jvm.Cond.initialized "MoonlitFloorLaw" ∈ sg_T := sg_in1 0 rfl rfl
theorem kt_1_1 : Jvm.Cond.initialized "MoonlitFloor" ∈ sg_T := sg_in1 1 rfl rfl
theorem kt_1_2 : Jvm.Cond.initialized "java/lang/AbstractStringBuilder" ∈ sg_T := sg_in1 2 rfl rfl
theorem kt_1_3 : Jvm.Cond.initialized "java/lang/StringBuilder" ∈ sg_T := sg_in1 3 rfl rfl
theorem kt_1_4 : Jvm.Cond.initialized "java/lang/String" ∈ sg_T := sg_in1 4 rfl rfl
theorem kt_1_5 : Jvm.Cond.initialized "java/lang/StringUTF16" ∈ sg_T := sg_in1 5 rfl rfl
theorem kt_1_6 : Jvm.Cond.initialized "MoonlitFloor$World" ∈ sg_T := sg_in1 6 rfl rfl
theorem kt_1_7 : Jvm.Cond.initialized "MoonlitFloor$Plan" ∈ sg_T := sg_in1 7 rfl rfl
theorem kt_1_8 : Jvm.Cond.initialized "MoonlitFloor$Walker" ∈ sg_T := sg_in1 8 rfl rfl
theorem kt_1_9 : Jvm.Cond.initialized "MoonlitFloor$Records" ∈ sg_T := sg_in1 9 rfl rfl
theorem kt_1_10 : Jvm.Cond.initialized "MoonlitFloor$SetupReader" ∈ sg_T := sg_in1 10 rfl rfl
theorem kt_1_11 : Jvm.Cond.initialized "MoonlitFloor$Tokens" ∈ sg_T := sg_in1 11 rfl rfl
theorem kt_1_12 : Jvm.Cond.initialized "MoonlitFloor$History" ∈ sg_T := sg_in1 12 rfl rfl
theorem kt_1_13 : Jvm.Cond.initialized "MoonlitFloorLaw$Floor" ∈ sg_T := sg_in1 13 rfl rfl
theorem kt_1_14 : Jvm.Cond.initialized "java/util/AbstractCollection" ∈ sg_T := sg_in1 14 rfl rfl
theorem kt_1_15 : Jvm.Cond.initialized "java/util/AbstractList" ∈ sg_T := sg_in1 15 rfl rfl
theorem kt_1_16 : Jvm.Cond.initialized "java/util/ArrayList" ∈ sg_T := sg_in1 16 rfl rfl
theorem kt_1_17 : Jvm.Cond.initialized "jdk/internal/util/ArraysSupport" ∈ sg_T := sg_in1 17 rfl rfl
theorem kt_1_18 : Jvm.Cond.initialized "java/lang/Math" ∈ sg_T := sg_in1 18 rfl rfl
theorem kt_1_19 : Jvm.Cond.initialized "java/util/Arrays" ∈ sg_T := sg_in1 19 rfl rfl
theorem kt_1_20 : Jvm.Cond.initialized "java/lang/System" ∈ sg_T := sg_in1 20 rfl rfl
theorem kt_1_21 : Jvm.Cond.initialized "jdk/internal/util/Preconditions" ∈ sg_T := sg_in1 21 rfl rfl
theorem kt_1_22 : Jvm.Cond.initialized "java/lang/StringLatin1" ∈ sg_T := sg_in1 22 rfl rfl
theorem kt_1_23 : Jvm.Cond.initialized "java/lang/Number" ∈ sg_T := sg_in1 23 rfl rfl
theorem kt_1_24 : Jvm.Cond.initialized "java/lang/Integer" ∈ sg_T := sg_in1 24 rfl rfl
theorem kt_1_25 : Jvm.Cond.initialized "java/util/Objects" ∈ sg_T := sg_in1 25 rfl rfl
theorem kt_1_26 : Jvm.Cond.initialized "java/lang/Throwable" ∈ sg_T := sg_in1 26 rfl rfl
theorem kt_1_27 : Jvm.Cond.initialized "java/lang/Exception" ∈ sg_T := sg_in1 27 rfl rfl
theorem kt_1_28 : Jvm.Cond.initialized "java/lang/RuntimeException" ∈ sg_T := sg_in1 28 rfl rfl
theorem kt_1_29 : Jvm.Cond.initialized "java/lang/IndexOutOfBoundsException" ∈ sg_T := sg_in1 29 rfl rfl
theorem kt_1_30 : Jvm.Cond.initialized "java/lang/Enum" ∈ sg_T := sg_in1 30 rfl rfl
theorem kt_1_31 : Jvm.Cond.initialized "MoonlitFloor$Sign" ∈ sg_T := sg_in1 31 rfl rfl
theorem kt_1_32 : Jvm.Cond.initialized "MoonlitFloor$1" ∈ sg_T := sg_in1 32 rfl rfl
theorem kt_1_33 : Jvm.Cond.initialized "java/lang/IllegalArgumentException" ∈ sg_T := sg_in1 33 rfl rfl
theorem kt_1_34 : Jvm.Cond.initialized "java/lang/IllegalStateException" ∈ sg_T := sg_in1 34 rfl rfl
theorem kt_1_35 : Jvm.Cond.initialized "jdk/internal/misc/Unsafe" ∈ sg_T := sg_in1 35 rfl rfl
theorem kt_1_36 : Jvm.Cond.initialized "jdk/internal/misc/UnsafeConstants" ∈ sg_T := sg_in1 36 rfl rfl
theorem kt_1_37 : Jvm.Cond.initialized "java/lang/Long" ∈ sg_T := sg_in1 37 rfl rfl
theorem kt_1_38 : Jvm.Cond.classLink "MoonlitFloorLaw" (14 : Nat) "MoonlitFloor" ∈ sg_T := sg_in1 38 rfl rfl
theorem kt_1_39 : Jvm.Cond.instantiable "MoonlitFloor" (8 : Nat) ∈ sg_T := sg_in1 39 rfl rfl
theorem kt_1_40 : Jvm.Cond.methodLink "MoonlitFloorLaw" (300 : Nat) ({ cls := "MoonlitFloor", name := "<init>", desc := "()V" } : Jvm.MethodName) ∈ sg_T := sg_in1 40 rfl rfl
theorem kt_1_41 : Jvm.Cond.instanceMethod ({ cls := "MoonlitFloor", name := "<init>", desc := "()V" } : Jvm.MethodName) ∈ sg_T := sg_in1 41 rfl rfl
theorem kt_1_42 : Jvm.Cond.code ({ cls := "MoonlitFloor", name := "<init>", desc := "()V" } : Jvm.MethodName) prog_1_method_1_code (1 : Nat) (Option.none : Option Jvm.ClassFile.FieldType) ∈ sg_T := sg_in1 42 rfl rfl
theorem kt_1_43 : Jvm.Cond.methodLink "MoonlitFloor" (1 : Nat) ({ cls := "java/lang/Object", name := "<init>", desc := "()V" } : Jvm.MethodName) ∈ sg_T := sg_in1 43 rfl rfl
theorem kt_1_44 : Jvm.Cond.instanceMethod ({ cls := "java/lang/Object", name := "<init>", desc := "()V" } : Jvm.MethodName) ∈ sg_T := sg_in1 44 rfl rfl
theorem kt_1_45 : Jvm.Cond.code ({ cls := "java/lang/Object", name := "<init>", desc := "()V" } : Jvm.MethodName) object_method_1_code (1 : Nat) (Option.none : Option Jvm.ClassFile.FieldType) ∈ sg_T := sg_in1 45 rfl rfl
theorem kt_1_46 : Jvm.Cond.classLink "MoonlitFloor" (13 : Nat) "java/lang/StringBuilder" ∈ sg_T := sg_in1 46 rfl rfl
theorem kt_1_47 : Jvm.Cond.instantiable "java/lang/StringBuilder" (4 : Nat) ∈ sg_T := sg_in1 47 rfl rfl
theorem kt_1_48 : Jvm.Cond.methodLink "MoonlitFloor" (15 : Nat) ({ cls := "java/lang/StringBuilder", name := "<init>", desc := "()V" } : Jvm.MethodName) ∈ sg_T := sg_in1 48 rfl rfl
theorem kt_1_49 : Jvm.Cond.instanceMethod ({ cls := "java/lang/StringBuilder", name := "<init>", desc := "()V" } : Jvm.MethodName) ∈ sg_T := sg_in1 49 rfl rfl
theorem kt_1_50 : Jvm.Cond.code ({ cls := "java/lang/StringBuilder", name := "<init>", desc := "()V" } : Jvm.MethodName) prog_32_method_1_code (1 : Nat) (Option.none : Option Jvm.ClassFile.FieldType) ∈ sg_T := sg_in1 50 rfl rfl
theorem kt_1_51 : Jvm.Cond.methodLink "java/lang/StringBuilder" (1 : Nat) ({ cls := "java/lang/AbstractStringBuilder", name := "<init>", desc := "(I)V" } : Jvm.MethodName) ∈ sg_T := sg_in1 51 rfl rfl
theorem kt_1_52 : Jvm.Cond.instanceMethod ({ cls := "java/lang/AbstractStringBuilder", name := "<init>", desc := "(I)V" } : Jvm.MethodName) ∈ sg_T := sg_in1 52 rfl rfl
theorem kt_1_53 : Jvm.Cond.code ({ cls := "java/lang/AbstractStringBuilder", name := "<init>", desc := "(I)V" } : Jvm.MethodName) prog_15_method_2_code (2 : Nat) (Option.none : Option Jvm.ClassFile.FieldType) ∈ sg_T := sg_in1 53 rfl rfl
theorem kt_1_54 : Jvm.Cond.methodLink "java/lang/AbstractStringBuilder" (3 : Nat) ({ cls := "java/lang/Object", name := "<init>", desc := "()V" } : Jvm.MethodName) ∈ sg_T := sg_in1 54 rfl rfl
theorem kt_1_55 : Jvm.Cond.fieldLink "java/lang/AbstractStringBuilder" (18 : Nat) "java/lang/String" "COMPACT_STRINGS" "Z" ∈ sg_T := sg_in1 55 rfl rfl
theorem kt_1_57 : Jvm.Cond.methodLink "java/lang/AbstractStringBuilder" (26 : Nat) ({ cls := "java/lang/StringUTF16", name := "newBytesFor", desc := "(I)[B" } : Jvm.MethodName) ∈ sg_T := sg_in1 57 rfl rfl
theorem kt_1_58 : Jvm.Cond.static ({ cls := "java/lang/StringUTF16", name := "newBytesFor", desc := "(I)[B" } : Jvm.MethodName) ∈ sg_T := sg_in1 58 rfl rfl
theorem kt_1_59 : Jvm.Cond.code ({ cls := "java/lang/StringUTF16", name := "newBytesFor", desc := "(I)[B" } : Jvm.MethodName) prog_34_method_2_code (1 : Nat) (Option.some (Jvm.ClassFile.FieldType.array Jvm.ClassFile.FieldType.byte)) ∈ sg_T := sg_in1 59 rfl rfl
theorem kt_1_60 : Jvm.Cond.methodLink "java/lang/StringUTF16" (11 : Nat) ({ cls := "java/lang/StringUTF16", name := "newBytesLength", desc := "(I)I" } : Jvm.MethodName) ∈ sg_T := sg_in1 60 rfl rfl
theorem kt_1_61 : Jvm.Cond.static ({ cls := "java/lang/StringUTF16", name := "newBytesLength", desc := "(I)I" } : Jvm.MethodName) ∈ sg_T := sg_in1 61 rfl rfl
theorem kt_1_62 : Jvm.Cond.code ({ cls := "java/lang/StringUTF16", name := "newBytesLength", desc := "(I)I" } : Jvm.MethodName) prog_34_method_3_code (1 : Nat) (Option.some Jvm.ClassFile.FieldType.int) ∈ sg_T := sg_in1 62 rfl rfl
theorem kt_1_63 : Jvm.Cond.constant "java/lang/StringUTF16" (20 : Nat) (1073741823 : Int32) ∈ sg_T := sg_in1 63 rfl rfl
theorem kt_1_64 : Jvm.Cond.fieldLink "java/lang/AbstractStringBuilder" (15 : Nat) "java/lang/AbstractStringBuilder" "value" "[B" ∈ sg_T := sg_in1 64 rfl rfl
theorem kt_1_65 : Jvm.Cond.fieldLink "java/lang/AbstractStringBuilder" (22 : Nat) "java/lang/AbstractStringBuilder" "coder" "B" ∈ sg_T := sg_in1 65 rfl rfl
theorem kt_1_66 : Jvm.Cond.fieldLink "java/lang/String" (1048 : Nat) "java/lang/AbstractStringBuilder" "maybeLatin1" "Z" ∈ sg_T := sg_in1 66 rfl rfl
theorem kt_1_67 : Jvm.Cond.fieldLink "java/lang/AbstractStringBuilder" (79 : Nat) "java/lang/AbstractStringBuilder" "count" "I" ∈ sg_T := sg_in1 67 rfl rfl
theorem kt_1_68 : Jvm.Cond.lays "java/lang/StringBuilder" "java/lang/AbstractStringBuilder" "value" "[B" ∈ sg_T := sg_in1 68 rfl rfl
theorem kt_1_69 : Jvm.Cond.soleField "java/lang/AbstractStringBuilder" "value" ∈ sg_T := sg_in1 69 rfl rfl
theorem kt_1_70 : Jvm.Cond.lays "java/lang/StringBuilder" "java/lang/AbstractStringBuilder" "coder" "B" ∈ sg_T := sg_in1 70 rfl rfl
theorem kt_1_71 : Jvm.Cond.soleField "java/lang/AbstractStringBuilder" "coder" ∈ sg_T := sg_in1 71 rfl rfl
theorem kt_1_72 : Jvm.Cond.lays "java/lang/StringBuilder" "java/lang/AbstractStringBuilder" "maybeLatin1" "Z" ∈ sg_T := sg_in1 72 rfl rfl
theorem kt_1_73 : Jvm.Cond.soleField "java/lang/AbstractStringBuilder" "maybeLatin1" ∈ sg_T := sg_in1 73 rfl rfl
theorem kt_1_74 : Jvm.Cond.lays "java/lang/StringBuilder" "java/lang/AbstractStringBuilder" "count" "I" ∈ sg_T := sg_in1 74 rfl rfl
theorem kt_1_75 : Jvm.Cond.soleField "java/lang/AbstractStringBuilder" "count" ∈ sg_T := sg_in1 75 rfl rfl
theorem kt_1_76 : Jvm.Cond.superclass "java/lang/StringBuilder" "java/lang/AbstractStringBuilder" ∈ sg_T := sg_in1 76 rfl rfl
theorem kt_1_77 : Jvm.Cond.arrayClass Jvm.ClassFile.FieldType.int ∈ sg_T := sg_in1 77 rfl rfl
theorem kt_1_78 : Jvm.Cond.arrayClass Jvm.ClassFile.FieldType.byte ∈ sg_T := sg_in1 78 rfl rfl
theorem kt_1_79 : Jvm.Cond.classLink "MoonlitFloor" (20 : Nat) "MoonlitFloor$World" ∈ sg_T := sg_in1 79 rfl rfl
theorem kt_1_80 : Jvm.Cond.instantiable "MoonlitFloor$World" (14 : Nat) ∈ sg_T := sg_in1 80 rfl rfl
theorem kt_1_82 : Jvm.Cond.instanceMethod ({ cls := "MoonlitFloor$World", name := "<init>", desc := "()V" } : Jvm.MethodName) ∈ sg_T := sg_in1 82 rfl rfl
theorem kt_1_83 : Jvm.Cond.code ({ cls := "MoonlitFloor$World", name := "<init>", desc := "()V" } : Jvm.MethodName) prog_10_method_1_code (1 : Nat) (Option.none : Option Jvm.ClassFile.FieldType) ∈ sg_T := sg_in1 83 rfl rfl
theorem kt_1_84 : Jvm.Cond.methodLink "MoonlitFloor$World" (3 : Nat) ({ cls := "java/lang/Object", name := "<init>", desc := "()V" } : Jvm.MethodName) ∈ sg_T := sg_in1 84 rfl rfl
theorem kt_1_85 : Jvm.Cond.classLink "MoonlitFloor$World" (9 : Nat) "MoonlitFloor$Plan" ∈ sg_T := sg_in1 85 rfl rfl
theorem kt_1_86 : Jvm.Cond.instantiable "MoonlitFloor$Plan" (13 : Nat) ∈ sg_T := sg_in1 86 rfl rfl
theorem kt_1_88 : Jvm.Cond.instanceMethod ({ cls := "MoonlitFloor$Plan", name := "<init>", desc := "()V" } : Jvm.MethodName) ∈ sg_T := sg_in1 88 rfl rfl
theorem kt_1_89 : Jvm.Cond.code ({ cls := "MoonlitFloor$Plan", name := "<init>", desc := "()V" } : Jvm.MethodName) prog_4_method_1_code (1 : Nat) (Option.none : Option Jvm.ClassFile.FieldType) ∈ sg_T := sg_in1 89 rfl rfl
theorem kt_1_90 : Jvm.Cond.methodLink "MoonlitFloor$Plan" (3 : Nat) ({ cls := "java/lang/Object", name := "<init>", desc := "()V" } : Jvm.MethodName) ∈ sg_T := sg_in1 90 rfl rfl
theorem kt_1_91 : Jvm.Cond.fieldLink "MoonlitFloor$Plan" (9 : Nat) "MoonlitFloor$Plan" "draughts" "[I" ∈ sg_T := sg_in1 91 rfl rfl
theorem kt_1_92 : Jvm.Cond.fieldLink "MoonlitFloor$SetupReader" (252 : Nat) "MoonlitFloor$Plan" "draughts" "[I" ∈ sg_T := sg_in1 92 rfl rfl
theorem kt_1_93 : Jvm.Cond.fieldLink "MoonlitFloor$World" (254 : Nat) "MoonlitFloor$Plan" "draughts" "[I" ∈ sg_T := sg_in1 93 rfl rfl
theorem kt_1_94 : Jvm.Cond.fieldLink "MoonlitFloor$Plan" (15 : Nat) "MoonlitFloor$Plan" "cloudFirsts" "[I" ∈ sg_T := sg_in1 94 rfl rfl
theorem kt_1_95 : Jvm.Cond.fieldLink "MoonlitFloor$SetupReader" (255 : Nat) "MoonlitFloor$Plan" "cloudFirsts" "[I" ∈ sg_T := sg_in1 95 rfl rfl
theorem kt_1_96 : Jvm.Cond.fieldLink "MoonlitFloor$Plan" (18 : Nat) "MoonlitFloor$Plan" "cloudLasts" "[I" ∈ sg_T := sg_in1 96 rfl rfl
theorem kt_1_97 : Jvm.Cond.fieldLink "MoonlitFloor$SetupReader" (258 : Nat) "MoonlitFloor$Plan" "cloudLasts" "[I" ∈ sg_T := sg_in1 97 rfl rfl
theorem kt_1_98 : Jvm.Cond.fieldLink "MoonlitFloor$Plan" (21 : Nat) "MoonlitFloor$Plan" "route" "[I" ∈ sg_T := sg_in1 98 rfl rfl
theorem kt_1_99 : Jvm.Cond.fieldLink "MoonlitFloor$SetupReader" (249 : Nat) "MoonlitFloor$Plan" "route" "[I" ∈ sg_T := sg_in1 99 rfl rfl
theorem kt_1_100 : Jvm.Cond.fieldLink "MoonlitFloor$World" (176 : Nat) "MoonlitFloor$Plan" "route" "[I" ∈ sg_T := sg_in1 100 rfl rfl
theorem kt_1_101 : Jvm.Cond.fieldLink "MoonlitFloor$Plan" (30 : Nat) "MoonlitFloor$Plan" "rows" "I" ∈ sg_T := sg_in1 101 rfl rfl
theorem kt_1_102 : Jvm.Cond.fieldLink "MoonlitFloor$World" (92 : Nat) "MoonlitFloor$Plan" "rows" "I" ∈ sg_T := sg_in1 102 rfl rfl
theorem kt_1_103 : Jvm.Cond.fieldLink "MoonlitFloor$SetupReader" (121 : Nat) "MoonlitFloor$Plan" "rows" "I" ∈ sg_T := sg_in1 103 rfl rfl
theorem kt_1_104 : Jvm.Cond.fieldLink "MoonlitFloor$Plan" (34 : Nat) "MoonlitFloor$Plan" "columns" "I" ∈ sg_T := sg_in1 104 rfl rfl
theorem kt_1_105 : Jvm.Cond.fieldLink "MoonlitFloor$World" (95 : Nat) "MoonlitFloor$Plan" "columns" "I" ∈ sg_T := sg_in1 105 rfl rfl
theorem kt_1_106 : Jvm.Cond.fieldLink "MoonlitFloor$SetupReader" (126 : Nat) "MoonlitFloor$Plan" "columns" "I" ∈ sg_T := sg_in1 106 rfl rfl
theorem kt_1_107 : Jvm.Cond.fieldLink "MoonlitFloor" (106 : Nat) "MoonlitFloor$Plan" "columns" "I" ∈ sg_T := sg_in1 107 rfl rfl
theorem kt_1_108 : Jvm.Cond.fieldLink "MoonlitFloor$Plan" (37 : Nat) "MoonlitFloor$Plan" "minutesPerRow" "I" ∈ sg_T := sg_in1 108 rfl rfl
theorem kt_1_109 : Jvm.Cond.fieldLink "MoonlitFloor$World" (98 : Nat) "MoonlitFloor$Plan" "minutesPerRow" "I" ∈ sg_T := sg_in1 109 rfl rfl
theorem kt_1_110 : Jvm.Cond.fieldLink "MoonlitFloor$SetupReader" (178 : Nat) "MoonlitFloor$Plan" "minutesPerRow" "I" ∈ sg_T := sg_in1 110 rfl rfl
theorem kt_1_111 : Jvm.Cond.fieldLink "MoonlitFloor$Plan" (40 : Nat) "MoonlitFloor$Plan" "dryingTime" "I" ∈ sg_T := sg_in1 111 rfl rfl
theorem kt_1_112 : Jvm.Cond.fieldLink "MoonlitFloor$SetupReader" (184 : Nat) "MoonlitFloor$Plan" "dryingTime" "I" ∈ sg_T := sg_in1 112 rfl rfl
theorem kt_1_113 : Jvm.Cond.fieldLink "MoonlitFloor$World" (186 : Nat) "MoonlitFloor$Plan" "dryingTime" "I" ∈ sg_T := sg_in1 113 rfl rfl
theorem kt_1_114 : Jvm.Cond.fieldLink "MoonlitFloor$Plan" (43 : Nat) "MoonlitFloor$Plan" "restTime" "I" ∈ sg_T := sg_in1 114 rfl rfl
theorem kt_1_115 : Jvm.Cond.fieldLink "MoonlitFloor$SetupReader" (187 : Nat) "MoonlitFloor$Plan" "restTime" "I" ∈ sg_T := sg_in1 115 rfl rfl
theorem kt_1_116 : Jvm.Cond.fieldLink "MoonlitFloor$World" (189 : Nat) "MoonlitFloor$Plan" "restTime" "I" ∈ sg_T := sg_in1 116 rfl rfl
theorem kt_1_117 : Jvm.Cond.fieldLink "MoonlitFloor$Plan" (46 : Nat) "MoonlitFloor$Plan" "stamina" "I" ∈ sg_T := sg_in1 117 rfl rfl
theorem kt_1_118 : Jvm.Cond.fieldLink "MoonlitFloor$SetupReader" (190 : Nat) "MoonlitFloor$Plan" "stamina" "I" ∈ sg_T := sg_in1 118 rfl rfl
theorem kt_1_119 : Jvm.Cond.fieldLink "MoonlitFloor$World" (227 : Nat) "MoonlitFloor$Plan" "stamina" "I" ∈ sg_T := sg_in1 119 rfl rfl
theorem kt_1_120 : Jvm.Cond.fieldLink "MoonlitFloor$Plan" (49 : Nat) "MoonlitFloor$Plan" "noise" "I" ∈ sg_T := sg_in1 120 rfl rfl
theorem kt_1_121 : Jvm.Cond.fieldLink "MoonlitFloor$SetupReader" (193 : Nat) "MoonlitFloor$Plan" "noise" "I" ∈ sg_T := sg_in1 121 rfl rfl
theorem kt_1_122 : Jvm.Cond.fieldLink "MoonlitFloor$World" (198 : Nat) "MoonlitFloor$Plan" "noise" "I" ∈ sg_T := sg_in1 122 rfl rfl
theorem kt_1_123 : Jvm.Cond.fieldLink "MoonlitFloor$Plan" (52 : Nat) "MoonlitFloor$Plan" "clouds" "I" ∈ sg_T := sg_in1 123 rfl rfl
theorem kt_1_124 : Jvm.Cond.fieldLink "MoonlitFloor$SetupReader" (167 : Nat) "MoonlitFloor$Plan" "clouds" "I" ∈ sg_T := sg_in1 124 rfl rfl
theorem kt_1_125 : Jvm.Cond.fieldLink "MoonlitFloor$Plan" (55 : Nat) "MoonlitFloor$Plan" "moves" "I" ∈ sg_T := sg_in1 125 rfl rfl
theorem kt_1_126 : Jvm.Cond.fieldLink "MoonlitFloor$SetupReader" (242 : Nat) "MoonlitFloor$Plan" "moves" "I" ∈ sg_T := sg_in1 126 rfl rfl
theorem kt_1_127 : Jvm.Cond.fieldLink "MoonlitFloor$World" (173 : Nat) "MoonlitFloor$Plan" "moves" "I" ∈ sg_T := sg_in1 127 rfl rfl
theorem kt_1_128 : Jvm.Cond.laysFinal "MoonlitFloor$Plan" "MoonlitFloor$Plan" "draughts" "[I" ∈ sg_T := sg_in1 128 rfl rfl
theorem kt_1_129 : Jvm.Cond.soleField "MoonlitFloor$Plan" "draughts" ∈ sg_T := sg_in1 129 rfl rfl
theorem kt_1_130 : Jvm.Cond.laysFinal "MoonlitFloor$Plan" "MoonlitFloor$Plan" "cloudFirsts" "[I" ∈ sg_T := sg_in1 130 rfl rfl
theorem kt_1_131 : Jvm.Cond.soleField "MoonlitFloor$Plan" "cloudFirsts" ∈ sg_T := sg_in1 131 rfl rfl
theorem kt_1_132 : Jvm.Cond.laysFinal "MoonlitFloor$Plan" "MoonlitFloor$Plan" "cloudLasts" "[I" ∈ sg_T := sg_in1 132 rfl rfl
theorem kt_1_133 : Jvm.Cond.soleField "MoonlitFloor$Plan" "cloudLasts" ∈ sg_T := sg_in1 133 rfl rfl
theorem kt_1_134 : Jvm.Cond.laysFinal "MoonlitFloor$Plan" "MoonlitFloor$Plan" "route" "[I" ∈ sg_T := sg_in1 134 rfl rfl
theorem kt_1_135 : Jvm.Cond.soleField "MoonlitFloor$Plan" "route" ∈ sg_T := sg_in1 135 rfl rfl
theorem kt_1_136 : Jvm.Cond.lays "MoonlitFloor$Plan" "MoonlitFloor$Plan" "rows" "I" ∈ sg_T := sg_in1 136 rfl rfl
theorem kt_1_137 : Jvm.Cond.soleField "MoonlitFloor$Plan" "rows" ∈ sg_T := sg_in1 137 rfl rfl
theorem kt_1_138 : Jvm.Cond.lays "MoonlitFloor$Plan" "MoonlitFloor$Plan" "columns" "I" ∈ sg_T := sg_in1 138 rfl rfl
theorem kt_1_139 : Jvm.Cond.soleField "MoonlitFloor$Plan" "columns" ∈ sg_T := sg_in1 139 rfl rfl
theorem kt_1_140 : Jvm.Cond.lays "MoonlitFloor$Plan" "MoonlitFloor$Plan" "minutesPerRow" "I" ∈ sg_T := sg_in1 140 rfl rfl
theorem kt_1_141 : Jvm.Cond.soleField "MoonlitFloor$Plan" "minutesPerRow" ∈ sg_T := sg_in1 141 rfl rfl
theorem kt_1_142 : Jvm.Cond.lays "MoonlitFloor$Plan" "MoonlitFloor$Plan" "dryingTime" "I" ∈ sg_T := sg_in1 142 rfl rfl
theorem kt_1_143 : Jvm.Cond.soleField "MoonlitFloor$Plan" "dryingTime" ∈ sg_T := sg_in1 143 rfl rfl
theorem kt_1_144 : Jvm.Cond.lays "MoonlitFloor$Plan" "MoonlitFloor$Plan" "restTime" "I" ∈ sg_T := sg_in1 144 rfl rfl
theorem kt_1_145 : Jvm.Cond.soleField "MoonlitFloor$Plan" "restTime" ∈ sg_T := sg_in1 145 rfl rfl
theorem kt_1_146 : Jvm.Cond.lays "MoonlitFloor$Plan" "MoonlitFloor$Plan" "stamina" "I" ∈ sg_T := sg_in1 146 rfl rfl
theorem kt_1_147 : Jvm.Cond.soleField "MoonlitFloor$Plan" "stamina" ∈ sg_T := sg_in1 147 rfl rfl
theorem kt_1_148 : Jvm.Cond.lays "MoonlitFloor$Plan" "MoonlitFloor$Plan" "noise" "I" ∈ sg_T := sg_in1 148 rfl rfl
theorem kt_1_149 : Jvm.Cond.soleField "MoonlitFloor$Plan" "noise" ∈ sg_T := sg_in1 149 rfl rfl
theorem kt_1_150 : Jvm.Cond.lays "MoonlitFloor$Plan" "MoonlitFloor$Plan" "clouds" "I" ∈ sg_T := sg_in1 150 rfl rfl
theorem kt_1_151 : Jvm.Cond.soleField "MoonlitFloor$Plan" "clouds" ∈ sg_T := sg_in1 151 rfl rfl
theorem kt_1_152 : Jvm.Cond.lays "MoonlitFloor$Plan" "MoonlitFloor$Plan" "moves" "I" ∈ sg_T := sg_in1 152 rfl rfl
theorem kt_1_153 : Jvm.Cond.soleField "MoonlitFloor$Plan" "moves" ∈ sg_T := sg_in1 153 rfl rfl
theorem kt_1_154 : Jvm.Cond.superclass "MoonlitFloor$Plan" "java/lang/Object" ∈ sg_T := sg_in1 154 rfl rfl
theorem kt_1_155 : Jvm.Cond.classLink "MoonlitFloor$World" (18 : Nat) "MoonlitFloor$Walker" ∈ sg_T := sg_in1 155 rfl rfl
theorem kt_1_156 : Jvm.Cond.instantiable "MoonlitFloor$Walker" (9 : Nat) ∈ sg_T := sg_in1 156 rfl rfl
theorem kt_1_158 : Jvm.Cond.instanceMethod ({ cls := "MoonlitFloor$Walker", name := "<init>", desc := "()V" } : Jvm.MethodName) ∈ sg_T := sg_in1 158 rfl rfl
theorem kt_1_159 : Jvm.Cond.code ({ cls := "MoonlitFloor$Walker", name := "<init>", desc := "()V" } : Jvm.MethodName) prog_9_method_1_code (1 : Nat) (Option.none : Option Jvm.ClassFile.FieldType) ∈ sg_T := sg_in1 159 rfl rfl
theorem kt_1_160 : Jvm.Cond.methodLink "MoonlitFloor$Walker" (3 : Nat) ({ cls := "java/lang/Object", name := "<init>", desc := "()V" } : Jvm.MethodName) ∈ sg_T := sg_in1 160 rfl rfl
theorem kt_1_161 : Jvm.Cond.fieldLink "MoonlitFloor$Walker" (9 : Nat) "MoonlitFloor$Walker" "tile" "I" ∈ sg_T := sg_in1 161 rfl rfl
theorem kt_1_162 : Jvm.Cond.fieldLink "MoonlitFloor$World" (148 : Nat) "MoonlitFloor$Walker" "tile" "I" ∈ sg_T := sg_in1 162 rfl rfl
theorem kt_1_163 : Jvm.Cond.fieldLink "MoonlitFloor" (161 : Nat) "MoonlitFloor$Walker" "tile" "I" ∈ sg_T := sg_in1 163 rfl rfl
theorem kt_1_164 : Jvm.Cond.fieldLink "MoonlitFloor$Walker" (15 : Nat) "MoonlitFloor$Walker" "column" "I" ∈ sg_T := sg_in1 164 rfl rfl
theorem kt_1_165 : Jvm.Cond.fieldLink "MoonlitFloor$SetupReader" (228 : Nat) "MoonlitFloor$Walker" "column" "I" ∈ sg_T := sg_in1 165 rfl rfl
theorem kt_1_166 : Jvm.Cond.fieldLink "MoonlitFloor$World" (204 : Nat) "MoonlitFloor$Walker" "column" "I" ∈ sg_T := sg_in1 166 rfl rfl
theorem kt_1_167 : Jvm.Cond.fieldLink "MoonlitFloor$Walker" (18 : Nat) "MoonlitFloor$Walker" "right" "Z" ∈ sg_T := sg_in1 167 rfl rfl
theorem kt_1_168 : Jvm.Cond.fieldLink "MoonlitFloor$SetupReader" (233 : Nat) "MoonlitFloor$Walker" "right" "Z" ∈ sg_T := sg_in1 168 rfl rfl
theorem kt_1_169 : Jvm.Cond.fieldLink "MoonlitFloor$World" (207 : Nat) "MoonlitFloor$Walker" "right" "Z" ∈ sg_T := sg_in1 169 rfl rfl
theorem kt_1_170 : Jvm.Cond.fieldLink "MoonlitFloor" (166 : Nat) "MoonlitFloor$Walker" "right" "Z" ∈ sg_T := sg_in1 170 rfl rfl
theorem kt_1_171 : Jvm.Cond.fieldLink "MoonlitFloor$Walker" (22 : Nat) "MoonlitFloor$Walker" "rest" "I" ∈ sg_T := sg_in1 171 rfl rfl
theorem kt_1_172 : Jvm.Cond.fieldLink "MoonlitFloor$World" (145 : Nat) "MoonlitFloor$Walker" "rest" "I" ∈ sg_T := sg_in1 172 rfl rfl
theorem kt_1_173 : Jvm.Cond.fieldLink "MoonlitFloor" (169 : Nat) "MoonlitFloor$Walker" "rest" "I" ∈ sg_T := sg_in1 173 rfl rfl
theorem kt_1_174 : Jvm.Cond.fieldLink "MoonlitFloor$Walker" (25 : Nat) "MoonlitFloor$Walker" "sincePause" "I" ∈ sg_T := sg_in1 174 rfl rfl
theorem kt_1_175 : Jvm.Cond.fieldLink "MoonlitFloor$World" (230 : Nat) "MoonlitFloor$Walker" "sincePause" "I" ∈ sg_T := sg_in1 175 rfl rfl
theorem kt_1_176 : Jvm.Cond.fieldLink "MoonlitFloor" (172 : Nat) "MoonlitFloor$Walker" "sincePause" "I" ∈ sg_T := sg_in1 176 rfl rfl
theorem kt_1_177 : Jvm.Cond.fieldLink "MoonlitFloor$Walker" (28 : Nat) "MoonlitFloor$Walker" "steps" "I" ∈ sg_T := sg_in1 177 rfl rfl
theorem kt_1_178 : Jvm.Cond.fieldLink "MoonlitFloor" (175 : Nat) "MoonlitFloor$Walker" "steps" "I" ∈ sg_T := sg_in1 178 rfl rfl
theorem kt_1_179 : Jvm.Cond.fieldLink "MoonlitFloor$Walker" (31 : Nat) "MoonlitFloor$Walker" "tonight" "I" ∈ sg_T := sg_in1 179 rfl rfl
theorem kt_1_180 : Jvm.Cond.fieldLink "MoonlitFloor$World" (248 : Nat) "MoonlitFloor$Walker" "tonight" "I" ∈ sg_T := sg_in1 180 rfl rfl
theorem kt_1_181 : Jvm.Cond.fieldLink "MoonlitFloor" (178 : Nat) "MoonlitFloor$Walker" "tonight" "I" ∈ sg_T := sg_in1 181 rfl rfl
theorem kt_1_182 : Jvm.Cond.fieldLink "MoonlitFloor$Walker" (34 : Nat) "MoonlitFloor$Walker" "turns" "I" ∈ sg_T := sg_in1 182 rfl rfl
theorem kt_1_183 : Jvm.Cond.fieldLink "MoonlitFloor" (181 : Nat) "MoonlitFloor$Walker" "turns" "I" ∈ sg_T := sg_in1 183 rfl rfl
theorem kt_1_184 : Jvm.Cond.fieldLink "MoonlitFloor$Walker" (37 : Nat) "MoonlitFloor$Walker" "falls" "I" ∈ sg_T := sg_in1 184 rfl rfl
theorem kt_1_185 : Jvm.Cond.fieldLink "MoonlitFloor" (184 : Nat) "MoonlitFloor$Walker" "falls" "I" ∈ sg_T := sg_in1 185 rfl rfl
theorem kt_1_186 : Jvm.Cond.lays "MoonlitFloor$Walker" "MoonlitFloor$Walker" "tile" "I" ∈ sg_T := sg_in1 186 rfl rfl
theorem kt_1_187 : Jvm.Cond.soleField "MoonlitFloor$Walker" "tile" ∈ sg_T := sg_in1 187 rfl rfl
theorem kt_1_188 : Jvm.Cond.lays "MoonlitFloor$Walker" "MoonlitFloor$Walker" "column" "I" ∈ sg_T := sg_in1 188 rfl rfl
theorem kt_1_189 : Jvm.Cond.soleField "MoonlitFloor$Walker" "column" ∈ sg_T := sg_in1 189 rfl rfl
theorem kt_1_190 : Jvm.Cond.lays "MoonlitFloor$Walker" "MoonlitFloor$Walker" "right" "Z" ∈ sg_T := sg_in1 190 rfl rfl
theorem kt_1_191 : Jvm.Cond.soleField "MoonlitFloor$Walker" "right" ∈ sg_T := sg_in1 191 rfl rfl
theorem kt_1_192 : Jvm.Cond.lays "MoonlitFloor$Walker" "MoonlitFloor$Walker" "rest" "I" ∈ sg_T := sg_in1 192 rfl rfl
theorem kt_1_193 : Jvm.Cond.soleField "MoonlitFloor$Walker" "rest" ∈ sg_T := sg_in1 193 rfl rfl
theorem kt_1_194 : Jvm.Cond.lays "MoonlitFloor$Walker" "MoonlitFloor$Walker" "sincePause" "I" ∈ sg_T := sg_in1 194 rfl rfl
theorem kt_1_195 : Jvm.Cond.soleField "MoonlitFloor$Walker" "sincePause" ∈ sg_T := sg_in1 195 rfl rfl
theorem kt_1_196 : Jvm.Cond.lays "MoonlitFloor$Walker" "MoonlitFloor$Walker" "steps" "I" ∈ sg_T := sg_in1 196 rfl rfl
theorem kt_1_197 : Jvm.Cond.soleField "MoonlitFloor$Walker" "steps" ∈ sg_T := sg_in1 197 rfl rfl
theorem kt_1_198 : Jvm.Cond.lays "MoonlitFloor$Walker" "MoonlitFloor$Walker" "tonight" "I" ∈ sg_T := sg_in1 198 rfl rfl
theorem kt_1_199 : Jvm.Cond.soleField "MoonlitFloor$Walker" "tonight" ∈ sg_T := sg_in1 199 rfl rfl
theorem kt_1_200 : Jvm.Cond.lays "MoonlitFloor$Walker" "MoonlitFloor$Walker" "turns" "I" ∈ sg_T := sg_in1 200 rfl rfl
theorem kt_1_201 : Jvm.Cond.soleField "MoonlitFloor$Walker" "turns" ∈ sg_T := sg_in1 201 rfl rfl
theorem kt_1_202 : Jvm.Cond.lays "MoonlitFloor$Walker" "MoonlitFloor$Walker" "falls" "I" ∈ sg_T := sg_in1 202 rfl rfl
theorem kt_1_203 : Jvm.Cond.soleField "MoonlitFloor$Walker" "falls" ∈ sg_T := sg_in1 203 rfl rfl
theorem kt_1_204 : Jvm.Cond.superclass "MoonlitFloor$Walker" "java/lang/Object" ∈ sg_T := sg_in1 204 rfl rfl
theorem kt_1_205 : Jvm.Cond.classLink "MoonlitFloor$World" (25 : Nat) "MoonlitFloor$Records" ∈ sg_T := sg_in1 205 rfl rfl
theorem kt_1_206 : Jvm.Cond.instantiable "MoonlitFloor$Records" (3 : Nat) ∈ sg_T := sg_in1 206 rfl rfl
theorem kt_1_208 : Jvm.Cond.instanceMethod ({ cls := "MoonlitFloor$Records", name := "<init>", desc := "()V" } : Jvm.MethodName) ∈ sg_T := sg_in1 208 rfl rfl
theorem kt_1_209 : Jvm.Cond.code ({ cls := "MoonlitFloor$Records", name := "<init>", desc := "()V" } : Jvm.MethodName) prog_5_method_1_code (1 : Nat) (Option.none : Option Jvm.ClassFile.FieldType) ∈ sg_T := sg_in1 209 rfl rfl
theorem kt_1_210 : Jvm.Cond.methodLink "MoonlitFloor$Records" (3 : Nat) ({ cls := "java/lang/Object", name := "<init>", desc := "()V" } : Jvm.MethodName) ∈ sg_T := sg_in1 210 rfl rfl
theorem kt_1_211 : Jvm.Cond.fieldLink "MoonlitFloor$Records" (9 : Nat) "MoonlitFloor$Records" "nights" "[I" ∈ sg_T := sg_in1 211 rfl rfl
theorem kt_1_212 : Jvm.Cond.fieldLink "MoonlitFloor" (224 : Nat) "MoonlitFloor$Records" "nights" "[I" ∈ sg_T := sg_in1 212 rfl rfl
theorem kt_1_213 : Jvm.Cond.fieldLink "MoonlitFloor$Records" (15 : Nat) "MoonlitFloor$Records" "steps" "[I" ∈ sg_T := sg_in1 213 rfl rfl
theorem kt_1_214 : Jvm.Cond.fieldLink "MoonlitFloor" (227 : Nat) "MoonlitFloor$Records" "steps" "[I" ∈ sg_T := sg_in1 214 rfl rfl
theorem kt_1_215 : Jvm.Cond.fieldLink "MoonlitFloor$Records" (18 : Nat) "MoonlitFloor$Records" "count" "I" ∈ sg_T := sg_in1 215 rfl rfl
theorem kt_1_216 : Jvm.Cond.fieldLink "MoonlitFloor" (216 : Nat) "MoonlitFloor$Records" "count" "I" ∈ sg_T := sg_in1 216 rfl rfl
theorem kt_1_217 : Jvm.Cond.laysFinal "MoonlitFloor$Records" "MoonlitFloor$Records" "nights" "[I" ∈ sg_T := sg_in1 217 rfl rfl
theorem kt_1_218 : Jvm.Cond.soleField "MoonlitFloor$Records" "nights" ∈ sg_T := sg_in1 218 rfl rfl
theorem kt_1_219 : Jvm.Cond.laysFinal "MoonlitFloor$Records" "MoonlitFloor$Records" "steps" "[I" ∈ sg_T := sg_in1 219 rfl rfl
theorem kt_1_220 : Jvm.Cond.soleField "MoonlitFloor$Records" "steps" ∈ sg_T := sg_in1 220 rfl rfl
theorem kt_1_221 : Jvm.Cond.lays "MoonlitFloor$Records" "MoonlitFloor$Records" "count" "I" ∈ sg_T := sg_in1 221 rfl rfl
theorem kt_1_222 : Jvm.Cond.soleField "MoonlitFloor$Records" "count" ∈ sg_T := sg_in1 222 rfl rfl
theorem kt_1_223 : Jvm.Cond.superclass "MoonlitFloor$Records" "java/lang/Object" ∈ sg_T := sg_in1 223 rfl rfl
theorem kt_1_224 : Jvm.Cond.fieldLink "MoonlitFloor$World" (12 : Nat) "MoonlitFloor$World" "plan" "LMoonlitFloor$Plan;" ∈ sg_T := sg_in1 224 rfl rfl
theorem kt_1_225 : Jvm.Cond.fieldLink "MoonlitFloor$SetupReader" (117 : Nat) "MoonlitFloor$World" "plan" "LMoonlitFloor$Plan;" ∈ sg_T := sg_in1 225 rfl rfl
theorem kt_1_226 : Jvm.Cond.fieldLink "MoonlitFloor" (97 : Nat) "MoonlitFloor$World" "plan" "LMoonlitFloor$Plan;" ∈ sg_T := sg_in1 226 rfl rfl
theorem kt_1_227 : Jvm.Cond.fieldLink "MoonlitFloor$World" (21 : Nat) "MoonlitFloor$World" "walker" "LMoonlitFloor$Walker;" ∈ sg_T := sg_in1 227 rfl rfl
theorem kt_1_228 : Jvm.Cond.fieldLink "MoonlitFloor$SetupReader" (224 : Nat) "MoonlitFloor$World" "walker" "LMoonlitFloor$Walker;" ∈ sg_T := sg_in1 228 rfl rfl
theorem kt_1_229 : Jvm.Cond.fieldLink "MoonlitFloor" (157 : Nat) "MoonlitFloor$World" "walker" "LMoonlitFloor$Walker;" ∈ sg_T := sg_in1 229 rfl rfl
theorem kt_1_230 : Jvm.Cond.fieldLink "MoonlitFloor$World" (28 : Nat) "MoonlitFloor$World" "records" "LMoonlitFloor$Records;" ∈ sg_T := sg_in1 230 rfl rfl
theorem kt_1_231 : Jvm.Cond.fieldLink "MoonlitFloor" (212 : Nat) "MoonlitFloor$World" "records" "LMoonlitFloor$Records;" ∈ sg_T := sg_in1 231 rfl rfl
theorem kt_1_232 : Jvm.Cond.fieldLink "MoonlitFloor$World" (32 : Nat) "MoonlitFloor$World" "closed" "[I" ∈ sg_T := sg_in1 232 rfl rfl
theorem kt_1_233 : Jvm.Cond.fieldLink "MoonlitFloor" (138 : Nat) "MoonlitFloor$World" "closed" "[I" ∈ sg_T := sg_in1 233 rfl rfl
theorem kt_1_234 : Jvm.Cond.fieldLink "MoonlitFloor$SetupReader" (261 : Nat) "MoonlitFloor$World" "closed" "[I" ∈ sg_T := sg_in1 234 rfl rfl
theorem kt_1_235 : Jvm.Cond.fieldLink "MoonlitFloor$World" (36 : Nat) "MoonlitFloor$World" "wear" "[I" ∈ sg_T := sg_in1 235 rfl rfl
theorem kt_1_236 : Jvm.Cond.fieldLink "MoonlitFloor" (190 : Nat) "MoonlitFloor$World" "wear" "[I" ∈ sg_T := sg_in1 236 rfl rfl
theorem kt_1_237 : Jvm.Cond.fieldLink "MoonlitFloor$World" (39 : Nat) "MoonlitFloor$World" "spills" "[I" ∈ sg_T := sg_in1 237 rfl rfl
theorem kt_1_238 : Jvm.Cond.fieldLink "MoonlitFloor$SetupReader" (295 : Nat) "MoonlitFloor$World" "spills" "[I" ∈ sg_T := sg_in1 238 rfl rfl
theorem kt_1_239 : Jvm.Cond.fieldLink "MoonlitFloor" (205 : Nat) "MoonlitFloor$World" "spills" "[I" ∈ sg_T := sg_in1 239 rfl rfl
theorem kt_2_0 : Jvm.Cond.fieldLink "MoonlitFloor$World" (42 : Nat) "MoonlitFloor$World" "bowls" "[I" ∈ sg_T := sg_in2 0 rfl rfl
theorem kt_2_1 : Jvm.Cond.fieldLink "MoonlitFloor$SetupReader" (301 : Nat) "MoonlitFloor$World" "bowls" "[I" ∈ sg_T := sg_in2 1 rfl rfl
theorem kt_2_2 : Jvm.Cond.fieldLink "MoonlitFloor" (202 : Nat) "MoonlitFloor$World" "bowls" "[I" ∈ sg_T := sg_in2 2 rfl rfl
theorem kt_2_3 : Jvm.Cond.fieldLink "MoonlitFloor$World" (45 : Nat) "MoonlitFloor$World" "rugs" "[I" ∈ sg_T := sg_in2 3 rfl rfl
theorem kt_2_4 : Jvm.Cond.fieldLink "MoonlitFloor$SetupReader" (280 : Nat) "MoonlitFloor$World" "rugs" "[I" ∈ sg_T := sg_in2 4 rfl rfl
theorem kt_2_5 : Jvm.Cond.fieldLink "MoonlitFloor" (196 : Nat) "MoonlitFloor$World" "rugs" "[I" ∈ sg_T := sg_in2 5 rfl rfl
theorem kt_2_6 : Jvm.Cond.fieldLink "MoonlitFloor$World" (59 : Nat) "MoonlitFloor$World" "pace" "I" ∈ sg_T := sg_in2 6 rfl rfl
theorem kt_2_7 : Jvm.Cond.fieldLink "MoonlitFloor$SetupReader" (181 : Nat) "MoonlitFloor$World" "pace" "I" ∈ sg_T := sg_in2 7 rfl rfl
theorem kt_2_8 : Jvm.Cond.fieldLink "MoonlitFloor" (151 : Nat) "MoonlitFloor$World" "pace" "I" ∈ sg_T := sg_in2 8 rfl rfl
theorem kt_2_9 : Jvm.Cond.fieldLink "MoonlitFloor$World" (63 : Nat) "MoonlitFloor$World" "night" "I" ∈ sg_T := sg_in2 9 rfl rfl
theorem kt_2_10 : Jvm.Cond.fieldLink "MoonlitFloor" (112 : Nat) "MoonlitFloor$World" "night" "I" ∈ sg_T := sg_in2 10 rfl rfl
theorem kt_2_11 : Jvm.Cond.fieldLink "MoonlitFloor$SetupReader" (196 : Nat) "MoonlitFloor$World" "night" "I" ∈ sg_T := sg_in2 11 rfl rfl
theorem kt_2_12 : Jvm.Cond.fieldLink "MoonlitFloor$World" (66 : Nat) "MoonlitFloor$World" "minute" "I" ∈ sg_T := sg_in2 12 rfl rfl
theorem kt_2_13 : Jvm.Cond.fieldLink "MoonlitFloor" (115 : Nat) "MoonlitFloor$World" "minute" "I" ∈ sg_T := sg_in2 13 rfl rfl
theorem kt_2_14 : Jvm.Cond.fieldLink "MoonlitFloor$SetupReader" (316 : Nat) "MoonlitFloor$World" "minute" "I" ∈ sg_T := sg_in2 14 rfl rfl
theorem kt_2_15 : Jvm.Cond.fieldLink "MoonlitFloor$World" (69 : Nat) "MoonlitFloor$World" "slides" "I" ∈ sg_T := sg_in2 15 rfl rfl
theorem kt_2_16 : Jvm.Cond.fieldLink "MoonlitFloor" (199 : Nat) "MoonlitFloor$World" "slides" "I" ∈ sg_T := sg_in2 16 rfl rfl
theorem kt_2_17 : Jvm.Cond.fieldLink "MoonlitFloor$World" (72 : Nat) "MoonlitFloor$World" "catTile" "I" ∈ sg_T := sg_in2 17 rfl rfl
theorem kt_2_18 : Jvm.Cond.fieldLink "MoonlitFloor$SetupReader" (239 : Nat) "MoonlitFloor$World" "catTile" "I" ∈ sg_T := sg_in2 18 rfl rfl
theorem kt_2_19 : Jvm.Cond.fieldLink "MoonlitFloor" (193 : Nat) "MoonlitFloor$World" "catTile" "I" ∈ sg_T := sg_in2 19 rfl rfl
theorem kt_2_20 : Jvm.Cond.fieldLink "MoonlitFloor$World" (75 : Nat) "MoonlitFloor$World" "nextMove" "I" ∈ sg_T := sg_in2 20 rfl rfl
theorem kt_2_21 : Jvm.Cond.laysFinal "MoonlitFloor$World" "MoonlitFloor$World" "plan" "LMoonlitFloor$Plan;" ∈ sg_T := sg_in2 21 rfl rfl
theorem kt_2_22 : Jvm.Cond.soleField "MoonlitFloor$World" "plan" ∈ sg_T := sg_in2 22 rfl rfl
theorem kt_2_23 : Jvm.Cond.laysFinal "MoonlitFloor$World" "MoonlitFloor$World" "walker" "LMoonlitFloor$Walker;" ∈ sg_T := sg_in2 23 rfl rfl
theorem kt_2_24 : Jvm.Cond.soleField "MoonlitFloor$World" "walker" ∈ sg_T := sg_in2 24 rfl rfl
theorem kt_2_25 : Jvm.Cond.laysFinal "MoonlitFloor$World" "MoonlitFloor$World" "records" "LMoonlitFloor$Records;" ∈ sg_T := sg_in2 25 rfl rfl
theorem kt_2_26 : Jvm.Cond.soleField "MoonlitFloor$World" "records" ∈ sg_T := sg_in2 26 rfl rfl
theorem kt_2_27 : Jvm.Cond.laysFinal "MoonlitFloor$World" "MoonlitFloor$World" "closed" "[I" ∈ sg_T := sg_in2 27 rfl rfl
theorem kt_2_28 : Jvm.Cond.soleField "MoonlitFloor$World" "closed" ∈ sg_T := sg_in2 28 rfl rfl
theorem kt_2_29 : Jvm.Cond.laysFinal "MoonlitFloor$World" "MoonlitFloor$World" "wear" "[I" ∈ sg_T := sg_in2 29 rfl rfl
theorem kt_2_30 : Jvm.Cond.soleField "MoonlitFloor$World" "wear" ∈ sg_T := sg_in2 30 rfl rfl
theorem kt_2_31 : Jvm.Cond.laysFinal "MoonlitFloor$World" "MoonlitFloor$World" "spills" "[I" ∈ sg_T := sg_in2 31 rfl rfl
theorem kt_2_32 : Jvm.Cond.soleField "MoonlitFloor$World" "spills" ∈ sg_T := sg_in2 32 rfl rfl
theorem kt_2_33 : Jvm.Cond.laysFinal "MoonlitFloor$World" "MoonlitFloor$World" "bowls" "[I" ∈ sg_T := sg_in2 33 rfl rfl
theorem kt_2_34 : Jvm.Cond.soleField "MoonlitFloor$World" "bowls" ∈ sg_T := sg_in2 34 rfl rfl
theorem kt_2_35 : Jvm.Cond.laysFinal "MoonlitFloor$World" "MoonlitFloor$World" "rugs" "[I" ∈ sg_T := sg_in2 35 rfl rfl
theorem kt_2_36 : Jvm.Cond.soleField "MoonlitFloor$World" "rugs" ∈ sg_T := sg_in2 36 rfl rfl
theorem kt_2_37 : Jvm.Cond.lays "MoonlitFloor$World" "MoonlitFloor$World" "pace" "I" ∈ sg_T := sg_in2 37 rfl rfl
theorem kt_2_38 : Jvm.Cond.soleField "MoonlitFloor$World" "pace" ∈ sg_T := sg_in2 38 rfl rfl
theorem kt_2_39 : Jvm.Cond.lays "MoonlitFloor$World" "MoonlitFloor$World" "night" "I" ∈ sg_T := sg_in2 39 rfl rfl
theorem kt_2_40 : Jvm.Cond.soleField "MoonlitFloor$World" "night" ∈ sg_T := sg_in2 40 rfl rfl
theorem kt_2_41 : Jvm.Cond.lays "MoonlitFloor$World" "MoonlitFloor$World" "minute" "I" ∈ sg_T := sg_in2 41 rfl rfl
theorem kt_2_42 : Jvm.Cond.soleField "MoonlitFloor$World" "minute" ∈ sg_T := sg_in2 42 rfl rfl
theorem kt_2_43 : Jvm.Cond.lays "MoonlitFloor$World" "MoonlitFloor$World" "slides" "I" ∈ sg_T := sg_in2 43 rfl rfl
theorem kt_2_44 : Jvm.Cond.soleField "MoonlitFloor$World" "slides" ∈ sg_T := sg_in2 44 rfl rfl
theorem kt_2_45 : Jvm.Cond.lays "MoonlitFloor$World" "MoonlitFloor$World" "catTile" "I" ∈ sg_T := sg_in2 45 rfl rfl
theorem kt_2_46 : Jvm.Cond.soleField "MoonlitFloor$World" "catTile" ∈ sg_T := sg_in2 46 rfl rfl
theorem kt_2_47 : Jvm.Cond.lays "MoonlitFloor$World" "MoonlitFloor$World" "nextMove" "I" ∈ sg_T := sg_in2 47 rfl rfl
theorem kt_2_48 : Jvm.Cond.soleField "MoonlitFloor$World" "nextMove" ∈ sg_T := sg_in2 48 rfl rfl
theorem kt_2_49 : Jvm.Cond.superclass "MoonlitFloor$World" "java/lang/Object" ∈ sg_T := sg_in2 49 rfl rfl
theorem kt_2_50 : Jvm.Cond.classLink "MoonlitFloor" (30 : Nat) "MoonlitFloor$SetupReader" ∈ sg_T := sg_in2 50 rfl rfl
theorem kt_2_51 : Jvm.Cond.instantiable "MoonlitFloor$SetupReader" (11 : Nat) ∈ sg_T := sg_in2 51 rfl rfl
theorem kt_2_52 : Jvm.Cond.methodLink "MoonlitFloor" (32 : Nat) ({ cls := "MoonlitFloor$SetupReader", name := "<init>", desc := "(LMoonlitFloor$World;)V" } : Jvm.MethodName) ∈ sg_T := sg_in2 52 rfl rfl
theorem kt_2_53 : Jvm.Cond.instanceMethod ({ cls := "MoonlitFloor$SetupReader", name := "<init>", desc := "(LMoonlitFloor$World;)V" } : Jvm.MethodName) ∈ sg_T := sg_in2 53 rfl rfl
theorem kt_2_54 : Jvm.Cond.code ({ cls := "MoonlitFloor$SetupReader", name := "<init>", desc := "(LMoonlitFloor$World;)V" } : Jvm.MethodName) prog_6_method_1_code (2 : Nat) (Option.none : Option Jvm.ClassFile.FieldType) ∈ sg_T := sg_in2 54 rfl rfl
theorem kt_2_55 : Jvm.Cond.methodLink "MoonlitFloor$SetupReader" (3 : Nat) ({ cls := "java/lang/Object", name := "<init>", desc := "()V" } : Jvm.MethodName) ∈ sg_T := sg_in2 55 rfl rfl
theorem kt_2_56 : Jvm.Cond.classLink "MoonlitFloor$SetupReader" (9 : Nat) "MoonlitFloor$Tokens" ∈ sg_T := sg_in2 56 rfl rfl
theorem kt_2_57 : Jvm.Cond.instantiable "MoonlitFloor$Tokens" (5 : Nat) ∈ sg_T := sg_in2 57 rfl rfl
theorem kt_2_59 : Jvm.Cond.instanceMethod ({ cls := "MoonlitFloor$Tokens", name := "<init>", desc := "()V" } : Jvm.MethodName) ∈ sg_T := sg_in2 59 rfl rfl
theorem kt_2_60 : Jvm.Cond.code ({ cls := "MoonlitFloor$Tokens", name := "<init>", desc := "()V" } : Jvm.MethodName) prog_8_method_1_code (1 : Nat) (Option.none : Option Jvm.ClassFile.FieldType) ∈ sg_T := sg_in2 60 rfl rfl
theorem kt_2_61 : Jvm.Cond.methodLink "MoonlitFloor$Tokens" (3 : Nat) ({ cls := "java/lang/Object", name := "<init>", desc := "()V" } : Jvm.MethodName) ∈ sg_T := sg_in2 61 rfl rfl
theorem kt_2_62 : Jvm.Cond.classLink "MoonlitFloor$Tokens" (9 : Nat) "MoonlitFloor$Sign" ∈ sg_T := sg_in2 62 rfl rfl
theorem kt_2_64 : Jvm.Cond.fieldLink "MoonlitFloor$Tokens" (11 : Nat) "MoonlitFloor$Tokens" "signs" "[LMoonlitFloor$Sign;" ∈ sg_T := sg_in2 64 rfl rfl
theorem kt_2_65 : Jvm.Cond.fieldLink "MoonlitFloor$Tokens" (17 : Nat) "MoonlitFloor$Tokens" "starts" "[I" ∈ sg_T := sg_in2 65 rfl rfl
theorem kt_2_66 : Jvm.Cond.fieldLink "MoonlitFloor$Tokens" (21 : Nat) "MoonlitFloor$Tokens" "numbers" "[I" ∈ sg_T := sg_in2 66 rfl rfl
theorem kt_2_67 : Jvm.Cond.fieldLink "MoonlitFloor$Tokens" (24 : Nat) "MoonlitFloor$Tokens" "count" "I" ∈ sg_T := sg_in2 67 rfl rfl
theorem kt_2_68 : Jvm.Cond.fieldLink "MoonlitFloor$Tokens" (28 : Nat) "MoonlitFloor$Tokens" "place" "I" ∈ sg_T := sg_in2 68 rfl rfl
theorem kt_2_69 : Jvm.Cond.laysFinal "MoonlitFloor$Tokens" "MoonlitFloor$Tokens" "signs" "[LMoonlitFloor$Sign;" ∈ sg_T := sg_in2 69 rfl rfl
theorem kt_2_70 : Jvm.Cond.soleField "MoonlitFloor$Tokens" "signs" ∈ sg_T := sg_in2 70 rfl rfl
theorem kt_2_71 : Jvm.Cond.laysFinal "MoonlitFloor$Tokens" "MoonlitFloor$Tokens" "starts" "[I" ∈ sg_T := sg_in2 71 rfl rfl
theorem kt_2_72 : Jvm.Cond.soleField "MoonlitFloor$Tokens" "starts" ∈ sg_T := sg_in2 72 rfl rfl
theorem kt_2_73 : Jvm.Cond.laysFinal "MoonlitFloor$Tokens" "MoonlitFloor$Tokens" "numbers" "[I" ∈ sg_T := sg_in2 73 rfl rfl
theorem kt_2_74 : Jvm.Cond.soleField "MoonlitFloor$Tokens" "numbers" ∈ sg_T := sg_in2 74 rfl rfl
theorem kt_2_75 : Jvm.Cond.lays "MoonlitFloor$Tokens" "MoonlitFloor$Tokens" "count" "I" ∈ sg_T := sg_in2 75 rfl rfl
theorem kt_2_76 : Jvm.Cond.soleField "MoonlitFloor$Tokens" "count" ∈ sg_T := sg_in2 76 rfl rfl
theorem kt_2_77 : Jvm.Cond.lays "MoonlitFloor$Tokens" "MoonlitFloor$Tokens" "place" "I" ∈ sg_T := sg_in2 77 rfl rfl
theorem kt_2_78 : Jvm.Cond.soleField "MoonlitFloor$Tokens" "place" ∈ sg_T := sg_in2 78 rfl rfl
theorem kt_2_79 : Jvm.Cond.superclass "MoonlitFloor$Tokens" "java/lang/Object" ∈ sg_T := sg_in2 79 rfl rfl
theorem kt_2_80 : Jvm.Cond.fieldLink "MoonlitFloor$SetupReader" (12 : Nat) "MoonlitFloor$SetupReader" "tokens" "LMoonlitFloor$Tokens;" ∈ sg_T := sg_in2 80 rfl rfl
theorem kt_2_81 : Jvm.Cond.fieldLink "MoonlitFloor$SetupReader" (25 : Nat) "MoonlitFloor$SetupReader" "world" "LMoonlitFloor$World;" ∈ sg_T := sg_in2 81 rfl rfl
theorem kt_2_82 : Jvm.Cond.fieldLink "MoonlitFloor$SetupReader" (18 : Nat) "MoonlitFloor$SetupReader" "bodies" "[I" ∈ sg_T := sg_in2 82 rfl rfl
theorem kt_2_83 : Jvm.Cond.fieldLink "MoonlitFloor$SetupReader" (22 : Nat) "MoonlitFloor$SetupReader" "passesLeft" "[I" ∈ sg_T := sg_in2 83 rfl rfl
theorem kt_2_84 : Jvm.Cond.fieldLink "MoonlitFloor$SetupReader" (77 : Nat) "MoonlitFloor$SetupReader" "nesting" "I" ∈ sg_T := sg_in2 84 rfl rfl
theorem kt_2_85 : Jvm.Cond.fieldLink "MoonlitFloor$SetupReader" (80 : Nat) "MoonlitFloor$SetupReader" "simulated" "I" ∈ sg_T := sg_in2 85 rfl rfl
theorem kt_2_86 : Jvm.Cond.fieldLink "MoonlitFloor$SetupReader" (51 : Nat) "MoonlitFloor$SetupReader" "expectsEntry" "Z" ∈ sg_T := sg_in2 86 rfl rfl
theorem kt_2_87 : Jvm.Cond.fieldLink "MoonlitFloor$SetupReader" (83 : Nat) "MoonlitFloor$SetupReader" "sawEvent" "Z" ∈ sg_T := sg_in2 87 rfl rfl
theorem kt_2_88 : Jvm.Cond.fieldLink "MoonlitFloor$SetupReader" (47 : Nat) "MoonlitFloor$SetupReader" "finished" "Z" ∈ sg_T := sg_in2 88 rfl rfl
theorem kt_2_89 : Jvm.Cond.fieldLink "MoonlitFloor$SetupReader" (29 : Nat) "MoonlitFloor$SetupReader" "errorCode" "I" ∈ sg_T := sg_in2 89 rfl rfl
theorem kt_2_90 : Jvm.Cond.fieldLink "MoonlitFloor$SetupReader" (33 : Nat) "MoonlitFloor$SetupReader" "errorPosition" "I" ∈ sg_T := sg_in2 90 rfl rfl
theorem kt_2_91 : Jvm.Cond.laysFinal "MoonlitFloor$SetupReader" "MoonlitFloor$SetupReader" "tokens" "LMoonlitFloor$Tokens;" ∈ sg_T := sg_in2 91 rfl rfl
theorem kt_2_92 : Jvm.Cond.soleField "MoonlitFloor$SetupReader" "tokens" ∈ sg_T := sg_in2 92 rfl rfl
theorem kt_2_93 : Jvm.Cond.laysFinal "MoonlitFloor$SetupReader" "MoonlitFloor$SetupReader" "world" "LMoonlitFloor$World;" ∈ sg_T := sg_in2 93 rfl rfl
theorem kt_2_94 : Jvm.Cond.soleField "MoonlitFloor$SetupReader" "world" ∈ sg_T := sg_in2 94 rfl rfl
theorem kt_2_95 : Jvm.Cond.laysFinal "MoonlitFloor$SetupReader" "MoonlitFloor$SetupReader" "bodies" "[I" ∈ sg_T := sg_in2 95 rfl rfl
theorem kt_2_96 : Jvm.Cond.soleField "MoonlitFloor$SetupReader" "bodies" ∈ sg_T := sg_in2 96 rfl rfl
theorem kt_2_97 : Jvm.Cond.laysFinal "MoonlitFloor$SetupReader" "MoonlitFloor$SetupReader" "passesLeft" "[I" ∈ sg_T := sg_in2 97 rfl rfl
theorem kt_2_98 : Jvm.Cond.soleField "MoonlitFloor$SetupReader" "passesLeft" ∈ sg_T := sg_in2 98 rfl rfl
theorem kt_2_99 : Jvm.Cond.lays "MoonlitFloor$SetupReader" "MoonlitFloor$SetupReader" "nesting" "I" ∈ sg_T := sg_in2 99 rfl rfl
theorem kt_2_100 : Jvm.Cond.soleField "MoonlitFloor$SetupReader" "nesting" ∈ sg_T := sg_in2 100 rfl rfl
theorem kt_2_101 : Jvm.Cond.lays "MoonlitFloor$SetupReader" "MoonlitFloor$SetupReader" "simulated" "I" ∈ sg_T := sg_in2 101 rfl rfl
theorem kt_2_102 : Jvm.Cond.soleField "MoonlitFloor$SetupReader" "simulated" ∈ sg_T := sg_in2 102 rfl rfl
theorem kt_2_103 : Jvm.Cond.lays "MoonlitFloor$SetupReader" "MoonlitFloor$SetupReader" "expectsEntry" "Z" ∈ sg_T := sg_in2 103 rfl rfl
theorem kt_2_104 : Jvm.Cond.soleField "MoonlitFloor$SetupReader" "expectsEntry" ∈ sg_T := sg_in2 104 rfl rfl
theorem kt_2_105 : Jvm.Cond.lays "MoonlitFloor$SetupReader" "MoonlitFloor$SetupReader" "sawEvent" "Z" ∈ sg_T := sg_in2 105 rfl rfl
theorem kt_2_106 : Jvm.Cond.soleField "MoonlitFloor$SetupReader" "sawEvent" ∈ sg_T := sg_in2 106 rfl rfl
theorem kt_2_107 : Jvm.Cond.lays "MoonlitFloor$SetupReader" "MoonlitFloor$SetupReader" "finished" "Z" ∈ sg_T := sg_in2 107 rfl rfl
theorem kt_2_108 : Jvm.Cond.soleField "MoonlitFloor$SetupReader" "finished" ∈ sg_T := sg_in2 108 rfl rfl
theorem kt_2_109 : Jvm.Cond.lays "MoonlitFloor$SetupReader" "MoonlitFloor$SetupReader" "errorCode" "I" ∈ sg_T := sg_in2 109 rfl rfl
theorem kt_2_110 : Jvm.Cond.soleField "MoonlitFloor$SetupReader" "errorCode" ∈ sg_T := sg_in2 110 rfl rfl
theorem kt_2_111 : Jvm.Cond.lays "MoonlitFloor$SetupReader" "MoonlitFloor$SetupReader" "errorPosition" "I" ∈ sg_T := sg_in2 111 rfl rfl
theorem kt_2_112 : Jvm.Cond.soleField "MoonlitFloor$SetupReader" "errorPosition" ∈ sg_T := sg_in2 112 rfl rfl
theorem kt_2_113 : Jvm.Cond.superclass "MoonlitFloor$SetupReader" "java/lang/Object" ∈ sg_T := sg_in2 113 rfl rfl
theorem kt_2_114 : Jvm.Cond.classLink "MoonlitFloor" (39 : Nat) "MoonlitFloor$History" ∈ sg_T := sg_in2 114 rfl rfl
theorem kt_2_115 : Jvm.Cond.instantiable "MoonlitFloor$History" (5 : Nat) ∈ sg_T := sg_in2 115 rfl rfl
theorem kt_2_116 : Jvm.Cond.methodLink "MoonlitFloor" (41 : Nat) ({ cls := "MoonlitFloor$History", name := "<init>", desc := "()V" } : Jvm.MethodName) ∈ sg_T := sg_in2 116 rfl rfl
theorem kt_2_117 : Jvm.Cond.instanceMethod ({ cls := "MoonlitFloor$History", name := "<init>", desc := "()V" } : Jvm.MethodName) ∈ sg_T := sg_in2 117 rfl rfl
theorem kt_2_118 : Jvm.Cond.code ({ cls := "MoonlitFloor$History", name := "<init>", desc := "()V" } : Jvm.MethodName) prog_3_method_1_code (2 : Nat) (Option.none : Option Jvm.ClassFile.FieldType) ∈ sg_T := sg_in2 118 rfl rfl
theorem kt_2_119 : Jvm.Cond.methodLink "MoonlitFloor$History" (3 : Nat) ({ cls := "java/lang/Object", name := "<init>", desc := "()V" } : Jvm.MethodName) ∈ sg_T := sg_in2 119 rfl rfl
theorem kt_2_120 : Jvm.Cond.classLink "MoonlitFloor$History" (9 : Nat) "MoonlitFloor$World" ∈ sg_T := sg_in2 120 rfl rfl
theorem kt_2_123 : Jvm.Cond.fieldLink "MoonlitFloor$History" (11 : Nat) "MoonlitFloor$History" "past" "[LMoonlitFloor$World;" ∈ sg_T := sg_in2 123 rfl rfl
theorem kt_2_124 : Jvm.Cond.fieldLink "MoonlitFloor$History" (17 : Nat) "MoonlitFloor$History" "saved" "[LMoonlitFloor$World;" ∈ sg_T := sg_in2 124 rfl rfl
theorem kt_2_125 : Jvm.Cond.fieldLink "MoonlitFloor$History" (20 : Nat) "MoonlitFloor$History" "inUse" "[I" ∈ sg_T := sg_in2 125 rfl rfl
theorem kt_2_126 : Jvm.Cond.fieldLink "MoonlitFloor$History" (25 : Nat) "MoonlitFloor$History" "next" "I" ∈ sg_T := sg_in2 126 rfl rfl
theorem kt_2_127 : Jvm.Cond.fieldLink "MoonlitFloor$History" (37 : Nat) "MoonlitFloor$History" "count" "I" ∈ sg_T := sg_in2 127 rfl rfl
theorem kt_2_128 : Jvm.Cond.fieldLink "MoonlitFloor" (296 : Nat) "MoonlitFloor$History" "count" "I" ∈ sg_T := sg_in2 128 rfl rfl
theorem kt_2_129 : Jvm.Cond.laysFinal "MoonlitFloor$History" "MoonlitFloor$History" "past" "[LMoonlitFloor$World;" ∈ sg_T := sg_in2 129 rfl rfl
theorem kt_2_130 : Jvm.Cond.soleField "MoonlitFloor$History" "past" ∈ sg_T := sg_in2 130 rfl rfl
theorem kt_2_131 : Jvm.Cond.laysFinal "MoonlitFloor$History" "MoonlitFloor$History" "saved" "[LMoonlitFloor$World;" ∈ sg_T := sg_in2 131 rfl rfl
theorem kt_2_132 : Jvm.Cond.soleField "MoonlitFloor$History" "saved" ∈ sg_T := sg_in2 132 rfl rfl
theorem kt_2_133 : Jvm.Cond.laysFinal "MoonlitFloor$History" "MoonlitFloor$History" "inUse" "[I" ∈ sg_T := sg_in2 133 rfl rfl
theorem kt_2_134 : Jvm.Cond.soleField "MoonlitFloor$History" "inUse" ∈ sg_T := sg_in2 134 rfl rfl
theorem kt_2_135 : Jvm.Cond.lays "MoonlitFloor$History" "MoonlitFloor$History" "next" "I" ∈ sg_T := sg_in2 135 rfl rfl
theorem kt_2_136 : Jvm.Cond.soleField "MoonlitFloor$History" "next" ∈ sg_T := sg_in2 136 rfl rfl
theorem kt_2_137 : Jvm.Cond.lays "MoonlitFloor$History" "MoonlitFloor$History" "count" "I" ∈ sg_T := sg_in2 137 rfl rfl
theorem kt_2_138 : Jvm.Cond.soleField "MoonlitFloor$History" "count" ∈ sg_T := sg_in2 138 rfl rfl
theorem kt_2_139 : Jvm.Cond.superclass "MoonlitFloor$History" "java/lang/Object" ∈ sg_T := sg_in2 139 rfl rfl
theorem kt_2_140 : Jvm.Cond.fieldLink "MoonlitFloor" (9 : Nat) "MoonlitFloor" "buffer" "[I" ∈ sg_T := sg_in2 140 rfl rfl
theorem kt_2_141 : Jvm.Cond.fieldLink "MoonlitFloor" (16 : Nat) "MoonlitFloor" "output" "Ljava/lang/StringBuilder;" ∈ sg_T := sg_in2 141 rfl rfl
theorem kt_2_142 : Jvm.Cond.fieldLink "MoonlitFloor" (23 : Nat) "MoonlitFloor" "world" "LMoonlitFloor$World;" ∈ sg_T := sg_in2 142 rfl rfl
theorem kt_2_143 : Jvm.Cond.fieldLink "MoonlitFloor" (27 : Nat) "MoonlitFloor" "draft" "LMoonlitFloor$World;" ∈ sg_T := sg_in2 143 rfl rfl
theorem kt_2_144 : Jvm.Cond.fieldLink "MoonlitFloor" (35 : Nat) "MoonlitFloor" "reader" "LMoonlitFloor$SetupReader;" ∈ sg_T := sg_in2 144 rfl rfl
theorem kt_2_145 : Jvm.Cond.fieldLink "MoonlitFloor" (42 : Nat) "MoonlitFloor" "history" "LMoonlitFloor$History;" ∈ sg_T := sg_in2 145 rfl rfl
theorem kt_2_146 : Jvm.Cond.fieldLink "MoonlitFloor" (46 : Nat) "MoonlitFloor" "filled" "I" ∈ sg_T := sg_in2 146 rfl rfl
theorem kt_2_147 : Jvm.Cond.fieldLink "MoonlitFloor" (50 : Nat) "MoonlitFloor" "loaded" "Z" ∈ sg_T := sg_in2 147 rfl rfl
theorem kt_2_148 : Jvm.Cond.laysFinal "MoonlitFloor" "MoonlitFloor" "buffer" "[I" ∈ sg_T := sg_in2 148 rfl rfl
theorem kt_2_149 : Jvm.Cond.soleField "MoonlitFloor" "buffer" ∈ sg_T := sg_in2 149 rfl rfl
theorem kt_2_150 : Jvm.Cond.laysFinal "MoonlitFloor" "MoonlitFloor" "output" "Ljava/lang/StringBuilder;" ∈ sg_T := sg_in2 150 rfl rfl
theorem kt_2_151 : Jvm.Cond.soleField "MoonlitFloor" "output" ∈ sg_T := sg_in2 151 rfl rfl
theorem kt_2_152 : Jvm.Cond.laysFinal "MoonlitFloor" "MoonlitFloor" "world" "LMoonlitFloor$World;" ∈ sg_T := sg_in2 152 rfl rfl
theorem kt_2_153 : Jvm.Cond.soleField "MoonlitFloor" "world" ∈ sg_T := sg_in2 153 rfl rfl
theorem kt_2_154 : Jvm.Cond.laysFinal "MoonlitFloor" "MoonlitFloor" "draft" "LMoonlitFloor$World;" ∈ sg_T := sg_in2 154 rfl rfl
theorem kt_2_155 : Jvm.Cond.soleField "MoonlitFloor" "draft" ∈ sg_T := sg_in2 155 rfl rfl
theorem kt_2_156 : Jvm.Cond.laysFinal "MoonlitFloor" "MoonlitFloor" "reader" "LMoonlitFloor$SetupReader;" ∈ sg_T := sg_in2 156 rfl rfl
theorem kt_2_157 : Jvm.Cond.soleField "MoonlitFloor" "reader" ∈ sg_T := sg_in2 157 rfl rfl
theorem kt_2_158 : Jvm.Cond.laysFinal "MoonlitFloor" "MoonlitFloor" "history" "LMoonlitFloor$History;" ∈ sg_T := sg_in2 158 rfl rfl
theorem kt_2_159 : Jvm.Cond.soleField "MoonlitFloor" "history" ∈ sg_T := sg_in2 159 rfl rfl
theorem kt_2_160 : Jvm.Cond.lays "MoonlitFloor" "MoonlitFloor" "filled" "I" ∈ sg_T := sg_in2 160 rfl rfl
theorem kt_2_161 : Jvm.Cond.soleField "MoonlitFloor" "filled" ∈ sg_T := sg_in2 161 rfl rfl
theorem kt_2_162 : Jvm.Cond.lays "MoonlitFloor" "MoonlitFloor" "loaded" "Z" ∈ sg_T := sg_in2 162 rfl rfl
theorem kt_2_163 : Jvm.Cond.soleField "MoonlitFloor" "loaded" ∈ sg_T := sg_in2 163 rfl rfl
theorem kt_2_164 : Jvm.Cond.superclass "MoonlitFloor" "java/lang/Object" ∈ sg_T := sg_in2 164 rfl rfl
theorem kt_2_165 : Jvm.Cond.methodLink "MoonlitFloorLaw" (313 : Nat) ({ cls := "MoonlitFloor", name := "parseSetup", desc := "(I)I" } : Jvm.MethodName) ∈ sg_T := sg_in2 165 rfl rfl
theorem kt_2_166 : Jvm.Cond.instanceMethod ({ cls := "MoonlitFloor", name := "parseSetup", desc := "(I)I" } : Jvm.MethodName) ∈ sg_T := sg_in2 166 rfl rfl
theorem kt_2_167 : Jvm.Cond.selects "MoonlitFloor" ({ cls := "MoonlitFloor", name := "parseSetup", desc := "(I)I" } : Jvm.MethodName) ({ cls := "MoonlitFloor", name := "parseSetup", desc := "(I)I" } : Jvm.MethodName) ∈ sg_T := sg_in2 167 rfl rfl
theorem kt_2_168 : Jvm.Cond.code ({ cls := "MoonlitFloor", name := "parseSetup", desc := "(I)I" } : Jvm.MethodName) prog_1_method_4_code (2 : Nat) (Option.some Jvm.ClassFile.FieldType.int) ∈ sg_T := sg_in2 168 rfl rfl
theorem kt_2_169 : Jvm.Cond.classLink "MoonlitFloor" (62 : Nat) "java/lang/IndexOutOfBoundsException" ∈ sg_T := sg_in2 169 rfl rfl
theorem kt_2_170 : Jvm.Cond.instantiable "java/lang/IndexOutOfBoundsException" (6 : Nat) ∈ sg_T := sg_in2 170 rfl rfl
theorem kt_2_178 : Jvm.Cond.selects "java/lang/IndexOutOfBoundsException" ({ cls := "java/lang/Throwable", name := "fillInStackTrace", desc := "(I)Ljava/lang/Throwable;" } : Jvm.MethodName) ({ cls := "java/lang/Throwable", name := "fillInStackTrace", desc := "(I)Ljava/lang/Throwable;" } : Jvm.MethodName) ∈ sg_T := sg_in2 178 rfl rfl
theorem kt_2_179 : Jvm.Cond.selects "java/lang/IndexOutOfBoundsException" ({ cls := "java/lang/Throwable", name := "fillInStackTrace", desc := "()Ljava/lang/Throwable;" } : Jvm.MethodName) ({ cls := "java/lang/Throwable", name := "fillInStackTrace", desc := "()Ljava/lang/Throwable;" } : Jvm.MethodName) ∈ sg_T := sg_in2 179 rfl rfl
theorem kt_2_180 : Jvm.Cond.lays "java/lang/IndexOutOfBoundsException" "java/lang/Throwable" "cause" "Ljava/lang/Throwable;" ∈ sg_T := sg_in2 180 rfl rfl
theorem kt_2_181 : Jvm.Cond.lays "java/lang/Throwable" "java/lang/Throwable" "cause" "Ljava/lang/Throwable;" ∈ sg_T := sg_in2 181 rfl rfl
theorem kt_2_182 : Jvm.Cond.lays "java/lang/IndexOutOfBoundsException" "java/lang/Throwable" "stackTrace" "[Ljava/lang/StackTraceElement;" ∈ sg_T := sg_in2 182 rfl rfl
theorem kt_2_183 : Jvm.Cond.lays "java/lang/Throwable" "java/lang/Throwable" "stackTrace" "[Ljava/lang/StackTraceElement;" ∈ sg_T := sg_in2 183 rfl rfl
theorem kt_2_184 : Jvm.Cond.lays "java/lang/IndexOutOfBoundsException" "java/lang/Throwable" "suppressedExceptions" "Ljava/util/List;" ∈ sg_T := sg_in2 184 rfl rfl
theorem kt_2_185 : Jvm.Cond.lays "java/lang/Throwable" "java/lang/Throwable" "suppressedExceptions" "Ljava/util/List;" ∈ sg_T := sg_in2 185 rfl rfl
theorem kt_2_186 : Jvm.Cond.lays "java/lang/IndexOutOfBoundsException" "java/lang/Throwable" "detailMessage" "Ljava/lang/String;" ∈ sg_T := sg_in2 186 rfl rfl
theorem kt_2_187 : Jvm.Cond.lays "java/lang/Throwable" "java/lang/Throwable" "detailMessage" "Ljava/lang/String;" ∈ sg_T := sg_in2 187 rfl rfl
theorem kt_2_188 : Jvm.Cond.lays "java/lang/IndexOutOfBoundsException" "java/lang/Throwable" "backtrace" "Ljava/lang/Object;" ∈ sg_T := sg_in2 188 rfl rfl
theorem kt_2_189 : Jvm.Cond.lays "java/lang/Throwable" "java/lang/Throwable" "backtrace" "Ljava/lang/Object;" ∈ sg_T := sg_in2 189 rfl rfl
theorem kt_2_190 : Jvm.Cond.fieldLink "java/lang/Throwable" (198 : Nat) "java/lang/Throwable" "backtrace" "Ljava/lang/Object;" ∈ sg_T := sg_in2 190 rfl rfl
theorem kt_2_191 : Jvm.Cond.superclass "java/lang/Throwable" "java/lang/Object" ∈ sg_T := sg_in2 191 rfl rfl
theorem kt_2_192 : Jvm.Cond.instanceMethod ({ cls := "java/lang/Throwable", name := "<init>", desc := "()V" } : Jvm.MethodName) ∈ sg_T := sg_in2 192 rfl rfl
theorem kt_2_193 : Jvm.Cond.code ({ cls := "java/lang/Throwable", name := "<init>", desc := "()V" } : Jvm.MethodName) prog_36_method_1_code (1 : Nat) (Option.none : Option Jvm.ClassFile.FieldType) ∈ sg_T := sg_in2 193 rfl rfl
theorem kt_2_194 : Jvm.Cond.methodLink "java/lang/Throwable" (1 : Nat) ({ cls := "java/lang/Object", name := "<init>", desc := "()V" } : Jvm.MethodName) ∈ sg_T := sg_in2 194 rfl rfl
theorem kt_2_195 : Jvm.Cond.fieldLink "java/lang/Throwable" (13 : Nat) "java/lang/Throwable" "UNASSIGNED_STACK" "[Ljava/lang/StackTraceElement;" ∈ sg_T := sg_in2 195 rfl rfl
theorem kt_2_197 : Jvm.Cond.fieldLink "java/lang/Throwable" (20 : Nat) "java/lang/Throwable" "SUPPRESSED_SENTINEL" "Ljava/util/List;" ∈ sg_T := sg_in2 197 rfl rfl
theorem kt_2_199 : Jvm.Cond.methodLink "java/lang/Throwable" (27 : Nat) ({ cls := "java/lang/Throwable", name := "fillInStackTrace", desc := "()Ljava/lang/Throwable;" } : Jvm.MethodName) ∈ sg_T := sg_in2 199 rfl rfl
theorem kt_2_200 : Jvm.Cond.instanceMethod ({ cls := "java/lang/Throwable", name := "fillInStackTrace", desc := "()Ljava/lang/Throwable;" } : Jvm.MethodName) ∈ sg_T := sg_in2 200 rfl rfl
theorem kt_2_201 : Jvm.Cond.sameMethod "java/lang/Throwable" "java/lang/Throwable" "fillInStackTrace" "()Ljava/lang/Throwable;" ∈ sg_T := sg_in2 201 rfl rfl
theorem kt_2_202 : Jvm.Cond.selects "java/lang/IllegalArgumentException" ({ cls := "java/lang/Throwable", name := "fillInStackTrace", desc := "()Ljava/lang/Throwable;" } : Jvm.MethodName) ({ cls := "java/lang/Throwable", name := "fillInStackTrace", desc := "()Ljava/lang/Throwable;" } : Jvm.MethodName) ∈ sg_T := sg_in2 202 rfl rfl
theorem kt_2_203 : Jvm.Cond.selects "java/lang/IllegalStateException" ({ cls := "java/lang/Throwable", name := "fillInStackTrace", desc := "()Ljava/lang/Throwable;" } : Jvm.MethodName) ({ cls := "java/lang/Throwable", name := "fillInStackTrace", desc := "()Ljava/lang/Throwable;" } : Jvm.MethodName) ∈ sg_T := sg_in2 203 rfl rfl
theorem kt_2_205 : Jvm.Cond.methodLink "java/lang/Throwable" (202 : Nat) ({ cls := "java/lang/Throwable", name := "fillInStackTrace", desc := "(I)Ljava/lang/Throwable;" } : Jvm.MethodName) ∈ sg_T := sg_in2 205 rfl rfl
theorem kt_2_207 : Jvm.Cond.instanceMethod ({ cls := "java/lang/Throwable", name := "fillInStackTrace", desc := "(I)Ljava/lang/Throwable;" } : Jvm.MethodName) ∈ sg_T := sg_in2 207 rfl rfl
theorem kt_2_208 : Jvm.Cond.instantiable "java/lang/Throwable" (6 : Nat) ∈ sg_T := sg_in2 208 rfl rfl
theorem kt_2_209 : Jvm.Cond.native ({ cls := "java/lang/Throwable", name := "fillInStackTrace", desc := "(I)Ljava/lang/Throwable;" } : Jvm.MethodName) ∈ sg_T := sg_in2 209 rfl rfl
theorem kt_2_211 : Jvm.Cond.methodLink "MoonlitFloor" (66 : Nat) ({ cls := "java/lang/IndexOutOfBoundsException", name := "<init>", desc := "(Ljava/lang/String;)V" } : Jvm.MethodName) ∈ sg_T := sg_in2 211 rfl rfl
theorem kt_2_212 : Jvm.Cond.instanceMethod ({ cls := "java/lang/IndexOutOfBoundsException", name := "<init>", desc := "(Ljava/lang/String;)V" } : Jvm.MethodName) ∈ sg_T := sg_in2 212 rfl rfl
theorem kt_2_213 : Jvm.Cond.code ({ cls := "java/lang/IndexOutOfBoundsException", name := "<init>", desc := "(Ljava/lang/String;)V" } : Jvm.MethodName) prog_24_method_2_code (2 : Nat) (Option.none : Option Jvm.ClassFile.FieldType) ∈ sg_T := sg_in2 213 rfl rfl
theorem kt_2_214 : Jvm.Cond.methodLink "java/lang/IndexOutOfBoundsException" (7 : Nat) ({ cls := "java/lang/RuntimeException", name := "<init>", desc := "(Ljava/lang/String;)V" } : Jvm.MethodName) ∈ sg_T := sg_in2 214 rfl rfl
theorem kt_2_215 : Jvm.Cond.instanceMethod ({ cls := "java/lang/RuntimeException", name := "<init>", desc := "(Ljava/lang/String;)V" } : Jvm.MethodName) ∈ sg_T := sg_in2 215 rfl rfl
theorem kt_2_216 : Jvm.Cond.code ({ cls := "java/lang/RuntimeException", name := "<init>", desc := "(Ljava/lang/String;)V" } : Jvm.MethodName) prog_30_method_2_code (2 : Nat) (Option.none : Option Jvm.ClassFile.FieldType) ∈ sg_T := sg_in2 216 rfl rfl
theorem kt_2_217 : Jvm.Cond.methodLink "java/lang/RuntimeException" (7 : Nat) ({ cls := "java/lang/Exception", name := "<init>", desc := "(Ljava/lang/String;)V" } : Jvm.MethodName) ∈ sg_T := sg_in2 217 rfl rfl
theorem kt_2_218 : Jvm.Cond.instanceMethod ({ cls := "java/lang/Exception", name := "<init>", desc := "(Ljava/lang/String;)V" } : Jvm.MethodName) ∈ sg_T := sg_in2 218 rfl rfl
theorem kt_2_219 : Jvm.Cond.code ({ cls := "java/lang/Exception", name := "<init>", desc := "(Ljava/lang/String;)V" } : Jvm.MethodName) prog_21_method_2_code (2 : Nat) (Option.none : Option Jvm.ClassFile.FieldType) ∈ sg_T := sg_in2 219 rfl rfl
theorem kt_2_220 : Jvm.Cond.methodLink "java/lang/Exception" (7 : Nat) ({ cls := "java/lang/Throwable", name := "<init>", desc := "(Ljava/lang/String;)V" } : Jvm.MethodName) ∈ sg_T := sg_in2 220 rfl rfl
theorem kt_2_221 : Jvm.Cond.instanceMethod ({ cls := "java/lang/Throwable", name := "<init>", desc := "(Ljava/lang/String;)V" } : Jvm.MethodName) ∈ sg_T := sg_in2 221 rfl rfl
theorem kt_2_222 : Jvm.Cond.code ({ cls := "java/lang/Throwable", name := "<init>", desc := "(Ljava/lang/String;)V" } : Jvm.MethodName) prog_36_method_2_code (2 : Nat) (Option.none : Option Jvm.ClassFile.FieldType) ∈ sg_T := sg_in2 222 rfl rfl
theorem kt_2_223 : Jvm.Cond.fieldLink "java/lang/Throwable" (198 : Nat) "java/lang/Throwable" "backtrace" "Ljava/lang/Object;" ∈ sg_T := sg_in2 223 rfl rfl
theorem kt_2_224 : Jvm.Cond.fieldLink "java/lang/Throwable" (31 : Nat) "java/lang/Throwable" "detailMessage" "Ljava/lang/String;" ∈ sg_T := sg_in2 224 rfl rfl
theorem kt_2_225 : Jvm.Cond.fieldLink "java/lang/Throwable" (7 : Nat) "java/lang/Throwable" "cause" "Ljava/lang/Throwable;" ∈ sg_T := sg_in2 225 rfl rfl
theorem kt_2_226 : Jvm.Cond.fieldLink "java/lang/Throwable" (17 : Nat) "java/lang/Throwable" "stackTrace" "[Ljava/lang/StackTraceElement;" ∈ sg_T := sg_in2 226 rfl rfl
theorem kt_2_227 : Jvm.Cond.fieldLink "java/lang/Throwable" (24 : Nat) "java/lang/Throwable" "suppressedExceptions" "Ljava/util/List;" ∈ sg_T := sg_in2 227 rfl rfl
theorem kt_2_228 : Jvm.Cond.soleField "java/lang/Throwable" "backtrace" ∈ sg_T := sg_in2 228 rfl rfl
theorem kt_2_229 : Jvm.Cond.soleField "java/lang/Throwable" "detailMessage" ∈ sg_T := sg_in2 229 rfl rfl
theorem kt_2_230 : Jvm.Cond.soleField "java/lang/Throwable" "cause" ∈ sg_T := sg_in2 230 rfl rfl
theorem kt_2_231 : Jvm.Cond.soleField "java/lang/Throwable" "stackTrace" ∈ sg_T := sg_in2 231 rfl rfl
theorem kt_2_232 : Jvm.Cond.lays "java/lang/IndexOutOfBoundsException" "java/lang/Throwable" "depth" "I" ∈ sg_T := sg_in2 232 rfl rfl
theorem kt_2_233 : Jvm.Cond.soleField "java/lang/Throwable" "depth" ∈ sg_T := sg_in2 233 rfl rfl
theorem kt_2_234 : Jvm.Cond.soleField "java/lang/Throwable" "suppressedExceptions" ∈ sg_T := sg_in2 234 rfl rfl
theorem kt_2_235 : Jvm.Cond.superclass "java/lang/IndexOutOfBoundsException" "java/lang/RuntimeException" ∈ sg_T := sg_in2 235 rfl rfl
theorem kt_2_236 : Jvm.Cond.methodLink "MoonlitFloor" (69 : Nat) ({ cls := "MoonlitFloor$SetupReader", name := "read", desc := "([II)Z" } : Jvm.MethodName) ∈ sg_T := sg_in2 236 rfl rfl
theorem kt_2_237 : Jvm.Cond.instanceMethod ({ cls := "MoonlitFloor$SetupReader", name := "read", desc := "([II)Z" } : Jvm.MethodName) ∈ sg_T := sg_in2 237 rfl rfl
theorem kt_2_238 : Jvm.Cond.selects "MoonlitFloor$SetupReader" ({ cls := "MoonlitFloor$SetupReader", name := "read", desc := "([II)Z" } : Jvm.MethodName) ({ cls := "MoonlitFloor$SetupReader", name := "read", desc := "([II)Z" } : Jvm.MethodName) ∈ sg_T := sg_in2 238 rfl rfl
theorem kt_2_239 : Jvm.Cond.code ({ cls := "MoonlitFloor$SetupReader", name := "read", desc := "([II)Z" } : Jvm.MethodName) prog_6_method_2_code (4 : Nat) (Option.some Jvm.ClassFile.FieldType.boolean) ∈ sg_T := sg_in2 239 rfl rfl
theorem kt_3_0 : Jvm.Cond.methodLink "MoonlitFloor$SetupReader" (36 : Nat) ({ cls := "MoonlitFloor$SetupReader", name := "restart", desc := "()V" } : Jvm.MethodName) ∈ sg_T := sg_in3 0 rfl rfl
theorem kt_3_2 : Jvm.Cond.instanceMethod ({ cls := "MoonlitFloor$SetupReader", name := "restart", desc := "()V" } : Jvm.MethodName) ∈ sg_T := sg_in3 2 rfl rfl
theorem kt_3_3 : Jvm.Cond.code ({ cls := "MoonlitFloor$SetupReader", name := "restart", desc := "()V" } : Jvm.MethodName) prog_6_method_3_code (1 : Nat) (Option.none : Option Jvm.ClassFile.FieldType) ∈ sg_T := sg_in3 3 rfl rfl
theorem kt_3_4 : Jvm.Cond.methodLink "MoonlitFloor$SetupReader" (74 : Nat) ({ cls := "MoonlitFloor$World", name := "reset", desc := "()V" } : Jvm.MethodName) ∈ sg_T := sg_in3 4 rfl rfl
theorem kt_3_5 : Jvm.Cond.instanceMethod ({ cls := "MoonlitFloor$World", name := "reset", desc := "()V" } : Jvm.MethodName) ∈ sg_T := sg_in3 5 rfl rfl
theorem kt_3_6 : Jvm.Cond.selects "MoonlitFloor$World" ({ cls := "MoonlitFloor$World", name := "reset", desc := "()V" } : Jvm.MethodName) ({ cls := "MoonlitFloor$World", name := "reset", desc := "()V" } : Jvm.MethodName) ∈ sg_T := sg_in3 6 rfl rfl
theorem kt_3_7 : Jvm.Cond.code ({ cls := "MoonlitFloor$World", name := "reset", desc := "()V" } : Jvm.MethodName) prog_10_method_2_code (1 : Nat) (Option.none : Option Jvm.ClassFile.FieldType) ∈ sg_T := sg_in3 7 rfl rfl
theorem kt_3_8 : Jvm.Cond.methodLink "MoonlitFloor$World" (48 : Nat) ({ cls := "MoonlitFloor$Plan", name := "reset", desc := "()V" } : Jvm.MethodName) ∈ sg_T := sg_in3 8 rfl rfl
theorem kt_3_9 : Jvm.Cond.instanceMethod ({ cls := "MoonlitFloor$Plan", name := "reset", desc := "()V" } : Jvm.MethodName) ∈ sg_T := sg_in3 9 rfl rfl
theorem kt_3_10 : Jvm.Cond.selects "MoonlitFloor$Plan" ({ cls := "MoonlitFloor$Plan", name := "reset", desc := "()V" } : Jvm.MethodName) ({ cls := "MoonlitFloor$Plan", name := "reset", desc := "()V" } : Jvm.MethodName) ∈ sg_T := sg_in3 10 rfl rfl
theorem kt_3_11 : Jvm.Cond.code ({ cls := "MoonlitFloor$Plan", name := "reset", desc := "()V" } : Jvm.MethodName) prog_4_method_2_code (1 : Nat) (Option.none : Option Jvm.ClassFile.FieldType) ∈ sg_T := sg_in3 11 rfl rfl
theorem kt_3_12 : Jvm.Cond.methodLink "MoonlitFloor$Plan" (24 : Nat) ({ cls := "java/util/Arrays", name := "fill", desc := "([II)V" } : Jvm.MethodName) ∈ sg_T := sg_in3 12 rfl rfl
theorem kt_3_13 : Jvm.Cond.static ({ cls := "java/util/Arrays", name := "fill", desc := "([II)V" } : Jvm.MethodName) ∈ sg_T := sg_in3 13 rfl rfl
theorem kt_3_14 : Jvm.Cond.code ({ cls := "java/util/Arrays", name := "fill", desc := "([II)V" } : Jvm.MethodName) prog_42_method_103_code (4 : Nat) (Option.none : Option Jvm.ClassFile.FieldType) ∈ sg_T := sg_in3 14 rfl rfl
theorem kt_3_15 : Jvm.Cond.methodLink "MoonlitFloor$World" (51 : Nat) ({ cls := "MoonlitFloor$Walker", name := "reset", desc := "()V" } : Jvm.MethodName) ∈ sg_T := sg_in3 15 rfl rfl
theorem kt_3_16 : Jvm.Cond.instanceMethod ({ cls := "MoonlitFloor$Walker", name := "reset", desc := "()V" } : Jvm.MethodName) ∈ sg_T := sg_in3 16 rfl rfl
theorem kt_3_17 : Jvm.Cond.selects "MoonlitFloor$Walker" ({ cls := "MoonlitFloor$Walker", name := "reset", desc := "()V" } : Jvm.MethodName) ({ cls := "MoonlitFloor$Walker", name := "reset", desc := "()V" } : Jvm.MethodName) ∈ sg_T := sg_in3 17 rfl rfl
theorem kt_3_18 : Jvm.Cond.code ({ cls := "MoonlitFloor$Walker", name := "reset", desc := "()V" } : Jvm.MethodName) prog_9_method_2_code (1 : Nat) (Option.none : Option Jvm.ClassFile.FieldType) ∈ sg_T := sg_in3 18 rfl rfl
theorem kt_3_19 : Jvm.Cond.methodLink "MoonlitFloor$World" (52 : Nat) ({ cls := "MoonlitFloor$Records", name := "reset", desc := "()V" } : Jvm.MethodName) ∈ sg_T := sg_in3 19 rfl rfl
theorem kt_3_20 : Jvm.Cond.instanceMethod ({ cls := "MoonlitFloor$Records", name := "reset", desc := "()V" } : Jvm.MethodName) ∈ sg_T := sg_in3 20 rfl rfl
theorem kt_3_21 : Jvm.Cond.selects "MoonlitFloor$Records" ({ cls := "MoonlitFloor$Records", name := "reset", desc := "()V" } : Jvm.MethodName) ({ cls := "MoonlitFloor$Records", name := "reset", desc := "()V" } : Jvm.MethodName) ∈ sg_T := sg_in3 21 rfl rfl
theorem kt_3_22 : Jvm.Cond.code ({ cls := "MoonlitFloor$Records", name := "reset", desc := "()V" } : Jvm.MethodName) prog_5_method_2_code (1 : Nat) (Option.none : Option Jvm.ClassFile.FieldType) ∈ sg_T := sg_in3 22 rfl rfl
theorem kt_3_23 : Jvm.Cond.methodLink "MoonlitFloor$World" (53 : Nat) ({ cls := "java/util/Arrays", name := "fill", desc := "([II)V" } : Jvm.MethodName) ∈ sg_T := sg_in3 23 rfl rfl
theorem kt_3_24 : Jvm.Cond.methodLink "MoonlitFloor$SetupReader" (39 : Nat) ({ cls := "MoonlitFloor$Tokens", name := "scan", desc := "([II)V" } : Jvm.MethodName) ∈ sg_T := sg_in3 24 rfl rfl
theorem kt_3_25 : Jvm.Cond.instanceMethod ({ cls := "MoonlitFloor$Tokens", name := "scan", desc := "([II)V" } : Jvm.MethodName) ∈ sg_T := sg_in3 25 rfl rfl
theorem kt_3_26 : Jvm.Cond.selects "MoonlitFloor$Tokens" ({ cls := "MoonlitFloor$Tokens", name := "scan", desc := "([II)V" } : Jvm.MethodName) ({ cls := "MoonlitFloor$Tokens", name := "scan", desc := "([II)V" } : Jvm.MethodName) ∈ sg_T := sg_in3 26 rfl rfl
theorem kt_3_27 : Jvm.Cond.code ({ cls := "MoonlitFloor$Tokens", name := "scan", desc := "([II)V" } : Jvm.MethodName) prog_8_method_2_code (5 : Nat) (Option.none : Option Jvm.ClassFile.FieldType) ∈ sg_T := sg_in3 27 rfl rfl
theorem kt_3_29 : Jvm.Cond.static ({ cls := "MoonlitFloor", name := "at", desc := "([II)I" } : Jvm.MethodName) ∈ sg_T := sg_in3 29 rfl rfl
theorem kt_3_30 : Jvm.Cond.code ({ cls := "MoonlitFloor", name := "at", desc := "([II)I" } : Jvm.MethodName) prog_1_method_75_code (2 : Nat) (Option.some Jvm.ClassFile.FieldType.int) ∈ sg_T := sg_in3 30 rfl rfl
theorem kt_3_31 : Jvm.Cond.methodLink "MoonlitFloor$Tokens" (35 : Nat) ({ cls := "MoonlitFloor$Tokens", name := "tokenEnd", desc := "([III)I" } : Jvm.MethodName) ∈ sg_T := sg_in3 31 rfl rfl
theorem kt_3_32 : Jvm.Cond.static ({ cls := "MoonlitFloor$Tokens", name := "tokenEnd", desc := "([III)I" } : Jvm.MethodName) ∈ sg_T := sg_in3 32 rfl rfl
theorem kt_3_33 : Jvm.Cond.code ({ cls := "MoonlitFloor$Tokens", name := "tokenEnd", desc := "([III)I" } : Jvm.MethodName) prog_8_method_3_code (5 : Nat) (Option.some Jvm.ClassFile.FieldType.int) ∈ sg_T := sg_in3 33 rfl rfl
theorem kt_3_34 : Jvm.Cond.methodLink "MoonlitFloor$Tokens" (54 : Nat) ({ cls := "MoonlitFloor$Tokens", name := "isLetter", desc := "(I)Z" } : Jvm.MethodName) ∈ sg_T := sg_in3 34 rfl rfl
theorem kt_3_35 : Jvm.Cond.static ({ cls := "MoonlitFloor$Tokens", name := "isLetter", desc := "(I)Z" } : Jvm.MethodName) ∈ sg_T := sg_in3 35 rfl rfl
theorem kt_3_36 : Jvm.Cond.code ({ cls := "MoonlitFloor$Tokens", name := "isLetter", desc := "(I)Z" } : Jvm.MethodName) prog_8_method_7_code (1 : Nat) (Option.some Jvm.ClassFile.FieldType.boolean) ∈ sg_T := sg_in3 36 rfl rfl
theorem kt_3_37 : Jvm.Cond.methodLink "MoonlitFloor$Tokens" (58 : Nat) ({ cls := "MoonlitFloor$Tokens", name := "isDigit", desc := "(I)Z" } : Jvm.MethodName) ∈ sg_T := sg_in3 37 rfl rfl
theorem kt_3_38 : Jvm.Cond.static ({ cls := "MoonlitFloor$Tokens", name := "isDigit", desc := "(I)Z" } : Jvm.MethodName) ∈ sg_T := sg_in3 38 rfl rfl
theorem kt_3_39 : Jvm.Cond.code ({ cls := "MoonlitFloor$Tokens", name := "isDigit", desc := "(I)Z" } : Jvm.MethodName) prog_8_method_8_code (1 : Nat) (Option.some Jvm.ClassFile.FieldType.boolean) ∈ sg_T := sg_in3 39 rfl rfl
theorem kt_3_40 : Jvm.Cond.methodLink "MoonlitFloor$Tokens" (39 : Nat) ({ cls := "MoonlitFloor$Tokens", name := "signOf", desc := "([III)LMoonlitFloor$Sign;" } : Jvm.MethodName) ∈ sg_T := sg_in3 40 rfl rfl
theorem kt_3_41 : Jvm.Cond.static ({ cls := "MoonlitFloor$Tokens", name := "signOf", desc := "([III)LMoonlitFloor$Sign;" } : Jvm.MethodName) ∈ sg_T := sg_in3 41 rfl rfl
theorem kt_3_42 : Jvm.Cond.code ({ cls := "MoonlitFloor$Tokens", name := "signOf", desc := "([III)LMoonlitFloor$Sign;" } : Jvm.MethodName) prog_8_method_4_code (7 : Nat) (Option.some (Jvm.ClassFile.FieldType.object "MoonlitFloor$Sign")) ∈ sg_T := sg_in3 42 rfl rfl
theorem kt_3_43 : Jvm.Cond.fieldLink "MoonlitFloor$Tokens" (61 : Nat) "MoonlitFloor$Sign" "NUMBER" "LMoonlitFloor$Sign;" ∈ sg_T := sg_in3 43 rfl rfl
theorem kt_3_45 : Jvm.Cond.fieldLink "MoonlitFloor$Tokens" (64 : Nat) "MoonlitFloor$Sign" "UNKNOWN" "LMoonlitFloor$Sign;" ∈ sg_T := sg_in3 45 rfl rfl
theorem kt_3_47 : Jvm.Cond.fieldLink "MoonlitFloor$Tokens" (67 : Nat) "MoonlitFloor$Tokens" "SIGNS" "[LMoonlitFloor$Sign;" ∈ sg_T := sg_in3 47 rfl rfl
theorem kt_3_49 : Jvm.Cond.methodLink "MoonlitFloor$Tokens" (74 : Nat) ({ cls := "java/lang/String", name := "length", desc := "()I" } : Jvm.MethodName) ∈ sg_T := sg_in3 49 rfl rfl
theorem kt_3_50 : Jvm.Cond.instanceMethod ({ cls := "java/lang/String", name := "length", desc := "()I" } : Jvm.MethodName) ∈ sg_T := sg_in3 50 rfl rfl
theorem kt_3_51 : Jvm.Cond.selects "java/lang/String" ({ cls := "java/lang/String", name := "length", desc := "()I" } : Jvm.MethodName) ({ cls := "java/lang/String", name := "length", desc := "()I" } : Jvm.MethodName) ∈ sg_T := sg_in3 51 rfl rfl
theorem kt_3_52 : Jvm.Cond.code ({ cls := "java/lang/String", name := "length", desc := "()I" } : Jvm.MethodName) prog_31_method_54_code (1 : Nat) (Option.some Jvm.ClassFile.FieldType.int) ∈ sg_T := sg_in3 52 rfl rfl
theorem kt_3_53 : Jvm.Cond.methodLink "java/lang/String" (335 : Nat) ({ cls := "java/lang/String", name := "coder", desc := "()B" } : Jvm.MethodName) ∈ sg_T := sg_in3 53 rfl rfl
theorem kt_3_54 : Jvm.Cond.instanceMethod ({ cls := "java/lang/String", name := "coder", desc := "()B" } : Jvm.MethodName) ∈ sg_T := sg_in3 54 rfl rfl
theorem kt_3_55 : Jvm.Cond.selects "java/lang/String" ({ cls := "java/lang/String", name := "coder", desc := "()B" } : Jvm.MethodName) ({ cls := "java/lang/String", name := "coder", desc := "()B" } : Jvm.MethodName) ∈ sg_T := sg_in3 55 rfl rfl
theorem kt_3_56 : Jvm.Cond.code ({ cls := "java/lang/String", name := "coder", desc := "()B" } : Jvm.MethodName) prog_31_method_152_code (1 : Nat) (Option.some Jvm.ClassFile.FieldType.byte) ∈ sg_T := sg_in3 56 rfl rfl
theorem kt_3_57 : Jvm.Cond.fieldLink "java/lang/String" (38 : Nat) "java/lang/String" "COMPACT_STRINGS" "Z" ∈ sg_T := sg_in3 57 rfl rfl
theorem kt_3_58 : Jvm.Cond.methodLink "MoonlitFloor$Tokens" (80 : Nat) ({ cls := "MoonlitFloor$Tokens", name := "spells", desc := "(Ljava/lang/String;[II)Z" } : Jvm.MethodName) ∈ sg_T := sg_in3 58 rfl rfl
theorem kt_3_59 : Jvm.Cond.static ({ cls := "MoonlitFloor$Tokens", name := "spells", desc := "(Ljava/lang/String;[II)Z" } : Jvm.MethodName) ∈ sg_T := sg_in3 59 rfl rfl
theorem kt_3_60 : Jvm.Cond.code ({ cls := "MoonlitFloor$Tokens", name := "spells", desc := "(Ljava/lang/String;[II)Z" } : Jvm.MethodName) prog_8_method_5_code (4 : Nat) (Option.some Jvm.ClassFile.FieldType.boolean) ∈ sg_T := sg_in3 60 rfl rfl
theorem kt_3_61 : Jvm.Cond.methodLink "MoonlitFloor$Tokens" (84 : Nat) ({ cls := "java/lang/String", name := "charAt", desc := "(I)C" } : Jvm.MethodName) ∈ sg_T := sg_in3 61 rfl rfl
theorem kt_3_62 : Jvm.Cond.instanceMethod ({ cls := "java/lang/String", name := "charAt", desc := "(I)C" } : Jvm.MethodName) ∈ sg_T := sg_in3 62 rfl rfl
theorem kt_3_63 : Jvm.Cond.selects "java/lang/String" ({ cls := "java/lang/String", name := "charAt", desc := "(I)C" } : Jvm.MethodName) ({ cls := "java/lang/String", name := "charAt", desc := "(I)C" } : Jvm.MethodName) ∈ sg_T := sg_in3 63 rfl rfl
theorem kt_3_64 : Jvm.Cond.code ({ cls := "java/lang/String", name := "charAt", desc := "(I)C" } : Jvm.MethodName) prog_31_method_56_code (2 : Nat) (Option.some Jvm.ClassFile.FieldType.char) ∈ sg_T := sg_in3 64 rfl rfl
theorem kt_3_65 : Jvm.Cond.methodLink "java/lang/String" (492 : Nat) ({ cls := "java/lang/String", name := "isLatin1", desc := "()Z" } : Jvm.MethodName) ∈ sg_T := sg_in3 65 rfl rfl
theorem kt_3_66 : Jvm.Cond.instanceMethod ({ cls := "java/lang/String", name := "isLatin1", desc := "()Z" } : Jvm.MethodName) ∈ sg_T := sg_in3 66 rfl rfl
theorem kt_3_67 : Jvm.Cond.selects "java/lang/String" ({ cls := "java/lang/String", name := "isLatin1", desc := "()Z" } : Jvm.MethodName) ({ cls := "java/lang/String", name := "isLatin1", desc := "()Z" } : Jvm.MethodName) ∈ sg_T := sg_in3 67 rfl rfl
theorem kt_3_68 : Jvm.Cond.code ({ cls := "java/lang/String", name := "isLatin1", desc := "()Z" } : Jvm.MethodName) prog_31_method_154_code (1 : Nat) (Option.some Jvm.ClassFile.FieldType.boolean) ∈ sg_T := sg_in3 68 rfl rfl
theorem kt_3_69 : Jvm.Cond.methodLink "java/lang/String" (495 : Nat) ({ cls := "java/lang/StringLatin1", name := "charAt", desc := "([BI)C" } : Jvm.MethodName) ∈ sg_T := sg_in3 69 rfl rfl
theorem kt_3_70 : Jvm.Cond.static ({ cls := "java/lang/StringLatin1", name := "charAt", desc := "([BI)C" } : Jvm.MethodName) ∈ sg_T := sg_in3 70 rfl rfl
theorem kt_3_71 : Jvm.Cond.code ({ cls := "java/lang/StringLatin1", name := "charAt", desc := "([BI)C" } : Jvm.MethodName) prog_33_method_2_code (2 : Nat) (Option.some Jvm.ClassFile.FieldType.char) ∈ sg_T := sg_in3 71 rfl rfl
theorem kt_3_72 : Jvm.Cond.methodLink "java/lang/StringLatin1" (9 : Nat) ({ cls := "java/lang/String", name := "checkIndex", desc := "(II)V" } : Jvm.MethodName) ∈ sg_T := sg_in3 72 rfl rfl
theorem kt_3_73 : Jvm.Cond.static ({ cls := "java/lang/String", name := "checkIndex", desc := "(II)V" } : Jvm.MethodName) ∈ sg_T := sg_in3 73 rfl rfl
theorem kt_3_74 : Jvm.Cond.code ({ cls := "java/lang/String", name := "checkIndex", desc := "(II)V" } : Jvm.MethodName) prog_31_method_155_code (2 : Nat) (Option.none : Option Jvm.ClassFile.FieldType) ∈ sg_T := sg_in3 74 rfl rfl
theorem kt_3_75 : Jvm.Cond.fieldLink "java/lang/String" (1053 : Nat) "jdk/internal/util/Preconditions" "SIOOBE_FORMATTER" "Ljava/util/function/BiFunction;" ∈ sg_T := sg_in3 75 rfl rfl
theorem kt_3_77 : Jvm.Cond.methodLink "java/lang/String" (1059 : Nat) ({ cls := "jdk/internal/util/Preconditions", name := "checkIndex", desc := "(IILjava/util/function/BiFunction;)I" } : Jvm.MethodName) ∈ sg_T := sg_in3 77 rfl rfl
theorem kt_3_78 : Jvm.Cond.static ({ cls := "jdk/internal/util/Preconditions", name := "checkIndex", desc := "(IILjava/util/function/BiFunction;)I" } : Jvm.MethodName) ∈ sg_T := sg_in3 78 rfl rfl
theorem kt_3_79 : Jvm.Cond.code ({ cls := "jdk/internal/util/Preconditions", name := "checkIndex", desc := "(IILjava/util/function/BiFunction;)I" } : Jvm.MethodName) prog_51_method_11_code (3 : Nat) (Option.some Jvm.ClassFile.FieldType.int) ∈ sg_T := sg_in3 79 rfl rfl
theorem kt_3_80 : Jvm.Cond.methodLink "java/lang/String" (498 : Nat) ({ cls := "java/lang/StringUTF16", name := "charAt", desc := "([BI)C" } : Jvm.MethodName) ∈ sg_T := sg_in3 80 rfl rfl
theorem kt_3_81 : Jvm.Cond.static ({ cls := "java/lang/StringUTF16", name := "charAt", desc := "([BI)C" } : Jvm.MethodName) ∈ sg_T := sg_in3 81 rfl rfl
theorem kt_3_82 : Jvm.Cond.code ({ cls := "java/lang/StringUTF16", name := "charAt", desc := "([BI)C" } : Jvm.MethodName) prog_34_method_83_code (2 : Nat) (Option.some Jvm.ClassFile.FieldType.char) ∈ sg_T := sg_in3 82 rfl rfl
theorem kt_3_83 : Jvm.Cond.methodLink "java/lang/StringUTF16" (67 : Nat) ({ cls := "java/lang/StringUTF16", name := "checkIndex", desc := "(I[B)V" } : Jvm.MethodName) ∈ sg_T := sg_in3 83 rfl rfl
theorem kt_3_84 : Jvm.Cond.static ({ cls := "java/lang/StringUTF16", name := "checkIndex", desc := "(I[B)V" } : Jvm.MethodName) ∈ sg_T := sg_in3 84 rfl rfl
theorem kt_3_85 : Jvm.Cond.code ({ cls := "java/lang/StringUTF16", name := "checkIndex", desc := "(I[B)V" } : Jvm.MethodName) prog_34_method_91_code (2 : Nat) (Option.none : Option Jvm.ClassFile.FieldType) ∈ sg_T := sg_in3 85 rfl rfl
theorem kt_3_86 : Jvm.Cond.methodLink "java/lang/StringUTF16" (48 : Nat) ({ cls := "java/lang/StringUTF16", name := "length", desc := "([B)I" } : Jvm.MethodName) ∈ sg_T := sg_in3 86 rfl rfl
theorem kt_3_87 : Jvm.Cond.static ({ cls := "java/lang/StringUTF16", name := "length", desc := "([B)I" } : Jvm.MethodName) ∈ sg_T := sg_in3 87 rfl rfl
theorem kt_3_88 : Jvm.Cond.code ({ cls := "java/lang/StringUTF16", name := "length", desc := "([B)I" } : Jvm.MethodName) prog_34_method_6_code (1 : Nat) (Option.some Jvm.ClassFile.FieldType.int) ∈ sg_T := sg_in3 88 rfl rfl
theorem kt_3_89 : Jvm.Cond.methodLink "java/lang/StringUTF16" (414 : Nat) ({ cls := "java/lang/String", name := "checkIndex", desc := "(II)V" } : Jvm.MethodName) ∈ sg_T := sg_in3 89 rfl rfl
theorem kt_3_90 : Jvm.Cond.methodLink "java/lang/StringUTF16" (71 : Nat) ({ cls := "java/lang/StringUTF16", name := "getChar", desc := "([BI)C" } : Jvm.MethodName) ∈ sg_T := sg_in3 90 rfl rfl
theorem kt_3_91 : Jvm.Cond.static ({ cls := "java/lang/StringUTF16", name := "getChar", desc := "([BI)C" } : Jvm.MethodName) ∈ sg_T := sg_in3 91 rfl rfl
theorem kt_3_92 : Jvm.Cond.code ({ cls := "java/lang/StringUTF16", name := "getChar", desc := "([BI)C" } : Jvm.MethodName) prog_34_method_5_code (2 : Nat) (Option.some Jvm.ClassFile.FieldType.char) ∈ sg_T := sg_in3 92 rfl rfl
theorem kt_3_93 : Jvm.Cond.fieldLink "java/lang/StringUTF16" (44 : Nat) "java/lang/StringUTF16" "$assertionsDisabled" "Z" ∈ sg_T := sg_in3 93 rfl rfl
theorem kt_3_95 : Jvm.Cond.fieldLink "java/lang/StringUTF16" (59 : Nat) "java/lang/StringUTF16" "HI_BYTE_SHIFT" "I" ∈ sg_T := sg_in3 95 rfl rfl
theorem kt_3_97 : Jvm.Cond.fieldLink "java/lang/StringUTF16" (63 : Nat) "java/lang/StringUTF16" "LO_BYTE_SHIFT" "I" ∈ sg_T := sg_in3 97 rfl rfl
theorem kt_3_99 : Jvm.Cond.methodLink "MoonlitFloor$Tokens" (43 : Nat) ({ cls := "MoonlitFloor$Tokens", name := "numberOf", desc := "([III)I" } : Jvm.MethodName) ∈ sg_T := sg_in3 99 rfl rfl
theorem kt_3_100 : Jvm.Cond.static ({ cls := "MoonlitFloor$Tokens", name := "numberOf", desc := "([III)I" } : Jvm.MethodName) ∈ sg_T := sg_in3 100 rfl rfl
theorem kt_3_101 : Jvm.Cond.code ({ cls := "MoonlitFloor$Tokens", name := "numberOf", desc := "([III)I" } : Jvm.MethodName) prog_8_method_6_code (5 : Nat) (Option.some Jvm.ClassFile.FieldType.int) ∈ sg_T := sg_in3 101 rfl rfl
theorem kt_3_102 : Jvm.Cond.methodLink "MoonlitFloor$Tokens" (46 : Nat) ({ cls := "MoonlitFloor$Tokens", name := "add", desc := "(LMoonlitFloor$Sign;II)V" } : Jvm.MethodName) ∈ sg_T := sg_in3 102 rfl rfl
theorem kt_3_104 : Jvm.Cond.instanceMethod ({ cls := "MoonlitFloor$Tokens", name := "add", desc := "(LMoonlitFloor$Sign;II)V" } : Jvm.MethodName) ∈ sg_T := sg_in3 104 rfl rfl
theorem kt_3_105 : Jvm.Cond.code ({ cls := "MoonlitFloor$Tokens", name := "add", desc := "(LMoonlitFloor$Sign;II)V" } : Jvm.MethodName) prog_8_method_9_code (4 : Nat) (Option.none : Option Jvm.ClassFile.FieldType) ∈ sg_T := sg_in3 105 rfl rfl
theorem kt_3_107 : Jvm.Cond.static ({ cls := "MoonlitFloor", name := "put", desc := "([III)V" } : Jvm.MethodName) ∈ sg_T := sg_in3 107 rfl rfl
theorem kt_3_108 : Jvm.Cond.code ({ cls := "MoonlitFloor", name := "put", desc := "([III)V" } : Jvm.MethodName) prog_1_method_76_code (3 : Nat) (Option.none : Option Jvm.ClassFile.FieldType) ∈ sg_T := sg_in3 108 rfl rfl
theorem kt_3_109 : Jvm.Cond.fieldLink "MoonlitFloor$Tokens" (50 : Nat) "MoonlitFloor$Sign" "END" "LMoonlitFloor$Sign;" ∈ sg_T := sg_in3 109 rfl rfl
theorem kt_3_111 : Jvm.Cond.methodLink "MoonlitFloor$SetupReader" (43 : Nat) ({ cls := "MoonlitFloor$SetupReader", name := "readFloor", desc := "()V" } : Jvm.MethodName) ∈ sg_T := sg_in3 111 rfl rfl
theorem kt_3_113 : Jvm.Cond.instanceMethod ({ cls := "MoonlitFloor$SetupReader", name := "readFloor", desc := "()V" } : Jvm.MethodName) ∈ sg_T := sg_in3 113 rfl rfl
theorem kt_3_114 : Jvm.Cond.code ({ cls := "MoonlitFloor$SetupReader", name := "readFloor", desc := "()V" } : Jvm.MethodName) prog_6_method_7_code (3 : Nat) (Option.none : Option Jvm.ClassFile.FieldType) ∈ sg_T := sg_in3 114 rfl rfl
theorem kt_3_115 : Jvm.Cond.methodLink "MoonlitFloor$SetupReader" (89 : Nat) ({ cls := "MoonlitFloor$Tokens", name := "sign", desc := "()LMoonlitFloor$Sign;" } : Jvm.MethodName) ∈ sg_T := sg_in3 115 rfl rfl
theorem kt_3_116 : Jvm.Cond.instanceMethod ({ cls := "MoonlitFloor$Tokens", name := "sign", desc := "()LMoonlitFloor$Sign;" } : Jvm.MethodName) ∈ sg_T := sg_in3 116 rfl rfl
theorem kt_3_117 : Jvm.Cond.selects "MoonlitFloor$Tokens" ({ cls := "MoonlitFloor$Tokens", name := "sign", desc := "()LMoonlitFloor$Sign;" } : Jvm.MethodName) ({ cls := "MoonlitFloor$Tokens", name := "sign", desc := "()LMoonlitFloor$Sign;" } : Jvm.MethodName) ∈ sg_T := sg_in3 117 rfl rfl
theorem kt_3_118 : Jvm.Cond.code ({ cls := "MoonlitFloor$Tokens", name := "sign", desc := "()LMoonlitFloor$Sign;" } : Jvm.MethodName) prog_8_method_10_code (2 : Nat) (Option.some (Jvm.ClassFile.FieldType.object "MoonlitFloor$Sign")) ∈ sg_T := sg_in3 118 rfl rfl
theorem kt_3_119 : Jvm.Cond.fieldLink "MoonlitFloor$SetupReader" (111 : Nat) "MoonlitFloor$Sign" "FLOOR" "LMoonlitFloor$Sign;" ∈ sg_T := sg_in3 119 rfl rfl
theorem kt_3_121 : Jvm.Cond.methodLink "MoonlitFloor$SetupReader" (99 : Nat) ({ cls := "MoonlitFloor$SetupReader", name := "fail", desc := "(I)V" } : Jvm.MethodName) ∈ sg_T := sg_in3 121 rfl rfl
theorem kt_3_123 : Jvm.Cond.instanceMethod ({ cls := "MoonlitFloor$SetupReader", name := "fail", desc := "(I)V" } : Jvm.MethodName) ∈ sg_T := sg_in3 123 rfl rfl
theorem kt_3_124 : Jvm.Cond.code ({ cls := "MoonlitFloor$SetupReader", name := "fail", desc := "(I)V" } : Jvm.MethodName) prog_6_method_4_code (2 : Nat) (Option.none : Option Jvm.ClassFile.FieldType) ∈ sg_T := sg_in3 124 rfl rfl
theorem kt_3_125 : Jvm.Cond.methodLink "MoonlitFloor$SetupReader" (86 : Nat) ({ cls := "MoonlitFloor$Tokens", name := "start", desc := "()I" } : Jvm.MethodName) ∈ sg_T := sg_in3 125 rfl rfl
theorem kt_3_126 : Jvm.Cond.instanceMethod ({ cls := "MoonlitFloor$Tokens", name := "start", desc := "()I" } : Jvm.MethodName) ∈ sg_T := sg_in3 126 rfl rfl
theorem kt_3_127 : Jvm.Cond.selects "MoonlitFloor$Tokens" ({ cls := "MoonlitFloor$Tokens", name := "start", desc := "()I" } : Jvm.MethodName) ({ cls := "MoonlitFloor$Tokens", name := "start", desc := "()I" } : Jvm.MethodName) ∈ sg_T := sg_in3 127 rfl rfl
theorem kt_3_128 : Jvm.Cond.code ({ cls := "MoonlitFloor$Tokens", name := "start", desc := "()I" } : Jvm.MethodName) prog_8_method_11_code (1 : Nat) (Option.some Jvm.ClassFile.FieldType.int) ∈ sg_T := sg_in3 128 rfl rfl
theorem kt_3_129 : Jvm.Cond.methodLink "MoonlitFloor$SetupReader" (108 : Nat) ({ cls := "MoonlitFloor$Tokens", name := "goOn", desc := "()V" } : Jvm.MethodName) ∈ sg_T := sg_in3 129 rfl rfl
theorem kt_3_130 : Jvm.Cond.instanceMethod ({ cls := "MoonlitFloor$Tokens", name := "goOn", desc := "()V" } : Jvm.MethodName) ∈ sg_T := sg_in3 130 rfl rfl
theorem kt_3_131 : Jvm.Cond.selects "MoonlitFloor$Tokens" ({ cls := "MoonlitFloor$Tokens", name := "goOn", desc := "()V" } : Jvm.MethodName) ({ cls := "MoonlitFloor$Tokens", name := "goOn", desc := "()V" } : Jvm.MethodName) ∈ sg_T := sg_in3 131 rfl rfl
theorem kt_3_132 : Jvm.Cond.code ({ cls := "MoonlitFloor$Tokens", name := "goOn", desc := "()V" } : Jvm.MethodName) prog_8_method_15_code (1 : Nat) (Option.none : Option Jvm.ClassFile.FieldType) ∈ sg_T := sg_in3 132 rfl rfl
theorem kt_3_133 : Jvm.Cond.methodLink "MoonlitFloor$SetupReader" (114 : Nat) ({ cls := "MoonlitFloor$SetupReader", name := "takeNumber", desc := "(II)I" } : Jvm.MethodName) ∈ sg_T := sg_in3 133 rfl rfl
theorem kt_3_135 : Jvm.Cond.instanceMethod ({ cls := "MoonlitFloor$SetupReader", name := "takeNumber", desc := "(II)I" } : Jvm.MethodName) ∈ sg_T := sg_in3 135 rfl rfl
theorem kt_3_136 : Jvm.Cond.code ({ cls := "MoonlitFloor$SetupReader", name := "takeNumber", desc := "(II)I" } : Jvm.MethodName) prog_6_method_6_code (4 : Nat) (Option.some Jvm.ClassFile.FieldType.int) ∈ sg_T := sg_in3 136 rfl rfl
theorem kt_3_137 : Jvm.Cond.methodLink "MoonlitFloor$SetupReader" (105 : Nat) ({ cls := "MoonlitFloor$SetupReader", name := "number", desc := "(II)I" } : Jvm.MethodName) ∈ sg_T := sg_in3 137 rfl rfl
theorem kt_3_139 : Jvm.Cond.instanceMethod ({ cls := "MoonlitFloor$SetupReader", name := "number", desc := "(II)I" } : Jvm.MethodName) ∈ sg_T := sg_in3 139 rfl rfl
theorem kt_3_140 : Jvm.Cond.code ({ cls := "MoonlitFloor$SetupReader", name := "number", desc := "(II)I" } : Jvm.MethodName) prog_6_method_5_code (4 : Nat) (Option.some Jvm.ClassFile.FieldType.int) ∈ sg_T := sg_in3 140 rfl rfl
theorem kt_3_141 : Jvm.Cond.fieldLink "MoonlitFloor$SetupReader" (93 : Nat) "MoonlitFloor$Sign" "NUMBER" "LMoonlitFloor$Sign;" ∈ sg_T := sg_in3 141 rfl rfl
theorem kt_3_142 : Jvm.Cond.methodLink "MoonlitFloor$SetupReader" (102 : Nat) ({ cls := "MoonlitFloor$Tokens", name := "number", desc := "()I" } : Jvm.MethodName) ∈ sg_T := sg_in3 142 rfl rfl
theorem kt_3_143 : Jvm.Cond.instanceMethod ({ cls := "MoonlitFloor$Tokens", name := "number", desc := "()I" } : Jvm.MethodName) ∈ sg_T := sg_in3 143 rfl rfl
theorem kt_3_144 : Jvm.Cond.selects "MoonlitFloor$Tokens" ({ cls := "MoonlitFloor$Tokens", name := "number", desc := "()I" } : Jvm.MethodName) ({ cls := "MoonlitFloor$Tokens", name := "number", desc := "()I" } : Jvm.MethodName) ∈ sg_T := sg_in3 144 rfl rfl
theorem kt_3_145 : Jvm.Cond.code ({ cls := "MoonlitFloor$Tokens", name := "number", desc := "()I" } : Jvm.MethodName) prog_8_method_12_code (1 : Nat) (Option.some Jvm.ClassFile.FieldType.int) ∈ sg_T := sg_in3 145 rfl rfl
theorem kt_3_146 : Jvm.Cond.constant "MoonlitFloor$SetupReader" (46 : Nat) (1000000 : Int32) ∈ sg_T := sg_in3 146 rfl rfl
theorem kt_3_147 : Jvm.Cond.methodLink "MoonlitFloor$SetupReader" (54 : Nat) ({ cls := "MoonlitFloor$SetupReader", name := "readSeparator", desc := "()V" } : Jvm.MethodName) ∈ sg_T := sg_in3 147 rfl rfl
theorem kt_3_149 : Jvm.Cond.instanceMethod ({ cls := "MoonlitFloor$SetupReader", name := "readSeparator", desc := "()V" } : Jvm.MethodName) ∈ sg_T := sg_in3 149 rfl rfl
theorem kt_3_150 : Jvm.Cond.code ({ cls := "MoonlitFloor$SetupReader", name := "readSeparator", desc := "()V" } : Jvm.MethodName) prog_6_method_8_code (2 : Nat) (Option.none : Option Jvm.ClassFile.FieldType) ∈ sg_T := sg_in3 150 rfl rfl
theorem kt_3_151 : Jvm.Cond.fieldLink "MoonlitFloor$SetupReader" (129 : Nat) "MoonlitFloor$Sign" "SEMICOLON" "LMoonlitFloor$Sign;" ∈ sg_T := sg_in3 151 rfl rfl
theorem kt_3_153 : Jvm.Cond.fieldLink "MoonlitFloor$SetupReader" (132 : Nat) "MoonlitFloor$Sign" "CLOSING" "LMoonlitFloor$Sign;" ∈ sg_T := sg_in3 153 rfl rfl
theorem kt_3_155 : Jvm.Cond.methodLink "MoonlitFloor$SetupReader" (135 : Nat) ({ cls := "MoonlitFloor$SetupReader", name := "closeBracket", desc := "()V" } : Jvm.MethodName) ∈ sg_T := sg_in3 155 rfl rfl
theorem kt_3_157 : Jvm.Cond.instanceMethod ({ cls := "MoonlitFloor$SetupReader", name := "closeBracket", desc := "()V" } : Jvm.MethodName) ∈ sg_T := sg_in3 157 rfl rfl
theorem kt_3_158 : Jvm.Cond.code ({ cls := "MoonlitFloor$SetupReader", name := "closeBracket", desc := "()V" } : Jvm.MethodName) prog_6_method_9_code (3 : Nat) (Option.none : Option Jvm.ClassFile.FieldType) ∈ sg_T := sg_in3 158 rfl rfl
theorem kt_3_161 : Jvm.Cond.methodLink "MoonlitFloor$SetupReader" (152 : Nat) ({ cls := "MoonlitFloor$Tokens", name := "goBackTo", desc := "(I)V" } : Jvm.MethodName) ∈ sg_T := sg_in3 161 rfl rfl
theorem kt_3_162 : Jvm.Cond.instanceMethod ({ cls := "MoonlitFloor$Tokens", name := "goBackTo", desc := "(I)V" } : Jvm.MethodName) ∈ sg_T := sg_in3 162 rfl rfl
theorem kt_3_163 : Jvm.Cond.selects "MoonlitFloor$Tokens" ({ cls := "MoonlitFloor$Tokens", name := "goBackTo", desc := "(I)V" } : Jvm.MethodName) ({ cls := "MoonlitFloor$Tokens", name := "goBackTo", desc := "(I)V" } : Jvm.MethodName) ∈ sg_T := sg_in3 163 rfl rfl
theorem kt_3_164 : Jvm.Cond.code ({ cls := "MoonlitFloor$Tokens", name := "goBackTo", desc := "(I)V" } : Jvm.MethodName) prog_8_method_14_code (2 : Nat) (Option.none : Option Jvm.ClassFile.FieldType) ∈ sg_T := sg_in3 164 rfl rfl
theorem kt_3_165 : Jvm.Cond.fieldLink "MoonlitFloor$SetupReader" (138 : Nat) "MoonlitFloor$Sign" "END" "LMoonlitFloor$Sign;" ∈ sg_T := sg_in3 165 rfl rfl
theorem kt_3_166 : Jvm.Cond.methodLink "MoonlitFloor$SetupReader" (141 : Nat) ({ cls := "MoonlitFloor$SetupReader", name := "finish", desc := "()V" } : Jvm.MethodName) ∈ sg_T := sg_in3 166 rfl rfl
theorem kt_3_168 : Jvm.Cond.instanceMethod ({ cls := "MoonlitFloor$SetupReader", name := "finish", desc := "()V" } : Jvm.MethodName) ∈ sg_T := sg_in3 168 rfl rfl
theorem kt_3_169 : Jvm.Cond.code ({ cls := "MoonlitFloor$SetupReader", name := "finish", desc := "()V" } : Jvm.MethodName) prog_6_method_10_code (1 : Nat) (Option.none : Option Jvm.ClassFile.FieldType) ∈ sg_T := sg_in3 169 rfl rfl
theorem kt_3_170 : Jvm.Cond.methodLink "MoonlitFloor$SetupReader" (155 : Nat) ({ cls := "MoonlitFloor$World", name := "relocate", desc := "()V" } : Jvm.MethodName) ∈ sg_T := sg_in3 170 rfl rfl
theorem kt_3_171 : Jvm.Cond.instanceMethod ({ cls := "MoonlitFloor$World", name := "relocate", desc := "()V" } : Jvm.MethodName) ∈ sg_T := sg_in3 171 rfl rfl
theorem kt_3_172 : Jvm.Cond.selects "MoonlitFloor$World" ({ cls := "MoonlitFloor$World", name := "relocate", desc := "()V" } : Jvm.MethodName) ({ cls := "MoonlitFloor$World", name := "relocate", desc := "()V" } : Jvm.MethodName) ∈ sg_T := sg_in3 172 rfl rfl
theorem kt_3_173 : Jvm.Cond.code ({ cls := "MoonlitFloor$World", name := "relocate", desc := "()V" } : Jvm.MethodName) prog_10_method_29_code (2 : Nat) (Option.none : Option Jvm.ClassFile.FieldType) ∈ sg_T := sg_in3 173 rfl rfl
theorem kt_3_174 : Jvm.Cond.methodLink "MoonlitFloor$World" (109 : Nat) ({ cls := "MoonlitFloor$World", name := "isMoonOut", desc := "()Z" } : Jvm.MethodName) ∈ sg_T := sg_in3 174 rfl rfl
theorem kt_3_175 : Jvm.Cond.instanceMethod ({ cls := "MoonlitFloor$World", name := "isMoonOut", desc := "()Z" } : Jvm.MethodName) ∈ sg_T := sg_in3 175 rfl rfl
theorem kt_3_176 : Jvm.Cond.selects "MoonlitFloor$World" ({ cls := "MoonlitFloor$World", name := "isMoonOut", desc := "()Z" } : Jvm.MethodName) ({ cls := "MoonlitFloor$World", name := "isMoonOut", desc := "()Z" } : Jvm.MethodName) ∈ sg_T := sg_in3 176 rfl rfl
theorem kt_3_177 : Jvm.Cond.code ({ cls := "MoonlitFloor$World", name := "isMoonOut", desc := "()Z" } : Jvm.MethodName) prog_10_method_10_code (1 : Nat) (Option.some Jvm.ClassFile.FieldType.boolean) ∈ sg_T := sg_in3 177 rfl rfl
theorem kt_3_178 : Jvm.Cond.methodLink "MoonlitFloor$World" (101 : Nat) ({ cls := "MoonlitFloor$World", name := "moonlight", desc := "()I" } : Jvm.MethodName) ∈ sg_T := sg_in3 178 rfl rfl
theorem kt_3_179 : Jvm.Cond.instanceMethod ({ cls := "MoonlitFloor$World", name := "moonlight", desc := "()I" } : Jvm.MethodName) ∈ sg_T := sg_in3 179 rfl rfl
theorem kt_3_180 : Jvm.Cond.selects "MoonlitFloor$World" ({ cls := "MoonlitFloor$World", name := "moonlight", desc := "()I" } : Jvm.MethodName) ({ cls := "MoonlitFloor$World", name := "moonlight", desc := "()I" } : Jvm.MethodName) ∈ sg_T := sg_in3 180 rfl rfl
theorem kt_3_181 : Jvm.Cond.code ({ cls := "MoonlitFloor$World", name := "moonlight", desc := "()I" } : Jvm.MethodName) prog_10_method_9_code (2 : Nat) (Option.some Jvm.ClassFile.FieldType.int) ∈ sg_T := sg_in3 181 rfl rfl
theorem kt_3_182 : Jvm.Cond.methodLink "MoonlitFloor$World" (105 : Nat) ({ cls := "MoonlitFloor$Plan", name := "isCloudy", desc := "(I)Z" } : Jvm.MethodName) ∈ sg_T := sg_in3 182 rfl rfl
theorem kt_3_183 : Jvm.Cond.instanceMethod ({ cls := "MoonlitFloor$Plan", name := "isCloudy", desc := "(I)Z" } : Jvm.MethodName) ∈ sg_T := sg_in3 183 rfl rfl
theorem kt_3_184 : Jvm.Cond.selects "MoonlitFloor$Plan" ({ cls := "MoonlitFloor$Plan", name := "isCloudy", desc := "(I)Z" } : Jvm.MethodName) ({ cls := "MoonlitFloor$Plan", name := "isCloudy", desc := "(I)Z" } : Jvm.MethodName) ∈ sg_T := sg_in3 184 rfl rfl
theorem kt_3_185 : Jvm.Cond.code ({ cls := "MoonlitFloor$Plan", name := "isCloudy", desc := "(I)Z" } : Jvm.MethodName) prog_4_method_4_code (3 : Nat) (Option.some Jvm.ClassFile.FieldType.boolean) ∈ sg_T := sg_in3 185 rfl rfl
theorem kt_3_186 : Jvm.Cond.methodLink "MoonlitFloor$World" (113 : Nat) ({ cls := "MoonlitFloor$World", name := "liesInMoonlight", desc := "(I)Z" } : Jvm.MethodName) ∈ sg_T := sg_in3 186 rfl rfl
theorem kt_3_188 : Jvm.Cond.instanceMethod ({ cls := "MoonlitFloor$World", name := "liesInMoonlight", desc := "(I)Z" } : Jvm.MethodName) ∈ sg_T := sg_in3 188 rfl rfl
theorem kt_3_189 : Jvm.Cond.code ({ cls := "MoonlitFloor$World", name := "liesInMoonlight", desc := "(I)Z" } : Jvm.MethodName) prog_10_method_13_code (2 : Nat) (Option.some Jvm.ClassFile.FieldType.boolean) ∈ sg_T := sg_in3 189 rfl rfl
theorem kt_3_190 : Jvm.Cond.methodLink "MoonlitFloor$World" (116 : Nat) ({ cls := "MoonlitFloor$World", name := "rowOf", desc := "(I)I" } : Jvm.MethodName) ∈ sg_T := sg_in3 190 rfl rfl
theorem kt_3_191 : Jvm.Cond.instanceMethod ({ cls := "MoonlitFloor$World", name := "rowOf", desc := "(I)I" } : Jvm.MethodName) ∈ sg_T := sg_in3 191 rfl rfl
theorem kt_3_192 : Jvm.Cond.selects "MoonlitFloor$World" ({ cls := "MoonlitFloor$World", name := "rowOf", desc := "(I)I" } : Jvm.MethodName) ({ cls := "MoonlitFloor$World", name := "rowOf", desc := "(I)I" } : Jvm.MethodName) ∈ sg_T := sg_in3 192 rfl rfl
theorem kt_3_193 : Jvm.Cond.code ({ cls := "MoonlitFloor$World", name := "rowOf", desc := "(I)I" } : Jvm.MethodName) prog_10_method_6_code (2 : Nat) (Option.some Jvm.ClassFile.FieldType.int) ∈ sg_T := sg_in3 193 rfl rfl
theorem kt_3_194 : Jvm.Cond.methodLink "MoonlitFloor$World" (120 : Nat) ({ cls := "MoonlitFloor$World", name := "rowInMoonlight", desc := "()I" } : Jvm.MethodName) ∈ sg_T := sg_in3 194 rfl rfl
theorem kt_3_195 : Jvm.Cond.instanceMethod ({ cls := "MoonlitFloor$World", name := "rowInMoonlight", desc := "()I" } : Jvm.MethodName) ∈ sg_T := sg_in3 195 rfl rfl
theorem kt_3_196 : Jvm.Cond.selects "MoonlitFloor$World" ({ cls := "MoonlitFloor$World", name := "rowInMoonlight", desc := "()I" } : Jvm.MethodName) ({ cls := "MoonlitFloor$World", name := "rowInMoonlight", desc := "()I" } : Jvm.MethodName) ∈ sg_T := sg_in3 196 rfl rfl
theorem kt_3_197 : Jvm.Cond.code ({ cls := "MoonlitFloor$World", name := "rowInMoonlight", desc := "()I" } : Jvm.MethodName) prog_10_method_11_code (1 : Nat) (Option.some Jvm.ClassFile.FieldType.int) ∈ sg_T := sg_in3 197 rfl rfl
theorem kt_3_198 : Jvm.Cond.methodLink "MoonlitFloor$World" (123 : Nat) ({ cls := "MoonlitFloor$World", name := "columnOf", desc := "(I)I" } : Jvm.MethodName) ∈ sg_T := sg_in3 198 rfl rfl
theorem kt_3_199 : Jvm.Cond.instanceMethod ({ cls := "MoonlitFloor$World", name := "columnOf", desc := "(I)I" } : Jvm.MethodName) ∈ sg_T := sg_in3 199 rfl rfl
theorem kt_3_200 : Jvm.Cond.selects "MoonlitFloor$World" ({ cls := "MoonlitFloor$World", name := "columnOf", desc := "(I)I" } : Jvm.MethodName) ({ cls := "MoonlitFloor$World", name := "columnOf", desc := "(I)I" } : Jvm.MethodName) ∈ sg_T := sg_in3 200 rfl rfl
theorem kt_3_201 : Jvm.Cond.code ({ cls := "MoonlitFloor$World", name := "columnOf", desc := "(I)I" } : Jvm.MethodName) prog_10_method_7_code (2 : Nat) (Option.some Jvm.ClassFile.FieldType.int) ∈ sg_T := sg_in3 201 rfl rfl
theorem kt_3_203 : Jvm.Cond.methodLink "MoonlitFloor$World" (257 : Nat) ({ cls := "MoonlitFloor$World", name := "settle", desc := "(I)Z" } : Jvm.MethodName) ∈ sg_T := sg_in3 203 rfl rfl
theorem kt_3_205 : Jvm.Cond.instanceMethod ({ cls := "MoonlitFloor$World", name := "settle", desc := "(I)Z" } : Jvm.MethodName) ∈ sg_T := sg_in3 205 rfl rfl
theorem kt_3_206 : Jvm.Cond.code ({ cls := "MoonlitFloor$World", name := "settle", desc := "(I)Z" } : Jvm.MethodName) prog_10_method_30_code (3 : Nat) (Option.some Jvm.ClassFile.FieldType.boolean) ∈ sg_T := sg_in3 206 rfl rfl
theorem kt_3_207 : Jvm.Cond.methodLink "MoonlitFloor$SetupReader" (57 : Nat) ({ cls := "MoonlitFloor$SetupReader", name := "startsEvent", desc := "()Z" } : Jvm.MethodName) ∈ sg_T := sg_in3 207 rfl rfl
theorem kt_3_209 : Jvm.Cond.instanceMethod ({ cls := "MoonlitFloor$SetupReader", name := "startsEvent", desc := "()Z" } : Jvm.MethodName) ∈ sg_T := sg_in3 209 rfl rfl
theorem kt_3_210 : Jvm.Cond.code ({ cls := "MoonlitFloor$SetupReader", name := "startsEvent", desc := "()Z" } : Jvm.MethodName) prog_6_method_11_code (2 : Nat) (Option.some Jvm.ClassFile.FieldType.boolean) ∈ sg_T := sg_in3 210 rfl rfl
theorem kt_3_211 : Jvm.Cond.methodLink "MoonlitFloor$SetupReader" (61 : Nat) ({ cls := "MoonlitFloor$SetupReader", name := "readEvent", desc := "()I" } : Jvm.MethodName) ∈ sg_T := sg_in3 211 rfl rfl
theorem kt_3_213 : Jvm.Cond.instanceMethod ({ cls := "MoonlitFloor$SetupReader", name := "readEvent", desc := "()I" } : Jvm.MethodName) ∈ sg_T := sg_in3 213 rfl rfl
theorem kt_3_214 : Jvm.Cond.code ({ cls := "MoonlitFloor$SetupReader", name := "readEvent", desc := "()I" } : Jvm.MethodName) prog_6_method_24_code (2 : Nat) (Option.some Jvm.ClassFile.FieldType.int) ∈ sg_T := sg_in3 214 rfl rfl
theorem kt_3_215 : Jvm.Cond.fieldLink "MoonlitFloor$SetupReader" (304 : Nat) "MoonlitFloor$Sign" "REPEAT" "LMoonlitFloor$Sign;" ∈ sg_T := sg_in3 215 rfl rfl
theorem kt_3_217 : Jvm.Cond.methodLink "MoonlitFloor$SetupReader" (307 : Nat) ({ cls := "MoonlitFloor$SetupReader", name := "startEvents", desc := "()V" } : Jvm.MethodName) ∈ sg_T := sg_in3 217 rfl rfl
theorem kt_3_219 : Jvm.Cond.instanceMethod ({ cls := "MoonlitFloor$SetupReader", name := "startEvents", desc := "()V" } : Jvm.MethodName) ∈ sg_T := sg_in3 219 rfl rfl
theorem kt_3_220 : Jvm.Cond.code ({ cls := "MoonlitFloor$SetupReader", name := "startEvents", desc := "()V" } : Jvm.MethodName) prog_6_method_25_code (1 : Nat) (Option.none : Option Jvm.ClassFile.FieldType) ∈ sg_T := sg_in3 220 rfl rfl
theorem kt_3_221 : Jvm.Cond.fieldLink "MoonlitFloor$SetupReader" (310 : Nat) "MoonlitFloor$Sign" "SLEEP" "LMoonlitFloor$Sign;" ∈ sg_T := sg_in3 221 rfl rfl
theorem kt_3_223 : Jvm.Cond.methodLink "MoonlitFloor$SetupReader" (313 : Nat) ({ cls := "MoonlitFloor$World", name := "nightLength", desc := "()I" } : Jvm.MethodName) ∈ sg_T := sg_in3 223 rfl rfl
theorem kt_3_224 : Jvm.Cond.instanceMethod ({ cls := "MoonlitFloor$World", name := "nightLength", desc := "()I" } : Jvm.MethodName) ∈ sg_T := sg_in3 224 rfl rfl
theorem kt_3_225 : Jvm.Cond.selects "MoonlitFloor$World" ({ cls := "MoonlitFloor$World", name := "nightLength", desc := "()I" } : Jvm.MethodName) ({ cls := "MoonlitFloor$World", name := "nightLength", desc := "()I" } : Jvm.MethodName) ∈ sg_T := sg_in3 225 rfl rfl
theorem kt_3_226 : Jvm.Cond.code ({ cls := "MoonlitFloor$World", name := "nightLength", desc := "()I" } : Jvm.MethodName) prog_10_method_5_code (1 : Nat) (Option.some Jvm.ClassFile.FieldType.int) ∈ sg_T := sg_in3 226 rfl rfl
theorem kt_3_227 : Jvm.Cond.methodLink "MoonlitFloor$SetupReader" (319 : Nat) ({ cls := "MoonlitFloor$SetupReader", name := "takeMinutes", desc := "(I)I" } : Jvm.MethodName) ∈ sg_T := sg_in3 227 rfl rfl
theorem kt_3_229 : Jvm.Cond.instanceMethod ({ cls := "MoonlitFloor$SetupReader", name := "takeMinutes", desc := "(I)I" } : Jvm.MethodName) ∈ sg_T := sg_in3 229 rfl rfl
theorem kt_3_230 : Jvm.Cond.code ({ cls := "MoonlitFloor$SetupReader", name := "takeMinutes", desc := "(I)I" } : Jvm.MethodName) prog_6_method_28_code (2 : Nat) (Option.some Jvm.ClassFile.FieldType.int) ∈ sg_T := sg_in3 230 rfl rfl
theorem kt_3_231 : Jvm.Cond.fieldLink "MoonlitFloor$SetupReader" (323 : Nat) "MoonlitFloor$Sign" "ADVANCE" "LMoonlitFloor$Sign;" ∈ sg_T := sg_in3 231 rfl rfl
theorem kt_3_233 : Jvm.Cond.fieldLink "MoonlitFloor$SetupReader" (170 : Nat) "MoonlitFloor$1" "$SwitchMap$MoonlitFloor$Sign" "[I" ∈ sg_T := sg_in3 233 rfl rfl
theorem kt_3_235 : Jvm.Cond.methodLink "MoonlitFloor$SetupReader" (175 : Nat) ({ cls := "MoonlitFloor$Sign", name := "ordinal", desc := "()I" } : Jvm.MethodName) ∈ sg_T := sg_in3 235 rfl rfl
theorem kt_3_236 : Jvm.Cond.sameMethod "MoonlitFloor$Sign" "java/lang/Enum" "ordinal" "()I" ∈ sg_T := sg_in3 236 rfl rfl
theorem kt_3_238 : Jvm.Cond.selects "MoonlitFloor$Sign" ({ cls := "MoonlitFloor$Sign", name := "ordinal", desc := "()I" } : Jvm.MethodName) ({ cls := "java/lang/Enum", name := "ordinal", desc := "()I" } : Jvm.MethodName) ∈ sg_T := sg_in3 238 rfl rfl
theorem kt_3_239 : Jvm.Cond.instanceMethod ({ cls := "java/lang/Enum", name := "ordinal", desc := "()I" } : Jvm.MethodName) ∈ sg_T := sg_in3 239 rfl rfl
theorem kt_4_0 : Jvm.Cond.code ({ cls := "java/lang/Enum", name := "ordinal", desc := "()I" } : Jvm.MethodName) prog_20_method_2_code (1 : Nat) (Option.some Jvm.ClassFile.FieldType.int) ∈ sg_T := sg_in4 0 rfl rfl
theorem kt_4_1 : Jvm.Cond.methodLink "MoonlitFloor$SetupReader" (326 : Nat) ({ cls := "MoonlitFloor$SetupReader", name := "readSpill", desc := "()V" } : Jvm.MethodName) ∈ sg_T := sg_in4 1 rfl rfl
theorem kt_4_3 : Jvm.Cond.instanceMethod ({ cls := "MoonlitFloor$SetupReader", name := "readSpill", desc := "()V" } : Jvm.MethodName) ∈ sg_T := sg_in4 3 rfl rfl
theorem kt_4_4 : Jvm.Cond.code ({ cls := "MoonlitFloor$SetupReader", name := "readSpill", desc := "()V" } : Jvm.MethodName) prog_6_method_26_code (3 : Nat) (Option.none : Option Jvm.ClassFile.FieldType) ∈ sg_T := sg_in4 4 rfl rfl
theorem kt_4_5 : Jvm.Cond.methodLink "MoonlitFloor$SetupReader" (236 : Nat) ({ cls := "MoonlitFloor$World", name := "tileCount", desc := "()I" } : Jvm.MethodName) ∈ sg_T := sg_in4 5 rfl rfl
theorem kt_4_6 : Jvm.Cond.instanceMethod ({ cls := "MoonlitFloor$World", name := "tileCount", desc := "()I" } : Jvm.MethodName) ∈ sg_T := sg_in4 6 rfl rfl
theorem kt_4_7 : Jvm.Cond.selects "MoonlitFloor$World" ({ cls := "MoonlitFloor$World", name := "tileCount", desc := "()I" } : Jvm.MethodName) ({ cls := "MoonlitFloor$World", name := "tileCount", desc := "()I" } : Jvm.MethodName) ∈ sg_T := sg_in4 7 rfl rfl
theorem kt_4_8 : Jvm.Cond.code ({ cls := "MoonlitFloor$World", name := "tileCount", desc := "()I" } : Jvm.MethodName) prog_10_method_4_code (1 : Nat) (Option.some Jvm.ClassFile.FieldType.int) ∈ sg_T := sg_in4 8 rfl rfl
theorem kt_4_9 : Jvm.Cond.methodLink "MoonlitFloor$SetupReader" (335 : Nat) ({ cls := "MoonlitFloor$World", name := "hasRoomForBowl", desc := "(I)Z" } : Jvm.MethodName) ∈ sg_T := sg_in4 9 rfl rfl
theorem kt_4_10 : Jvm.Cond.instanceMethod ({ cls := "MoonlitFloor$World", name := "hasRoomForBowl", desc := "(I)Z" } : Jvm.MethodName) ∈ sg_T := sg_in4 10 rfl rfl
theorem kt_4_11 : Jvm.Cond.selects "MoonlitFloor$World" ({ cls := "MoonlitFloor$World", name := "hasRoomForBowl", desc := "(I)Z" } : Jvm.MethodName) ({ cls := "MoonlitFloor$World", name := "hasRoomForBowl", desc := "(I)Z" } : Jvm.MethodName) ∈ sg_T := sg_in4 11 rfl rfl
theorem kt_4_12 : Jvm.Cond.code ({ cls := "MoonlitFloor$World", name := "hasRoomForBowl", desc := "(I)Z" } : Jvm.MethodName) prog_10_method_14_code (2 : Nat) (Option.some Jvm.ClassFile.FieldType.boolean) ∈ sg_T := sg_in4 12 rfl rfl
theorem kt_4_13 : Jvm.Cond.methodLink "MoonlitFloor$SetupReader" (211 : Nat) ({ cls := "MoonlitFloor$SetupReader", name := "readCurtains", desc := "(I)V" } : Jvm.MethodName) ∈ sg_T := sg_in4 13 rfl rfl
theorem kt_4_15 : Jvm.Cond.instanceMethod ({ cls := "MoonlitFloor$SetupReader", name := "readCurtains", desc := "(I)V" } : Jvm.MethodName) ∈ sg_T := sg_in4 15 rfl rfl
theorem kt_4_16 : Jvm.Cond.code ({ cls := "MoonlitFloor$SetupReader", name := "readCurtains", desc := "(I)V" } : Jvm.MethodName) prog_6_method_18_code (4 : Nat) (Option.none : Option Jvm.ClassFile.FieldType) ∈ sg_T := sg_in4 16 rfl rfl
theorem kt_4_17 : Jvm.Cond.methodLink "MoonlitFloor$SetupReader" (329 : Nat) ({ cls := "MoonlitFloor$SetupReader", name := "readCarry", desc := "()V" } : Jvm.MethodName) ∈ sg_T := sg_in4 17 rfl rfl
theorem kt_4_19 : Jvm.Cond.instanceMethod ({ cls := "MoonlitFloor$SetupReader", name := "readCarry", desc := "()V" } : Jvm.MethodName) ∈ sg_T := sg_in4 19 rfl rfl
theorem kt_4_20 : Jvm.Cond.code ({ cls := "MoonlitFloor$SetupReader", name := "readCarry", desc := "()V" } : Jvm.MethodName) prog_6_method_27_code (2 : Nat) (Option.none : Option Jvm.ClassFile.FieldType) ∈ sg_T := sg_in4 20 rfl rfl
theorem kt_4_21 : Jvm.Cond.methodLink "MoonlitFloor$SetupReader" (332 : Nat) ({ cls := "MoonlitFloor$SetupReader", name := "readRepeat", desc := "()V" } : Jvm.MethodName) ∈ sg_T := sg_in4 21 rfl rfl
theorem kt_4_23 : Jvm.Cond.instanceMethod ({ cls := "MoonlitFloor$SetupReader", name := "readRepeat", desc := "()V" } : Jvm.MethodName) ∈ sg_T := sg_in4 23 rfl rfl
theorem kt_4_24 : Jvm.Cond.code ({ cls := "MoonlitFloor$SetupReader", name := "readRepeat", desc := "()V" } : Jvm.MethodName) prog_6_method_29_code (2 : Nat) (Option.none : Option Jvm.ClassFile.FieldType) ∈ sg_T := sg_in4 24 rfl rfl
theorem kt_4_25 : Jvm.Cond.fieldLink "MoonlitFloor$SetupReader" (339 : Nat) "MoonlitFloor$Sign" "OPENING" "LMoonlitFloor$Sign;" ∈ sg_T := sg_in4 25 rfl rfl
theorem kt_4_27 : Jvm.Cond.methodLink "MoonlitFloor$SetupReader" (342 : Nat) ({ cls := "MoonlitFloor$Tokens", name := "mark", desc := "()I" } : Jvm.MethodName) ∈ sg_T := sg_in4 27 rfl rfl
theorem kt_4_28 : Jvm.Cond.instanceMethod ({ cls := "MoonlitFloor$Tokens", name := "mark", desc := "()I" } : Jvm.MethodName) ∈ sg_T := sg_in4 28 rfl rfl
theorem kt_4_29 : Jvm.Cond.selects "MoonlitFloor$Tokens" ({ cls := "MoonlitFloor$Tokens", name := "mark", desc := "()I" } : Jvm.MethodName) ({ cls := "MoonlitFloor$Tokens", name := "mark", desc := "()I" } : Jvm.MethodName) ∈ sg_T := sg_in4 29 rfl rfl
theorem kt_4_30 : Jvm.Cond.code ({ cls := "MoonlitFloor$Tokens", name := "mark", desc := "()I" } : Jvm.MethodName) prog_8_method_13_code (1 : Nat) (Option.some Jvm.ClassFile.FieldType.int) ∈ sg_T := sg_in4 30 rfl rfl
theorem kt_4_31 : Jvm.Cond.methodLink "MoonlitFloor$SetupReader" (214 : Nat) ({ cls := "MoonlitFloor$SetupReader", name := "readTiles", desc := "(LMoonlitFloor$Sign;)V" } : Jvm.MethodName) ∈ sg_T := sg_in4 31 rfl rfl
theorem kt_4_33 : Jvm.Cond.instanceMethod ({ cls := "MoonlitFloor$SetupReader", name := "readTiles", desc := "(LMoonlitFloor$Sign;)V" } : Jvm.MethodName) ∈ sg_T := sg_in4 33 rfl rfl
theorem kt_4_34 : Jvm.Cond.code ({ cls := "MoonlitFloor$SetupReader", name := "readTiles", desc := "(LMoonlitFloor$Sign;)V" } : Jvm.MethodName) prog_6_method_19_code (4 : Nat) (Option.none : Option Jvm.ClassFile.FieldType) ∈ sg_T := sg_in4 34 rfl rfl
theorem kt_4_35 : Jvm.Cond.fieldLink "MoonlitFloor$SetupReader" (264 : Nat) "MoonlitFloor$Sign" "ROW" "LMoonlitFloor$Sign;" ∈ sg_T := sg_in4 35 rfl rfl
theorem kt_4_37 : Jvm.Cond.fieldLink "MoonlitFloor$SetupReader" (267 : Nat) "MoonlitFloor$Sign" "COLUMN" "LMoonlitFloor$Sign;" ∈ sg_T := sg_in4 37 rfl rfl
theorem kt_4_39 : Jvm.Cond.methodLink "MoonlitFloor$SetupReader" (270 : Nat) ({ cls := "MoonlitFloor$SetupReader", name := "readItem", desc := "(LMoonlitFloor$Sign;)V" } : Jvm.MethodName) ∈ sg_T := sg_in4 39 rfl rfl
theorem kt_4_41 : Jvm.Cond.instanceMethod ({ cls := "MoonlitFloor$SetupReader", name := "readItem", desc := "(LMoonlitFloor$Sign;)V" } : Jvm.MethodName) ∈ sg_T := sg_in4 41 rfl rfl
theorem kt_4_42 : Jvm.Cond.code ({ cls := "MoonlitFloor$SetupReader", name := "readItem", desc := "(LMoonlitFloor$Sign;)V" } : Jvm.MethodName) prog_6_method_20_code (11 : Nat) (Option.none : Option Jvm.ClassFile.FieldType) ∈ sg_T := sg_in4 42 rfl rfl
theorem kt_4_43 : Jvm.Cond.methodLink "MoonlitFloor$SetupReader" (273 : Nat) ({ cls := "MoonlitFloor$SetupReader", name := "countWanted", desc := "(LMoonlitFloor$Sign;III)I" } : Jvm.MethodName) ∈ sg_T := sg_in4 43 rfl rfl
theorem kt_4_45 : Jvm.Cond.instanceMethod ({ cls := "MoonlitFloor$SetupReader", name := "countWanted", desc := "(LMoonlitFloor$Sign;III)I" } : Jvm.MethodName) ∈ sg_T := sg_in4 45 rfl rfl
theorem kt_4_46 : Jvm.Cond.code ({ cls := "MoonlitFloor$SetupReader", name := "countWanted", desc := "(LMoonlitFloor$Sign;III)I" } : Jvm.MethodName) prog_6_method_21_code (7 : Nat) (Option.some Jvm.ClassFile.FieldType.int) ∈ sg_T := sg_in4 46 rfl rfl
theorem kt_4_47 : Jvm.Cond.methodLink "MoonlitFloor$SetupReader" (291 : Nat) ({ cls := "MoonlitFloor$SetupReader", name := "isWanted", desc := "(LMoonlitFloor$Sign;I)Z" } : Jvm.MethodName) ∈ sg_T := sg_in4 47 rfl rfl
theorem kt_4_49 : Jvm.Cond.instanceMethod ({ cls := "MoonlitFloor$SetupReader", name := "isWanted", desc := "(LMoonlitFloor$Sign;I)Z" } : Jvm.MethodName) ∈ sg_T := sg_in4 49 rfl rfl
theorem kt_4_50 : Jvm.Cond.code ({ cls := "MoonlitFloor$SetupReader", name := "isWanted", desc := "(LMoonlitFloor$Sign;I)Z" } : Jvm.MethodName) prog_6_method_22_code (4 : Nat) (Option.some Jvm.ClassFile.FieldType.boolean) ∈ sg_T := sg_in4 50 rfl rfl
theorem kt_4_51 : Jvm.Cond.fieldLink "MoonlitFloor$SetupReader" (277 : Nat) "MoonlitFloor$Sign" "RUG" "LMoonlitFloor$Sign;" ∈ sg_T := sg_in4 51 rfl rfl
theorem kt_4_53 : Jvm.Cond.fieldLink "MoonlitFloor$SetupReader" (298 : Nat) "MoonlitFloor$Sign" "BOWL" "LMoonlitFloor$Sign;" ∈ sg_T := sg_in4 53 rfl rfl
theorem kt_4_56 : Jvm.Cond.static ({ cls := "MoonlitFloor", name := "countMarked", desc := "([I)I" } : Jvm.MethodName) ∈ sg_T := sg_in4 56 rfl rfl
theorem kt_4_57 : Jvm.Cond.code ({ cls := "MoonlitFloor", name := "countMarked", desc := "([I)I" } : Jvm.MethodName) prog_1_method_79_code (6 : Nat) (Option.some Jvm.ClassFile.FieldType.int) ∈ sg_T := sg_in4 57 rfl rfl
theorem kt_4_58 : Jvm.Cond.methodLink "MoonlitFloor$SetupReader" (287 : Nat) ({ cls := "MoonlitFloor$SetupReader", name := "handleLine", desc := "(LMoonlitFloor$Sign;III)V" } : Jvm.MethodName) ∈ sg_T := sg_in4 58 rfl rfl
theorem kt_4_60 : Jvm.Cond.instanceMethod ({ cls := "MoonlitFloor$SetupReader", name := "handleLine", desc := "(LMoonlitFloor$Sign;III)V" } : Jvm.MethodName) ∈ sg_T := sg_in4 60 rfl rfl
theorem kt_4_61 : Jvm.Cond.code ({ cls := "MoonlitFloor$SetupReader", name := "handleLine", desc := "(LMoonlitFloor$Sign;III)V" } : Jvm.MethodName) prog_6_method_23_code (7 : Nat) (Option.none : Option Jvm.ClassFile.FieldType) ∈ sg_T := sg_in4 61 rfl rfl
theorem kt_4_62 : Jvm.Cond.methodLink "MoonlitFloor$SetupReader" (65 : Nat) ({ cls := "MoonlitFloor$World", name := "passMinutes", desc := "(I)V" } : Jvm.MethodName) ∈ sg_T := sg_in4 62 rfl rfl
theorem kt_4_63 : Jvm.Cond.instanceMethod ({ cls := "MoonlitFloor$World", name := "passMinutes", desc := "(I)V" } : Jvm.MethodName) ∈ sg_T := sg_in4 63 rfl rfl
theorem kt_4_64 : Jvm.Cond.selects "MoonlitFloor$World" ({ cls := "MoonlitFloor$World", name := "passMinutes", desc := "(I)V" } : Jvm.MethodName) ({ cls := "MoonlitFloor$World", name := "passMinutes", desc := "(I)V" } : Jvm.MethodName) ∈ sg_T := sg_in4 64 rfl rfl
theorem kt_4_65 : Jvm.Cond.code ({ cls := "MoonlitFloor$World", name := "passMinutes", desc := "(I)V" } : Jvm.MethodName) prog_10_method_16_code (3 : Nat) (Option.none : Option Jvm.ClassFile.FieldType) ∈ sg_T := sg_in4 65 rfl rfl
theorem kt_4_66 : Jvm.Cond.methodLink "MoonlitFloor$World" (136 : Nat) ({ cls := "MoonlitFloor$World", name := "passMinute", desc := "()V" } : Jvm.MethodName) ∈ sg_T := sg_in4 66 rfl rfl
theorem kt_4_67 : Jvm.Cond.instanceMethod ({ cls := "MoonlitFloor$World", name := "passMinute", desc := "()V" } : Jvm.MethodName) ∈ sg_T := sg_in4 67 rfl rfl
theorem kt_4_68 : Jvm.Cond.selects "MoonlitFloor$World" ({ cls := "MoonlitFloor$World", name := "passMinute", desc := "()V" } : Jvm.MethodName) ({ cls := "MoonlitFloor$World", name := "passMinute", desc := "()V" } : Jvm.MethodName) ∈ sg_T := sg_in4 68 rfl rfl
theorem kt_4_69 : Jvm.Cond.code ({ cls := "MoonlitFloor$World", name := "passMinute", desc := "()V" } : Jvm.MethodName) prog_10_method_17_code (1 : Nat) (Option.none : Option Jvm.ClassFile.FieldType) ∈ sg_T := sg_in4 69 rfl rfl
theorem kt_4_70 : Jvm.Cond.methodLink "MoonlitFloor$World" (139 : Nat) ({ cls := "MoonlitFloor$World", name := "moveCat", desc := "()Z" } : Jvm.MethodName) ∈ sg_T := sg_in4 70 rfl rfl
theorem kt_4_72 : Jvm.Cond.instanceMethod ({ cls := "MoonlitFloor$World", name := "moveCat", desc := "()Z" } : Jvm.MethodName) ∈ sg_T := sg_in4 72 rfl rfl
theorem kt_4_73 : Jvm.Cond.code ({ cls := "MoonlitFloor$World", name := "moveCat", desc := "()Z" } : Jvm.MethodName) prog_10_method_18_code (2 : Nat) (Option.some Jvm.ClassFile.FieldType.boolean) ∈ sg_T := sg_in4 73 rfl rfl
theorem kt_4_74 : Jvm.Cond.methodLink "MoonlitFloor$World" (179 : Nat) ({ cls := "MoonlitFloor$World", name := "neighbor", desc := "(II)I" } : Jvm.MethodName) ∈ sg_T := sg_in4 74 rfl rfl
theorem kt_4_75 : Jvm.Cond.instanceMethod ({ cls := "MoonlitFloor$World", name := "neighbor", desc := "(II)I" } : Jvm.MethodName) ∈ sg_T := sg_in4 75 rfl rfl
theorem kt_4_76 : Jvm.Cond.selects "MoonlitFloor$World" ({ cls := "MoonlitFloor$World", name := "neighbor", desc := "(II)I" } : Jvm.MethodName) ({ cls := "MoonlitFloor$World", name := "neighbor", desc := "(II)I" } : Jvm.MethodName) ∈ sg_T := sg_in4 76 rfl rfl
theorem kt_4_77 : Jvm.Cond.code ({ cls := "MoonlitFloor$World", name := "neighbor", desc := "(II)I" } : Jvm.MethodName) prog_10_method_8_code (5 : Nat) (Option.some Jvm.ClassFile.FieldType.int) ∈ sg_T := sg_in4 77 rfl rfl
theorem kt_4_78 : Jvm.Cond.methodLink "MoonlitFloor$World" (142 : Nat) ({ cls := "MoonlitFloor$World", name := "spillBowl", desc := "()V" } : Jvm.MethodName) ∈ sg_T := sg_in4 78 rfl rfl
theorem kt_4_80 : Jvm.Cond.instanceMethod ({ cls := "MoonlitFloor$World", name := "spillBowl", desc := "()V" } : Jvm.MethodName) ∈ sg_T := sg_in4 80 rfl rfl
theorem kt_4_81 : Jvm.Cond.code ({ cls := "MoonlitFloor$World", name := "spillBowl", desc := "()V" } : Jvm.MethodName) prog_10_method_19_code (1 : Nat) (Option.none : Option Jvm.ClassFile.FieldType) ∈ sg_T := sg_in4 81 rfl rfl
theorem kt_4_83 : Jvm.Cond.methodLink "MoonlitFloor$World" (192 : Nat) ({ cls := "MoonlitFloor$Walker", name := "fall", desc := "(I)V" } : Jvm.MethodName) ∈ sg_T := sg_in4 83 rfl rfl
theorem kt_4_84 : Jvm.Cond.instanceMethod ({ cls := "MoonlitFloor$Walker", name := "fall", desc := "(I)V" } : Jvm.MethodName) ∈ sg_T := sg_in4 84 rfl rfl
theorem kt_4_85 : Jvm.Cond.selects "MoonlitFloor$Walker" ({ cls := "MoonlitFloor$Walker", name := "fall", desc := "(I)V" } : Jvm.MethodName) ({ cls := "MoonlitFloor$Walker", name := "fall", desc := "(I)V" } : Jvm.MethodName) ∈ sg_T := sg_in4 85 rfl rfl
theorem kt_4_86 : Jvm.Cond.code ({ cls := "MoonlitFloor$Walker", name := "fall", desc := "(I)V" } : Jvm.MethodName) prog_9_method_7_code (2 : Nat) (Option.none : Option Jvm.ClassFile.FieldType) ∈ sg_T := sg_in4 86 rfl rfl
theorem kt_4_87 : Jvm.Cond.methodLink "MoonlitFloor$World" (195 : Nat) ({ cls := "MoonlitFloor$World", name := "distance", desc := "(II)I" } : Jvm.MethodName) ∈ sg_T := sg_in4 87 rfl rfl
theorem kt_4_89 : Jvm.Cond.instanceMethod ({ cls := "MoonlitFloor$World", name := "distance", desc := "(II)I" } : Jvm.MethodName) ∈ sg_T := sg_in4 89 rfl rfl
theorem kt_4_90 : Jvm.Cond.code ({ cls := "MoonlitFloor$World", name := "distance", desc := "(II)I" } : Jvm.MethodName) prog_10_method_21_code (3 : Nat) (Option.some Jvm.ClassFile.FieldType.int) ∈ sg_T := sg_in4 90 rfl rfl
theorem kt_4_91 : Jvm.Cond.methodLink "MoonlitFloor$World" (211 : Nat) ({ cls := "java/lang/Math", name := "abs", desc := "(I)I" } : Jvm.MethodName) ∈ sg_T := sg_in4 91 rfl rfl
theorem kt_4_92 : Jvm.Cond.static ({ cls := "java/lang/Math", name := "abs", desc := "(I)I" } : Jvm.MethodName) ∈ sg_T := sg_in4 92 rfl rfl
theorem kt_4_93 : Jvm.Cond.code ({ cls := "java/lang/Math", name := "abs", desc := "(I)I" } : Jvm.MethodName) prog_28_method_59_code (1 : Nat) (Option.some Jvm.ClassFile.FieldType.int) ∈ sg_T := sg_in4 93 rfl rfl
theorem kt_4_94 : Jvm.Cond.methodLink "MoonlitFloor$World" (201 : Nat) ({ cls := "MoonlitFloor$World", name := "startle", desc := "()V" } : Jvm.MethodName) ∈ sg_T := sg_in4 94 rfl rfl
theorem kt_4_96 : Jvm.Cond.instanceMethod ({ cls := "MoonlitFloor$World", name := "startle", desc := "()V" } : Jvm.MethodName) ∈ sg_T := sg_in4 96 rfl rfl
theorem kt_4_97 : Jvm.Cond.code ({ cls := "MoonlitFloor$World", name := "startle", desc := "()V" } : Jvm.MethodName) prog_10_method_20_code (2 : Nat) (Option.none : Option Jvm.ClassFile.FieldType) ∈ sg_T := sg_in4 97 rfl rfl
theorem kt_4_98 : Jvm.Cond.methodLink "MoonlitFloor$World" (151 : Nat) ({ cls := "MoonlitFloor$World", name := "triedSteps", desc := "()I" } : Jvm.MethodName) ∈ sg_T := sg_in4 98 rfl rfl
theorem kt_4_99 : Jvm.Cond.instanceMethod ({ cls := "MoonlitFloor$World", name := "triedSteps", desc := "()I" } : Jvm.MethodName) ∈ sg_T := sg_in4 99 rfl rfl
theorem kt_4_100 : Jvm.Cond.selects "MoonlitFloor$World" ({ cls := "MoonlitFloor$World", name := "triedSteps", desc := "()I" } : Jvm.MethodName) ({ cls := "MoonlitFloor$World", name := "triedSteps", desc := "()I" } : Jvm.MethodName) ∈ sg_T := sg_in4 100 rfl rfl
theorem kt_4_101 : Jvm.Cond.code ({ cls := "MoonlitFloor$World", name := "triedSteps", desc := "()I" } : Jvm.MethodName) prog_10_method_15_code (1 : Nat) (Option.some Jvm.ClassFile.FieldType.int) ∈ sg_T := sg_in4 101 rfl rfl
theorem kt_4_102 : Jvm.Cond.methodLink "MoonlitFloor$World" (130 : Nat) ({ cls := "java/lang/Math", name := "min", desc := "(II)I" } : Jvm.MethodName) ∈ sg_T := sg_in4 102 rfl rfl
theorem kt_4_103 : Jvm.Cond.static ({ cls := "java/lang/Math", name := "min", desc := "(II)I" } : Jvm.MethodName) ∈ sg_T := sg_in4 103 rfl rfl
theorem kt_4_104 : Jvm.Cond.code ({ cls := "java/lang/Math", name := "min", desc := "(II)I" } : Jvm.MethodName) prog_28_method_69_code (2 : Nat) (Option.some Jvm.ClassFile.FieldType.int) ∈ sg_T := sg_in4 104 rfl rfl
theorem kt_4_105 : Jvm.Cond.methodLink "MoonlitFloor$World" (154 : Nat) ({ cls := "MoonlitFloor$World", name := "walk", desc := "(I)V" } : Jvm.MethodName) ∈ sg_T := sg_in4 105 rfl rfl
theorem kt_4_107 : Jvm.Cond.instanceMethod ({ cls := "MoonlitFloor$World", name := "walk", desc := "(I)V" } : Jvm.MethodName) ∈ sg_T := sg_in4 107 rfl rfl
theorem kt_4_108 : Jvm.Cond.code ({ cls := "MoonlitFloor$World", name := "walk", desc := "(I)V" } : Jvm.MethodName) prog_10_method_22_code (5 : Nat) (Option.none : Option Jvm.ClassFile.FieldType) ∈ sg_T := sg_in4 108 rfl rfl
theorem kt_4_109 : Jvm.Cond.methodLink "MoonlitFloor$World" (214 : Nat) ({ cls := "MoonlitFloor$World", name := "canEnter", desc := "(I)Z" } : Jvm.MethodName) ∈ sg_T := sg_in4 109 rfl rfl
theorem kt_4_111 : Jvm.Cond.instanceMethod ({ cls := "MoonlitFloor$World", name := "canEnter", desc := "(I)Z" } : Jvm.MethodName) ∈ sg_T := sg_in4 111 rfl rfl
theorem kt_4_112 : Jvm.Cond.code ({ cls := "MoonlitFloor$World", name := "canEnter", desc := "(I)Z" } : Jvm.MethodName) prog_10_method_23_code (2 : Nat) (Option.some Jvm.ClassFile.FieldType.boolean) ∈ sg_T := sg_in4 112 rfl rfl
theorem kt_4_113 : Jvm.Cond.methodLink "MoonlitFloor$World" (217 : Nat) ({ cls := "MoonlitFloor$Walker", name := "turnBack", desc := "()V" } : Jvm.MethodName) ∈ sg_T := sg_in4 113 rfl rfl
theorem kt_4_114 : Jvm.Cond.instanceMethod ({ cls := "MoonlitFloor$Walker", name := "turnBack", desc := "()V" } : Jvm.MethodName) ∈ sg_T := sg_in4 114 rfl rfl
theorem kt_4_115 : Jvm.Cond.selects "MoonlitFloor$Walker" ({ cls := "MoonlitFloor$Walker", name := "turnBack", desc := "()V" } : Jvm.MethodName) ({ cls := "MoonlitFloor$Walker", name := "turnBack", desc := "()V" } : Jvm.MethodName) ∈ sg_T := sg_in4 115 rfl rfl
theorem kt_4_116 : Jvm.Cond.code ({ cls := "MoonlitFloor$Walker", name := "turnBack", desc := "()V" } : Jvm.MethodName) prog_9_method_4_code (1 : Nat) (Option.none : Option Jvm.ClassFile.FieldType) ∈ sg_T := sg_in4 116 rfl rfl
theorem kt_4_117 : Jvm.Cond.methodLink "MoonlitFloor$World" (220 : Nat) ({ cls := "MoonlitFloor$World", name := "slideRug", desc := "(II)V" } : Jvm.MethodName) ∈ sg_T := sg_in4 117 rfl rfl
theorem kt_4_119 : Jvm.Cond.instanceMethod ({ cls := "MoonlitFloor$World", name := "slideRug", desc := "(II)V" } : Jvm.MethodName) ∈ sg_T := sg_in4 119 rfl rfl
theorem kt_4_120 : Jvm.Cond.code ({ cls := "MoonlitFloor$World", name := "slideRug", desc := "(II)V" } : Jvm.MethodName) prog_10_method_24_code (4 : Nat) (Option.none : Option Jvm.ClassFile.FieldType) ∈ sg_T := sg_in4 120 rfl rfl
theorem kt_4_121 : Jvm.Cond.methodLink "MoonlitFloor$World" (236 : Nat) ({ cls := "MoonlitFloor$World", name := "hasRoomForBowl", desc := "(I)Z" } : Jvm.MethodName) ∈ sg_T := sg_in4 121 rfl rfl
theorem kt_4_122 : Jvm.Cond.methodLink "MoonlitFloor$World" (224 : Nat) ({ cls := "MoonlitFloor$World", name := "enter", desc := "(I)V" } : Jvm.MethodName) ∈ sg_T := sg_in4 122 rfl rfl
theorem kt_4_124 : Jvm.Cond.instanceMethod ({ cls := "MoonlitFloor$World", name := "enter", desc := "(I)V" } : Jvm.MethodName) ∈ sg_T := sg_in4 124 rfl rfl
theorem kt_4_125 : Jvm.Cond.code ({ cls := "MoonlitFloor$World", name := "enter", desc := "(I)V" } : Jvm.MethodName) prog_10_method_25_code (2 : Nat) (Option.none : Option Jvm.ClassFile.FieldType) ∈ sg_T := sg_in4 125 rfl rfl
theorem kt_4_126 : Jvm.Cond.methodLink "MoonlitFloor$World" (239 : Nat) ({ cls := "MoonlitFloor$Walker", name := "countStep", desc := "()V" } : Jvm.MethodName) ∈ sg_T := sg_in4 126 rfl rfl
theorem kt_4_127 : Jvm.Cond.instanceMethod ({ cls := "MoonlitFloor$Walker", name := "countStep", desc := "()V" } : Jvm.MethodName) ∈ sg_T := sg_in4 127 rfl rfl
theorem kt_4_128 : Jvm.Cond.selects "MoonlitFloor$Walker" ({ cls := "MoonlitFloor$Walker", name := "countStep", desc := "()V" } : Jvm.MethodName) ({ cls := "MoonlitFloor$Walker", name := "countStep", desc := "()V" } : Jvm.MethodName) ∈ sg_T := sg_in4 128 rfl rfl
theorem kt_4_129 : Jvm.Cond.code ({ cls := "MoonlitFloor$Walker", name := "countStep", desc := "()V" } : Jvm.MethodName) prog_9_method_5_code (1 : Nat) (Option.none : Option Jvm.ClassFile.FieldType) ∈ sg_T := sg_in4 129 rfl rfl
theorem kt_4_130 : Jvm.Cond.methodLink "MoonlitFloor$World" (233 : Nat) ({ cls := "MoonlitFloor$Walker", name := "pause", desc := "()V" } : Jvm.MethodName) ∈ sg_T := sg_in4 130 rfl rfl
theorem kt_4_131 : Jvm.Cond.instanceMethod ({ cls := "MoonlitFloor$Walker", name := "pause", desc := "()V" } : Jvm.MethodName) ∈ sg_T := sg_in4 131 rfl rfl
theorem kt_4_132 : Jvm.Cond.selects "MoonlitFloor$Walker" ({ cls := "MoonlitFloor$Walker", name := "pause", desc := "()V" } : Jvm.MethodName) ({ cls := "MoonlitFloor$Walker", name := "pause", desc := "()V" } : Jvm.MethodName) ∈ sg_T := sg_in4 132 rfl rfl
theorem kt_4_133 : Jvm.Cond.code ({ cls := "MoonlitFloor$Walker", name := "pause", desc := "()V" } : Jvm.MethodName) prog_9_method_6_code (1 : Nat) (Option.none : Option Jvm.ClassFile.FieldType) ∈ sg_T := sg_in4 133 rfl rfl
theorem kt_4_134 : Jvm.Cond.methodLink "MoonlitFloor$World" (158 : Nat) ({ cls := "MoonlitFloor$World", name := "drySpills", desc := "()V" } : Jvm.MethodName) ∈ sg_T := sg_in4 134 rfl rfl
theorem kt_4_136 : Jvm.Cond.instanceMethod ({ cls := "MoonlitFloor$World", name := "drySpills", desc := "()V" } : Jvm.MethodName) ∈ sg_T := sg_in4 136 rfl rfl
theorem kt_4_137 : Jvm.Cond.code ({ cls := "MoonlitFloor$World", name := "drySpills", desc := "()V" } : Jvm.MethodName) prog_10_method_26_code (5 : Nat) (Option.none : Option Jvm.ClassFile.FieldType) ∈ sg_T := sg_in4 137 rfl rfl
theorem kt_4_138 : Jvm.Cond.methodLink "MoonlitFloor$World" (242 : Nat) ({ cls := "MoonlitFloor$World", name := "tileCount", desc := "()I" } : Jvm.MethodName) ∈ sg_T := sg_in4 138 rfl rfl
theorem kt_4_139 : Jvm.Cond.methodLink "MoonlitFloor$World" (245 : Nat) ({ cls := "java/lang/Math", name := "max", desc := "(II)I" } : Jvm.MethodName) ∈ sg_T := sg_in4 139 rfl rfl
theorem kt_4_140 : Jvm.Cond.static ({ cls := "java/lang/Math", name := "max", desc := "(II)I" } : Jvm.MethodName) ∈ sg_T := sg_in4 140 rfl rfl
theorem kt_4_141 : Jvm.Cond.code ({ cls := "java/lang/Math", name := "max", desc := "(II)I" } : Jvm.MethodName) prog_28_method_65_code (2 : Nat) (Option.some Jvm.ClassFile.FieldType.int) ∈ sg_T := sg_in4 141 rfl rfl
theorem kt_4_142 : Jvm.Cond.methodLink "MoonlitFloor$World" (161 : Nat) ({ cls := "MoonlitFloor$World", name := "nightLength", desc := "()I" } : Jvm.MethodName) ∈ sg_T := sg_in4 142 rfl rfl
theorem kt_4_143 : Jvm.Cond.methodLink "MoonlitFloor$World" (164 : Nat) ({ cls := "MoonlitFloor$World", name := "endNight", desc := "()V" } : Jvm.MethodName) ∈ sg_T := sg_in4 143 rfl rfl
theorem kt_4_145 : Jvm.Cond.instanceMethod ({ cls := "MoonlitFloor$World", name := "endNight", desc := "()V" } : Jvm.MethodName) ∈ sg_T := sg_in4 145 rfl rfl
theorem kt_4_146 : Jvm.Cond.code ({ cls := "MoonlitFloor$World", name := "endNight", desc := "()V" } : Jvm.MethodName) prog_10_method_27_code (1 : Nat) (Option.none : Option Jvm.ClassFile.FieldType) ∈ sg_T := sg_in4 146 rfl rfl
theorem kt_4_147 : Jvm.Cond.methodLink "MoonlitFloor$World" (251 : Nat) ({ cls := "MoonlitFloor$Records", name := "add", desc := "(II)V" } : Jvm.MethodName) ∈ sg_T := sg_in4 147 rfl rfl
theorem kt_4_148 : Jvm.Cond.instanceMethod ({ cls := "MoonlitFloor$Records", name := "add", desc := "(II)V" } : Jvm.MethodName) ∈ sg_T := sg_in4 148 rfl rfl
theorem kt_4_149 : Jvm.Cond.selects "MoonlitFloor$Records" ({ cls := "MoonlitFloor$Records", name := "add", desc := "(II)V" } : Jvm.MethodName) ({ cls := "MoonlitFloor$Records", name := "add", desc := "(II)V" } : Jvm.MethodName) ∈ sg_T := sg_in4 149 rfl rfl
theorem kt_4_150 : Jvm.Cond.code ({ cls := "MoonlitFloor$Records", name := "add", desc := "(II)V" } : Jvm.MethodName) prog_5_method_5_code (5 : Nat) (Option.none : Option Jvm.ClassFile.FieldType) ∈ sg_T := sg_in4 150 rfl rfl
theorem kt_4_151 : Jvm.Cond.methodLink "MoonlitFloor$Records" (26 : Nat) ({ cls := "MoonlitFloor$Records", name := "rankFor", desc := "(I)I" } : Jvm.MethodName) ∈ sg_T := sg_in4 151 rfl rfl
theorem kt_4_152 : Jvm.Cond.instanceMethod ({ cls := "MoonlitFloor$Records", name := "rankFor", desc := "(I)I" } : Jvm.MethodName) ∈ sg_T := sg_in4 152 rfl rfl
theorem kt_4_153 : Jvm.Cond.selects "MoonlitFloor$Records" ({ cls := "MoonlitFloor$Records", name := "rankFor", desc := "(I)I" } : Jvm.MethodName) ({ cls := "MoonlitFloor$Records", name := "rankFor", desc := "(I)I" } : Jvm.MethodName) ∈ sg_T := sg_in4 153 rfl rfl
theorem kt_4_154 : Jvm.Cond.code ({ cls := "MoonlitFloor$Records", name := "rankFor", desc := "(I)I" } : Jvm.MethodName) prog_5_method_4_code (3 : Nat) (Option.some Jvm.ClassFile.FieldType.int) ∈ sg_T := sg_in4 154 rfl rfl
theorem kt_4_155 : Jvm.Cond.methodLink "MoonlitFloor$Records" (30 : Nat) ({ cls := "java/lang/Math", name := "min", desc := "(II)I" } : Jvm.MethodName) ∈ sg_T := sg_in4 155 rfl rfl
theorem kt_4_158 : Jvm.Cond.methodLink "MoonlitFloor$World" (167 : Nat) ({ cls := "MoonlitFloor$World", name := "stirCurtains", desc := "()V" } : Jvm.MethodName) ∈ sg_T := sg_in4 158 rfl rfl
theorem kt_4_160 : Jvm.Cond.instanceMethod ({ cls := "MoonlitFloor$World", name := "stirCurtains", desc := "()V" } : Jvm.MethodName) ∈ sg_T := sg_in4 160 rfl rfl
theorem kt_4_161 : Jvm.Cond.code ({ cls := "MoonlitFloor$World", name := "stirCurtains", desc := "()V" } : Jvm.MethodName) prog_10_method_28_code (3 : Nat) (Option.none : Option Jvm.ClassFile.FieldType) ∈ sg_T := sg_in4 161 rfl rfl
theorem kt_4_162 : Jvm.Cond.methodLink "MoonlitFloor$World" (170 : Nat) ({ cls := "MoonlitFloor$World", name := "relocate", desc := "()V" } : Jvm.MethodName) ∈ sg_T := sg_in4 162 rfl rfl
theorem kt_4_163 : Jvm.Cond.methodLink "MoonlitFloor$SetupReader" (71 : Nat) ({ cls := "MoonlitFloor$SetupReader", name := "readSetting", desc := "()V" } : Jvm.MethodName) ∈ sg_T := sg_in4 163 rfl rfl
theorem kt_4_165 : Jvm.Cond.instanceMethod ({ cls := "MoonlitFloor$SetupReader", name := "readSetting", desc := "()V" } : Jvm.MethodName) ∈ sg_T := sg_in4 165 rfl rfl
theorem kt_4_166 : Jvm.Cond.code ({ cls := "MoonlitFloor$SetupReader", name := "readSetting", desc := "()V" } : Jvm.MethodName) prog_6_method_12_code (3 : Nat) (Option.none : Option Jvm.ClassFile.FieldType) ∈ sg_T := sg_in4 166 rfl rfl
theorem kt_4_167 : Jvm.Cond.fieldLink "MoonlitFloor$SetupReader" (164 : Nat) "MoonlitFloor$Sign" "CLOUD" "LMoonlitFloor$Sign;" ∈ sg_T := sg_in4 167 rfl rfl
theorem kt_4_169 : Jvm.Cond.methodLink "MoonlitFloor$SetupReader" (199 : Nat) ({ cls := "MoonlitFloor$SetupReader", name := "readWalker", desc := "()V" } : Jvm.MethodName) ∈ sg_T := sg_in4 169 rfl rfl
theorem kt_4_171 : Jvm.Cond.instanceMethod ({ cls := "MoonlitFloor$SetupReader", name := "readWalker", desc := "()V" } : Jvm.MethodName) ∈ sg_T := sg_in4 171 rfl rfl
theorem kt_4_172 : Jvm.Cond.code ({ cls := "MoonlitFloor$SetupReader", name := "readWalker", desc := "()V" } : Jvm.MethodName) prog_6_method_13_code (3 : Nat) (Option.none : Option Jvm.ClassFile.FieldType) ∈ sg_T := sg_in4 172 rfl rfl
theorem kt_4_173 : Jvm.Cond.fieldLink "MoonlitFloor$SetupReader" (218 : Nat) "MoonlitFloor$Sign" "LEFT" "LMoonlitFloor$Sign;" ∈ sg_T := sg_in4 173 rfl rfl
theorem kt_4_175 : Jvm.Cond.fieldLink "MoonlitFloor$SetupReader" (221 : Nat) "MoonlitFloor$Sign" "RIGHT" "LMoonlitFloor$Sign;" ∈ sg_T := sg_in4 175 rfl rfl
theorem kt_4_177 : Jvm.Cond.methodLink "MoonlitFloor$SetupReader" (202 : Nat) ({ cls := "MoonlitFloor$SetupReader", name := "readCat", desc := "()V" } : Jvm.MethodName) ∈ sg_T := sg_in4 177 rfl rfl
theorem kt_4_179 : Jvm.Cond.instanceMethod ({ cls := "MoonlitFloor$SetupReader", name := "readCat", desc := "()V" } : Jvm.MethodName) ∈ sg_T := sg_in4 179 rfl rfl
theorem kt_4_180 : Jvm.Cond.code ({ cls := "MoonlitFloor$SetupReader", name := "readCat", desc := "()V" } : Jvm.MethodName) prog_6_method_14_code (4 : Nat) (Option.none : Option Jvm.ClassFile.FieldType) ∈ sg_T := sg_in4 180 rfl rfl
theorem kt_4_181 : Jvm.Cond.methodLink "MoonlitFloor$SetupReader" (245 : Nat) ({ cls := "MoonlitFloor$SetupReader", name := "moveOf", desc := "(LMoonlitFloor$Sign;)I" } : Jvm.MethodName) ∈ sg_T := sg_in4 181 rfl rfl
theorem kt_4_182 : Jvm.Cond.static ({ cls := "MoonlitFloor$SetupReader", name := "moveOf", desc := "(LMoonlitFloor$Sign;)I" } : Jvm.MethodName) ∈ sg_T := sg_in4 182 rfl rfl
theorem kt_4_183 : Jvm.Cond.code ({ cls := "MoonlitFloor$SetupReader", name := "moveOf", desc := "(LMoonlitFloor$Sign;)I" } : Jvm.MethodName) prog_6_method_15_code (1 : Nat) (Option.some Jvm.ClassFile.FieldType.int) ∈ sg_T := sg_in4 183 rfl rfl
theorem kt_4_184 : Jvm.Cond.methodLink "MoonlitFloor$SetupReader" (205 : Nat) ({ cls := "MoonlitFloor$SetupReader", name := "readDraught", desc := "()V" } : Jvm.MethodName) ∈ sg_T := sg_in4 184 rfl rfl
theorem kt_4_186 : Jvm.Cond.instanceMethod ({ cls := "MoonlitFloor$SetupReader", name := "readDraught", desc := "()V" } : Jvm.MethodName) ∈ sg_T := sg_in4 186 rfl rfl
theorem kt_4_187 : Jvm.Cond.code ({ cls := "MoonlitFloor$SetupReader", name := "readDraught", desc := "()V" } : Jvm.MethodName) prog_6_method_16_code (3 : Nat) (Option.none : Option Jvm.ClassFile.FieldType) ∈ sg_T := sg_in4 187 rfl rfl
theorem kt_4_188 : Jvm.Cond.methodLink "MoonlitFloor$SetupReader" (208 : Nat) ({ cls := "MoonlitFloor$SetupReader", name := "readCloud", desc := "()V" } : Jvm.MethodName) ∈ sg_T := sg_in4 188 rfl rfl
theorem kt_4_190 : Jvm.Cond.instanceMethod ({ cls := "MoonlitFloor$SetupReader", name := "readCloud", desc := "()V" } : Jvm.MethodName) ∈ sg_T := sg_in4 190 rfl rfl
theorem kt_4_191 : Jvm.Cond.code ({ cls := "MoonlitFloor$SetupReader", name := "readCloud", desc := "()V" } : Jvm.MethodName) prog_6_method_17_code (4 : Nat) (Option.none : Option Jvm.ClassFile.FieldType) ∈ sg_T := sg_in4 191 rfl rfl
theorem kt_4_192 : Jvm.Cond.classLink "MoonlitFloor" (73 : Nat) "java/lang/IllegalArgumentException" ∈ sg_T := sg_in4 192 rfl rfl
theorem kt_4_193 : Jvm.Cond.instantiable "java/lang/IllegalArgumentException" (6 : Nat) ∈ sg_T := sg_in4 193 rfl rfl
theorem kt_4_195 : Jvm.Cond.selects "java/lang/IllegalArgumentException" ({ cls := "java/lang/Throwable", name := "fillInStackTrace", desc := "(I)Ljava/lang/Throwable;" } : Jvm.MethodName) ({ cls := "java/lang/Throwable", name := "fillInStackTrace", desc := "(I)Ljava/lang/Throwable;" } : Jvm.MethodName) ∈ sg_T := sg_in4 195 rfl rfl
theorem kt_4_196 : Jvm.Cond.lays "java/lang/IllegalArgumentException" "java/lang/Throwable" "cause" "Ljava/lang/Throwable;" ∈ sg_T := sg_in4 196 rfl rfl
theorem kt_4_197 : Jvm.Cond.lays "java/lang/IllegalArgumentException" "java/lang/Throwable" "stackTrace" "[Ljava/lang/StackTraceElement;" ∈ sg_T := sg_in4 197 rfl rfl
theorem kt_4_198 : Jvm.Cond.lays "java/lang/IllegalArgumentException" "java/lang/Throwable" "suppressedExceptions" "Ljava/util/List;" ∈ sg_T := sg_in4 198 rfl rfl
theorem kt_4_199 : Jvm.Cond.lays "java/lang/IllegalArgumentException" "java/lang/Throwable" "detailMessage" "Ljava/lang/String;" ∈ sg_T := sg_in4 199 rfl rfl
theorem kt_4_200 : Jvm.Cond.lays "java/lang/IllegalArgumentException" "java/lang/Throwable" "backtrace" "Ljava/lang/Object;" ∈ sg_T := sg_in4 200 rfl rfl
theorem kt_4_202 : Jvm.Cond.methodLink "MoonlitFloor" (77 : Nat) ({ cls := "java/lang/IllegalArgumentException", name := "<init>", desc := "(Ljava/lang/String;)V" } : Jvm.MethodName) ∈ sg_T := sg_in4 202 rfl rfl
theorem kt_4_203 : Jvm.Cond.instanceMethod ({ cls := "java/lang/IllegalArgumentException", name := "<init>", desc := "(Ljava/lang/String;)V" } : Jvm.MethodName) ∈ sg_T := sg_in4 203 rfl rfl
theorem kt_4_204 : Jvm.Cond.code ({ cls := "java/lang/IllegalArgumentException", name := "<init>", desc := "(Ljava/lang/String;)V" } : Jvm.MethodName) prog_22_method_2_code (2 : Nat) (Option.none : Option Jvm.ClassFile.FieldType) ∈ sg_T := sg_in4 204 rfl rfl
theorem kt_4_205 : Jvm.Cond.methodLink "java/lang/IllegalArgumentException" (7 : Nat) ({ cls := "java/lang/RuntimeException", name := "<init>", desc := "(Ljava/lang/String;)V" } : Jvm.MethodName) ∈ sg_T := sg_in4 205 rfl rfl
theorem kt_4_206 : Jvm.Cond.lays "java/lang/IllegalArgumentException" "java/lang/Throwable" "depth" "I" ∈ sg_T := sg_in4 206 rfl rfl
theorem kt_4_207 : Jvm.Cond.superclass "java/lang/IllegalArgumentException" "java/lang/RuntimeException" ∈ sg_T := sg_in4 207 rfl rfl
theorem kt_4_208 : Jvm.Cond.methodLink "MoonlitFloor" (78 : Nat) ({ cls := "MoonlitFloor$World", name := "copyFrom", desc := "(LMoonlitFloor$World;)V" } : Jvm.MethodName) ∈ sg_T := sg_in4 208 rfl rfl
theorem kt_4_209 : Jvm.Cond.instanceMethod ({ cls := "MoonlitFloor$World", name := "copyFrom", desc := "(LMoonlitFloor$World;)V" } : Jvm.MethodName) ∈ sg_T := sg_in4 209 rfl rfl
theorem kt_4_210 : Jvm.Cond.selects "MoonlitFloor$World" ({ cls := "MoonlitFloor$World", name := "copyFrom", desc := "(LMoonlitFloor$World;)V" } : Jvm.MethodName) ({ cls := "MoonlitFloor$World", name := "copyFrom", desc := "(LMoonlitFloor$World;)V" } : Jvm.MethodName) ∈ sg_T := sg_in4 210 rfl rfl
theorem kt_4_211 : Jvm.Cond.code ({ cls := "MoonlitFloor$World", name := "copyFrom", desc := "(LMoonlitFloor$World;)V" } : Jvm.MethodName) prog_10_method_3_code (2 : Nat) (Option.none : Option Jvm.ClassFile.FieldType) ∈ sg_T := sg_in4 211 rfl rfl
theorem kt_4_212 : Jvm.Cond.methodLink "MoonlitFloor$World" (78 : Nat) ({ cls := "MoonlitFloor$Plan", name := "copyFrom", desc := "(LMoonlitFloor$Plan;)V" } : Jvm.MethodName) ∈ sg_T := sg_in4 212 rfl rfl
theorem kt_4_213 : Jvm.Cond.instanceMethod ({ cls := "MoonlitFloor$Plan", name := "copyFrom", desc := "(LMoonlitFloor$Plan;)V" } : Jvm.MethodName) ∈ sg_T := sg_in4 213 rfl rfl
theorem kt_4_214 : Jvm.Cond.selects "MoonlitFloor$Plan" ({ cls := "MoonlitFloor$Plan", name := "copyFrom", desc := "(LMoonlitFloor$Plan;)V" } : Jvm.MethodName) ({ cls := "MoonlitFloor$Plan", name := "copyFrom", desc := "(LMoonlitFloor$Plan;)V" } : Jvm.MethodName) ∈ sg_T := sg_in4 214 rfl rfl
theorem kt_4_215 : Jvm.Cond.code ({ cls := "MoonlitFloor$Plan", name := "copyFrom", desc := "(LMoonlitFloor$Plan;)V" } : Jvm.MethodName) prog_4_method_3_code (2 : Nat) (Option.none : Option Jvm.ClassFile.FieldType) ∈ sg_T := sg_in4 215 rfl rfl
theorem kt_4_217 : Jvm.Cond.static ({ cls := "MoonlitFloor", name := "copy", desc := "([I[I)V" } : Jvm.MethodName) ∈ sg_T := sg_in4 217 rfl rfl
theorem kt_4_218 : Jvm.Cond.code ({ cls := "MoonlitFloor", name := "copy", desc := "([I[I)V" } : Jvm.MethodName) prog_1_method_77_code (2 : Nat) (Option.none : Option Jvm.ClassFile.FieldType) ∈ sg_T := sg_in4 218 rfl rfl
theorem kt_4_219 : Jvm.Cond.methodLink "MoonlitFloor" (327 : Nat) ({ cls := "java/lang/Math", name := "min", desc := "(II)I" } : Jvm.MethodName) ∈ sg_T := sg_in4 219 rfl rfl
theorem kt_4_220 : Jvm.Cond.methodLink "MoonlitFloor" (332 : Nat) ({ cls := "java/lang/System", name := "arraycopy", desc := "(Ljava/lang/Object;ILjava/lang/Object;II)V" } : Jvm.MethodName) ∈ sg_T := sg_in4 220 rfl rfl
theorem kt_4_221 : Jvm.Cond.static ({ cls := "java/lang/System", name := "arraycopy", desc := "(Ljava/lang/Object;ILjava/lang/Object;II)V" } : Jvm.MethodName) ∈ sg_T := sg_in4 221 rfl rfl
theorem kt_4_222 : Jvm.Cond.native ({ cls := "java/lang/System", name := "arraycopy", desc := "(Ljava/lang/Object;ILjava/lang/Object;II)V" } : Jvm.MethodName) ∈ sg_T := sg_in4 222 rfl rfl
theorem kt_4_223 : Jvm.Cond.methodLink "MoonlitFloor$World" (82 : Nat) ({ cls := "MoonlitFloor$Walker", name := "copyFrom", desc := "(LMoonlitFloor$Walker;)V" } : Jvm.MethodName) ∈ sg_T := sg_in4 223 rfl rfl
theorem kt_4_224 : Jvm.Cond.instanceMethod ({ cls := "MoonlitFloor$Walker", name := "copyFrom", desc := "(LMoonlitFloor$Walker;)V" } : Jvm.MethodName) ∈ sg_T := sg_in4 224 rfl rfl
theorem kt_4_225 : Jvm.Cond.selects "MoonlitFloor$Walker" ({ cls := "MoonlitFloor$Walker", name := "copyFrom", desc := "(LMoonlitFloor$Walker;)V" } : Jvm.MethodName) ({ cls := "MoonlitFloor$Walker", name := "copyFrom", desc := "(LMoonlitFloor$Walker;)V" } : Jvm.MethodName) ∈ sg_T := sg_in4 225 rfl rfl
theorem kt_4_226 : Jvm.Cond.code ({ cls := "MoonlitFloor$Walker", name := "copyFrom", desc := "(LMoonlitFloor$Walker;)V" } : Jvm.MethodName) prog_9_method_3_code (2 : Nat) (Option.none : Option Jvm.ClassFile.FieldType) ∈ sg_T := sg_in4 226 rfl rfl
theorem kt_4_227 : Jvm.Cond.methodLink "MoonlitFloor$World" (85 : Nat) ({ cls := "MoonlitFloor$Records", name := "copyFrom", desc := "(LMoonlitFloor$Records;)V" } : Jvm.MethodName) ∈ sg_T := sg_in4 227 rfl rfl
theorem kt_4_228 : Jvm.Cond.instanceMethod ({ cls := "MoonlitFloor$Records", name := "copyFrom", desc := "(LMoonlitFloor$Records;)V" } : Jvm.MethodName) ∈ sg_T := sg_in4 228 rfl rfl
theorem kt_4_229 : Jvm.Cond.selects "MoonlitFloor$Records" ({ cls := "MoonlitFloor$Records", name := "copyFrom", desc := "(LMoonlitFloor$Records;)V" } : Jvm.MethodName) ({ cls := "MoonlitFloor$Records", name := "copyFrom", desc := "(LMoonlitFloor$Records;)V" } : Jvm.MethodName) ∈ sg_T := sg_in4 229 rfl rfl
theorem kt_4_230 : Jvm.Cond.code ({ cls := "MoonlitFloor$Records", name := "copyFrom", desc := "(LMoonlitFloor$Records;)V" } : Jvm.MethodName) prog_5_method_3_code (2 : Nat) (Option.none : Option Jvm.ClassFile.FieldType) ∈ sg_T := sg_in4 230 rfl rfl
theorem kt_4_233 : Jvm.Cond.methodLink "MoonlitFloor" (81 : Nat) ({ cls := "MoonlitFloor$History", name := "forgetAll", desc := "()V" } : Jvm.MethodName) ∈ sg_T := sg_in4 233 rfl rfl
theorem kt_4_234 : Jvm.Cond.instanceMethod ({ cls := "MoonlitFloor$History", name := "forgetAll", desc := "()V" } : Jvm.MethodName) ∈ sg_T := sg_in4 234 rfl rfl
theorem kt_4_235 : Jvm.Cond.selects "MoonlitFloor$History" ({ cls := "MoonlitFloor$History", name := "forgetAll", desc := "()V" } : Jvm.MethodName) ({ cls := "MoonlitFloor$History", name := "forgetAll", desc := "()V" } : Jvm.MethodName) ∈ sg_T := sg_in4 235 rfl rfl
theorem kt_4_236 : Jvm.Cond.code ({ cls := "MoonlitFloor$History", name := "forgetAll", desc := "()V" } : Jvm.MethodName) prog_3_method_7_code (1 : Nat) (Option.none : Option Jvm.ClassFile.FieldType) ∈ sg_T := sg_in4 236 rfl rfl
theorem kt_4_237 : Jvm.Cond.methodLink "MoonlitFloor$History" (54 : Nat) ({ cls := "MoonlitFloor$History", name := "forgetChanges", desc := "()V" } : Jvm.MethodName) ∈ sg_T := sg_in4 237 rfl rfl
theorem kt_4_238 : Jvm.Cond.instanceMethod ({ cls := "MoonlitFloor$History", name := "forgetChanges", desc := "()V" } : Jvm.MethodName) ∈ sg_T := sg_in4 238 rfl rfl
theorem kt_4_239 : Jvm.Cond.selects "MoonlitFloor$History" ({ cls := "MoonlitFloor$History", name := "forgetChanges", desc := "()V" } : Jvm.MethodName) ({ cls := "MoonlitFloor$History", name := "forgetChanges", desc := "()V" } : Jvm.MethodName) ∈ sg_T := sg_in4 239 rfl rfl
theorem kt_5_0 : Jvm.Cond.code ({ cls := "MoonlitFloor$History", name := "forgetChanges", desc := "()V" } : Jvm.MethodName) prog_3_method_6_code (1 : Nat) (Option.none : Option Jvm.ClassFile.FieldType) ∈ sg_T := sg_in5 0 rfl rfl
theorem kt_5_1 : Jvm.Cond.methodLink "MoonlitFloor$History" (57 : Nat) ({ cls := "java/util/Arrays", name := "fill", desc := "([II)V" } : Jvm.MethodName) ∈ sg_T := sg_in5 1 rfl rfl
theorem kt_5_2 : Jvm.Cond.methodLink "MoonlitFloor" (84 : Nat) ({ cls := "MoonlitFloor$World", name := "tileCount", desc := "()I" } : Jvm.MethodName) ∈ sg_T := sg_in5 2 rfl rfl
theorem kt_5_3 : Jvm.Cond.methodLink "MoonlitFloorLaw" (340 : Nat) ({ cls := "MoonlitFloor", name := "isLit", desc := "(I)Z" } : Jvm.MethodName) ∈ sg_T := sg_in5 3 rfl rfl
theorem kt_5_4 : Jvm.Cond.instanceMethod ({ cls := "MoonlitFloor", name := "isLit", desc := "(I)Z" } : Jvm.MethodName) ∈ sg_T := sg_in5 4 rfl rfl
theorem kt_5_5 : Jvm.Cond.selects "MoonlitFloor" ({ cls := "MoonlitFloor", name := "isLit", desc := "(I)Z" } : Jvm.MethodName) ({ cls := "MoonlitFloor", name := "isLit", desc := "(I)Z" } : Jvm.MethodName) ∈ sg_T := sg_in5 5 rfl rfl
theorem kt_5_6 : Jvm.Cond.code ({ cls := "MoonlitFloor", name := "isLit", desc := "(I)Z" } : Jvm.MethodName) prog_1_method_16_code (2 : Nat) (Option.some Jvm.ClassFile.FieldType.boolean) ∈ sg_T := sg_in5 6 rfl rfl
theorem kt_5_7 : Jvm.Cond.methodLink "MoonlitFloor" (94 : Nat) ({ cls := "MoonlitFloor", name := "requireSetup", desc := "()V" } : Jvm.MethodName) ∈ sg_T := sg_in5 7 rfl rfl
theorem kt_5_9 : Jvm.Cond.instanceMethod ({ cls := "MoonlitFloor", name := "requireSetup", desc := "()V" } : Jvm.MethodName) ∈ sg_T := sg_in5 9 rfl rfl
theorem kt_5_10 : Jvm.Cond.code ({ cls := "MoonlitFloor", name := "requireSetup", desc := "()V" } : Jvm.MethodName) prog_1_method_68_code (1 : Nat) (Option.none : Option Jvm.ClassFile.FieldType) ∈ sg_T := sg_in5 10 rfl rfl
theorem kt_5_11 : Jvm.Cond.classLink "MoonlitFloor" (291 : Nat) "java/lang/IllegalStateException" ∈ sg_T := sg_in5 11 rfl rfl
theorem kt_5_12 : Jvm.Cond.instantiable "java/lang/IllegalStateException" (6 : Nat) ∈ sg_T := sg_in5 12 rfl rfl
theorem kt_5_14 : Jvm.Cond.selects "java/lang/IllegalStateException" ({ cls := "java/lang/Throwable", name := "fillInStackTrace", desc := "(I)Ljava/lang/Throwable;" } : Jvm.MethodName) ({ cls := "java/lang/Throwable", name := "fillInStackTrace", desc := "(I)Ljava/lang/Throwable;" } : Jvm.MethodName) ∈ sg_T := sg_in5 14 rfl rfl
theorem kt_5_15 : Jvm.Cond.lays "java/lang/IllegalStateException" "java/lang/Throwable" "cause" "Ljava/lang/Throwable;" ∈ sg_T := sg_in5 15 rfl rfl
theorem kt_5_16 : Jvm.Cond.lays "java/lang/IllegalStateException" "java/lang/Throwable" "stackTrace" "[Ljava/lang/StackTraceElement;" ∈ sg_T := sg_in5 16 rfl rfl
theorem kt_5_17 : Jvm.Cond.lays "java/lang/IllegalStateException" "java/lang/Throwable" "suppressedExceptions" "Ljava/util/List;" ∈ sg_T := sg_in5 17 rfl rfl
theorem kt_5_18 : Jvm.Cond.lays "java/lang/IllegalStateException" "java/lang/Throwable" "detailMessage" "Ljava/lang/String;" ∈ sg_T := sg_in5 18 rfl rfl
theorem kt_5_19 : Jvm.Cond.lays "java/lang/IllegalStateException" "java/lang/Throwable" "backtrace" "Ljava/lang/Object;" ∈ sg_T := sg_in5 19 rfl rfl
theorem kt_5_21 : Jvm.Cond.methodLink "MoonlitFloor" (295 : Nat) ({ cls := "java/lang/IllegalStateException", name := "<init>", desc := "(Ljava/lang/String;)V" } : Jvm.MethodName) ∈ sg_T := sg_in5 21 rfl rfl
theorem kt_5_22 : Jvm.Cond.instanceMethod ({ cls := "java/lang/IllegalStateException", name := "<init>", desc := "(Ljava/lang/String;)V" } : Jvm.MethodName) ∈ sg_T := sg_in5 22 rfl rfl
theorem kt_5_23 : Jvm.Cond.code ({ cls := "java/lang/IllegalStateException", name := "<init>", desc := "(Ljava/lang/String;)V" } : Jvm.MethodName) prog_23_method_2_code (2 : Nat) (Option.none : Option Jvm.ClassFile.FieldType) ∈ sg_T := sg_in5 23 rfl rfl
theorem kt_5_24 : Jvm.Cond.methodLink "java/lang/IllegalStateException" (7 : Nat) ({ cls := "java/lang/RuntimeException", name := "<init>", desc := "(Ljava/lang/String;)V" } : Jvm.MethodName) ∈ sg_T := sg_in5 24 rfl rfl
theorem kt_5_25 : Jvm.Cond.lays "java/lang/IllegalStateException" "java/lang/Throwable" "depth" "I" ∈ sg_T := sg_in5 25 rfl rfl
theorem kt_5_26 : Jvm.Cond.superclass "java/lang/IllegalStateException" "java/lang/RuntimeException" ∈ sg_T := sg_in5 26 rfl rfl
theorem kt_5_27 : Jvm.Cond.methodLink "MoonlitFloor" (128 : Nat) ({ cls := "MoonlitFloor", name := "requireTile", desc := "(I)V" } : Jvm.MethodName) ∈ sg_T := sg_in5 27 rfl rfl
theorem kt_5_29 : Jvm.Cond.instanceMethod ({ cls := "MoonlitFloor", name := "requireTile", desc := "(I)V" } : Jvm.MethodName) ∈ sg_T := sg_in5 29 rfl rfl
theorem kt_5_30 : Jvm.Cond.code ({ cls := "MoonlitFloor", name := "requireTile", desc := "(I)V" } : Jvm.MethodName) prog_1_method_69_code (2 : Nat) (Option.none : Option Jvm.ClassFile.FieldType) ∈ sg_T := sg_in5 30 rfl rfl
theorem kt_5_32 : Jvm.Cond.methodLink "MoonlitFloor" (131 : Nat) ({ cls := "MoonlitFloor$World", name := "isTileLit", desc := "(I)Z" } : Jvm.MethodName) ∈ sg_T := sg_in5 32 rfl rfl
theorem kt_5_33 : Jvm.Cond.instanceMethod ({ cls := "MoonlitFloor$World", name := "isTileLit", desc := "(I)Z" } : Jvm.MethodName) ∈ sg_T := sg_in5 33 rfl rfl
theorem kt_5_34 : Jvm.Cond.selects "MoonlitFloor$World" ({ cls := "MoonlitFloor$World", name := "isTileLit", desc := "(I)Z" } : Jvm.MethodName) ({ cls := "MoonlitFloor$World", name := "isTileLit", desc := "(I)Z" } : Jvm.MethodName) ∈ sg_T := sg_in5 34 rfl rfl
theorem kt_5_35 : Jvm.Cond.code ({ cls := "MoonlitFloor$World", name := "isTileLit", desc := "(I)Z" } : Jvm.MethodName) prog_10_method_12_code (2 : Nat) (Option.some Jvm.ClassFile.FieldType.boolean) ∈ sg_T := sg_in5 35 rfl rfl
theorem kt_5_36 : Jvm.Cond.methodLink "MoonlitFloorLaw" (265 : Nat) ({ cls := "MoonlitFloor", name := "isCurtainClosed", desc := "(I)Z" } : Jvm.MethodName) ∈ sg_T := sg_in5 36 rfl rfl
theorem kt_5_37 : Jvm.Cond.instanceMethod ({ cls := "MoonlitFloor", name := "isCurtainClosed", desc := "(I)Z" } : Jvm.MethodName) ∈ sg_T := sg_in5 37 rfl rfl
theorem kt_5_38 : Jvm.Cond.selects "MoonlitFloor" ({ cls := "MoonlitFloor", name := "isCurtainClosed", desc := "(I)Z" } : Jvm.MethodName) ({ cls := "MoonlitFloor", name := "isCurtainClosed", desc := "(I)Z" } : Jvm.MethodName) ∈ sg_T := sg_in5 38 rfl rfl
theorem kt_5_39 : Jvm.Cond.code ({ cls := "MoonlitFloor", name := "isCurtainClosed", desc := "(I)Z" } : Jvm.MethodName) prog_1_method_17_code (2 : Nat) (Option.some Jvm.ClassFile.FieldType.boolean) ∈ sg_T := sg_in5 39 rfl rfl
theorem kt_5_40 : Jvm.Cond.methodLink "MoonlitFloor" (135 : Nat) ({ cls := "MoonlitFloor", name := "requireColumn", desc := "(I)V" } : Jvm.MethodName) ∈ sg_T := sg_in5 40 rfl rfl
theorem kt_5_42 : Jvm.Cond.instanceMethod ({ cls := "MoonlitFloor", name := "requireColumn", desc := "(I)V" } : Jvm.MethodName) ∈ sg_T := sg_in5 42 rfl rfl
theorem kt_5_43 : Jvm.Cond.code ({ cls := "MoonlitFloor", name := "requireColumn", desc := "(I)V" } : Jvm.MethodName) prog_1_method_70_code (2 : Nat) (Option.none : Option Jvm.ClassFile.FieldType) ∈ sg_T := sg_in5 43 rfl rfl
theorem kt_5_45 : Jvm.Cond.methodLink "MoonlitFloor" (141 : Nat) ({ cls := "MoonlitFloor", name := "at", desc := "([II)I" } : Jvm.MethodName) ∈ sg_T := sg_in5 45 rfl rfl
theorem kt_5_46 : Jvm.Cond.methodLink "MoonlitFloorLaw" (336 : Nat) ({ cls := "MoonlitFloor", name := "minutesUntilLit", desc := "(I)I" } : Jvm.MethodName) ∈ sg_T := sg_in5 46 rfl rfl
theorem kt_5_47 : Jvm.Cond.instanceMethod ({ cls := "MoonlitFloor", name := "minutesUntilLit", desc := "(I)I" } : Jvm.MethodName) ∈ sg_T := sg_in5 47 rfl rfl
theorem kt_5_48 : Jvm.Cond.selects "MoonlitFloor" ({ cls := "MoonlitFloor", name := "minutesUntilLit", desc := "(I)I" } : Jvm.MethodName) ({ cls := "MoonlitFloor", name := "minutesUntilLit", desc := "(I)I" } : Jvm.MethodName) ∈ sg_T := sg_in5 48 rfl rfl
theorem kt_5_49 : Jvm.Cond.code ({ cls := "MoonlitFloor", name := "minutesUntilLit", desc := "(I)I" } : Jvm.MethodName) prog_1_method_19_code (3 : Nat) (Option.some Jvm.ClassFile.FieldType.int) ∈ sg_T := sg_in5 49 rfl rfl
theorem kt_5_50 : Jvm.Cond.methodLink "MoonlitFloor" (148 : Nat) ({ cls := "MoonlitFloor$World", name := "passMinute", desc := "()V" } : Jvm.MethodName) ∈ sg_T := sg_in5 50 rfl rfl
theorem kt_5_51 : Jvm.Cond.methodLink "MoonlitFloorLaw" (199 : Nat) ({ cls := "MoonlitFloor", name := "walkerTile", desc := "()I" } : Jvm.MethodName) ∈ sg_T := sg_in5 51 rfl rfl
theorem kt_5_52 : Jvm.Cond.instanceMethod ({ cls := "MoonlitFloor", name := "walkerTile", desc := "()I" } : Jvm.MethodName) ∈ sg_T := sg_in5 52 rfl rfl
theorem kt_5_53 : Jvm.Cond.selects "MoonlitFloor" ({ cls := "MoonlitFloor", name := "walkerTile", desc := "()I" } : Jvm.MethodName) ({ cls := "MoonlitFloor", name := "walkerTile", desc := "()I" } : Jvm.MethodName) ∈ sg_T := sg_in5 53 rfl rfl
theorem kt_5_54 : Jvm.Cond.code ({ cls := "MoonlitFloor", name := "walkerTile", desc := "()I" } : Jvm.MethodName) prog_1_method_23_code (1 : Nat) (Option.some Jvm.ClassFile.FieldType.int) ∈ sg_T := sg_in5 54 rfl rfl
theorem kt_5_55 : Jvm.Cond.methodLink "MoonlitFloorLaw" (205 : Nat) ({ cls := "MoonlitFloor", name := "facesRight", desc := "()Z" } : Jvm.MethodName) ∈ sg_T := sg_in5 55 rfl rfl
theorem kt_5_56 : Jvm.Cond.instanceMethod ({ cls := "MoonlitFloor", name := "facesRight", desc := "()Z" } : Jvm.MethodName) ∈ sg_T := sg_in5 56 rfl rfl
theorem kt_5_57 : Jvm.Cond.selects "MoonlitFloor" ({ cls := "MoonlitFloor", name := "facesRight", desc := "()Z" } : Jvm.MethodName) ({ cls := "MoonlitFloor", name := "facesRight", desc := "()Z" } : Jvm.MethodName) ∈ sg_T := sg_in5 57 rfl rfl
theorem kt_5_58 : Jvm.Cond.code ({ cls := "MoonlitFloor", name := "facesRight", desc := "()Z" } : Jvm.MethodName) prog_1_method_24_code (1 : Nat) (Option.some Jvm.ClassFile.FieldType.boolean) ∈ sg_T := sg_in5 58 rfl rfl
theorem kt_5_59 : Jvm.Cond.methodLink "MoonlitFloorLaw" (221 : Nat) ({ cls := "MoonlitFloor", name := "totalSteps", desc := "()I" } : Jvm.MethodName) ∈ sg_T := sg_in5 59 rfl rfl
theorem kt_5_60 : Jvm.Cond.instanceMethod ({ cls := "MoonlitFloor", name := "totalSteps", desc := "()I" } : Jvm.MethodName) ∈ sg_T := sg_in5 60 rfl rfl
theorem kt_5_61 : Jvm.Cond.selects "MoonlitFloor" ({ cls := "MoonlitFloor", name := "totalSteps", desc := "()I" } : Jvm.MethodName) ({ cls := "MoonlitFloor", name := "totalSteps", desc := "()I" } : Jvm.MethodName) ∈ sg_T := sg_in5 61 rfl rfl
theorem kt_5_62 : Jvm.Cond.code ({ cls := "MoonlitFloor", name := "totalSteps", desc := "()I" } : Jvm.MethodName) prog_1_method_27_code (1 : Nat) (Option.some Jvm.ClassFile.FieldType.int) ∈ sg_T := sg_in5 62 rfl rfl
theorem kt_5_63 : Jvm.Cond.methodLink "MoonlitFloorLaw" (233 : Nat) ({ cls := "MoonlitFloor", name := "turnCount", desc := "()I" } : Jvm.MethodName) ∈ sg_T := sg_in5 63 rfl rfl
theorem kt_5_64 : Jvm.Cond.instanceMethod ({ cls := "MoonlitFloor", name := "turnCount", desc := "()I" } : Jvm.MethodName) ∈ sg_T := sg_in5 64 rfl rfl
theorem kt_5_65 : Jvm.Cond.selects "MoonlitFloor" ({ cls := "MoonlitFloor", name := "turnCount", desc := "()I" } : Jvm.MethodName) ({ cls := "MoonlitFloor", name := "turnCount", desc := "()I" } : Jvm.MethodName) ∈ sg_T := sg_in5 65 rfl rfl
theorem kt_5_66 : Jvm.Cond.code ({ cls := "MoonlitFloor", name := "turnCount", desc := "()I" } : Jvm.MethodName) prog_1_method_29_code (1 : Nat) (Option.some Jvm.ClassFile.FieldType.int) ∈ sg_T := sg_in5 66 rfl rfl
theorem kt_5_67 : Jvm.Cond.methodLink "MoonlitFloorLaw" (239 : Nat) ({ cls := "MoonlitFloor", name := "fallCount", desc := "()I" } : Jvm.MethodName) ∈ sg_T := sg_in5 67 rfl rfl
theorem kt_5_68 : Jvm.Cond.instanceMethod ({ cls := "MoonlitFloor", name := "fallCount", desc := "()I" } : Jvm.MethodName) ∈ sg_T := sg_in5 68 rfl rfl
theorem kt_5_69 : Jvm.Cond.selects "MoonlitFloor" ({ cls := "MoonlitFloor", name := "fallCount", desc := "()I" } : Jvm.MethodName) ({ cls := "MoonlitFloor", name := "fallCount", desc := "()I" } : Jvm.MethodName) ∈ sg_T := sg_in5 69 rfl rfl
theorem kt_5_70 : Jvm.Cond.code ({ cls := "MoonlitFloor", name := "fallCount", desc := "()I" } : Jvm.MethodName) prog_1_method_30_code (1 : Nat) (Option.some Jvm.ClassFile.FieldType.int) ∈ sg_T := sg_in5 70 rfl rfl
theorem kt_5_71 : Jvm.Cond.methodLink "MoonlitFloorLaw" (253 : Nat) ({ cls := "MoonlitFloor", name := "hasBowl", desc := "(I)Z" } : Jvm.MethodName) ∈ sg_T := sg_in5 71 rfl rfl
theorem kt_5_72 : Jvm.Cond.instanceMethod ({ cls := "MoonlitFloor", name := "hasBowl", desc := "(I)Z" } : Jvm.MethodName) ∈ sg_T := sg_in5 72 rfl rfl
theorem kt_5_73 : Jvm.Cond.selects "MoonlitFloor" ({ cls := "MoonlitFloor", name := "hasBowl", desc := "(I)Z" } : Jvm.MethodName) ({ cls := "MoonlitFloor", name := "hasBowl", desc := "(I)Z" } : Jvm.MethodName) ∈ sg_T := sg_in5 73 rfl rfl
theorem kt_5_74 : Jvm.Cond.code ({ cls := "MoonlitFloor", name := "hasBowl", desc := "(I)Z" } : Jvm.MethodName) prog_1_method_36_code (2 : Nat) (Option.some Jvm.ClassFile.FieldType.boolean) ∈ sg_T := sg_in5 74 rfl rfl
theorem kt_5_75 : Jvm.Cond.methodLink "MoonlitFloorLaw" (260 : Nat) ({ cls := "MoonlitFloor", name := "spillTime", desc := "(I)I" } : Jvm.MethodName) ∈ sg_T := sg_in5 75 rfl rfl
theorem kt_5_76 : Jvm.Cond.instanceMethod ({ cls := "MoonlitFloor", name := "spillTime", desc := "(I)I" } : Jvm.MethodName) ∈ sg_T := sg_in5 76 rfl rfl
theorem kt_5_77 : Jvm.Cond.selects "MoonlitFloor" ({ cls := "MoonlitFloor", name := "spillTime", desc := "(I)I" } : Jvm.MethodName) ({ cls := "MoonlitFloor", name := "spillTime", desc := "(I)I" } : Jvm.MethodName) ∈ sg_T := sg_in5 77 rfl rfl
theorem kt_5_78 : Jvm.Cond.code ({ cls := "MoonlitFloor", name := "spillTime", desc := "(I)I" } : Jvm.MethodName) prog_1_method_37_code (2 : Nat) (Option.some Jvm.ClassFile.FieldType.int) ∈ sg_T := sg_in5 78 rfl rfl
theorem kt_5_79 : Jvm.Cond.methodLink "MoonlitFloorLaw" (297 : Nat) ({ cls := "MoonlitFloor", name := "imbalance", desc := "()I" } : Jvm.MethodName) ∈ sg_T := sg_in5 79 rfl rfl
theorem kt_5_80 : Jvm.Cond.instanceMethod ({ cls := "MoonlitFloor", name := "imbalance", desc := "()I" } : Jvm.MethodName) ∈ sg_T := sg_in5 80 rfl rfl
theorem kt_5_81 : Jvm.Cond.selects "MoonlitFloor" ({ cls := "MoonlitFloor", name := "imbalance", desc := "()I" } : Jvm.MethodName) ({ cls := "MoonlitFloor", name := "imbalance", desc := "()I" } : Jvm.MethodName) ∈ sg_T := sg_in5 81 rfl rfl
theorem kt_5_82 : Jvm.Cond.code ({ cls := "MoonlitFloor", name := "imbalance", desc := "()I" } : Jvm.MethodName) prog_1_method_43_code (3 : Nat) (Option.some Jvm.ClassFile.FieldType.int) ∈ sg_T := sg_in5 82 rfl rfl
theorem kt_5_83 : Jvm.Cond.methodLink "MoonlitFloor" (235 : Nat) ({ cls := "MoonlitFloor", name := "sum", desc := "([I)I" } : Jvm.MethodName) ∈ sg_T := sg_in5 83 rfl rfl
theorem kt_5_84 : Jvm.Cond.static ({ cls := "MoonlitFloor", name := "sum", desc := "([I)I" } : Jvm.MethodName) ∈ sg_T := sg_in5 84 rfl rfl
theorem kt_5_85 : Jvm.Cond.code ({ cls := "MoonlitFloor", name := "sum", desc := "([I)I" } : Jvm.MethodName) prog_1_method_78_code (6 : Nat) (Option.some Jvm.ClassFile.FieldType.int) ∈ sg_T := sg_in5 85 rfl rfl
theorem kt_5_86 : Jvm.Cond.methodLink "MoonlitFloorLaw" (326 : Nat) ({ cls := "MoonlitFloor", name := "stepsAfter", desc := "(I)I" } : Jvm.MethodName) ∈ sg_T := sg_in5 86 rfl rfl
theorem kt_5_87 : Jvm.Cond.instanceMethod ({ cls := "MoonlitFloor", name := "stepsAfter", desc := "(I)I" } : Jvm.MethodName) ∈ sg_T := sg_in5 87 rfl rfl
theorem kt_5_88 : Jvm.Cond.selects "MoonlitFloor" ({ cls := "MoonlitFloor", name := "stepsAfter", desc := "(I)I" } : Jvm.MethodName) ({ cls := "MoonlitFloor", name := "stepsAfter", desc := "(I)I" } : Jvm.MethodName) ∈ sg_T := sg_in5 88 rfl rfl
theorem kt_5_89 : Jvm.Cond.code ({ cls := "MoonlitFloor", name := "stepsAfter", desc := "(I)I" } : Jvm.MethodName) prog_1_method_46_code (2 : Nat) (Option.some Jvm.ClassFile.FieldType.int) ∈ sg_T := sg_in5 89 rfl rfl
theorem kt_5_90 : Jvm.Cond.methodLink "MoonlitFloor" (238 : Nat) ({ cls := "MoonlitFloor", name := "requireForetellable", desc := "(I)V" } : Jvm.MethodName) ∈ sg_T := sg_in5 90 rfl rfl
theorem kt_5_92 : Jvm.Cond.instanceMethod ({ cls := "MoonlitFloor", name := "requireForetellable", desc := "(I)V" } : Jvm.MethodName) ∈ sg_T := sg_in5 92 rfl rfl
theorem kt_5_93 : Jvm.Cond.code ({ cls := "MoonlitFloor", name := "requireForetellable", desc := "(I)V" } : Jvm.MethodName) prog_1_method_73_code (2 : Nat) (Option.none : Option Jvm.ClassFile.FieldType) ∈ sg_T := sg_in5 93 rfl rfl
theorem kt_5_95 : Jvm.Cond.methodLink "MoonlitFloor" (241 : Nat) ({ cls := "MoonlitFloor", name := "foretellSteps", desc := "(II)I" } : Jvm.MethodName) ∈ sg_T := sg_in5 95 rfl rfl
theorem kt_5_97 : Jvm.Cond.instanceMethod ({ cls := "MoonlitFloor", name := "foretellSteps", desc := "(II)I" } : Jvm.MethodName) ∈ sg_T := sg_in5 97 rfl rfl
theorem kt_5_98 : Jvm.Cond.code ({ cls := "MoonlitFloor", name := "foretellSteps", desc := "(II)I" } : Jvm.MethodName) prog_1_method_54_code (3 : Nat) (Option.some Jvm.ClassFile.FieldType.int) ∈ sg_T := sg_in5 98 rfl rfl
theorem kt_5_99 : Jvm.Cond.methodLink "MoonlitFloor" (245 : Nat) ({ cls := "MoonlitFloor$World", name := "passMinutes", desc := "(I)V" } : Jvm.MethodName) ∈ sg_T := sg_in5 99 rfl rfl
theorem kt_5_100 : Jvm.Cond.methodLink "MoonlitFloorLaw" (329 : Nat) ({ cls := "MoonlitFloor", name := "walkerTileAfter", desc := "(I)I" } : Jvm.MethodName) ∈ sg_T := sg_in5 100 rfl rfl
theorem kt_5_101 : Jvm.Cond.instanceMethod ({ cls := "MoonlitFloor", name := "walkerTileAfter", desc := "(I)I" } : Jvm.MethodName) ∈ sg_T := sg_in5 101 rfl rfl
theorem kt_5_102 : Jvm.Cond.selects "MoonlitFloor" ({ cls := "MoonlitFloor", name := "walkerTileAfter", desc := "(I)I" } : Jvm.MethodName) ({ cls := "MoonlitFloor", name := "walkerTileAfter", desc := "(I)I" } : Jvm.MethodName) ∈ sg_T := sg_in5 102 rfl rfl
theorem kt_5_103 : Jvm.Cond.code ({ cls := "MoonlitFloor", name := "walkerTileAfter", desc := "(I)I" } : Jvm.MethodName) prog_1_method_47_code (2 : Nat) (Option.some Jvm.ClassFile.FieldType.int) ∈ sg_T := sg_in5 103 rfl rfl
theorem kt_5_104 : Jvm.Cond.methodLink "MoonlitFloorLaw" (332 : Nat) ({ cls := "MoonlitFloor", name := "spillTimeAfter", desc := "(II)I" } : Jvm.MethodName) ∈ sg_T := sg_in5 104 rfl rfl
theorem kt_5_105 : Jvm.Cond.instanceMethod ({ cls := "MoonlitFloor", name := "spillTimeAfter", desc := "(II)I" } : Jvm.MethodName) ∈ sg_T := sg_in5 105 rfl rfl
theorem kt_5_106 : Jvm.Cond.selects "MoonlitFloor" ({ cls := "MoonlitFloor", name := "spillTimeAfter", desc := "(II)I" } : Jvm.MethodName) ({ cls := "MoonlitFloor", name := "spillTimeAfter", desc := "(II)I" } : Jvm.MethodName) ∈ sg_T := sg_in5 106 rfl rfl
theorem kt_5_107 : Jvm.Cond.code ({ cls := "MoonlitFloor", name := "spillTimeAfter", desc := "(II)I" } : Jvm.MethodName) prog_1_method_48_code (3 : Nat) (Option.some Jvm.ClassFile.FieldType.int) ∈ sg_T := sg_in5 107 rfl rfl
theorem kt_5_108 : Jvm.Cond.methodLink "MoonlitFloorLaw" (372 : Nat) ({ cls := "MoonlitFloor", name := "minutesUntilFall", desc := "()I" } : Jvm.MethodName) ∈ sg_T := sg_in5 108 rfl rfl
theorem kt_5_109 : Jvm.Cond.instanceMethod ({ cls := "MoonlitFloor", name := "minutesUntilFall", desc := "()I" } : Jvm.MethodName) ∈ sg_T := sg_in5 109 rfl rfl
theorem kt_5_110 : Jvm.Cond.selects "MoonlitFloor" ({ cls := "MoonlitFloor", name := "minutesUntilFall", desc := "()I" } : Jvm.MethodName) ({ cls := "MoonlitFloor", name := "minutesUntilFall", desc := "()I" } : Jvm.MethodName) ∈ sg_T := sg_in5 110 rfl rfl
theorem kt_5_111 : Jvm.Cond.code ({ cls := "MoonlitFloor", name := "minutesUntilFall", desc := "()I" } : Jvm.MethodName) prog_1_method_50_code (2 : Nat) (Option.some Jvm.ClassFile.FieldType.int) ∈ sg_T := sg_in5 111 rfl rfl
theorem kt_5_112 : Jvm.Cond.methodLink "MoonlitFloorLaw" (350 : Nat) ({ cls := "MoonlitFloor", name := "stepsAtPace", desc := "(II)I" } : Jvm.MethodName) ∈ sg_T := sg_in5 112 rfl rfl
theorem kt_5_113 : Jvm.Cond.instanceMethod ({ cls := "MoonlitFloor", name := "stepsAtPace", desc := "(II)I" } : Jvm.MethodName) ∈ sg_T := sg_in5 113 rfl rfl
theorem kt_5_114 : Jvm.Cond.selects "MoonlitFloor" ({ cls := "MoonlitFloor", name := "stepsAtPace", desc := "(II)I" } : Jvm.MethodName) ({ cls := "MoonlitFloor", name := "stepsAtPace", desc := "(II)I" } : Jvm.MethodName) ∈ sg_T := sg_in5 114 rfl rfl
theorem kt_5_115 : Jvm.Cond.code ({ cls := "MoonlitFloor", name := "stepsAtPace", desc := "(II)I" } : Jvm.MethodName) prog_1_method_51_code (3 : Nat) (Option.some Jvm.ClassFile.FieldType.int) ∈ sg_T := sg_in5 115 rfl rfl
theorem kt_5_116 : Jvm.Cond.methodLink "MoonlitFloor" (248 : Nat) ({ cls := "MoonlitFloor", name := "requirePace", desc := "(I)V" } : Jvm.MethodName) ∈ sg_T := sg_in5 116 rfl rfl
theorem kt_5_118 : Jvm.Cond.instanceMethod ({ cls := "MoonlitFloor", name := "requirePace", desc := "(I)V" } : Jvm.MethodName) ∈ sg_T := sg_in5 118 rfl rfl
theorem kt_5_119 : Jvm.Cond.code ({ cls := "MoonlitFloor", name := "requirePace", desc := "(I)V" } : Jvm.MethodName) prog_1_method_74_code (2 : Nat) (Option.none : Option Jvm.ClassFile.FieldType) ∈ sg_T := sg_in5 119 rfl rfl
theorem kt_5_121 : Jvm.Cond.methodLink "MoonlitFloorLaw" (347 : Nat) ({ cls := "MoonlitFloor", name := "bestPace", desc := "(I)I" } : Jvm.MethodName) ∈ sg_T := sg_in5 121 rfl rfl
theorem kt_5_122 : Jvm.Cond.instanceMethod ({ cls := "MoonlitFloor", name := "bestPace", desc := "(I)I" } : Jvm.MethodName) ∈ sg_T := sg_in5 122 rfl rfl
theorem kt_5_123 : Jvm.Cond.selects "MoonlitFloor" ({ cls := "MoonlitFloor", name := "bestPace", desc := "(I)I" } : Jvm.MethodName) ({ cls := "MoonlitFloor", name := "bestPace", desc := "(I)I" } : Jvm.MethodName) ∈ sg_T := sg_in5 123 rfl rfl
theorem kt_5_124 : Jvm.Cond.code ({ cls := "MoonlitFloor", name := "bestPace", desc := "(I)I" } : Jvm.MethodName) prog_1_method_52_code (6 : Nat) (Option.some Jvm.ClassFile.FieldType.int) ∈ sg_T := sg_in5 124 rfl rfl
theorem kt_5_125 : Jvm.Cond.methodLink "MoonlitFloorLaw" (356 : Nat) ({ cls := "MoonlitFloor", name := "bestCurtain", desc := "(I)I" } : Jvm.MethodName) ∈ sg_T := sg_in5 125 rfl rfl
theorem kt_5_126 : Jvm.Cond.instanceMethod ({ cls := "MoonlitFloor", name := "bestCurtain", desc := "(I)I" } : Jvm.MethodName) ∈ sg_T := sg_in5 126 rfl rfl
theorem kt_5_127 : Jvm.Cond.selects "MoonlitFloor" ({ cls := "MoonlitFloor", name := "bestCurtain", desc := "(I)I" } : Jvm.MethodName) ({ cls := "MoonlitFloor", name := "bestCurtain", desc := "(I)I" } : Jvm.MethodName) ∈ sg_T := sg_in5 127 rfl rfl
theorem kt_5_128 : Jvm.Cond.code ({ cls := "MoonlitFloor", name := "bestCurtain", desc := "(I)I" } : Jvm.MethodName) prog_1_method_53_code (5 : Nat) (Option.some Jvm.ClassFile.FieldType.int) ∈ sg_T := sg_in5 128 rfl rfl
theorem kt_5_129 : Jvm.Cond.methodLink "MoonlitFloor" (58 : Nat) ({ cls := "MoonlitFloor", name := "put", desc := "([III)V" } : Jvm.MethodName) ∈ sg_T := sg_in5 129 rfl rfl
theorem kt_5_130 : Jvm.Cond.methodLink "MoonlitFloorLaw" (339 : Nat) ({ cls := "MoonlitFloor", name := "advance", desc := "(I)I" } : Jvm.MethodName) ∈ sg_T := sg_in5 130 rfl rfl
theorem kt_5_131 : Jvm.Cond.instanceMethod ({ cls := "MoonlitFloor", name := "advance", desc := "(I)I" } : Jvm.MethodName) ∈ sg_T := sg_in5 131 rfl rfl
theorem kt_5_132 : Jvm.Cond.selects "MoonlitFloor" ({ cls := "MoonlitFloor", name := "advance", desc := "(I)I" } : Jvm.MethodName) ({ cls := "MoonlitFloor", name := "advance", desc := "(I)I" } : Jvm.MethodName) ∈ sg_T := sg_in5 132 rfl rfl
theorem kt_5_133 : Jvm.Cond.code ({ cls := "MoonlitFloor", name := "advance", desc := "(I)I" } : Jvm.MethodName) prog_1_method_58_code (3 : Nat) (Option.some Jvm.ClassFile.FieldType.int) ∈ sg_T := sg_in5 133 rfl rfl
theorem kt_5_135 : Jvm.Cond.methodLink "MoonlitFloor" (277 : Nat) ({ cls := "MoonlitFloor$History", name := "keep", desc := "(LMoonlitFloor$World;)V" } : Jvm.MethodName) ∈ sg_T := sg_in5 135 rfl rfl
theorem kt_5_136 : Jvm.Cond.instanceMethod ({ cls := "MoonlitFloor$History", name := "keep", desc := "(LMoonlitFloor$World;)V" } : Jvm.MethodName) ∈ sg_T := sg_in5 136 rfl rfl
theorem kt_5_137 : Jvm.Cond.selects "MoonlitFloor$History" ({ cls := "MoonlitFloor$History", name := "keep", desc := "(LMoonlitFloor$World;)V" } : Jvm.MethodName) ({ cls := "MoonlitFloor$History", name := "keep", desc := "(LMoonlitFloor$World;)V" } : Jvm.MethodName) ∈ sg_T := sg_in5 137 rfl rfl
theorem kt_5_138 : Jvm.Cond.code ({ cls := "MoonlitFloor$History", name := "keep", desc := "(LMoonlitFloor$World;)V" } : Jvm.MethodName) prog_3_method_2_code (3 : Nat) (Option.none : Option Jvm.ClassFile.FieldType) ∈ sg_T := sg_in5 138 rfl rfl
theorem kt_5_139 : Jvm.Cond.methodLink "MoonlitFloor$History" (29 : Nat) ({ cls := "MoonlitFloor$History", name := "worldAt", desc := "([LMoonlitFloor$World;I)LMoonlitFloor$World;" } : Jvm.MethodName) ∈ sg_T := sg_in5 139 rfl rfl
theorem kt_5_140 : Jvm.Cond.static ({ cls := "MoonlitFloor$History", name := "worldAt", desc := "([LMoonlitFloor$World;I)LMoonlitFloor$World;" } : Jvm.MethodName) ∈ sg_T := sg_in5 140 rfl rfl
theorem kt_5_141 : Jvm.Cond.code ({ cls := "MoonlitFloor$History", name := "worldAt", desc := "([LMoonlitFloor$World;I)LMoonlitFloor$World;" } : Jvm.MethodName) prog_3_method_8_code (2 : Nat) (Option.some (Jvm.ClassFile.FieldType.object "MoonlitFloor$World")) ∈ sg_T := sg_in5 141 rfl rfl
theorem kt_5_142 : Jvm.Cond.methodLink "MoonlitFloor$History" (33 : Nat) ({ cls := "MoonlitFloor$World", name := "copyFrom", desc := "(LMoonlitFloor$World;)V" } : Jvm.MethodName) ∈ sg_T := sg_in5 142 rfl rfl
theorem kt_5_143 : Jvm.Cond.methodLink "MoonlitFloor$History" (40 : Nat) ({ cls := "java/lang/Math", name := "min", desc := "(II)I" } : Jvm.MethodName) ∈ sg_T := sg_in5 143 rfl rfl
theorem kt_5_144 : Jvm.Cond.methodLink "MoonlitFloorLaw" (353 : Nat) ({ cls := "MoonlitFloor", name := "setPace", desc := "(I)I" } : Jvm.MethodName) ∈ sg_T := sg_in5 144 rfl rfl
theorem kt_5_145 : Jvm.Cond.instanceMethod ({ cls := "MoonlitFloor", name := "setPace", desc := "(I)I" } : Jvm.MethodName) ∈ sg_T := sg_in5 145 rfl rfl
theorem kt_5_146 : Jvm.Cond.selects "MoonlitFloor" ({ cls := "MoonlitFloor", name := "setPace", desc := "(I)I" } : Jvm.MethodName) ({ cls := "MoonlitFloor", name := "setPace", desc := "(I)I" } : Jvm.MethodName) ∈ sg_T := sg_in5 146 rfl rfl
theorem kt_5_147 : Jvm.Cond.code ({ cls := "MoonlitFloor", name := "setPace", desc := "(I)I" } : Jvm.MethodName) prog_1_method_59_code (3 : Nat) (Option.some Jvm.ClassFile.FieldType.int) ∈ sg_T := sg_in5 147 rfl rfl
theorem kt_5_148 : Jvm.Cond.methodLink "MoonlitFloorLaw" (359 : Nat) ({ cls := "MoonlitFloor", name := "setCurtain", desc := "(IZ)Z" } : Jvm.MethodName) ∈ sg_T := sg_in5 148 rfl rfl
theorem kt_5_149 : Jvm.Cond.instanceMethod ({ cls := "MoonlitFloor", name := "setCurtain", desc := "(IZ)Z" } : Jvm.MethodName) ∈ sg_T := sg_in5 149 rfl rfl
theorem kt_5_150 : Jvm.Cond.selects "MoonlitFloor" ({ cls := "MoonlitFloor", name := "setCurtain", desc := "(IZ)Z" } : Jvm.MethodName) ({ cls := "MoonlitFloor", name := "setCurtain", desc := "(IZ)Z" } : Jvm.MethodName) ∈ sg_T := sg_in5 150 rfl rfl
theorem kt_5_151 : Jvm.Cond.code ({ cls := "MoonlitFloor", name := "setCurtain", desc := "(IZ)Z" } : Jvm.MethodName) prog_1_method_60_code (4 : Nat) (Option.some Jvm.ClassFile.FieldType.boolean) ∈ sg_T := sg_in5 151 rfl rfl
theorem kt_5_152 : Jvm.Cond.methodLink "MoonlitFloorLaw" (363 : Nat) ({ cls := "MoonlitFloor", name := "placeBowl", desc := "(I)I" } : Jvm.MethodName) ∈ sg_T := sg_in5 152 rfl rfl
theorem kt_5_153 : Jvm.Cond.instanceMethod ({ cls := "MoonlitFloor", name := "placeBowl", desc := "(I)I" } : Jvm.MethodName) ∈ sg_T := sg_in5 153 rfl rfl
theorem kt_5_154 : Jvm.Cond.selects "MoonlitFloor" ({ cls := "MoonlitFloor", name := "placeBowl", desc := "(I)I" } : Jvm.MethodName) ({ cls := "MoonlitFloor", name := "placeBowl", desc := "(I)I" } : Jvm.MethodName) ∈ sg_T := sg_in5 154 rfl rfl
theorem kt_5_155 : Jvm.Cond.code ({ cls := "MoonlitFloor", name := "placeBowl", desc := "(I)I" } : Jvm.MethodName) prog_1_method_61_code (2 : Nat) (Option.some Jvm.ClassFile.FieldType.int) ∈ sg_T := sg_in5 155 rfl rfl
theorem kt_5_156 : Jvm.Cond.methodLink "MoonlitFloor" (280 : Nat) ({ cls := "MoonlitFloor$World", name := "hasRoomForBowl", desc := "(I)Z" } : Jvm.MethodName) ∈ sg_T := sg_in5 156 rfl rfl
theorem kt_5_158 : Jvm.Cond.methodLink "MoonlitFloor" (208 : Nat) ({ cls := "MoonlitFloor", name := "countMarked", desc := "([I)I" } : Jvm.MethodName) ∈ sg_T := sg_in5 158 rfl rfl
theorem kt_5_159 : Jvm.Cond.methodLink "MoonlitFloorLaw" (366 : Nat) ({ cls := "MoonlitFloor", name := "mop", desc := "(I)I" } : Jvm.MethodName) ∈ sg_T := sg_in5 159 rfl rfl
theorem kt_5_160 : Jvm.Cond.instanceMethod ({ cls := "MoonlitFloor", name := "mop", desc := "(I)I" } : Jvm.MethodName) ∈ sg_T := sg_in5 160 rfl rfl
theorem kt_5_161 : Jvm.Cond.selects "MoonlitFloor" ({ cls := "MoonlitFloor", name := "mop", desc := "(I)I" } : Jvm.MethodName) ({ cls := "MoonlitFloor", name := "mop", desc := "(I)I" } : Jvm.MethodName) ∈ sg_T := sg_in5 161 rfl rfl
theorem kt_5_162 : Jvm.Cond.code ({ cls := "MoonlitFloor", name := "mop", desc := "(I)I" } : Jvm.MethodName) prog_1_method_62_code (3 : Nat) (Option.some Jvm.ClassFile.FieldType.int) ∈ sg_T := sg_in5 162 rfl rfl
theorem kt_5_164 : Jvm.Cond.methodLink "MoonlitFloorLaw" (369 : Nat) ({ cls := "MoonlitFloor", name := "turnWalker", desc := "()Z" } : Jvm.MethodName) ∈ sg_T := sg_in5 164 rfl rfl
theorem kt_5_165 : Jvm.Cond.instanceMethod ({ cls := "MoonlitFloor", name := "turnWalker", desc := "()Z" } : Jvm.MethodName) ∈ sg_T := sg_in5 165 rfl rfl
theorem kt_5_166 : Jvm.Cond.selects "MoonlitFloor" ({ cls := "MoonlitFloor", name := "turnWalker", desc := "()Z" } : Jvm.MethodName) ({ cls := "MoonlitFloor", name := "turnWalker", desc := "()Z" } : Jvm.MethodName) ∈ sg_T := sg_in5 166 rfl rfl
theorem kt_5_167 : Jvm.Cond.code ({ cls := "MoonlitFloor", name := "turnWalker", desc := "()Z" } : Jvm.MethodName) prog_1_method_63_code (1 : Nat) (Option.some Jvm.ClassFile.FieldType.boolean) ∈ sg_T := sg_in5 167 rfl rfl
theorem kt_5_168 : Jvm.Cond.methodLink "MoonlitFloorLaw" (378 : Nat) ({ cls := "MoonlitFloor", name := "undoCount", desc := "()I" } : Jvm.MethodName) ∈ sg_T := sg_in5 168 rfl rfl
theorem kt_5_169 : Jvm.Cond.instanceMethod ({ cls := "MoonlitFloor", name := "undoCount", desc := "()I" } : Jvm.MethodName) ∈ sg_T := sg_in5 169 rfl rfl
theorem kt_5_170 : Jvm.Cond.selects "MoonlitFloor" ({ cls := "MoonlitFloor", name := "undoCount", desc := "()I" } : Jvm.MethodName) ({ cls := "MoonlitFloor", name := "undoCount", desc := "()I" } : Jvm.MethodName) ∈ sg_T := sg_in5 170 rfl rfl
theorem kt_5_171 : Jvm.Cond.code ({ cls := "MoonlitFloor", name := "undoCount", desc := "()I" } : Jvm.MethodName) prog_1_method_65_code (1 : Nat) (Option.some Jvm.ClassFile.FieldType.int) ∈ sg_T := sg_in5 171 rfl rfl
theorem kt_5_172 : Jvm.Cond.methodLink "MoonlitFloorLaw" (320 : Nat) ({ cls := "MoonlitFloor", name := "saveState", desc := "(I)I" } : Jvm.MethodName) ∈ sg_T := sg_in5 172 rfl rfl
theorem kt_5_173 : Jvm.Cond.instanceMethod ({ cls := "MoonlitFloor", name := "saveState", desc := "(I)I" } : Jvm.MethodName) ∈ sg_T := sg_in5 173 rfl rfl
theorem kt_5_174 : Jvm.Cond.selects "MoonlitFloor" ({ cls := "MoonlitFloor", name := "saveState", desc := "(I)I" } : Jvm.MethodName) ({ cls := "MoonlitFloor", name := "saveState", desc := "(I)I" } : Jvm.MethodName) ∈ sg_T := sg_in5 174 rfl rfl
theorem kt_5_175 : Jvm.Cond.code ({ cls := "MoonlitFloor", name := "saveState", desc := "(I)I" } : Jvm.MethodName) prog_1_method_66_code (2 : Nat) (Option.some Jvm.ClassFile.FieldType.int) ∈ sg_T := sg_in5 175 rfl rfl
theorem kt_5_176 : Jvm.Cond.methodLink "MoonlitFloor" (297 : Nat) ({ cls := "MoonlitFloor", name := "requireSlot", desc := "(I)V" } : Jvm.MethodName) ∈ sg_T := sg_in5 176 rfl rfl
theorem kt_5_178 : Jvm.Cond.instanceMethod ({ cls := "MoonlitFloor", name := "requireSlot", desc := "(I)V" } : Jvm.MethodName) ∈ sg_T := sg_in5 178 rfl rfl
theorem kt_5_179 : Jvm.Cond.code ({ cls := "MoonlitFloor", name := "requireSlot", desc := "(I)V" } : Jvm.MethodName) prog_1_method_72_code (2 : Nat) (Option.none : Option Jvm.ClassFile.FieldType) ∈ sg_T := sg_in5 179 rfl rfl
theorem kt_5_181 : Jvm.Cond.methodLink "MoonlitFloor" (300 : Nat) ({ cls := "MoonlitFloor$History", name := "store", desc := "(ILMoonlitFloor$World;)V" } : Jvm.MethodName) ∈ sg_T := sg_in5 181 rfl rfl
theorem kt_5_182 : Jvm.Cond.instanceMethod ({ cls := "MoonlitFloor$History", name := "store", desc := "(ILMoonlitFloor$World;)V" } : Jvm.MethodName) ∈ sg_T := sg_in5 182 rfl rfl
theorem kt_5_183 : Jvm.Cond.selects "MoonlitFloor$History" ({ cls := "MoonlitFloor$History", name := "store", desc := "(ILMoonlitFloor$World;)V" } : Jvm.MethodName) ({ cls := "MoonlitFloor$History", name := "store", desc := "(ILMoonlitFloor$World;)V" } : Jvm.MethodName) ∈ sg_T := sg_in5 183 rfl rfl
theorem kt_5_184 : Jvm.Cond.code ({ cls := "MoonlitFloor$History", name := "store", desc := "(ILMoonlitFloor$World;)V" } : Jvm.MethodName) prog_3_method_4_code (4 : Nat) (Option.none : Option Jvm.ClassFile.FieldType) ∈ sg_T := sg_in5 184 rfl rfl
theorem kt_5_186 : Jvm.Cond.methodLink "MoonlitFloorLaw" (375 : Nat) ({ cls := "MoonlitFloor", name := "restoreState", desc := "(I)I" } : Jvm.MethodName) ∈ sg_T := sg_in5 186 rfl rfl
theorem kt_5_187 : Jvm.Cond.instanceMethod ({ cls := "MoonlitFloor", name := "restoreState", desc := "(I)I" } : Jvm.MethodName) ∈ sg_T := sg_in5 187 rfl rfl
theorem kt_5_188 : Jvm.Cond.selects "MoonlitFloor" ({ cls := "MoonlitFloor", name := "restoreState", desc := "(I)I" } : Jvm.MethodName) ({ cls := "MoonlitFloor", name := "restoreState", desc := "(I)I" } : Jvm.MethodName) ∈ sg_T := sg_in5 188 rfl rfl
theorem kt_5_189 : Jvm.Cond.code ({ cls := "MoonlitFloor", name := "restoreState", desc := "(I)I" } : Jvm.MethodName) prog_1_method_67_code (2 : Nat) (Option.some Jvm.ClassFile.FieldType.int) ∈ sg_T := sg_in5 189 rfl rfl
theorem kt_5_190 : Jvm.Cond.methodLink "MoonlitFloor" (304 : Nat) ({ cls := "MoonlitFloor$History", name := "fetch", desc := "(ILMoonlitFloor$World;)Z" } : Jvm.MethodName) ∈ sg_T := sg_in5 190 rfl rfl
theorem kt_5_191 : Jvm.Cond.instanceMethod ({ cls := "MoonlitFloor$History", name := "fetch", desc := "(ILMoonlitFloor$World;)Z" } : Jvm.MethodName) ∈ sg_T := sg_in5 191 rfl rfl
theorem kt_5_192 : Jvm.Cond.selects "MoonlitFloor$History" ({ cls := "MoonlitFloor$History", name := "fetch", desc := "(ILMoonlitFloor$World;)Z" } : Jvm.MethodName) ({ cls := "MoonlitFloor$History", name := "fetch", desc := "(ILMoonlitFloor$World;)Z" } : Jvm.MethodName) ∈ sg_T := sg_in5 192 rfl rfl
theorem kt_5_193 : Jvm.Cond.code ({ cls := "MoonlitFloor$History", name := "fetch", desc := "(ILMoonlitFloor$World;)Z" } : Jvm.MethodName) prog_3_method_5_code (4 : Nat) (Option.some Jvm.ClassFile.FieldType.boolean) ∈ sg_T := sg_in5 193 rfl rfl
theorem kt_5_196 : Jvm.Cond.methodLink "MoonlitFloor" (310 : Nat) ({ cls := "MoonlitFloor$History", name := "forgetChanges", desc := "()V" } : Jvm.MethodName) ∈ sg_T := sg_in5 196 rfl rfl
theorem kt_5_197 : Jvm.Cond.methodLink "MoonlitFloorLaw" (75 : Nat) ({ cls := "MoonlitFloorLaw$Floor", name := "tiles", desc := "()I" } : Jvm.MethodName) ∈ sg_T := sg_in5 197 rfl rfl
theorem kt_5_198 : Jvm.Cond.instanceMethod ({ cls := "MoonlitFloorLaw$Floor", name := "tiles", desc := "()I" } : Jvm.MethodName) ∈ sg_T := sg_in5 198 rfl rfl
theorem kt_5_199 : Jvm.Cond.selects "MoonlitFloorLaw$Floor" ({ cls := "MoonlitFloorLaw$Floor", name := "tiles", desc := "()I" } : Jvm.MethodName) ({ cls := "MoonlitFloorLaw$Floor", name := "tiles", desc := "()I" } : Jvm.MethodName) ∈ sg_T := sg_in5 199 rfl rfl
theorem kt_5_200 : Jvm.Cond.code ({ cls := "MoonlitFloorLaw$Floor", name := "tiles", desc := "()I" } : Jvm.MethodName) prog_12_method_3_code (1 : Nat) (Option.some Jvm.ClassFile.FieldType.int) ∈ sg_T := sg_in5 200 rfl rfl
theorem kt_5_201 : Jvm.Cond.methodLink "MoonlitFloorLaw" (28 : Nat) ({ cls := "MoonlitFloorLaw", name := "cell", desc := "([II)I" } : Jvm.MethodName) ∈ sg_T := sg_in5 201 rfl rfl
theorem kt_5_202 : Jvm.Cond.static ({ cls := "MoonlitFloorLaw", name := "cell", desc := "([II)I" } : Jvm.MethodName) ∈ sg_T := sg_in5 202 rfl rfl
theorem kt_5_203 : Jvm.Cond.code ({ cls := "MoonlitFloorLaw", name := "cell", desc := "([II)I" } : Jvm.MethodName) method_7_code (2 : Nat) (Option.some Jvm.ClassFile.FieldType.int) ∈ sg_T := sg_in5 203 rfl rfl
theorem kt_5_204 : Jvm.Cond.methodLink "MoonlitFloorLaw" (301 : Nat) ({ cls := "MoonlitFloorLaw", name := "floor", desc := "([I)LMoonlitFloorLaw$Floor;" } : Jvm.MethodName) ∈ sg_T := sg_in5 204 rfl rfl
theorem kt_5_205 : Jvm.Cond.static ({ cls := "MoonlitFloorLaw", name := "floor", desc := "([I)LMoonlitFloorLaw$Floor;" } : Jvm.MethodName) ∈ sg_T := sg_in5 205 rfl rfl
theorem kt_5_206 : Jvm.Cond.code ({ cls := "MoonlitFloorLaw", name := "floor", desc := "([I)LMoonlitFloorLaw$Floor;" } : Jvm.MethodName) method_8_code (6 : Nat) (Option.some (Jvm.ClassFile.FieldType.object "MoonlitFloorLaw$Floor")) ∈ sg_T := sg_in5 206 rfl rfl
theorem kt_5_207 : Jvm.Cond.classLink "MoonlitFloorLaw" (25 : Nat) "MoonlitFloorLaw$Floor" ∈ sg_T := sg_in5 207 rfl rfl
theorem kt_5_208 : Jvm.Cond.instantiable "MoonlitFloorLaw$Floor" (31 : Nat) ∈ sg_T := sg_in5 208 rfl rfl
theorem kt_5_210 : Jvm.Cond.instanceMethod ({ cls := "MoonlitFloorLaw$Floor", name := "<init>", desc := "()V" } : Jvm.MethodName) ∈ sg_T := sg_in5 210 rfl rfl
theorem kt_5_211 : Jvm.Cond.code ({ cls := "MoonlitFloorLaw$Floor", name := "<init>", desc := "()V" } : Jvm.MethodName) prog_12_method_1_code (1 : Nat) (Option.none : Option Jvm.ClassFile.FieldType) ∈ sg_T := sg_in5 211 rfl rfl
theorem kt_5_212 : Jvm.Cond.methodLink "MoonlitFloorLaw$Floor" (1 : Nat) ({ cls := "java/lang/Object", name := "<init>", desc := "()V" } : Jvm.MethodName) ∈ sg_T := sg_in5 212 rfl rfl
theorem kt_5_213 : Jvm.Cond.classLink "MoonlitFloorLaw$Floor" (20 : Nat) "java/util/ArrayList" ∈ sg_T := sg_in5 213 rfl rfl
theorem kt_5_214 : Jvm.Cond.instantiable "java/util/ArrayList" (3 : Nat) ∈ sg_T := sg_in5 214 rfl rfl
theorem kt_5_215 : Jvm.Cond.methodLink "MoonlitFloorLaw$Floor" (22 : Nat) ({ cls := "java/util/ArrayList", name := "<init>", desc := "()V" } : Jvm.MethodName) ∈ sg_T := sg_in5 215 rfl rfl
theorem kt_5_216 : Jvm.Cond.instanceMethod ({ cls := "java/util/ArrayList", name := "<init>", desc := "()V" } : Jvm.MethodName) ∈ sg_T := sg_in5 216 rfl rfl
theorem kt_5_217 : Jvm.Cond.code ({ cls := "java/util/ArrayList", name := "<init>", desc := "()V" } : Jvm.MethodName) prog_41_method_2_code (1 : Nat) (Option.none : Option Jvm.ClassFile.FieldType) ∈ sg_T := sg_in5 217 rfl rfl
theorem kt_5_218 : Jvm.Cond.methodLink "java/util/ArrayList" (1 : Nat) ({ cls := "java/util/AbstractList", name := "<init>", desc := "()V" } : Jvm.MethodName) ∈ sg_T := sg_in5 218 rfl rfl
theorem kt_5_219 : Jvm.Cond.instanceMethod ({ cls := "java/util/AbstractList", name := "<init>", desc := "()V" } : Jvm.MethodName) ∈ sg_T := sg_in5 219 rfl rfl
theorem kt_5_220 : Jvm.Cond.code ({ cls := "java/util/AbstractList", name := "<init>", desc := "()V" } : Jvm.MethodName) prog_40_method_1_code (1 : Nat) (Option.none : Option Jvm.ClassFile.FieldType) ∈ sg_T := sg_in5 220 rfl rfl
theorem kt_5_221 : Jvm.Cond.methodLink "java/util/AbstractList" (1 : Nat) ({ cls := "java/util/AbstractCollection", name := "<init>", desc := "()V" } : Jvm.MethodName) ∈ sg_T := sg_in5 221 rfl rfl
theorem kt_5_222 : Jvm.Cond.instanceMethod ({ cls := "java/util/AbstractCollection", name := "<init>", desc := "()V" } : Jvm.MethodName) ∈ sg_T := sg_in5 222 rfl rfl
theorem kt_5_223 : Jvm.Cond.code ({ cls := "java/util/AbstractCollection", name := "<init>", desc := "()V" } : Jvm.MethodName) prog_39_method_1_code (1 : Nat) (Option.none : Option Jvm.ClassFile.FieldType) ∈ sg_T := sg_in5 223 rfl rfl
theorem kt_5_224 : Jvm.Cond.methodLink "java/util/AbstractCollection" (1 : Nat) ({ cls := "java/lang/Object", name := "<init>", desc := "()V" } : Jvm.MethodName) ∈ sg_T := sg_in5 224 rfl rfl
theorem kt_5_225 : Jvm.Cond.fieldLink "java/util/ArrayList" (39 : Nat) "java/util/ArrayList" "DEFAULTCAPACITY_EMPTY_ELEMENTDATA" "[Ljava/lang/Object;" ∈ sg_T := sg_in5 225 rfl rfl
theorem kt_5_227 : Jvm.Cond.fieldLink "java/util/ArrayList" (9 : Nat) "java/util/ArrayList" "elementData" "[Ljava/lang/Object;" ∈ sg_T := sg_in5 227 rfl rfl
theorem kt_5_228 : Jvm.Cond.fieldLink "java/util/ArrayList" (48 : Nat) "java/util/ArrayList" "size" "I" ∈ sg_T := sg_in5 228 rfl rfl
theorem kt_5_229 : Jvm.Cond.fieldLink "java/util/AbstractList" (7 : Nat) "java/util/AbstractList" "modCount" "I" ∈ sg_T := sg_in5 229 rfl rfl
theorem kt_5_230 : Jvm.Cond.fieldLink "java/util/ArrayList" (63 : Nat) "java/util/ArrayList" "modCount" "I" ∈ sg_T := sg_in5 230 rfl rfl
theorem kt_5_232 : Jvm.Cond.lays "java/util/ArrayList" "java/util/ArrayList" "elementData" "[Ljava/lang/Object;" ∈ sg_T := sg_in5 232 rfl rfl
theorem kt_5_233 : Jvm.Cond.soleField "java/util/ArrayList" "elementData" ∈ sg_T := sg_in5 233 rfl rfl
theorem kt_5_234 : Jvm.Cond.lays "java/util/ArrayList" "java/util/ArrayList" "size" "I" ∈ sg_T := sg_in5 234 rfl rfl
theorem kt_5_235 : Jvm.Cond.soleField "java/util/ArrayList" "size" ∈ sg_T := sg_in5 235 rfl rfl
theorem kt_5_236 : Jvm.Cond.lays "java/util/ArrayList" "java/util/AbstractList" "modCount" "I" ∈ sg_T := sg_in5 236 rfl rfl
theorem kt_5_237 : Jvm.Cond.soleField "java/util/AbstractList" "modCount" ∈ sg_T := sg_in5 237 rfl rfl
theorem kt_5_238 : Jvm.Cond.superclass "java/util/ArrayList" "java/util/AbstractList" ∈ sg_T := sg_in5 238 rfl rfl
theorem kt_5_239 : Jvm.Cond.fieldLink "MoonlitFloorLaw$Floor" (31 : Nat) "MoonlitFloorLaw$Floor" "rows" "I" ∈ sg_T := sg_in5 239 rfl rfl
theorem kt_6_1 : Jvm.Cond.fieldLink "MoonlitFloorLaw$Floor" (34 : Nat) "MoonlitFloorLaw$Floor" "columns" "I" ∈ sg_T := sg_in6 1 rfl rfl
theorem kt_6_3 : Jvm.Cond.fieldLink "MoonlitFloorLaw$Floor" (37 : Nat) "MoonlitFloorLaw$Floor" "light" "I" ∈ sg_T := sg_in6 3 rfl rfl
theorem kt_6_5 : Jvm.Cond.fieldLink "MoonlitFloorLaw$Floor" (40 : Nat) "MoonlitFloorLaw$Floor" "pace" "I" ∈ sg_T := sg_in6 5 rfl rfl
theorem kt_6_8 : Jvm.Cond.fieldLink "MoonlitFloorLaw$Floor" (43 : Nat) "MoonlitFloorLaw$Floor" "drying" "I" ∈ sg_T := sg_in6 8 rfl rfl
theorem kt_6_10 : Jvm.Cond.fieldLink "MoonlitFloorLaw$Floor" (46 : Nat) "MoonlitFloorLaw$Floor" "rest" "I" ∈ sg_T := sg_in6 10 rfl rfl
theorem kt_6_12 : Jvm.Cond.fieldLink "MoonlitFloorLaw$Floor" (49 : Nat) "MoonlitFloorLaw$Floor" "stamina" "I" ∈ sg_T := sg_in6 12 rfl rfl
theorem kt_6_14 : Jvm.Cond.fieldLink "MoonlitFloorLaw$Floor" (52 : Nat) "MoonlitFloorLaw$Floor" "noise" "I" ∈ sg_T := sg_in6 14 rfl rfl
theorem kt_6_15 : Jvm.Cond.fieldLink "MoonlitFloorLaw$Floor" (55 : Nat) "MoonlitFloorLaw$Floor" "night" "I" ∈ sg_T := sg_in6 15 rfl rfl
theorem kt_6_17 : Jvm.Cond.fieldLink "MoonlitFloorLaw$Floor" (58 : Nat) "MoonlitFloorLaw$Floor" "minute" "I" ∈ sg_T := sg_in6 17 rfl rfl
theorem kt_6_18 : Jvm.Cond.fieldLink "MoonlitFloorLaw$Floor" (7 : Nat) "MoonlitFloorLaw$Floor" "walker" "I" ∈ sg_T := sg_in6 18 rfl rfl
theorem kt_6_20 : Jvm.Cond.fieldLink "MoonlitFloorLaw$Floor" (61 : Nat) "MoonlitFloorLaw$Floor" "column" "I" ∈ sg_T := sg_in6 20 rfl rfl
theorem kt_6_21 : Jvm.Cond.fieldLink "MoonlitFloorLaw$Floor" (64 : Nat) "MoonlitFloorLaw$Floor" "resting" "I" ∈ sg_T := sg_in6 21 rfl rfl
theorem kt_6_22 : Jvm.Cond.fieldLink "MoonlitFloorLaw$Floor" (67 : Nat) "MoonlitFloorLaw$Floor" "since" "I" ∈ sg_T := sg_in6 22 rfl rfl
theorem kt_6_23 : Jvm.Cond.fieldLink "MoonlitFloorLaw$Floor" (70 : Nat) "MoonlitFloorLaw$Floor" "total" "I" ∈ sg_T := sg_in6 23 rfl rfl
theorem kt_6_24 : Jvm.Cond.fieldLink "MoonlitFloorLaw$Floor" (73 : Nat) "MoonlitFloorLaw$Floor" "tonight" "I" ∈ sg_T := sg_in6 24 rfl rfl
theorem kt_6_25 : Jvm.Cond.fieldLink "MoonlitFloorLaw$Floor" (76 : Nat) "MoonlitFloorLaw$Floor" "turns" "I" ∈ sg_T := sg_in6 25 rfl rfl
theorem kt_6_26 : Jvm.Cond.fieldLink "MoonlitFloorLaw$Floor" (79 : Nat) "MoonlitFloorLaw$Floor" "falls" "I" ∈ sg_T := sg_in6 26 rfl rfl
theorem kt_6_27 : Jvm.Cond.fieldLink "MoonlitFloorLaw$Floor" (82 : Nat) "MoonlitFloorLaw$Floor" "slides" "I" ∈ sg_T := sg_in6 27 rfl rfl
theorem kt_6_28 : Jvm.Cond.fieldLink "MoonlitFloorLaw$Floor" (13 : Nat) "MoonlitFloorLaw$Floor" "cat" "I" ∈ sg_T := sg_in6 28 rfl rfl
theorem kt_6_30 : Jvm.Cond.fieldLink "MoonlitFloorLaw$Floor" (85 : Nat) "MoonlitFloorLaw$Floor" "next" "I" ∈ sg_T := sg_in6 30 rfl rfl
theorem kt_6_32 : Jvm.Cond.fieldLink "MoonlitFloorLaw$Floor" (88 : Nat) "MoonlitFloorLaw$Floor" "right" "Z" ∈ sg_T := sg_in6 32 rfl rfl
theorem kt_6_33 : Jvm.Cond.fieldLink "MoonlitFloorLaw$Floor" (16 : Nat) "MoonlitFloorLaw$Floor" "route" "[I" ∈ sg_T := sg_in6 33 rfl rfl
theorem kt_6_35 : Jvm.Cond.fieldLink "MoonlitFloorLaw$Floor" (92 : Nat) "MoonlitFloorLaw$Floor" "closed" "[Z" ∈ sg_T := sg_in6 35 rfl rfl
theorem kt_6_38 : Jvm.Cond.fieldLink "MoonlitFloorLaw$Floor" (101 : Nat) "MoonlitFloorLaw$Floor" "bowls" "[Z" ∈ sg_T := sg_in6 38 rfl rfl
theorem kt_6_40 : Jvm.Cond.fieldLink "MoonlitFloorLaw$Floor" (104 : Nat) "MoonlitFloorLaw$Floor" "rugs" "[Z" ∈ sg_T := sg_in6 40 rfl rfl
theorem kt_6_42 : Jvm.Cond.fieldLink "MoonlitFloorLaw$Floor" (107 : Nat) "MoonlitFloorLaw$Floor" "draughts" "[I" ∈ sg_T := sg_in6 42 rfl rfl
theorem kt_6_44 : Jvm.Cond.fieldLink "MoonlitFloorLaw$Floor" (110 : Nat) "MoonlitFloorLaw$Floor" "spills" "[I" ∈ sg_T := sg_in6 44 rfl rfl
theorem kt_6_46 : Jvm.Cond.fieldLink "MoonlitFloorLaw$Floor" (115 : Nat) "MoonlitFloorLaw$Floor" "wear" "[I" ∈ sg_T := sg_in6 46 rfl rfl
theorem kt_6_47 : Jvm.Cond.fieldLink "MoonlitFloorLaw$Floor" (23 : Nat) "MoonlitFloorLaw$Floor" "clouds" "Ljava/util/ArrayList;" ∈ sg_T := sg_in6 47 rfl rfl
theorem kt_6_49 : Jvm.Cond.fieldLink "MoonlitFloorLaw$Floor" (27 : Nat) "MoonlitFloorLaw$Floor" "records" "Ljava/util/ArrayList;" ∈ sg_T := sg_in6 49 rfl rfl
theorem kt_6_50 : Jvm.Cond.lays "MoonlitFloorLaw$Floor" "MoonlitFloorLaw$Floor" "rows" "I" ∈ sg_T := sg_in6 50 rfl rfl
theorem kt_6_51 : Jvm.Cond.soleField "MoonlitFloorLaw$Floor" "rows" ∈ sg_T := sg_in6 51 rfl rfl
theorem kt_6_52 : Jvm.Cond.lays "MoonlitFloorLaw$Floor" "MoonlitFloorLaw$Floor" "columns" "I" ∈ sg_T := sg_in6 52 rfl rfl
theorem kt_6_53 : Jvm.Cond.soleField "MoonlitFloorLaw$Floor" "columns" ∈ sg_T := sg_in6 53 rfl rfl
theorem kt_6_54 : Jvm.Cond.lays "MoonlitFloorLaw$Floor" "MoonlitFloorLaw$Floor" "light" "I" ∈ sg_T := sg_in6 54 rfl rfl
theorem kt_6_55 : Jvm.Cond.soleField "MoonlitFloorLaw$Floor" "light" ∈ sg_T := sg_in6 55 rfl rfl
theorem kt_6_56 : Jvm.Cond.lays "MoonlitFloorLaw$Floor" "MoonlitFloorLaw$Floor" "pace" "I" ∈ sg_T := sg_in6 56 rfl rfl
theorem kt_6_57 : Jvm.Cond.soleField "MoonlitFloorLaw$Floor" "pace" ∈ sg_T := sg_in6 57 rfl rfl
theorem kt_6_58 : Jvm.Cond.lays "MoonlitFloorLaw$Floor" "MoonlitFloorLaw$Floor" "drying" "I" ∈ sg_T := sg_in6 58 rfl rfl
theorem kt_6_59 : Jvm.Cond.soleField "MoonlitFloorLaw$Floor" "drying" ∈ sg_T := sg_in6 59 rfl rfl
theorem kt_6_60 : Jvm.Cond.lays "MoonlitFloorLaw$Floor" "MoonlitFloorLaw$Floor" "rest" "I" ∈ sg_T := sg_in6 60 rfl rfl
theorem kt_6_61 : Jvm.Cond.soleField "MoonlitFloorLaw$Floor" "rest" ∈ sg_T := sg_in6 61 rfl rfl
theorem kt_6_62 : Jvm.Cond.lays "MoonlitFloorLaw$Floor" "MoonlitFloorLaw$Floor" "stamina" "I" ∈ sg_T := sg_in6 62 rfl rfl
theorem kt_6_63 : Jvm.Cond.soleField "MoonlitFloorLaw$Floor" "stamina" ∈ sg_T := sg_in6 63 rfl rfl
theorem kt_6_64 : Jvm.Cond.lays "MoonlitFloorLaw$Floor" "MoonlitFloorLaw$Floor" "noise" "I" ∈ sg_T := sg_in6 64 rfl rfl
theorem kt_6_65 : Jvm.Cond.soleField "MoonlitFloorLaw$Floor" "noise" ∈ sg_T := sg_in6 65 rfl rfl
theorem kt_6_66 : Jvm.Cond.lays "MoonlitFloorLaw$Floor" "MoonlitFloorLaw$Floor" "night" "I" ∈ sg_T := sg_in6 66 rfl rfl
theorem kt_6_67 : Jvm.Cond.soleField "MoonlitFloorLaw$Floor" "night" ∈ sg_T := sg_in6 67 rfl rfl
theorem kt_6_68 : Jvm.Cond.lays "MoonlitFloorLaw$Floor" "MoonlitFloorLaw$Floor" "minute" "I" ∈ sg_T := sg_in6 68 rfl rfl
theorem kt_6_69 : Jvm.Cond.soleField "MoonlitFloorLaw$Floor" "minute" ∈ sg_T := sg_in6 69 rfl rfl
theorem kt_6_70 : Jvm.Cond.lays "MoonlitFloorLaw$Floor" "MoonlitFloorLaw$Floor" "walker" "I" ∈ sg_T := sg_in6 70 rfl rfl
theorem kt_6_71 : Jvm.Cond.soleField "MoonlitFloorLaw$Floor" "walker" ∈ sg_T := sg_in6 71 rfl rfl
theorem kt_6_72 : Jvm.Cond.lays "MoonlitFloorLaw$Floor" "MoonlitFloorLaw$Floor" "column" "I" ∈ sg_T := sg_in6 72 rfl rfl
theorem kt_6_73 : Jvm.Cond.soleField "MoonlitFloorLaw$Floor" "column" ∈ sg_T := sg_in6 73 rfl rfl
theorem kt_6_74 : Jvm.Cond.lays "MoonlitFloorLaw$Floor" "MoonlitFloorLaw$Floor" "resting" "I" ∈ sg_T := sg_in6 74 rfl rfl
theorem kt_6_75 : Jvm.Cond.soleField "MoonlitFloorLaw$Floor" "resting" ∈ sg_T := sg_in6 75 rfl rfl
theorem kt_6_76 : Jvm.Cond.lays "MoonlitFloorLaw$Floor" "MoonlitFloorLaw$Floor" "since" "I" ∈ sg_T := sg_in6 76 rfl rfl
theorem kt_6_77 : Jvm.Cond.soleField "MoonlitFloorLaw$Floor" "since" ∈ sg_T := sg_in6 77 rfl rfl
theorem kt_6_78 : Jvm.Cond.lays "MoonlitFloorLaw$Floor" "MoonlitFloorLaw$Floor" "total" "I" ∈ sg_T := sg_in6 78 rfl rfl
theorem kt_6_79 : Jvm.Cond.soleField "MoonlitFloorLaw$Floor" "total" ∈ sg_T := sg_in6 79 rfl rfl
theorem kt_6_80 : Jvm.Cond.lays "MoonlitFloorLaw$Floor" "MoonlitFloorLaw$Floor" "tonight" "I" ∈ sg_T := sg_in6 80 rfl rfl
theorem kt_6_81 : Jvm.Cond.soleField "MoonlitFloorLaw$Floor" "tonight" ∈ sg_T := sg_in6 81 rfl rfl
theorem kt_6_82 : Jvm.Cond.lays "MoonlitFloorLaw$Floor" "MoonlitFloorLaw$Floor" "turns" "I" ∈ sg_T := sg_in6 82 rfl rfl
theorem kt_6_83 : Jvm.Cond.soleField "MoonlitFloorLaw$Floor" "turns" ∈ sg_T := sg_in6 83 rfl rfl
theorem kt_6_84 : Jvm.Cond.lays "MoonlitFloorLaw$Floor" "MoonlitFloorLaw$Floor" "falls" "I" ∈ sg_T := sg_in6 84 rfl rfl
theorem kt_6_85 : Jvm.Cond.soleField "MoonlitFloorLaw$Floor" "falls" ∈ sg_T := sg_in6 85 rfl rfl
theorem kt_6_86 : Jvm.Cond.lays "MoonlitFloorLaw$Floor" "MoonlitFloorLaw$Floor" "slides" "I" ∈ sg_T := sg_in6 86 rfl rfl
theorem kt_6_87 : Jvm.Cond.soleField "MoonlitFloorLaw$Floor" "slides" ∈ sg_T := sg_in6 87 rfl rfl
theorem kt_6_88 : Jvm.Cond.lays "MoonlitFloorLaw$Floor" "MoonlitFloorLaw$Floor" "cat" "I" ∈ sg_T := sg_in6 88 rfl rfl
theorem kt_6_89 : Jvm.Cond.soleField "MoonlitFloorLaw$Floor" "cat" ∈ sg_T := sg_in6 89 rfl rfl
theorem kt_6_90 : Jvm.Cond.lays "MoonlitFloorLaw$Floor" "MoonlitFloorLaw$Floor" "next" "I" ∈ sg_T := sg_in6 90 rfl rfl
theorem kt_6_91 : Jvm.Cond.soleField "MoonlitFloorLaw$Floor" "next" ∈ sg_T := sg_in6 91 rfl rfl
theorem kt_6_92 : Jvm.Cond.lays "MoonlitFloorLaw$Floor" "MoonlitFloorLaw$Floor" "right" "Z" ∈ sg_T := sg_in6 92 rfl rfl
theorem kt_6_93 : Jvm.Cond.soleField "MoonlitFloorLaw$Floor" "right" ∈ sg_T := sg_in6 93 rfl rfl
theorem kt_6_94 : Jvm.Cond.lays "MoonlitFloorLaw$Floor" "MoonlitFloorLaw$Floor" "route" "[I" ∈ sg_T := sg_in6 94 rfl rfl
theorem kt_6_95 : Jvm.Cond.soleField "MoonlitFloorLaw$Floor" "route" ∈ sg_T := sg_in6 95 rfl rfl
theorem kt_6_96 : Jvm.Cond.lays "MoonlitFloorLaw$Floor" "MoonlitFloorLaw$Floor" "closed" "[Z" ∈ sg_T := sg_in6 96 rfl rfl
theorem kt_6_97 : Jvm.Cond.soleField "MoonlitFloorLaw$Floor" "closed" ∈ sg_T := sg_in6 97 rfl rfl
theorem kt_6_98 : Jvm.Cond.lays "MoonlitFloorLaw$Floor" "MoonlitFloorLaw$Floor" "bowls" "[Z" ∈ sg_T := sg_in6 98 rfl rfl
theorem kt_6_99 : Jvm.Cond.soleField "MoonlitFloorLaw$Floor" "bowls" ∈ sg_T := sg_in6 99 rfl rfl
theorem kt_6_100 : Jvm.Cond.lays "MoonlitFloorLaw$Floor" "MoonlitFloorLaw$Floor" "rugs" "[Z" ∈ sg_T := sg_in6 100 rfl rfl
theorem kt_6_101 : Jvm.Cond.soleField "MoonlitFloorLaw$Floor" "rugs" ∈ sg_T := sg_in6 101 rfl rfl
theorem kt_6_102 : Jvm.Cond.lays "MoonlitFloorLaw$Floor" "MoonlitFloorLaw$Floor" "draughts" "[I" ∈ sg_T := sg_in6 102 rfl rfl
theorem kt_6_103 : Jvm.Cond.soleField "MoonlitFloorLaw$Floor" "draughts" ∈ sg_T := sg_in6 103 rfl rfl
theorem kt_6_104 : Jvm.Cond.lays "MoonlitFloorLaw$Floor" "MoonlitFloorLaw$Floor" "spills" "[I" ∈ sg_T := sg_in6 104 rfl rfl
theorem kt_6_105 : Jvm.Cond.soleField "MoonlitFloorLaw$Floor" "spills" ∈ sg_T := sg_in6 105 rfl rfl
theorem kt_6_106 : Jvm.Cond.lays "MoonlitFloorLaw$Floor" "MoonlitFloorLaw$Floor" "wear" "[I" ∈ sg_T := sg_in6 106 rfl rfl
theorem kt_6_107 : Jvm.Cond.soleField "MoonlitFloorLaw$Floor" "wear" ∈ sg_T := sg_in6 107 rfl rfl
theorem kt_6_108 : Jvm.Cond.laysFinal "MoonlitFloorLaw$Floor" "MoonlitFloorLaw$Floor" "clouds" "Ljava/util/ArrayList;" ∈ sg_T := sg_in6 108 rfl rfl
theorem kt_6_109 : Jvm.Cond.soleField "MoonlitFloorLaw$Floor" "clouds" ∈ sg_T := sg_in6 109 rfl rfl
theorem kt_6_110 : Jvm.Cond.laysFinal "MoonlitFloorLaw$Floor" "MoonlitFloorLaw$Floor" "records" "Ljava/util/ArrayList;" ∈ sg_T := sg_in6 110 rfl rfl
theorem kt_6_111 : Jvm.Cond.soleField "MoonlitFloorLaw$Floor" "records" ∈ sg_T := sg_in6 111 rfl rfl
theorem kt_6_112 : Jvm.Cond.superclass "MoonlitFloorLaw$Floor" "java/lang/Object" ∈ sg_T := sg_in6 112 rfl rfl
theorem kt_6_113 : Jvm.Cond.methodLink "MoonlitFloorLaw" (95 : Nat) ({ cls := "java/util/ArrayList", name := "add", desc := "(Ljava/lang/Object;)Z" } : Jvm.MethodName) ∈ sg_T := sg_in6 113 rfl rfl
theorem kt_6_114 : Jvm.Cond.instanceMethod ({ cls := "java/util/ArrayList", name := "add", desc := "(Ljava/lang/Object;)Z" } : Jvm.MethodName) ∈ sg_T := sg_in6 114 rfl rfl
theorem kt_6_115 : Jvm.Cond.selects "java/util/ArrayList" ({ cls := "java/util/ArrayList", name := "add", desc := "(Ljava/lang/Object;)Z" } : Jvm.MethodName) ({ cls := "java/util/ArrayList", name := "add", desc := "(Ljava/lang/Object;)Z" } : Jvm.MethodName) ∈ sg_T := sg_in6 115 rfl rfl
theorem kt_6_116 : Jvm.Cond.code ({ cls := "java/util/ArrayList", name := "add", desc := "(Ljava/lang/Object;)Z" } : Jvm.MethodName) prog_41_method_25_code (2 : Nat) (Option.some Jvm.ClassFile.FieldType.boolean) ∈ sg_T := sg_in6 116 rfl rfl
theorem kt_6_117 : Jvm.Cond.methodLink "java/util/ArrayList" (131 : Nat) ({ cls := "java/util/ArrayList", name := "add", desc := "(Ljava/lang/Object;[Ljava/lang/Object;I)V" } : Jvm.MethodName) ∈ sg_T := sg_in6 117 rfl rfl
theorem kt_6_119 : Jvm.Cond.instanceMethod ({ cls := "java/util/ArrayList", name := "add", desc := "(Ljava/lang/Object;[Ljava/lang/Object;I)V" } : Jvm.MethodName) ∈ sg_T := sg_in6 119 rfl rfl
theorem kt_6_120 : Jvm.Cond.code ({ cls := "java/util/ArrayList", name := "add", desc := "(Ljava/lang/Object;[Ljava/lang/Object;I)V" } : Jvm.MethodName) prog_41_method_24_code (4 : Nat) (Option.none : Option Jvm.ClassFile.FieldType) ∈ sg_T := sg_in6 120 rfl rfl
theorem kt_6_121 : Jvm.Cond.methodLink "java/util/ArrayList" (129 : Nat) ({ cls := "java/util/ArrayList", name := "grow", desc := "()[Ljava/lang/Object;" } : Jvm.MethodName) ∈ sg_T := sg_in6 121 rfl rfl
theorem kt_6_123 : Jvm.Cond.instanceMethod ({ cls := "java/util/ArrayList", name := "grow", desc := "()[Ljava/lang/Object;" } : Jvm.MethodName) ∈ sg_T := sg_in6 123 rfl rfl
theorem kt_6_124 : Jvm.Cond.code ({ cls := "java/util/ArrayList", name := "grow", desc := "()[Ljava/lang/Object;" } : Jvm.MethodName) prog_41_method_7_code (1 : Nat) (Option.some (Jvm.ClassFile.FieldType.array (Jvm.ClassFile.FieldType.object "java/lang/Object"))) ∈ sg_T := sg_in6 124 rfl rfl
theorem kt_6_125 : Jvm.Cond.methodLink "java/util/ArrayList" (69 : Nat) ({ cls := "java/util/ArrayList", name := "grow", desc := "(I)[Ljava/lang/Object;" } : Jvm.MethodName) ∈ sg_T := sg_in6 125 rfl rfl
theorem kt_6_127 : Jvm.Cond.instanceMethod ({ cls := "java/util/ArrayList", name := "grow", desc := "(I)[Ljava/lang/Object;" } : Jvm.MethodName) ∈ sg_T := sg_in6 127 rfl rfl
theorem kt_6_128 : Jvm.Cond.code ({ cls := "java/util/ArrayList", name := "grow", desc := "(I)[Ljava/lang/Object;" } : Jvm.MethodName) prog_41_method_6_code (4 : Nat) (Option.some (Jvm.ClassFile.FieldType.array (Jvm.ClassFile.FieldType.object "java/lang/Object"))) ∈ sg_T := sg_in6 128 rfl rfl
theorem kt_6_129 : Jvm.Cond.methodLink "java/util/ArrayList" (73 : Nat) ({ cls := "jdk/internal/util/ArraysSupport", name := "newLength", desc := "(III)I" } : Jvm.MethodName) ∈ sg_T := sg_in6 129 rfl rfl
theorem kt_6_130 : Jvm.Cond.static ({ cls := "jdk/internal/util/ArraysSupport", name := "newLength", desc := "(III)I" } : Jvm.MethodName) ∈ sg_T := sg_in6 130 rfl rfl
theorem kt_6_131 : Jvm.Cond.code ({ cls := "jdk/internal/util/ArraysSupport", name := "newLength", desc := "(III)I" } : Jvm.MethodName) prog_50_method_27_code (4 : Nat) (Option.some Jvm.ClassFile.FieldType.int) ∈ sg_T := sg_in6 131 rfl rfl
theorem kt_6_132 : Jvm.Cond.methodLink "jdk/internal/util/ArraysSupport" (194 : Nat) ({ cls := "java/lang/Math", name := "max", desc := "(II)I" } : Jvm.MethodName) ∈ sg_T := sg_in6 132 rfl rfl
theorem kt_6_133 : Jvm.Cond.constant "jdk/internal/util/ArraysSupport" (200 : Nat) (2147483639 : Int32) ∈ sg_T := sg_in6 133 rfl rfl
theorem kt_6_134 : Jvm.Cond.methodLink "jdk/internal/util/ArraysSupport" (201 : Nat) ({ cls := "jdk/internal/util/ArraysSupport", name := "hugeLength", desc := "(II)I" } : Jvm.MethodName) ∈ sg_T := sg_in6 134 rfl rfl
theorem kt_6_135 : Jvm.Cond.static ({ cls := "jdk/internal/util/ArraysSupport", name := "hugeLength", desc := "(II)I" } : Jvm.MethodName) ∈ sg_T := sg_in6 135 rfl rfl
theorem kt_6_136 : Jvm.Cond.code ({ cls := "jdk/internal/util/ArraysSupport", name := "hugeLength", desc := "(II)I" } : Jvm.MethodName) prog_50_method_28_code (3 : Nat) (Option.some Jvm.ClassFile.FieldType.int) ∈ sg_T := sg_in6 136 rfl rfl
theorem kt_6_137 : Jvm.Cond.methodLink "java/util/ArrayList" (66 : Nat) ({ cls := "java/util/Arrays", name := "copyOf", desc := "([Ljava/lang/Object;I)[Ljava/lang/Object;" } : Jvm.MethodName) ∈ sg_T := sg_in6 137 rfl rfl
theorem kt_6_138 : Jvm.Cond.static ({ cls := "java/util/Arrays", name := "copyOf", desc := "([Ljava/lang/Object;I)[Ljava/lang/Object;" } : Jvm.MethodName) ∈ sg_T := sg_in6 138 rfl rfl
theorem kt_6_139 : Jvm.Cond.code ({ cls := "java/util/Arrays", name := "copyOf", desc := "([Ljava/lang/Object;I)[Ljava/lang/Object;" } : Jvm.MethodName) prog_42_method_119_code (2 : Nat) (Option.some (Jvm.ClassFile.FieldType.array (Jvm.ClassFile.FieldType.object "java/lang/Object"))) ∈ sg_T := sg_in6 139 rfl rfl
theorem kt_6_140 : Jvm.Cond.methodLink "java/util/Arrays" (86 : Nat) ({ cls := "java/lang/Object", name := "getClass", desc := "()Ljava/lang/Class;" } : Jvm.MethodName) ∈ sg_T := sg_in6 140 rfl rfl
theorem kt_6_141 : Jvm.Cond.instanceMethod ({ cls := "java/lang/Object", name := "getClass", desc := "()Ljava/lang/Class;" } : Jvm.MethodName) ∈ sg_T := sg_in6 141 rfl rfl
theorem kt_6_142 : Jvm.Cond.sameMethod "java/lang/Object" "java/lang/Object" "getClass" "()Ljava/lang/Class;" ∈ sg_T := sg_in6 142 rfl rfl
theorem kt_6_143 : Jvm.Cond.selects "MoonlitFloor" ({ cls := "java/lang/Object", name := "getClass", desc := "()Ljava/lang/Class;" } : Jvm.MethodName) ({ cls := "java/lang/Object", name := "getClass", desc := "()Ljava/lang/Class;" } : Jvm.MethodName) ∈ sg_T := sg_in6 143 rfl rfl
theorem kt_6_144 : Jvm.Cond.selects "MoonlitFloor$History" ({ cls := "java/lang/Object", name := "getClass", desc := "()Ljava/lang/Class;" } : Jvm.MethodName) ({ cls := "java/lang/Object", name := "getClass", desc := "()Ljava/lang/Class;" } : Jvm.MethodName) ∈ sg_T := sg_in6 144 rfl rfl
theorem kt_6_145 : Jvm.Cond.selects "MoonlitFloor$Plan" ({ cls := "java/lang/Object", name := "getClass", desc := "()Ljava/lang/Class;" } : Jvm.MethodName) ({ cls := "java/lang/Object", name := "getClass", desc := "()Ljava/lang/Class;" } : Jvm.MethodName) ∈ sg_T := sg_in6 145 rfl rfl
theorem kt_6_146 : Jvm.Cond.selects "MoonlitFloor$Records" ({ cls := "java/lang/Object", name := "getClass", desc := "()Ljava/lang/Class;" } : Jvm.MethodName) ({ cls := "java/lang/Object", name := "getClass", desc := "()Ljava/lang/Class;" } : Jvm.MethodName) ∈ sg_T := sg_in6 146 rfl rfl
theorem kt_6_147 : Jvm.Cond.selects "MoonlitFloor$SetupReader" ({ cls := "java/lang/Object", name := "getClass", desc := "()Ljava/lang/Class;" } : Jvm.MethodName) ({ cls := "java/lang/Object", name := "getClass", desc := "()Ljava/lang/Class;" } : Jvm.MethodName) ∈ sg_T := sg_in6 147 rfl rfl
theorem kt_6_148 : Jvm.Cond.selects "MoonlitFloor$Sign" ({ cls := "java/lang/Object", name := "getClass", desc := "()Ljava/lang/Class;" } : Jvm.MethodName) ({ cls := "java/lang/Object", name := "getClass", desc := "()Ljava/lang/Class;" } : Jvm.MethodName) ∈ sg_T := sg_in6 148 rfl rfl
theorem kt_6_149 : Jvm.Cond.selects "MoonlitFloor$Tokens" ({ cls := "java/lang/Object", name := "getClass", desc := "()Ljava/lang/Class;" } : Jvm.MethodName) ({ cls := "java/lang/Object", name := "getClass", desc := "()Ljava/lang/Class;" } : Jvm.MethodName) ∈ sg_T := sg_in6 149 rfl rfl
theorem kt_6_150 : Jvm.Cond.selects "MoonlitFloor$Walker" ({ cls := "java/lang/Object", name := "getClass", desc := "()Ljava/lang/Class;" } : Jvm.MethodName) ({ cls := "java/lang/Object", name := "getClass", desc := "()Ljava/lang/Class;" } : Jvm.MethodName) ∈ sg_T := sg_in6 150 rfl rfl
theorem kt_6_151 : Jvm.Cond.selects "MoonlitFloor$World" ({ cls := "java/lang/Object", name := "getClass", desc := "()Ljava/lang/Class;" } : Jvm.MethodName) ({ cls := "java/lang/Object", name := "getClass", desc := "()Ljava/lang/Class;" } : Jvm.MethodName) ∈ sg_T := sg_in6 151 rfl rfl
theorem kt_6_152 : Jvm.Cond.selects "MoonlitFloorLaw$Floor" ({ cls := "java/lang/Object", name := "getClass", desc := "()Ljava/lang/Class;" } : Jvm.MethodName) ({ cls := "java/lang/Object", name := "getClass", desc := "()Ljava/lang/Class;" } : Jvm.MethodName) ∈ sg_T := sg_in6 152 rfl rfl
theorem kt_6_153 : Jvm.Cond.selects "java/lang/IllegalArgumentException" ({ cls := "java/lang/Object", name := "getClass", desc := "()Ljava/lang/Class;" } : Jvm.MethodName) ({ cls := "java/lang/Object", name := "getClass", desc := "()Ljava/lang/Class;" } : Jvm.MethodName) ∈ sg_T := sg_in6 153 rfl rfl
theorem kt_6_154 : Jvm.Cond.selects "java/lang/IllegalStateException" ({ cls := "java/lang/Object", name := "getClass", desc := "()Ljava/lang/Class;" } : Jvm.MethodName) ({ cls := "java/lang/Object", name := "getClass", desc := "()Ljava/lang/Class;" } : Jvm.MethodName) ∈ sg_T := sg_in6 154 rfl rfl
theorem kt_6_155 : Jvm.Cond.selects "java/lang/IndexOutOfBoundsException" ({ cls := "java/lang/Object", name := "getClass", desc := "()Ljava/lang/Class;" } : Jvm.MethodName) ({ cls := "java/lang/Object", name := "getClass", desc := "()Ljava/lang/Class;" } : Jvm.MethodName) ∈ sg_T := sg_in6 155 rfl rfl
theorem kt_6_156 : Jvm.Cond.selects "java/lang/String" ({ cls := "java/lang/Object", name := "getClass", desc := "()Ljava/lang/Class;" } : Jvm.MethodName) ({ cls := "java/lang/Object", name := "getClass", desc := "()Ljava/lang/Class;" } : Jvm.MethodName) ∈ sg_T := sg_in6 156 rfl rfl
theorem kt_6_157 : Jvm.Cond.selects "java/lang/StringBuilder" ({ cls := "java/lang/Object", name := "getClass", desc := "()Ljava/lang/Class;" } : Jvm.MethodName) ({ cls := "java/lang/Object", name := "getClass", desc := "()Ljava/lang/Class;" } : Jvm.MethodName) ∈ sg_T := sg_in6 157 rfl rfl
theorem kt_6_158 : Jvm.Cond.selects "java/util/ArrayList" ({ cls := "java/lang/Object", name := "getClass", desc := "()Ljava/lang/Class;" } : Jvm.MethodName) ({ cls := "java/lang/Object", name := "getClass", desc := "()Ljava/lang/Class;" } : Jvm.MethodName) ∈ sg_T := sg_in6 158 rfl rfl
theorem kt_6_159 : Jvm.Cond.selects "jdk/internal/misc/Unsafe" ({ cls := "java/lang/Object", name := "getClass", desc := "()Ljava/lang/Class;" } : Jvm.MethodName) ({ cls := "java/lang/Object", name := "getClass", desc := "()Ljava/lang/Class;" } : Jvm.MethodName) ∈ sg_T := sg_in6 159 rfl rfl
theorem kt_6_160 : Jvm.Cond.native ({ cls := "java/lang/Object", name := "getClass", desc := "()Ljava/lang/Class;" } : Jvm.MethodName) ∈ sg_T := sg_in6 160 rfl rfl
theorem kt_6_161 : Jvm.Cond.methodLink "java/util/Arrays" (300 : Nat) ({ cls := "java/util/Arrays", name := "copyOf", desc := "([Ljava/lang/Object;ILjava/lang/Class;)[Ljava/lang/Object;" } : Jvm.MethodName) ∈ sg_T := sg_in6 161 rfl rfl
theorem kt_6_162 : Jvm.Cond.static ({ cls := "java/util/Arrays", name := "copyOf", desc := "([Ljava/lang/Object;ILjava/lang/Class;)[Ljava/lang/Object;" } : Jvm.MethodName) ∈ sg_T := sg_in6 162 rfl rfl
theorem kt_6_163 : Jvm.Cond.code ({ cls := "java/util/Arrays", name := "copyOf", desc := "([Ljava/lang/Object;ILjava/lang/Class;)[Ljava/lang/Object;" } : Jvm.MethodName) prog_42_method_120_code (4 : Nat) (Option.some (Jvm.ClassFile.FieldType.array (Jvm.ClassFile.FieldType.object "java/lang/Object"))) ∈ sg_T := sg_in6 163 rfl rfl
theorem kt_6_164 : Jvm.Cond.classLink "java/util/Arrays" (110 : Nat) "[Ljava/lang/Object;" ∈ sg_T := sg_in6 164 rfl rfl
theorem kt_6_166 : Jvm.Cond.classLink "java/util/Arrays" (2 : Nat) "java/lang/Object" ∈ sg_T := sg_in6 166 rfl rfl
theorem kt_6_167 : Jvm.Cond.methodLink "java/util/Arrays" (304 : Nat) ({ cls := "java/lang/Math", name := "min", desc := "(II)I" } : Jvm.MethodName) ∈ sg_T := sg_in6 167 rfl rfl
theorem kt_6_168 : Jvm.Cond.methodLink "java/util/Arrays" (150 : Nat) ({ cls := "java/lang/System", name := "arraycopy", desc := "(Ljava/lang/Object;ILjava/lang/Object;II)V" } : Jvm.MethodName) ∈ sg_T := sg_in6 168 rfl rfl
theorem kt_6_169 : Jvm.Cond.methodLink "java/util/ArrayList" (79 : Nat) ({ cls := "java/lang/Math", name := "max", desc := "(II)I" } : Jvm.MethodName) ∈ sg_T := sg_in6 169 rfl rfl
theorem kt_6_170 : Jvm.Cond.classLink "java/util/ArrayList" (7 : Nat) "java/lang/Object" ∈ sg_T := sg_in6 170 rfl rfl
theorem kt_6_171 : Jvm.Cond.arrayClass Jvm.ClassFile.FieldType.boolean ∈ sg_T := sg_in6 171 rfl rfl
theorem kt_6_172 : Jvm.Cond.methodLink "MoonlitFloorLaw" (305 : Nat) ({ cls := "MoonlitFloorLaw", name := "text", desc := "(LMoonlitFloorLaw$Floor;I)Ljava/lang/String;" } : Jvm.MethodName) ∈ sg_T := sg_in6 172 rfl rfl
theorem kt_6_173 : Jvm.Cond.static ({ cls := "MoonlitFloorLaw", name := "text", desc := "(LMoonlitFloorLaw$Floor;I)Ljava/lang/String;" } : Jvm.MethodName) ∈ sg_T := sg_in6 173 rfl rfl
theorem kt_6_174 : Jvm.Cond.code ({ cls := "MoonlitFloorLaw", name := "text", desc := "(LMoonlitFloorLaw$Floor;I)Ljava/lang/String;" } : Jvm.MethodName) method_9_code (8 : Nat) (Option.some (Jvm.ClassFile.FieldType.object "java/lang/String")) ∈ sg_T := sg_in6 174 rfl rfl
theorem kt_6_175 : Jvm.Cond.classLink "MoonlitFloorLaw" (107 : Nat) "java/lang/StringBuilder" ∈ sg_T := sg_in6 175 rfl rfl
theorem kt_6_177 : Jvm.Cond.methodLink "MoonlitFloorLaw" (111 : Nat) ({ cls := "java/lang/StringBuilder", name := "<init>", desc := "(Ljava/lang/String;)V" } : Jvm.MethodName) ∈ sg_T := sg_in6 177 rfl rfl
theorem kt_6_178 : Jvm.Cond.instanceMethod ({ cls := "java/lang/StringBuilder", name := "<init>", desc := "(Ljava/lang/String;)V" } : Jvm.MethodName) ∈ sg_T := sg_in6 178 rfl rfl
theorem kt_6_179 : Jvm.Cond.code ({ cls := "java/lang/StringBuilder", name := "<init>", desc := "(Ljava/lang/String;)V" } : Jvm.MethodName) prog_32_method_3_code (2 : Nat) (Option.none : Option Jvm.ClassFile.FieldType) ∈ sg_T := sg_in6 179 rfl rfl
theorem kt_6_180 : Jvm.Cond.methodLink "java/lang/StringBuilder" (7 : Nat) ({ cls := "java/lang/AbstractStringBuilder", name := "<init>", desc := "(Ljava/lang/String;)V" } : Jvm.MethodName) ∈ sg_T := sg_in6 180 rfl rfl
theorem kt_6_181 : Jvm.Cond.instanceMethod ({ cls := "java/lang/AbstractStringBuilder", name := "<init>", desc := "(Ljava/lang/String;)V" } : Jvm.MethodName) ∈ sg_T := sg_in6 181 rfl rfl
theorem kt_6_182 : Jvm.Cond.code ({ cls := "java/lang/AbstractStringBuilder", name := "<init>", desc := "(Ljava/lang/String;)V" } : Jvm.MethodName) prog_15_method_3_code (5 : Nat) (Option.none : Option Jvm.ClassFile.FieldType) ∈ sg_T := sg_in6 182 rfl rfl
theorem kt_6_183 : Jvm.Cond.methodLink "java/lang/AbstractStringBuilder" (32 : Nat) ({ cls := "java/lang/String", name := "length", desc := "()I" } : Jvm.MethodName) ∈ sg_T := sg_in6 183 rfl rfl
theorem kt_6_184 : Jvm.Cond.constant "java/lang/AbstractStringBuilder" (38 : Nat) (2147483631 : Int32) ∈ sg_T := sg_in6 184 rfl rfl
theorem kt_6_185 : Jvm.Cond.constant "java/lang/AbstractStringBuilder" (39 : Nat) (2147483647 : Int32) ∈ sg_T := sg_in6 185 rfl rfl
theorem kt_6_186 : Jvm.Cond.methodLink "java/lang/AbstractStringBuilder" (40 : Nat) ({ cls := "java/lang/String", name := "coder", desc := "()B" } : Jvm.MethodName) ∈ sg_T := sg_in6 186 rfl rfl
theorem kt_6_187 : Jvm.Cond.methodLink "java/lang/AbstractStringBuilder" (43 : Nat) ({ cls := "java/lang/AbstractStringBuilder", name := "append", desc := "(Ljava/lang/String;)Ljava/lang/AbstractStringBuilder;" } : Jvm.MethodName) ∈ sg_T := sg_in6 187 rfl rfl
theorem kt_6_188 : Jvm.Cond.instanceMethod ({ cls := "java/lang/AbstractStringBuilder", name := "append", desc := "(Ljava/lang/String;)Ljava/lang/AbstractStringBuilder;" } : Jvm.MethodName) ∈ sg_T := sg_in6 188 rfl rfl
theorem kt_6_189 : Jvm.Cond.sameMethod "java/lang/AbstractStringBuilder" "java/lang/AbstractStringBuilder" "append" "(Ljava/lang/String;)Ljava/lang/AbstractStringBuilder;" ∈ sg_T := sg_in6 189 rfl rfl
theorem kt_6_190 : Jvm.Cond.selects "java/lang/StringBuilder" ({ cls := "java/lang/AbstractStringBuilder", name := "append", desc := "(Ljava/lang/String;)Ljava/lang/AbstractStringBuilder;" } : Jvm.MethodName) ({ cls := "java/lang/StringBuilder", name := "append", desc := "(Ljava/lang/String;)Ljava/lang/AbstractStringBuilder;" } : Jvm.MethodName) ∈ sg_T := sg_in6 190 rfl rfl
theorem kt_6_191 : Jvm.Cond.instanceMethod ({ cls := "java/lang/StringBuilder", name := "append", desc := "(Ljava/lang/String;)Ljava/lang/AbstractStringBuilder;" } : Jvm.MethodName) ∈ sg_T := sg_in6 191 rfl rfl
theorem kt_6_192 : Jvm.Cond.code ({ cls := "java/lang/StringBuilder", name := "append", desc := "(Ljava/lang/String;)Ljava/lang/AbstractStringBuilder;" } : Jvm.MethodName) prog_32_method_80_code (2 : Nat) (Option.some (Jvm.ClassFile.FieldType.object "java/lang/AbstractStringBuilder")) ∈ sg_T := sg_in6 192 rfl rfl
theorem kt_6_193 : Jvm.Cond.methodLink "java/lang/StringBuilder" (23 : Nat) ({ cls := "java/lang/StringBuilder", name := "append", desc := "(Ljava/lang/String;)Ljava/lang/StringBuilder;" } : Jvm.MethodName) ∈ sg_T := sg_in6 193 rfl rfl
theorem kt_6_194 : Jvm.Cond.instanceMethod ({ cls := "java/lang/StringBuilder", name := "append", desc := "(Ljava/lang/String;)Ljava/lang/StringBuilder;" } : Jvm.MethodName) ∈ sg_T := sg_in6 194 rfl rfl
theorem kt_6_195 : Jvm.Cond.selects "java/lang/StringBuilder" ({ cls := "java/lang/StringBuilder", name := "append", desc := "(Ljava/lang/String;)Ljava/lang/StringBuilder;" } : Jvm.MethodName) ({ cls := "java/lang/StringBuilder", name := "append", desc := "(Ljava/lang/String;)Ljava/lang/StringBuilder;" } : Jvm.MethodName) ∈ sg_T := sg_in6 195 rfl rfl
theorem kt_6_196 : Jvm.Cond.code ({ cls := "java/lang/StringBuilder", name := "append", desc := "(Ljava/lang/String;)Ljava/lang/StringBuilder;" } : Jvm.MethodName) prog_32_method_7_code (2 : Nat) (Option.some (Jvm.ClassFile.FieldType.object "java/lang/StringBuilder")) ∈ sg_T := sg_in6 196 rfl rfl
theorem kt_6_197 : Jvm.Cond.methodLink "java/lang/StringBuilder" (29 : Nat) ({ cls := "java/lang/AbstractStringBuilder", name := "append", desc := "(Ljava/lang/String;)Ljava/lang/AbstractStringBuilder;" } : Jvm.MethodName) ∈ sg_T := sg_in6 197 rfl rfl
theorem kt_6_198 : Jvm.Cond.code ({ cls := "java/lang/AbstractStringBuilder", name := "append", desc := "(Ljava/lang/String;)Ljava/lang/AbstractStringBuilder;" } : Jvm.MethodName) prog_15_method_22_code (3 : Nat) (Option.some (Jvm.ClassFile.FieldType.object "java/lang/AbstractStringBuilder")) ∈ sg_T := sg_in6 198 rfl rfl
theorem kt_6_199 : Jvm.Cond.methodLink "java/lang/AbstractStringBuilder" (204 : Nat) ({ cls := "java/lang/AbstractStringBuilder", name := "appendNull", desc := "()Ljava/lang/AbstractStringBuilder;" } : Jvm.MethodName) ∈ sg_T := sg_in6 199 rfl rfl
theorem kt_6_201 : Jvm.Cond.instanceMethod ({ cls := "java/lang/AbstractStringBuilder", name := "appendNull", desc := "()Ljava/lang/AbstractStringBuilder;" } : Jvm.MethodName) ∈ sg_T := sg_in6 201 rfl rfl
theorem kt_6_202 : Jvm.Cond.code ({ cls := "java/lang/AbstractStringBuilder", name := "appendNull", desc := "()Ljava/lang/AbstractStringBuilder;" } : Jvm.MethodName) prog_15_method_26_code (3 : Nat) (Option.some (Jvm.ClassFile.FieldType.object "java/lang/AbstractStringBuilder")) ∈ sg_T := sg_in6 202 rfl rfl
theorem kt_6_203 : Jvm.Cond.methodLink "java/lang/AbstractStringBuilder" (100 : Nat) ({ cls := "java/lang/AbstractStringBuilder", name := "ensureCapacityInternal", desc := "(I)V" } : Jvm.MethodName) ∈ sg_T := sg_in6 203 rfl rfl
theorem kt_6_205 : Jvm.Cond.instanceMethod ({ cls := "java/lang/AbstractStringBuilder", name := "ensureCapacityInternal", desc := "(I)V" } : Jvm.MethodName) ∈ sg_T := sg_in6 205 rfl rfl
theorem kt_6_206 : Jvm.Cond.code ({ cls := "java/lang/AbstractStringBuilder", name := "ensureCapacityInternal", desc := "(I)V" } : Jvm.MethodName) prog_15_method_9_code (3 : Nat) (Option.none : Option Jvm.ClassFile.FieldType) ∈ sg_T := sg_in6 206 rfl rfl
theorem kt_6_207 : Jvm.Cond.methodLink "java/lang/AbstractStringBuilder" (104 : Nat) ({ cls := "java/lang/AbstractStringBuilder", name := "newCapacity", desc := "(I)I" } : Jvm.MethodName) ∈ sg_T := sg_in6 207 rfl rfl
theorem kt_6_209 : Jvm.Cond.instanceMethod ({ cls := "java/lang/AbstractStringBuilder", name := "newCapacity", desc := "(I)I" } : Jvm.MethodName) ∈ sg_T := sg_in6 209 rfl rfl
theorem kt_6_210 : Jvm.Cond.code ({ cls := "java/lang/AbstractStringBuilder", name := "newCapacity", desc := "(I)I" } : Jvm.MethodName) prog_15_method_10_code (6 : Nat) (Option.some Jvm.ClassFile.FieldType.int) ∈ sg_T := sg_in6 210 rfl rfl
theorem kt_6_211 : Jvm.Cond.methodLink "java/lang/AbstractStringBuilder" (114 : Nat) ({ cls := "jdk/internal/util/ArraysSupport", name := "newLength", desc := "(III)I" } : Jvm.MethodName) ∈ sg_T := sg_in6 211 rfl rfl
theorem kt_6_212 : Jvm.Cond.methodLink "java/lang/AbstractStringBuilder" (108 : Nat) ({ cls := "java/util/Arrays", name := "copyOf", desc := "([BI)[B" } : Jvm.MethodName) ∈ sg_T := sg_in6 212 rfl rfl
theorem kt_6_213 : Jvm.Cond.static ({ cls := "java/util/Arrays", name := "copyOf", desc := "([BI)[B" } : Jvm.MethodName) ∈ sg_T := sg_in6 213 rfl rfl
theorem kt_6_214 : Jvm.Cond.code ({ cls := "java/util/Arrays", name := "copyOf", desc := "([BI)[B" } : Jvm.MethodName) prog_42_method_121_code (3 : Nat) (Option.some (Jvm.ClassFile.FieldType.array Jvm.ClassFile.FieldType.byte)) ∈ sg_T := sg_in6 214 rfl rfl
theorem kt_6_215 : Jvm.Cond.methodLink "java/util/Arrays" (310 : Nat) ({ cls := "[B", name := "clone", desc := "()Ljava/lang/Object;" } : Jvm.MethodName) ∈ sg_T := sg_in6 215 rfl rfl
theorem kt_6_216 : Jvm.Cond.sameMethod "[B" "java/lang/Object" "clone" "()Ljava/lang/Object;" ∈ sg_T := sg_in6 216 rfl rfl
theorem kt_6_217 : Jvm.Cond.native ({ cls := "java/lang/Object", name := "clone", desc := "()Ljava/lang/Object;" } : Jvm.MethodName) ∈ sg_T := sg_in6 217 rfl rfl
theorem kt_6_218 : Jvm.Cond.instanceMethod ({ cls := "java/lang/Object", name := "clone", desc := "()Ljava/lang/Object;" } : Jvm.MethodName) ∈ sg_T := sg_in6 218 rfl rfl
theorem kt_6_219 : Jvm.Cond.selects "[B" ({ cls := "[B", name := "clone", desc := "()Ljava/lang/Object;" } : Jvm.MethodName) ({ cls := "java/lang/Object", name := "clone", desc := "()Ljava/lang/Object;" } : Jvm.MethodName) ∈ sg_T := sg_in6 219 rfl rfl
theorem kt_6_221 : Jvm.Cond.classLink "java/util/Arrays" (311 : Nat) "[B" ∈ sg_T := sg_in6 221 rfl rfl
theorem kt_6_222 : Jvm.Cond.methodLink "java/lang/AbstractStringBuilder" (83 : Nat) ({ cls := "java/lang/AbstractStringBuilder", name := "isLatin1", desc := "()Z" } : Jvm.MethodName) ∈ sg_T := sg_in6 222 rfl rfl
theorem kt_6_223 : Jvm.Cond.instanceMethod ({ cls := "java/lang/AbstractStringBuilder", name := "isLatin1", desc := "()Z" } : Jvm.MethodName) ∈ sg_T := sg_in6 223 rfl rfl
theorem kt_6_224 : Jvm.Cond.sameMethod "java/lang/AbstractStringBuilder" "java/lang/AbstractStringBuilder" "isLatin1" "()Z" ∈ sg_T := sg_in6 224 rfl rfl
theorem kt_6_225 : Jvm.Cond.selects "java/lang/StringBuilder" ({ cls := "java/lang/AbstractStringBuilder", name := "isLatin1", desc := "()Z" } : Jvm.MethodName) ({ cls := "java/lang/AbstractStringBuilder", name := "isLatin1", desc := "()Z" } : Jvm.MethodName) ∈ sg_T := sg_in6 225 rfl rfl
theorem kt_6_226 : Jvm.Cond.code ({ cls := "java/lang/AbstractStringBuilder", name := "isLatin1", desc := "()Z" } : Jvm.MethodName) prog_15_method_68_code (1 : Nat) (Option.some Jvm.ClassFile.FieldType.boolean) ∈ sg_T := sg_in6 226 rfl rfl
theorem kt_6_227 : Jvm.Cond.methodLink "java/lang/AbstractStringBuilder" (226 : Nat) ({ cls := "java/lang/StringUTF16", name := "putCharsAt", desc := "([BICCCC)I" } : Jvm.MethodName) ∈ sg_T := sg_in6 227 rfl rfl
theorem kt_6_228 : Jvm.Cond.static ({ cls := "java/lang/StringUTF16", name := "putCharsAt", desc := "([BICCCC)I" } : Jvm.MethodName) ∈ sg_T := sg_in6 228 rfl rfl
theorem kt_6_229 : Jvm.Cond.code ({ cls := "java/lang/StringUTF16", name := "putCharsAt", desc := "([BICCCC)I" } : Jvm.MethodName) prog_34_method_81_code (7 : Nat) (Option.some Jvm.ClassFile.FieldType.int) ∈ sg_T := sg_in6 229 rfl rfl
theorem kt_6_230 : Jvm.Cond.methodLink "java/lang/StringUTF16" (96 : Nat) ({ cls := "java/lang/StringUTF16", name := "checkBoundsBeginEnd", desc := "(II[B)V" } : Jvm.MethodName) ∈ sg_T := sg_in6 230 rfl rfl
theorem kt_6_231 : Jvm.Cond.static ({ cls := "java/lang/StringUTF16", name := "checkBoundsBeginEnd", desc := "(II[B)V" } : Jvm.MethodName) ∈ sg_T := sg_in6 231 rfl rfl
theorem kt_6_232 : Jvm.Cond.code ({ cls := "java/lang/StringUTF16", name := "checkBoundsBeginEnd", desc := "(II[B)V" } : Jvm.MethodName) prog_34_method_93_code (3 : Nat) (Option.none : Option Jvm.ClassFile.FieldType) ∈ sg_T := sg_in6 232 rfl rfl
theorem kt_6_233 : Jvm.Cond.methodLink "java/lang/StringUTF16" (241 : Nat) ({ cls := "java/lang/String", name := "checkBoundsBeginEnd", desc := "(III)V" } : Jvm.MethodName) ∈ sg_T := sg_in6 233 rfl rfl
theorem kt_6_234 : Jvm.Cond.static ({ cls := "java/lang/String", name := "checkBoundsBeginEnd", desc := "(III)V" } : Jvm.MethodName) ∈ sg_T := sg_in6 234 rfl rfl
theorem kt_6_235 : Jvm.Cond.code ({ cls := "java/lang/String", name := "checkBoundsBeginEnd", desc := "(III)V" } : Jvm.MethodName) prog_31_method_158_code (3 : Nat) (Option.none : Option Jvm.ClassFile.FieldType) ∈ sg_T := sg_in6 235 rfl rfl
theorem kt_6_236 : Jvm.Cond.methodLink "java/lang/String" (1062 : Nat) ({ cls := "jdk/internal/util/Preconditions", name := "checkFromToIndex", desc := "(IIILjava/util/function/BiFunction;)I" } : Jvm.MethodName) ∈ sg_T := sg_in6 236 rfl rfl
theorem kt_6_237 : Jvm.Cond.static ({ cls := "jdk/internal/util/Preconditions", name := "checkFromToIndex", desc := "(IIILjava/util/function/BiFunction;)I" } : Jvm.MethodName) ∈ sg_T := sg_in6 237 rfl rfl
theorem kt_6_238 : Jvm.Cond.code ({ cls := "jdk/internal/util/Preconditions", name := "checkFromToIndex", desc := "(IIILjava/util/function/BiFunction;)I" } : Jvm.MethodName) prog_51_method_12_code (4 : Nat) (Option.some Jvm.ClassFile.FieldType.int) ∈ sg_T := sg_in6 238 rfl rfl
theorem kt_6_239 : Jvm.Cond.methodLink "java/lang/StringUTF16" (111 : Nat) ({ cls := "java/lang/StringUTF16", name := "putChar", desc := "([BII)V" } : Jvm.MethodName) ∈ sg_T := sg_in6 239 rfl rfl
theorem kt_7_0 : Jvm.Cond.static ({ cls := "java/lang/StringUTF16", name := "putChar", desc := "([BII)V" } : Jvm.MethodName) ∈ sg_T := sg_in7 0 rfl rfl
theorem kt_7_1 : Jvm.Cond.code ({ cls := "java/lang/StringUTF16", name := "putChar", desc := "([BII)V" } : Jvm.MethodName) prog_34_method_4_code (3 : Nat) (Option.none : Option Jvm.ClassFile.FieldType) ∈ sg_T := sg_in7 1 rfl rfl
theorem kt_7_2 : Jvm.Cond.methodLink "java/lang/AbstractStringBuilder" (208 : Nat) ({ cls := "java/lang/AbstractStringBuilder", name := "putStringAt", desc := "(ILjava/lang/String;)V" } : Jvm.MethodName) ∈ sg_T := sg_in7 2 rfl rfl
theorem kt_7_4 : Jvm.Cond.instanceMethod ({ cls := "java/lang/AbstractStringBuilder", name := "putStringAt", desc := "(ILjava/lang/String;)V" } : Jvm.MethodName) ∈ sg_T := sg_in7 4 rfl rfl
theorem kt_7_5 : Jvm.Cond.code ({ cls := "java/lang/AbstractStringBuilder", name := "putStringAt", desc := "(ILjava/lang/String;)V" } : Jvm.MethodName) prog_15_method_73_code (3 : Nat) (Option.none : Option Jvm.ClassFile.FieldType) ∈ sg_T := sg_in7 5 rfl rfl
theorem kt_7_6 : Jvm.Cond.methodLink "java/lang/AbstractStringBuilder" (397 : Nat) ({ cls := "java/lang/AbstractStringBuilder", name := "inflateIfNeededFor", desc := "(Ljava/lang/String;)V" } : Jvm.MethodName) ∈ sg_T := sg_in7 6 rfl rfl
theorem kt_7_8 : Jvm.Cond.instanceMethod ({ cls := "java/lang/AbstractStringBuilder", name := "inflateIfNeededFor", desc := "(Ljava/lang/String;)V" } : Jvm.MethodName) ∈ sg_T := sg_in7 8 rfl rfl
theorem kt_7_9 : Jvm.Cond.code ({ cls := "java/lang/AbstractStringBuilder", name := "inflateIfNeededFor", desc := "(Ljava/lang/String;)V" } : Jvm.MethodName) prog_15_method_71_code (2 : Nat) (Option.none : Option Jvm.ClassFile.FieldType) ∈ sg_T := sg_in7 9 rfl rfl
theorem kt_7_10 : Jvm.Cond.methodLink "java/lang/AbstractStringBuilder" (195 : Nat) ({ cls := "java/lang/AbstractStringBuilder", name := "inflate", desc := "()V" } : Jvm.MethodName) ∈ sg_T := sg_in7 10 rfl rfl
theorem kt_7_12 : Jvm.Cond.instanceMethod ({ cls := "java/lang/AbstractStringBuilder", name := "inflate", desc := "()V" } : Jvm.MethodName) ∈ sg_T := sg_in7 12 rfl rfl
theorem kt_7_13 : Jvm.Cond.code ({ cls := "java/lang/AbstractStringBuilder", name := "inflate", desc := "()V" } : Jvm.MethodName) prog_15_method_11_code (2 : Nat) (Option.none : Option Jvm.ClassFile.FieldType) ∈ sg_T := sg_in7 13 rfl rfl
theorem kt_7_14 : Jvm.Cond.methodLink "java/lang/AbstractStringBuilder" (125 : Nat) ({ cls := "java/lang/StringLatin1", name := "inflate", desc := "([BI[BII)V" } : Jvm.MethodName) ∈ sg_T := sg_in7 14 rfl rfl
theorem kt_7_15 : Jvm.Cond.static ({ cls := "java/lang/StringLatin1", name := "inflate", desc := "([BI[BII)V" } : Jvm.MethodName) ∈ sg_T := sg_in7 15 rfl rfl
theorem kt_7_16 : Jvm.Cond.code ({ cls := "java/lang/StringLatin1", name := "inflate", desc := "([BI[BII)V" } : Jvm.MethodName) prog_33_method_50_code (5 : Nat) (Option.none : Option Jvm.ClassFile.FieldType) ∈ sg_T := sg_in7 16 rfl rfl
theorem kt_7_17 : Jvm.Cond.methodLink "java/lang/StringLatin1" (240 : Nat) ({ cls := "java/lang/StringUTF16", name := "inflate", desc := "([BI[BII)V" } : Jvm.MethodName) ∈ sg_T := sg_in7 17 rfl rfl
theorem kt_7_18 : Jvm.Cond.static ({ cls := "java/lang/StringUTF16", name := "inflate", desc := "([BI[BII)V" } : Jvm.MethodName) ∈ sg_T := sg_in7 18 rfl rfl
theorem kt_7_19 : Jvm.Cond.code ({ cls := "java/lang/StringUTF16", name := "inflate", desc := "([BI[BII)V" } : Jvm.MethodName) prog_34_method_86_code (6 : Nat) (Option.none : Option Jvm.ClassFile.FieldType) ∈ sg_T := sg_in7 19 rfl rfl
theorem kt_7_20 : Jvm.Cond.methodLink "java/lang/StringUTF16" (173 : Nat) ({ cls := "java/lang/StringUTF16", name := "checkBoundsOffCount", desc := "(II[B)V" } : Jvm.MethodName) ∈ sg_T := sg_in7 20 rfl rfl
theorem kt_7_21 : Jvm.Cond.static ({ cls := "java/lang/StringUTF16", name := "checkBoundsOffCount", desc := "(II[B)V" } : Jvm.MethodName) ∈ sg_T := sg_in7 21 rfl rfl
theorem kt_7_22 : Jvm.Cond.code ({ cls := "java/lang/StringUTF16", name := "checkBoundsOffCount", desc := "(II[B)V" } : Jvm.MethodName) prog_34_method_94_code (3 : Nat) (Option.none : Option Jvm.ClassFile.FieldType) ∈ sg_T := sg_in7 22 rfl rfl
theorem kt_7_23 : Jvm.Cond.methodLink "java/lang/StringUTF16" (419 : Nat) ({ cls := "java/lang/String", name := "checkBoundsOffCount", desc := "(III)I" } : Jvm.MethodName) ∈ sg_T := sg_in7 23 rfl rfl
theorem kt_7_24 : Jvm.Cond.static ({ cls := "java/lang/String", name := "checkBoundsOffCount", desc := "(III)I" } : Jvm.MethodName) ∈ sg_T := sg_in7 24 rfl rfl
theorem kt_7_25 : Jvm.Cond.code ({ cls := "java/lang/String", name := "checkBoundsOffCount", desc := "(III)I" } : Jvm.MethodName) prog_31_method_157_code (3 : Nat) (Option.some Jvm.ClassFile.FieldType.int) ∈ sg_T := sg_in7 25 rfl rfl
theorem kt_7_26 : Jvm.Cond.methodLink "java/lang/String" (1065 : Nat) ({ cls := "jdk/internal/util/Preconditions", name := "checkFromIndexSize", desc := "(IIILjava/util/function/BiFunction;)I" } : Jvm.MethodName) ∈ sg_T := sg_in7 26 rfl rfl
theorem kt_7_27 : Jvm.Cond.static ({ cls := "jdk/internal/util/Preconditions", name := "checkFromIndexSize", desc := "(IIILjava/util/function/BiFunction;)I" } : Jvm.MethodName) ∈ sg_T := sg_in7 27 rfl rfl
theorem kt_7_28 : Jvm.Cond.code ({ cls := "jdk/internal/util/Preconditions", name := "checkFromIndexSize", desc := "(IIILjava/util/function/BiFunction;)I" } : Jvm.MethodName) prog_51_method_13_code (4 : Nat) (Option.some Jvm.ClassFile.FieldType.int) ∈ sg_T := sg_in7 28 rfl rfl
theorem kt_7_29 : Jvm.Cond.methodLink "java/lang/AbstractStringBuilder" (399 : Nat) ({ cls := "java/lang/String", name := "getBytes", desc := "([BIB)V" } : Jvm.MethodName) ∈ sg_T := sg_in7 29 rfl rfl
theorem kt_7_30 : Jvm.Cond.instanceMethod ({ cls := "java/lang/String", name := "getBytes", desc := "([BIB)V" } : Jvm.MethodName) ∈ sg_T := sg_in7 30 rfl rfl
theorem kt_7_31 : Jvm.Cond.selects "java/lang/String" ({ cls := "java/lang/String", name := "getBytes", desc := "([BIB)V" } : Jvm.MethodName) ({ cls := "java/lang/String", name := "getBytes", desc := "([BIB)V" } : Jvm.MethodName) ∈ sg_T := sg_in7 31 rfl rfl
theorem kt_7_32 : Jvm.Cond.code ({ cls := "java/lang/String", name := "getBytes", desc := "([BIB)V" } : Jvm.MethodName) prog_31_method_147_code (4 : Nat) (Option.none : Option Jvm.ClassFile.FieldType) ∈ sg_T := sg_in7 32 rfl rfl
theorem kt_7_33 : Jvm.Cond.methodLink "java/lang/String" (212 : Nat) ({ cls := "java/lang/System", name := "arraycopy", desc := "(Ljava/lang/Object;ILjava/lang/Object;II)V" } : Jvm.MethodName) ∈ sg_T := sg_in7 33 rfl rfl
theorem kt_7_34 : Jvm.Cond.methodLink "java/lang/String" (106 : Nat) ({ cls := "java/lang/StringLatin1", name := "inflate", desc := "([BI[BII)V" } : Jvm.MethodName) ∈ sg_T := sg_in7 34 rfl rfl
theorem kt_7_35 : Jvm.Cond.methodLink "MoonlitFloorLaw" (114 : Nat) ({ cls := "java/lang/StringBuilder", name := "append", desc := "(I)Ljava/lang/StringBuilder;" } : Jvm.MethodName) ∈ sg_T := sg_in7 35 rfl rfl
theorem kt_7_36 : Jvm.Cond.instanceMethod ({ cls := "java/lang/StringBuilder", name := "append", desc := "(I)Ljava/lang/StringBuilder;" } : Jvm.MethodName) ∈ sg_T := sg_in7 36 rfl rfl
theorem kt_7_37 : Jvm.Cond.selects "java/lang/StringBuilder" ({ cls := "java/lang/StringBuilder", name := "append", desc := "(I)Ljava/lang/StringBuilder;" } : Jvm.MethodName) ({ cls := "java/lang/StringBuilder", name := "append", desc := "(I)Ljava/lang/StringBuilder;" } : Jvm.MethodName) ∈ sg_T := sg_in7 37 rfl rfl
theorem kt_7_38 : Jvm.Cond.code ({ cls := "java/lang/StringBuilder", name := "append", desc := "(I)Ljava/lang/StringBuilder;" } : Jvm.MethodName) prog_32_method_15_code (2 : Nat) (Option.some (Jvm.ClassFile.FieldType.object "java/lang/StringBuilder")) ∈ sg_T := sg_in7 38 rfl rfl
theorem kt_7_39 : Jvm.Cond.methodLink "java/lang/StringBuilder" (53 : Nat) ({ cls := "java/lang/AbstractStringBuilder", name := "append", desc := "(I)Ljava/lang/AbstractStringBuilder;" } : Jvm.MethodName) ∈ sg_T := sg_in7 39 rfl rfl
theorem kt_7_40 : Jvm.Cond.instanceMethod ({ cls := "java/lang/AbstractStringBuilder", name := "append", desc := "(I)Ljava/lang/AbstractStringBuilder;" } : Jvm.MethodName) ∈ sg_T := sg_in7 40 rfl rfl
theorem kt_7_41 : Jvm.Cond.code ({ cls := "java/lang/AbstractStringBuilder", name := "append", desc := "(I)Ljava/lang/AbstractStringBuilder;" } : Jvm.MethodName) prog_15_method_32_code (4 : Nat) (Option.some (Jvm.ClassFile.FieldType.object "java/lang/AbstractStringBuilder")) ∈ sg_T := sg_in7 41 rfl rfl
theorem kt_7_42 : Jvm.Cond.methodLink "java/lang/AbstractStringBuilder" (245 : Nat) ({ cls := "java/lang/Integer", name := "stringSize", desc := "(I)I" } : Jvm.MethodName) ∈ sg_T := sg_in7 42 rfl rfl
theorem kt_7_43 : Jvm.Cond.static ({ cls := "java/lang/Integer", name := "stringSize", desc := "(I)I" } : Jvm.MethodName) ∈ sg_T := sg_in7 43 rfl rfl
theorem kt_7_44 : Jvm.Cond.code ({ cls := "java/lang/Integer", name := "stringSize", desc := "(I)I" } : Jvm.MethodName) prog_25_method_13_code (4 : Nat) (Option.some Jvm.ClassFile.FieldType.int) ∈ sg_T := sg_in7 44 rfl rfl
theorem kt_7_45 : Jvm.Cond.methodLink "java/lang/AbstractStringBuilder" (248 : Nat) ({ cls := "java/lang/Integer", name := "getChars", desc := "(II[B)I" } : Jvm.MethodName) ∈ sg_T := sg_in7 45 rfl rfl
theorem kt_7_46 : Jvm.Cond.static ({ cls := "java/lang/Integer", name := "getChars", desc := "(II[B)I" } : Jvm.MethodName) ∈ sg_T := sg_in7 46 rfl rfl
theorem kt_7_47 : Jvm.Cond.code ({ cls := "java/lang/Integer", name := "getChars", desc := "(II[B)I" } : Jvm.MethodName) prog_25_method_12_code (7 : Nat) (Option.some Jvm.ClassFile.FieldType.int) ∈ sg_T := sg_in7 47 rfl rfl
theorem kt_7_48 : Jvm.Cond.fieldLink "java/lang/Integer" (83 : Nat) "java/lang/Integer" "DigitOnes" "[B" ∈ sg_T := sg_in7 48 rfl rfl
theorem kt_7_50 : Jvm.Cond.fieldLink "java/lang/Integer" (87 : Nat) "java/lang/Integer" "DigitTens" "[B" ∈ sg_T := sg_in7 50 rfl rfl
theorem kt_7_52 : Jvm.Cond.methodLink "java/lang/AbstractStringBuilder" (251 : Nat) ({ cls := "java/lang/StringUTF16", name := "getChars", desc := "(III[B)I" } : Jvm.MethodName) ∈ sg_T := sg_in7 52 rfl rfl
theorem kt_7_53 : Jvm.Cond.static ({ cls := "java/lang/StringUTF16", name := "getChars", desc := "(III[B)I" } : Jvm.MethodName) ∈ sg_T := sg_in7 53 rfl rfl
theorem kt_7_54 : Jvm.Cond.code ({ cls := "java/lang/StringUTF16", name := "getChars", desc := "(III[B)I" } : Jvm.MethodName) prog_34_method_77_code (5 : Nat) (Option.some Jvm.ClassFile.FieldType.int) ∈ sg_T := sg_in7 54 rfl rfl
theorem kt_7_55 : Jvm.Cond.methodLink "java/lang/StringUTF16" (393 : Nat) ({ cls := "java/lang/StringUTF16", name := "getChars", desc := "(II[B)I" } : Jvm.MethodName) ∈ sg_T := sg_in7 55 rfl rfl
theorem kt_7_56 : Jvm.Cond.static ({ cls := "java/lang/StringUTF16", name := "getChars", desc := "(II[B)I" } : Jvm.MethodName) ∈ sg_T := sg_in7 56 rfl rfl
theorem kt_7_57 : Jvm.Cond.code ({ cls := "java/lang/StringUTF16", name := "getChars", desc := "(II[B)I" } : Jvm.MethodName) prog_34_method_89_code (7 : Nat) (Option.some Jvm.ClassFile.FieldType.int) ∈ sg_T := sg_in7 57 rfl rfl
theorem kt_7_58 : Jvm.Cond.fieldLink "java/lang/StringUTF16" (403 : Nat) "java/lang/Integer" "DigitOnes" "[B" ∈ sg_T := sg_in7 58 rfl rfl
theorem kt_7_59 : Jvm.Cond.fieldLink "java/lang/StringUTF16" (407 : Nat) "java/lang/Integer" "DigitTens" "[B" ∈ sg_T := sg_in7 59 rfl rfl
theorem kt_7_60 : Jvm.Cond.methodLink "MoonlitFloorLaw" (117 : Nat) ({ cls := "java/lang/StringBuilder", name := "append", desc := "(C)Ljava/lang/StringBuilder;" } : Jvm.MethodName) ∈ sg_T := sg_in7 60 rfl rfl
theorem kt_7_61 : Jvm.Cond.instanceMethod ({ cls := "java/lang/StringBuilder", name := "append", desc := "(C)Ljava/lang/StringBuilder;" } : Jvm.MethodName) ∈ sg_T := sg_in7 61 rfl rfl
theorem kt_7_62 : Jvm.Cond.selects "java/lang/StringBuilder" ({ cls := "java/lang/StringBuilder", name := "append", desc := "(C)Ljava/lang/StringBuilder;" } : Jvm.MethodName) ({ cls := "java/lang/StringBuilder", name := "append", desc := "(C)Ljava/lang/StringBuilder;" } : Jvm.MethodName) ∈ sg_T := sg_in7 62 rfl rfl
theorem kt_7_63 : Jvm.Cond.code ({ cls := "java/lang/StringBuilder", name := "append", desc := "(C)Ljava/lang/StringBuilder;" } : Jvm.MethodName) prog_32_method_14_code (2 : Nat) (Option.some (Jvm.ClassFile.FieldType.object "java/lang/StringBuilder")) ∈ sg_T := sg_in7 63 rfl rfl
theorem kt_7_64 : Jvm.Cond.methodLink "java/lang/StringBuilder" (50 : Nat) ({ cls := "java/lang/AbstractStringBuilder", name := "append", desc := "(C)Ljava/lang/AbstractStringBuilder;" } : Jvm.MethodName) ∈ sg_T := sg_in7 64 rfl rfl
theorem kt_7_65 : Jvm.Cond.instanceMethod ({ cls := "java/lang/AbstractStringBuilder", name := "append", desc := "(C)Ljava/lang/AbstractStringBuilder;" } : Jvm.MethodName) ∈ sg_T := sg_in7 65 rfl rfl
theorem kt_7_66 : Jvm.Cond.code ({ cls := "java/lang/AbstractStringBuilder", name := "append", desc := "(C)Ljava/lang/AbstractStringBuilder;" } : Jvm.MethodName) prog_15_method_31_code (2 : Nat) (Option.some (Jvm.ClassFile.FieldType.object "java/lang/AbstractStringBuilder")) ∈ sg_T := sg_in7 66 rfl rfl
theorem kt_7_67 : Jvm.Cond.methodLink "java/lang/AbstractStringBuilder" (191 : Nat) ({ cls := "java/lang/StringLatin1", name := "canEncode", desc := "(C)Z" } : Jvm.MethodName) ∈ sg_T := sg_in7 67 rfl rfl
theorem kt_7_68 : Jvm.Cond.static ({ cls := "java/lang/StringLatin1", name := "canEncode", desc := "(C)Z" } : Jvm.MethodName) ∈ sg_T := sg_in7 68 rfl rfl
theorem kt_7_69 : Jvm.Cond.code ({ cls := "java/lang/StringLatin1", name := "canEncode", desc := "(C)Z" } : Jvm.MethodName) prog_33_method_3_code (1 : Nat) (Option.some Jvm.ClassFile.FieldType.boolean) ∈ sg_T := sg_in7 69 rfl rfl
theorem kt_7_70 : Jvm.Cond.methodLink "java/lang/AbstractStringBuilder" (197 : Nat) ({ cls := "java/lang/StringUTF16", name := "putCharSB", desc := "([BII)V" } : Jvm.MethodName) ∈ sg_T := sg_in7 70 rfl rfl
theorem kt_7_71 : Jvm.Cond.static ({ cls := "java/lang/StringUTF16", name := "putCharSB", desc := "([BII)V" } : Jvm.MethodName) ∈ sg_T := sg_in7 71 rfl rfl
theorem kt_7_72 : Jvm.Cond.code ({ cls := "java/lang/StringUTF16", name := "putCharSB", desc := "([BII)V" } : Jvm.MethodName) prog_34_method_71_code (3 : Nat) (Option.none : Option Jvm.ClassFile.FieldType) ∈ sg_T := sg_in7 72 rfl rfl
theorem kt_7_74 : Jvm.Cond.methodLink "MoonlitFloorLaw" (122 : Nat) ({ cls := "java/lang/StringBuilder", name := "append", desc := "(Ljava/lang/String;)Ljava/lang/StringBuilder;" } : Jvm.MethodName) ∈ sg_T := sg_in7 74 rfl rfl
theorem kt_7_90 : Jvm.Cond.methodLink "MoonlitFloorLaw" (155 : Nat) ({ cls := "java/util/ArrayList", name := "size", desc := "()I" } : Jvm.MethodName) ∈ sg_T := sg_in7 90 rfl rfl
theorem kt_7_91 : Jvm.Cond.instanceMethod ({ cls := "java/util/ArrayList", name := "size", desc := "()I" } : Jvm.MethodName) ∈ sg_T := sg_in7 91 rfl rfl
theorem kt_7_92 : Jvm.Cond.selects "java/util/ArrayList" ({ cls := "java/util/ArrayList", name := "size", desc := "()I" } : Jvm.MethodName) ({ cls := "java/util/ArrayList", name := "size", desc := "()I" } : Jvm.MethodName) ∈ sg_T := sg_in7 92 rfl rfl
theorem kt_7_93 : Jvm.Cond.code ({ cls := "java/util/ArrayList", name := "size", desc := "()I" } : Jvm.MethodName) prog_41_method_8_code (1 : Nat) (Option.some Jvm.ClassFile.FieldType.int) ∈ sg_T := sg_in7 93 rfl rfl
theorem kt_7_95 : Jvm.Cond.methodLink "MoonlitFloorLaw" (160 : Nat) ({ cls := "java/util/ArrayList", name := "get", desc := "(I)Ljava/lang/Object;" } : Jvm.MethodName) ∈ sg_T := sg_in7 95 rfl rfl
theorem kt_7_96 : Jvm.Cond.instanceMethod ({ cls := "java/util/ArrayList", name := "get", desc := "(I)Ljava/lang/Object;" } : Jvm.MethodName) ∈ sg_T := sg_in7 96 rfl rfl
theorem kt_7_97 : Jvm.Cond.selects "java/util/ArrayList" ({ cls := "java/util/ArrayList", name := "get", desc := "(I)Ljava/lang/Object;" } : Jvm.MethodName) ({ cls := "java/util/ArrayList", name := "get", desc := "(I)Ljava/lang/Object;" } : Jvm.MethodName) ∈ sg_T := sg_in7 97 rfl rfl
theorem kt_7_98 : Jvm.Cond.code ({ cls := "java/util/ArrayList", name := "get", desc := "(I)Ljava/lang/Object;" } : Jvm.MethodName) prog_41_method_20_code (2 : Nat) (Option.some (Jvm.ClassFile.FieldType.object "java/lang/Object")) ∈ sg_T := sg_in7 98 rfl rfl
theorem kt_7_99 : Jvm.Cond.methodLink "java/util/ArrayList" (118 : Nat) ({ cls := "java/util/Objects", name := "checkIndex", desc := "(II)I" } : Jvm.MethodName) ∈ sg_T := sg_in7 99 rfl rfl
theorem kt_7_100 : Jvm.Cond.static ({ cls := "java/util/Objects", name := "checkIndex", desc := "(II)I" } : Jvm.MethodName) ∈ sg_T := sg_in7 100 rfl rfl
theorem kt_7_101 : Jvm.Cond.code ({ cls := "java/util/Objects", name := "checkIndex", desc := "(II)I" } : Jvm.MethodName) prog_45_method_17_code (2 : Nat) (Option.some Jvm.ClassFile.FieldType.int) ∈ sg_T := sg_in7 101 rfl rfl
theorem kt_7_102 : Jvm.Cond.methodLink "java/util/Objects" (105 : Nat) ({ cls := "jdk/internal/util/Preconditions", name := "checkIndex", desc := "(IILjava/util/function/BiFunction;)I" } : Jvm.MethodName) ∈ sg_T := sg_in7 102 rfl rfl
theorem kt_7_103 : Jvm.Cond.methodLink "java/util/ArrayList" (123 : Nat) ({ cls := "java/util/ArrayList", name := "elementData", desc := "(I)Ljava/lang/Object;" } : Jvm.MethodName) ∈ sg_T := sg_in7 103 rfl rfl
theorem kt_7_104 : Jvm.Cond.instanceMethod ({ cls := "java/util/ArrayList", name := "elementData", desc := "(I)Ljava/lang/Object;" } : Jvm.MethodName) ∈ sg_T := sg_in7 104 rfl rfl
theorem kt_7_105 : Jvm.Cond.selects "java/util/ArrayList" ({ cls := "java/util/ArrayList", name := "elementData", desc := "(I)Ljava/lang/Object;" } : Jvm.MethodName) ({ cls := "java/util/ArrayList", name := "elementData", desc := "(I)Ljava/lang/Object;" } : Jvm.MethodName) ∈ sg_T := sg_in7 105 rfl rfl
theorem kt_7_106 : Jvm.Cond.code ({ cls := "java/util/ArrayList", name := "elementData", desc := "(I)Ljava/lang/Object;" } : Jvm.MethodName) prog_41_method_18_code (2 : Nat) (Option.some (Jvm.ClassFile.FieldType.object "java/lang/Object")) ∈ sg_T := sg_in7 106 rfl rfl
theorem kt_7_107 : Jvm.Cond.classLink "MoonlitFloorLaw" (164 : Nat) "[I" ∈ sg_T := sg_in7 107 rfl rfl
theorem kt_7_109 : Jvm.Cond.methodLink "MoonlitFloorLaw" (167 : Nat) ({ cls := "MoonlitFloorLaw$Floor", name := "relocate", desc := "()V" } : Jvm.MethodName) ∈ sg_T := sg_in7 109 rfl rfl
theorem kt_7_110 : Jvm.Cond.instanceMethod ({ cls := "MoonlitFloorLaw$Floor", name := "relocate", desc := "()V" } : Jvm.MethodName) ∈ sg_T := sg_in7 110 rfl rfl
theorem kt_7_111 : Jvm.Cond.selects "MoonlitFloorLaw$Floor" ({ cls := "MoonlitFloorLaw$Floor", name := "relocate", desc := "()V" } : Jvm.MethodName) ({ cls := "MoonlitFloorLaw$Floor", name := "relocate", desc := "()V" } : Jvm.MethodName) ∈ sg_T := sg_in7 111 rfl rfl
theorem kt_7_112 : Jvm.Cond.code ({ cls := "MoonlitFloorLaw$Floor", name := "relocate", desc := "()V" } : Jvm.MethodName) prog_12_method_15_code (3 : Nat) (Option.none : Option Jvm.ClassFile.FieldType) ∈ sg_T := sg_in7 112 rfl rfl
theorem kt_7_113 : Jvm.Cond.methodLink "MoonlitFloorLaw$Floor" (139 : Nat) ({ cls := "MoonlitFloorLaw$Floor", name := "shines", desc := "()Z" } : Jvm.MethodName) ∈ sg_T := sg_in7 113 rfl rfl
theorem kt_7_114 : Jvm.Cond.instanceMethod ({ cls := "MoonlitFloorLaw$Floor", name := "shines", desc := "()Z" } : Jvm.MethodName) ∈ sg_T := sg_in7 114 rfl rfl
theorem kt_7_115 : Jvm.Cond.selects "MoonlitFloorLaw$Floor" ({ cls := "MoonlitFloorLaw$Floor", name := "shines", desc := "()Z" } : Jvm.MethodName) ({ cls := "MoonlitFloorLaw$Floor", name := "shines", desc := "()Z" } : Jvm.MethodName) ∈ sg_T := sg_in7 115 rfl rfl
theorem kt_7_116 : Jvm.Cond.code ({ cls := "MoonlitFloorLaw$Floor", name := "shines", desc := "()Z" } : Jvm.MethodName) prog_12_method_5_code (3 : Nat) (Option.some Jvm.ClassFile.FieldType.boolean) ∈ sg_T := sg_in7 116 rfl rfl
theorem kt_7_117 : Jvm.Cond.methodLink "MoonlitFloorLaw$Floor" (136 : Nat) ({ cls := "MoonlitFloorLaw$Floor", name := "bright", desc := "()I" } : Jvm.MethodName) ∈ sg_T := sg_in7 117 rfl rfl
theorem kt_7_118 : Jvm.Cond.instanceMethod ({ cls := "MoonlitFloorLaw$Floor", name := "bright", desc := "()I" } : Jvm.MethodName) ∈ sg_T := sg_in7 118 rfl rfl
theorem kt_7_119 : Jvm.Cond.selects "MoonlitFloorLaw$Floor" ({ cls := "MoonlitFloorLaw$Floor", name := "bright", desc := "()I" } : Jvm.MethodName) ({ cls := "MoonlitFloorLaw$Floor", name := "bright", desc := "()I" } : Jvm.MethodName) ∈ sg_T := sg_in7 119 rfl rfl
theorem kt_7_120 : Jvm.Cond.code ({ cls := "MoonlitFloorLaw$Floor", name := "bright", desc := "()I" } : Jvm.MethodName) prog_12_method_4_code (1 : Nat) (Option.some Jvm.ClassFile.FieldType.int) ∈ sg_T := sg_in7 120 rfl rfl
theorem kt_7_121 : Jvm.Cond.methodLink "MoonlitFloorLaw$Floor" (130 : Nat) ({ cls := "java/lang/Math", name := "abs", desc := "(I)I" } : Jvm.MethodName) ∈ sg_T := sg_in7 121 rfl rfl
theorem kt_7_122 : Jvm.Cond.methodLink "MoonlitFloorLaw$Floor" (118 : Nat) ({ cls := "java/util/ArrayList", name := "size", desc := "()I" } : Jvm.MethodName) ∈ sg_T := sg_in7 122 rfl rfl
theorem kt_7_123 : Jvm.Cond.methodLink "MoonlitFloorLaw$Floor" (122 : Nat) ({ cls := "java/util/ArrayList", name := "get", desc := "(I)Ljava/lang/Object;" } : Jvm.MethodName) ∈ sg_T := sg_in7 123 rfl rfl
theorem kt_7_124 : Jvm.Cond.classLink "MoonlitFloorLaw$Floor" (114 : Nat) "[I" ∈ sg_T := sg_in7 124 rfl rfl
theorem kt_7_125 : Jvm.Cond.methodLink "MoonlitFloorLaw$Floor" (168 : Nat) ({ cls := "MoonlitFloorLaw$Floor", name := "lit", desc := "(I)Z" } : Jvm.MethodName) ∈ sg_T := sg_in7 125 rfl rfl
theorem kt_7_126 : Jvm.Cond.instanceMethod ({ cls := "MoonlitFloorLaw$Floor", name := "lit", desc := "(I)Z" } : Jvm.MethodName) ∈ sg_T := sg_in7 126 rfl rfl
theorem kt_7_127 : Jvm.Cond.selects "MoonlitFloorLaw$Floor" ({ cls := "MoonlitFloorLaw$Floor", name := "lit", desc := "(I)Z" } : Jvm.MethodName) ({ cls := "MoonlitFloorLaw$Floor", name := "lit", desc := "(I)Z" } : Jvm.MethodName) ∈ sg_T := sg_in7 127 rfl rfl
theorem kt_7_128 : Jvm.Cond.code ({ cls := "MoonlitFloorLaw$Floor", name := "lit", desc := "(I)Z" } : Jvm.MethodName) prog_12_method_6_code (2 : Nat) (Option.some Jvm.ClassFile.FieldType.boolean) ∈ sg_T := sg_in7 128 rfl rfl
theorem kt_7_129 : Jvm.Cond.methodLink "MoonlitFloorLaw$Floor" (172 : Nat) ({ cls := "MoonlitFloorLaw$Floor", name := "tiles", desc := "()I" } : Jvm.MethodName) ∈ sg_T := sg_in7 129 rfl rfl
theorem kt_7_134 : Jvm.Cond.methodLink "MoonlitFloorLaw" (178 : Nat) ({ cls := "MoonlitFloorLaw$Floor", name := "advance", desc := "(I)I" } : Jvm.MethodName) ∈ sg_T := sg_in7 134 rfl rfl
theorem kt_7_135 : Jvm.Cond.instanceMethod ({ cls := "MoonlitFloorLaw$Floor", name := "advance", desc := "(I)I" } : Jvm.MethodName) ∈ sg_T := sg_in7 135 rfl rfl
theorem kt_7_136 : Jvm.Cond.selects "MoonlitFloorLaw$Floor" ({ cls := "MoonlitFloorLaw$Floor", name := "advance", desc := "(I)I" } : Jvm.MethodName) ({ cls := "MoonlitFloorLaw$Floor", name := "advance", desc := "(I)I" } : Jvm.MethodName) ∈ sg_T := sg_in7 136 rfl rfl
theorem kt_7_137 : Jvm.Cond.code ({ cls := "MoonlitFloorLaw$Floor", name := "advance", desc := "(I)I" } : Jvm.MethodName) prog_12_method_16_code (5 : Nat) (Option.some Jvm.ClassFile.FieldType.int) ∈ sg_T := sg_in7 137 rfl rfl
theorem kt_7_138 : Jvm.Cond.methodLink "MoonlitFloorLaw$Floor" (175 : Nat) ({ cls := "MoonlitFloorLaw$Floor", name := "prowl", desc := "()V" } : Jvm.MethodName) ∈ sg_T := sg_in7 138 rfl rfl
theorem kt_7_139 : Jvm.Cond.instanceMethod ({ cls := "MoonlitFloorLaw$Floor", name := "prowl", desc := "()V" } : Jvm.MethodName) ∈ sg_T := sg_in7 139 rfl rfl
theorem kt_7_140 : Jvm.Cond.selects "MoonlitFloorLaw$Floor" ({ cls := "MoonlitFloorLaw$Floor", name := "prowl", desc := "()V" } : Jvm.MethodName) ({ cls := "MoonlitFloorLaw$Floor", name := "prowl", desc := "()V" } : Jvm.MethodName) ∈ sg_T := sg_in7 140 rfl rfl
theorem kt_7_141 : Jvm.Cond.code ({ cls := "MoonlitFloorLaw$Floor", name := "prowl", desc := "()V" } : Jvm.MethodName) prog_12_method_11_code (5 : Nat) (Option.none : Option Jvm.ClassFile.FieldType) ∈ sg_T := sg_in7 141 rfl rfl
theorem kt_7_142 : Jvm.Cond.methodLink "MoonlitFloorLaw$Floor" (147 : Nat) ({ cls := "MoonlitFloorLaw$Floor", name := "beside", desc := "(II)I" } : Jvm.MethodName) ∈ sg_T := sg_in7 142 rfl rfl
theorem kt_7_143 : Jvm.Cond.instanceMethod ({ cls := "MoonlitFloorLaw$Floor", name := "beside", desc := "(II)I" } : Jvm.MethodName) ∈ sg_T := sg_in7 143 rfl rfl
theorem kt_7_144 : Jvm.Cond.selects "MoonlitFloorLaw$Floor" ({ cls := "MoonlitFloorLaw$Floor", name := "beside", desc := "(II)I" } : Jvm.MethodName) ({ cls := "MoonlitFloorLaw$Floor", name := "beside", desc := "(II)I" } : Jvm.MethodName) ∈ sg_T := sg_in7 144 rfl rfl
theorem kt_7_145 : Jvm.Cond.code ({ cls := "MoonlitFloorLaw$Floor", name := "beside", desc := "(II)I" } : Jvm.MethodName) prog_12_method_8_code (5 : Nat) (Option.some Jvm.ClassFile.FieldType.int) ∈ sg_T := sg_in7 145 rfl rfl
theorem kt_7_146 : Jvm.Cond.methodLink "MoonlitFloorLaw$Floor" (178 : Nat) ({ cls := "MoonlitFloorLaw$Floor", name := "walk", desc := "()V" } : Jvm.MethodName) ∈ sg_T := sg_in7 146 rfl rfl
theorem kt_7_147 : Jvm.Cond.instanceMethod ({ cls := "MoonlitFloorLaw$Floor", name := "walk", desc := "()V" } : Jvm.MethodName) ∈ sg_T := sg_in7 147 rfl rfl
theorem kt_7_148 : Jvm.Cond.selects "MoonlitFloorLaw$Floor" ({ cls := "MoonlitFloorLaw$Floor", name := "walk", desc := "()V" } : Jvm.MethodName) ({ cls := "MoonlitFloorLaw$Floor", name := "walk", desc := "()V" } : Jvm.MethodName) ∈ sg_T := sg_in7 148 rfl rfl
theorem kt_7_149 : Jvm.Cond.code ({ cls := "MoonlitFloorLaw$Floor", name := "walk", desc := "()V" } : Jvm.MethodName) prog_12_method_12_code (5 : Nat) (Option.none : Option Jvm.ClassFile.FieldType) ∈ sg_T := sg_in7 149 rfl rfl
theorem kt_7_150 : Jvm.Cond.methodLink "MoonlitFloorLaw$Floor" (153 : Nat) ({ cls := "MoonlitFloorLaw$Floor", name := "steps", desc := "()I" } : Jvm.MethodName) ∈ sg_T := sg_in7 150 rfl rfl
theorem kt_7_151 : Jvm.Cond.instanceMethod ({ cls := "MoonlitFloorLaw$Floor", name := "steps", desc := "()I" } : Jvm.MethodName) ∈ sg_T := sg_in7 151 rfl rfl
theorem kt_7_152 : Jvm.Cond.selects "MoonlitFloorLaw$Floor" ({ cls := "MoonlitFloorLaw$Floor", name := "steps", desc := "()I" } : Jvm.MethodName) ({ cls := "MoonlitFloorLaw$Floor", name := "steps", desc := "()I" } : Jvm.MethodName) ∈ sg_T := sg_in7 152 rfl rfl
theorem kt_7_153 : Jvm.Cond.code ({ cls := "MoonlitFloorLaw$Floor", name := "steps", desc := "()I" } : Jvm.MethodName) prog_12_method_7_code (1 : Nat) (Option.some Jvm.ClassFile.FieldType.int) ∈ sg_T := sg_in7 153 rfl rfl
theorem kt_7_154 : Jvm.Cond.methodLink "MoonlitFloorLaw$Floor" (143 : Nat) ({ cls := "java/lang/Math", name := "min", desc := "(II)I" } : Jvm.MethodName) ∈ sg_T := sg_in7 154 rfl rfl
theorem kt_7_155 : Jvm.Cond.methodLink "MoonlitFloorLaw$Floor" (156 : Nat) ({ cls := "MoonlitFloorLaw$Floor", name := "block", desc := "()I" } : Jvm.MethodName) ∈ sg_T := sg_in7 155 rfl rfl
theorem kt_7_156 : Jvm.Cond.instanceMethod ({ cls := "MoonlitFloorLaw$Floor", name := "block", desc := "()I" } : Jvm.MethodName) ∈ sg_T := sg_in7 156 rfl rfl
theorem kt_7_157 : Jvm.Cond.selects "MoonlitFloorLaw$Floor" ({ cls := "MoonlitFloorLaw$Floor", name := "block", desc := "()I" } : Jvm.MethodName) ({ cls := "MoonlitFloorLaw$Floor", name := "block", desc := "()I" } : Jvm.MethodName) ∈ sg_T := sg_in7 157 rfl rfl
theorem kt_7_158 : Jvm.Cond.code ({ cls := "MoonlitFloorLaw$Floor", name := "block", desc := "()I" } : Jvm.MethodName) prog_12_method_10_code (2 : Nat) (Option.some Jvm.ClassFile.FieldType.int) ∈ sg_T := sg_in7 158 rfl rfl
theorem kt_7_159 : Jvm.Cond.methodLink "MoonlitFloorLaw$Floor" (150 : Nat) ({ cls := "MoonlitFloorLaw$Floor", name := "ahead", desc := "()I" } : Jvm.MethodName) ∈ sg_T := sg_in7 159 rfl rfl
theorem kt_7_160 : Jvm.Cond.instanceMethod ({ cls := "MoonlitFloorLaw$Floor", name := "ahead", desc := "()I" } : Jvm.MethodName) ∈ sg_T := sg_in7 160 rfl rfl
theorem kt_7_161 : Jvm.Cond.selects "MoonlitFloorLaw$Floor" ({ cls := "MoonlitFloorLaw$Floor", name := "ahead", desc := "()I" } : Jvm.MethodName) ({ cls := "MoonlitFloorLaw$Floor", name := "ahead", desc := "()I" } : Jvm.MethodName) ∈ sg_T := sg_in7 161 rfl rfl
theorem kt_7_162 : Jvm.Cond.code ({ cls := "MoonlitFloorLaw$Floor", name := "ahead", desc := "()I" } : Jvm.MethodName) prog_12_method_9_code (1 : Nat) (Option.some Jvm.ClassFile.FieldType.int) ∈ sg_T := sg_in7 162 rfl rfl
theorem kt_7_163 : Jvm.Cond.methodLink "MoonlitFloorLaw$Floor" (181 : Nat) ({ cls := "java/lang/Math", name := "max", desc := "(II)I" } : Jvm.MethodName) ∈ sg_T := sg_in7 163 rfl rfl
theorem kt_7_164 : Jvm.Cond.methodLink "MoonlitFloorLaw$Floor" (184 : Nat) ({ cls := "MoonlitFloorLaw$Floor", name := "dawn", desc := "()V" } : Jvm.MethodName) ∈ sg_T := sg_in7 164 rfl rfl
theorem kt_7_165 : Jvm.Cond.instanceMethod ({ cls := "MoonlitFloorLaw$Floor", name := "dawn", desc := "()V" } : Jvm.MethodName) ∈ sg_T := sg_in7 165 rfl rfl
theorem kt_7_166 : Jvm.Cond.selects "MoonlitFloorLaw$Floor" ({ cls := "MoonlitFloorLaw$Floor", name := "dawn", desc := "()V" } : Jvm.MethodName) ({ cls := "MoonlitFloorLaw$Floor", name := "dawn", desc := "()V" } : Jvm.MethodName) ∈ sg_T := sg_in7 166 rfl rfl
theorem kt_7_167 : Jvm.Cond.code ({ cls := "MoonlitFloorLaw$Floor", name := "dawn", desc := "()V" } : Jvm.MethodName) prog_12_method_14_code (3 : Nat) (Option.none : Option Jvm.ClassFile.FieldType) ∈ sg_T := sg_in7 167 rfl rfl
theorem kt_7_168 : Jvm.Cond.methodLink "MoonlitFloorLaw$Floor" (159 : Nat) ({ cls := "MoonlitFloorLaw$Floor", name := "rank", desc := "(I)I" } : Jvm.MethodName) ∈ sg_T := sg_in7 168 rfl rfl
theorem kt_7_169 : Jvm.Cond.instanceMethod ({ cls := "MoonlitFloorLaw$Floor", name := "rank", desc := "(I)I" } : Jvm.MethodName) ∈ sg_T := sg_in7 169 rfl rfl
theorem kt_7_170 : Jvm.Cond.selects "MoonlitFloorLaw$Floor" ({ cls := "MoonlitFloorLaw$Floor", name := "rank", desc := "(I)I" } : Jvm.MethodName) ({ cls := "MoonlitFloorLaw$Floor", name := "rank", desc := "(I)I" } : Jvm.MethodName) ∈ sg_T := sg_in7 170 rfl rfl
theorem kt_7_171 : Jvm.Cond.code ({ cls := "MoonlitFloorLaw$Floor", name := "rank", desc := "(I)I" } : Jvm.MethodName) prog_12_method_13_code (4 : Nat) (Option.some Jvm.ClassFile.FieldType.int) ∈ sg_T := sg_in7 171 rfl rfl
theorem kt_7_172 : Jvm.Cond.methodLink "MoonlitFloorLaw$Floor" (162 : Nat) ({ cls := "java/util/ArrayList", name := "add", desc := "(ILjava/lang/Object;)V" } : Jvm.MethodName) ∈ sg_T := sg_in7 172 rfl rfl
theorem kt_7_173 : Jvm.Cond.instanceMethod ({ cls := "java/util/ArrayList", name := "add", desc := "(ILjava/lang/Object;)V" } : Jvm.MethodName) ∈ sg_T := sg_in7 173 rfl rfl
theorem kt_7_174 : Jvm.Cond.selects "java/util/ArrayList" ({ cls := "java/util/ArrayList", name := "add", desc := "(ILjava/lang/Object;)V" } : Jvm.MethodName) ({ cls := "java/util/ArrayList", name := "add", desc := "(ILjava/lang/Object;)V" } : Jvm.MethodName) ∈ sg_T := sg_in7 174 rfl rfl
theorem kt_7_175 : Jvm.Cond.code ({ cls := "java/util/ArrayList", name := "add", desc := "(ILjava/lang/Object;)V" } : Jvm.MethodName) prog_41_method_26_code (5 : Nat) (Option.none : Option Jvm.ClassFile.FieldType) ∈ sg_T := sg_in7 175 rfl rfl
theorem kt_7_176 : Jvm.Cond.methodLink "java/util/ArrayList" (135 : Nat) ({ cls := "java/util/ArrayList", name := "rangeCheckForAdd", desc := "(I)V" } : Jvm.MethodName) ∈ sg_T := sg_in7 176 rfl rfl
theorem kt_7_178 : Jvm.Cond.instanceMethod ({ cls := "java/util/ArrayList", name := "rangeCheckForAdd", desc := "(I)V" } : Jvm.MethodName) ∈ sg_T := sg_in7 178 rfl rfl
theorem kt_7_179 : Jvm.Cond.code ({ cls := "java/util/ArrayList", name := "rangeCheckForAdd", desc := "(I)V" } : Jvm.MethodName) prog_41_method_45_code (2 : Nat) (Option.none : Option Jvm.ClassFile.FieldType) ∈ sg_T := sg_in7 179 rfl rfl
theorem kt_7_180 : Jvm.Cond.methodLink "java/util/ArrayList" (112 : Nat) ({ cls := "java/lang/System", name := "arraycopy", desc := "(Ljava/lang/Object;ILjava/lang/Object;II)V" } : Jvm.MethodName) ∈ sg_T := sg_in7 180 rfl rfl
theorem kt_7_181 : Jvm.Cond.methodLink "MoonlitFloorLaw$Floor" (165 : Nat) ({ cls := "java/util/ArrayList", name := "remove", desc := "(I)Ljava/lang/Object;" } : Jvm.MethodName) ∈ sg_T := sg_in7 181 rfl rfl
theorem kt_7_182 : Jvm.Cond.instanceMethod ({ cls := "java/util/ArrayList", name := "remove", desc := "(I)Ljava/lang/Object;" } : Jvm.MethodName) ∈ sg_T := sg_in7 182 rfl rfl
theorem kt_7_183 : Jvm.Cond.selects "java/util/ArrayList" ({ cls := "java/util/ArrayList", name := "remove", desc := "(I)Ljava/lang/Object;" } : Jvm.MethodName) ({ cls := "java/util/ArrayList", name := "remove", desc := "(I)Ljava/lang/Object;" } : Jvm.MethodName) ∈ sg_T := sg_in7 183 rfl rfl
theorem kt_7_184 : Jvm.Cond.code ({ cls := "java/util/ArrayList", name := "remove", desc := "(I)Ljava/lang/Object;" } : Jvm.MethodName) prog_41_method_29_code (4 : Nat) (Option.some (Jvm.ClassFile.FieldType.object "java/lang/Object")) ∈ sg_T := sg_in7 184 rfl rfl
theorem kt_7_185 : Jvm.Cond.methodLink "java/util/ArrayList" (144 : Nat) ({ cls := "java/util/ArrayList", name := "fastRemove", desc := "([Ljava/lang/Object;I)V" } : Jvm.MethodName) ∈ sg_T := sg_in7 185 rfl rfl
theorem kt_7_187 : Jvm.Cond.instanceMethod ({ cls := "java/util/ArrayList", name := "fastRemove", desc := "([Ljava/lang/Object;I)V" } : Jvm.MethodName) ∈ sg_T := sg_in7 187 rfl rfl
theorem kt_7_188 : Jvm.Cond.code ({ cls := "java/util/ArrayList", name := "fastRemove", desc := "([Ljava/lang/Object;I)V" } : Jvm.MethodName) prog_41_method_39_code (4 : Nat) (Option.none : Option Jvm.ClassFile.FieldType) ∈ sg_T := sg_in7 188 rfl rfl
theorem kt_7_189 : Jvm.Cond.methodLink "MoonlitFloorLaw$Floor" (187 : Nat) ({ cls := "MoonlitFloorLaw$Floor", name := "relocate", desc := "()V" } : Jvm.MethodName) ∈ sg_T := sg_in7 189 rfl rfl
theorem kt_7_190 : Jvm.Cond.methodLink "MoonlitFloorLaw" (182 : Nat) ({ cls := "java/lang/StringBuilder", name := "toString", desc := "()Ljava/lang/String;" } : Jvm.MethodName) ∈ sg_T := sg_in7 190 rfl rfl
theorem kt_7_191 : Jvm.Cond.instanceMethod ({ cls := "java/lang/StringBuilder", name := "toString", desc := "()Ljava/lang/String;" } : Jvm.MethodName) ∈ sg_T := sg_in7 191 rfl rfl
theorem kt_7_192 : Jvm.Cond.selects "java/lang/StringBuilder" ({ cls := "java/lang/StringBuilder", name := "toString", desc := "()Ljava/lang/String;" } : Jvm.MethodName) ({ cls := "java/lang/StringBuilder", name := "toString", desc := "()Ljava/lang/String;" } : Jvm.MethodName) ∈ sg_T := sg_in7 192 rfl rfl
theorem kt_7_193 : Jvm.Cond.code ({ cls := "java/lang/StringBuilder", name := "toString", desc := "()Ljava/lang/String;" } : Jvm.MethodName) prog_32_method_42_code (1 : Nat) (Option.some (Jvm.ClassFile.FieldType.object "java/lang/String")) ∈ sg_T := sg_in7 193 rfl rfl
theorem kt_7_194 : Jvm.Cond.classLink "java/lang/StringBuilder" (18 : Nat) "java/lang/String" ∈ sg_T := sg_in7 194 rfl rfl
theorem kt_7_195 : Jvm.Cond.instantiable "java/lang/String" (4 : Nat) ∈ sg_T := sg_in7 195 rfl rfl
theorem kt_7_196 : Jvm.Cond.methodLink "java/lang/StringBuilder" (137 : Nat) ({ cls := "java/lang/String", name := "<init>", desc := "(Ljava/lang/StringBuilder;)V" } : Jvm.MethodName) ∈ sg_T := sg_in7 196 rfl rfl
theorem kt_7_197 : Jvm.Cond.instanceMethod ({ cls := "java/lang/String", name := "<init>", desc := "(Ljava/lang/StringBuilder;)V" } : Jvm.MethodName) ∈ sg_T := sg_in7 197 rfl rfl
theorem kt_7_198 : Jvm.Cond.code ({ cls := "java/lang/String", name := "<init>", desc := "(Ljava/lang/StringBuilder;)V" } : Jvm.MethodName) prog_31_method_53_code (2 : Nat) (Option.none : Option Jvm.ClassFile.FieldType) ∈ sg_T := sg_in7 198 rfl rfl
theorem kt_7_199 : Jvm.Cond.methodLink "java/lang/String" (489 : Nat) ({ cls := "java/lang/String", name := "<init>", desc := "(Ljava/lang/AbstractStringBuilder;Ljava/lang/Void;)V" } : Jvm.MethodName) ∈ sg_T := sg_in7 199 rfl rfl
theorem kt_7_200 : Jvm.Cond.instanceMethod ({ cls := "java/lang/String", name := "<init>", desc := "(Ljava/lang/AbstractStringBuilder;Ljava/lang/Void;)V" } : Jvm.MethodName) ∈ sg_T := sg_in7 200 rfl rfl
theorem kt_7_201 : Jvm.Cond.code ({ cls := "java/lang/String", name := "<init>", desc := "(Ljava/lang/AbstractStringBuilder;Ljava/lang/Void;)V" } : Jvm.MethodName) prog_31_method_150_code (5 : Nat) (Option.none : Option Jvm.ClassFile.FieldType) ∈ sg_T := sg_in7 201 rfl rfl
theorem kt_7_202 : Jvm.Cond.methodLink "java/lang/String" (1 : Nat) ({ cls := "java/lang/Object", name := "<init>", desc := "()V" } : Jvm.MethodName) ∈ sg_T := sg_in7 202 rfl rfl
theorem kt_7_203 : Jvm.Cond.methodLink "java/lang/String" (552 : Nat) ({ cls := "java/lang/AbstractStringBuilder", name := "getValue", desc := "()[B" } : Jvm.MethodName) ∈ sg_T := sg_in7 203 rfl rfl
theorem kt_7_204 : Jvm.Cond.instanceMethod ({ cls := "java/lang/AbstractStringBuilder", name := "getValue", desc := "()[B" } : Jvm.MethodName) ∈ sg_T := sg_in7 204 rfl rfl
theorem kt_7_205 : Jvm.Cond.sameMethod "java/lang/AbstractStringBuilder" "java/lang/AbstractStringBuilder" "getValue" "()[B" ∈ sg_T := sg_in7 205 rfl rfl
theorem kt_7_206 : Jvm.Cond.selects "java/lang/StringBuilder" ({ cls := "java/lang/AbstractStringBuilder", name := "getValue", desc := "()[B" } : Jvm.MethodName) ({ cls := "java/lang/AbstractStringBuilder", name := "getValue", desc := "()[B" } : Jvm.MethodName) ∈ sg_T := sg_in7 206 rfl rfl
theorem kt_7_207 : Jvm.Cond.code ({ cls := "java/lang/AbstractStringBuilder", name := "getValue", desc := "()[B" } : Jvm.MethodName) prog_15_method_64_code (1 : Nat) (Option.some (Jvm.ClassFile.FieldType.array Jvm.ClassFile.FieldType.byte)) ∈ sg_T := sg_in7 207 rfl rfl
theorem kt_7_208 : Jvm.Cond.methodLink "java/lang/String" (549 : Nat) ({ cls := "java/lang/AbstractStringBuilder", name := "length", desc := "()I" } : Jvm.MethodName) ∈ sg_T := sg_in7 208 rfl rfl
theorem kt_7_209 : Jvm.Cond.instanceMethod ({ cls := "java/lang/AbstractStringBuilder", name := "length", desc := "()I" } : Jvm.MethodName) ∈ sg_T := sg_in7 209 rfl rfl
theorem kt_7_210 : Jvm.Cond.sameMethod "java/lang/AbstractStringBuilder" "java/lang/AbstractStringBuilder" "length" "()I" ∈ sg_T := sg_in7 210 rfl rfl
theorem kt_7_211 : Jvm.Cond.selects "java/lang/StringBuilder" ({ cls := "java/lang/AbstractStringBuilder", name := "length", desc := "()I" } : Jvm.MethodName) ({ cls := "java/lang/StringBuilder", name := "length", desc := "()I" } : Jvm.MethodName) ∈ sg_T := sg_in7 211 rfl rfl
theorem kt_7_212 : Jvm.Cond.instanceMethod ({ cls := "java/lang/StringBuilder", name := "length", desc := "()I" } : Jvm.MethodName) ∈ sg_T := sg_in7 212 rfl rfl
theorem kt_7_213 : Jvm.Cond.code ({ cls := "java/lang/StringBuilder", name := "length", desc := "()I" } : Jvm.MethodName) prog_32_method_93_code (1 : Nat) (Option.some Jvm.ClassFile.FieldType.int) ∈ sg_T := sg_in7 213 rfl rfl
theorem kt_7_214 : Jvm.Cond.methodLink "java/lang/StringBuilder" (343 : Nat) ({ cls := "java/lang/AbstractStringBuilder", name := "length", desc := "()I" } : Jvm.MethodName) ∈ sg_T := sg_in7 214 rfl rfl
theorem kt_7_215 : Jvm.Cond.code ({ cls := "java/lang/AbstractStringBuilder", name := "length", desc := "()I" } : Jvm.MethodName) prog_15_method_6_code (1 : Nat) (Option.some Jvm.ClassFile.FieldType.int) ∈ sg_T := sg_in7 215 rfl rfl
theorem kt_7_216 : Jvm.Cond.methodLink "java/lang/String" (1047 : Nat) ({ cls := "java/lang/AbstractStringBuilder", name := "isLatin1", desc := "()Z" } : Jvm.MethodName) ∈ sg_T := sg_in7 216 rfl rfl
theorem kt_7_217 : Jvm.Cond.methodLink "java/lang/String" (54 : Nat) ({ cls := "java/util/Arrays", name := "copyOfRange", desc := "([BII)[B" } : Jvm.MethodName) ∈ sg_T := sg_in7 217 rfl rfl
theorem kt_7_218 : Jvm.Cond.static ({ cls := "java/util/Arrays", name := "copyOfRange", desc := "([BII)[B" } : Jvm.MethodName) ∈ sg_T := sg_in7 218 rfl rfl
theorem kt_7_219 : Jvm.Cond.code ({ cls := "java/util/Arrays", name := "copyOfRange", desc := "([BII)[B" } : Jvm.MethodName) prog_42_method_132_code (3 : Nat) (Option.some (Jvm.ClassFile.FieldType.array Jvm.ClassFile.FieldType.byte)) ∈ sg_T := sg_in7 219 rfl rfl
theorem kt_7_220 : Jvm.Cond.methodLink "java/util/Arrays" (339 : Nat) ({ cls := "java/util/Arrays", name := "copyOfRangeByte", desc := "([BII)[B" } : Jvm.MethodName) ∈ sg_T := sg_in7 220 rfl rfl
theorem kt_7_221 : Jvm.Cond.static ({ cls := "java/util/Arrays", name := "copyOfRangeByte", desc := "([BII)[B" } : Jvm.MethodName) ∈ sg_T := sg_in7 221 rfl rfl
theorem kt_7_222 : Jvm.Cond.code ({ cls := "java/util/Arrays", name := "copyOfRangeByte", desc := "([BII)[B" } : Jvm.MethodName) prog_42_method_133_code (5 : Nat) (Option.some (Jvm.ClassFile.FieldType.array Jvm.ClassFile.FieldType.byte)) ∈ sg_T := sg_in7 222 rfl rfl
theorem kt_7_223 : Jvm.Cond.methodLink "java/util/Arrays" (343 : Nat) ({ cls := "java/util/Arrays", name := "checkLength", desc := "(II)V" } : Jvm.MethodName) ∈ sg_T := sg_in7 223 rfl rfl
theorem kt_7_224 : Jvm.Cond.static ({ cls := "java/util/Arrays", name := "checkLength", desc := "(II)V" } : Jvm.MethodName) ∈ sg_T := sg_in7 224 rfl rfl
theorem kt_7_225 : Jvm.Cond.code ({ cls := "java/util/Arrays", name := "checkLength", desc := "(II)V" } : Jvm.MethodName) prog_42_method_131_code (2 : Nat) (Option.none : Option Jvm.ClassFile.FieldType) ∈ sg_T := sg_in7 225 rfl rfl
theorem kt_7_226 : Jvm.Cond.methodLink "java/lang/String" (1051 : Nat) ({ cls := "java/lang/StringUTF16", name := "compress", desc := "([BII)[B" } : Jvm.MethodName) ∈ sg_T := sg_in7 226 rfl rfl
theorem kt_7_227 : Jvm.Cond.static ({ cls := "java/lang/StringUTF16", name := "compress", desc := "([BII)[B" } : Jvm.MethodName) ∈ sg_T := sg_in7 227 rfl rfl
theorem kt_7_228 : Jvm.Cond.code ({ cls := "java/lang/StringUTF16", name := "compress", desc := "([BII)[B" } : Jvm.MethodName) prog_34_method_17_code (6 : Nat) (Option.some (Jvm.ClassFile.FieldType.array Jvm.ClassFile.FieldType.byte)) ∈ sg_T := sg_in7 228 rfl rfl
theorem kt_7_229 : Jvm.Cond.methodLink "java/lang/StringUTF16" (123 : Nat) ({ cls := "java/lang/StringUTF16", name := "compress", desc := "([BI[BII)I" } : Jvm.MethodName) ∈ sg_T := sg_in7 229 rfl rfl
theorem kt_7_230 : Jvm.Cond.static ({ cls := "java/lang/StringUTF16", name := "compress", desc := "([BI[BII)I" } : Jvm.MethodName) ∈ sg_T := sg_in7 230 rfl rfl
theorem kt_7_231 : Jvm.Cond.code ({ cls := "java/lang/StringUTF16", name := "compress", desc := "([BI[BII)I" } : Jvm.MethodName) prog_34_method_22_code (7 : Nat) (Option.some Jvm.ClassFile.FieldType.int) ∈ sg_T := sg_in7 231 rfl rfl
theorem kt_7_232 : Jvm.Cond.methodLink "java/lang/StringUTF16" (126 : Nat) ({ cls := "java/util/Arrays", name := "copyOfRange", desc := "([BII)[B" } : Jvm.MethodName) ∈ sg_T := sg_in7 232 rfl rfl
theorem kt_7_233 : Jvm.Cond.methodLink "java/lang/String" (47 : Nat) ({ cls := "java/lang/StringUTF16", name := "coderFromArrayLen", desc := "([BI)B" } : Jvm.MethodName) ∈ sg_T := sg_in7 233 rfl rfl
theorem kt_7_234 : Jvm.Cond.static ({ cls := "java/lang/StringUTF16", name := "coderFromArrayLen", desc := "([BI)B" } : Jvm.MethodName) ∈ sg_T := sg_in7 234 rfl rfl
theorem kt_7_235 : Jvm.Cond.code ({ cls := "java/lang/StringUTF16", name := "coderFromArrayLen", desc := "([BI)B" } : Jvm.MethodName) prog_34_method_15_code (2 : Nat) (Option.some Jvm.ClassFile.FieldType.byte) ∈ sg_T := sg_in7 235 rfl rfl
theorem kt_7_236 : Jvm.Cond.fieldLink "java/lang/String" (9 : Nat) "java/lang/String" "value" "[B" ∈ sg_T := sg_in7 236 rfl rfl
theorem kt_7_237 : Jvm.Cond.fieldLink "java/lang/String" (15 : Nat) "java/lang/String" "coder" "B" ∈ sg_T := sg_in7 237 rfl rfl
theorem kt_7_238 : Jvm.Cond.laysFinal "java/lang/String" "java/lang/String" "value" "[B" ∈ sg_T := sg_in7 238 rfl rfl
theorem kt_7_239 : Jvm.Cond.soleField "java/lang/String" "value" ∈ sg_T := sg_in7 239 rfl rfl
theorem kt_8_0 : Jvm.Cond.laysFinal "java/lang/String" "java/lang/String" "coder" "B" ∈ sg_T := sg_in8 0 rfl rfl
theorem kt_8_1 : Jvm.Cond.soleField "java/lang/String" "coder" ∈ sg_T := sg_in8 1 rfl rfl
theorem kt_8_2 : Jvm.Cond.lays "java/lang/String" "java/lang/String" "hash" "I" ∈ sg_T := sg_in8 2 rfl rfl
theorem kt_8_3 : Jvm.Cond.soleField "java/lang/String" "hash" ∈ sg_T := sg_in8 3 rfl rfl
theorem kt_8_4 : Jvm.Cond.lays "java/lang/String" "java/lang/String" "hashIsZero" "Z" ∈ sg_T := sg_in8 4 rfl rfl
theorem kt_8_5 : Jvm.Cond.soleField "java/lang/String" "hashIsZero" ∈ sg_T := sg_in8 5 rfl rfl
theorem kt_8_6 : Jvm.Cond.superclass "java/lang/String" "java/lang/Object" ∈ sg_T := sg_in8 6 rfl rfl
theorem kt_8_7 : Jvm.Cond.methodLink "MoonlitFloorLaw" (309 : Nat) ({ cls := "MoonlitFloorLaw", name := "told", desc := "(LMoonlitFloor;[ILjava/lang/CharSequence;)I" } : Jvm.MethodName) ∈ sg_T := sg_in8 7 rfl rfl
theorem kt_8_8 : Jvm.Cond.static ({ cls := "MoonlitFloorLaw", name := "told", desc := "(LMoonlitFloor;[ILjava/lang/CharSequence;)I" } : Jvm.MethodName) ∈ sg_T := sg_in8 8 rfl rfl
theorem kt_8_9 : Jvm.Cond.code ({ cls := "MoonlitFloorLaw", name := "told", desc := "(LMoonlitFloor;[ILjava/lang/CharSequence;)I" } : Jvm.MethodName) method_10_code (4 : Nat) (Option.some Jvm.ClassFile.FieldType.int) ∈ sg_T := sg_in8 9 rfl rfl
theorem kt_8_11 : Jvm.Cond.methodLink "MoonlitFloorLaw" (186 : Nat) ({ cls := "java/lang/CharSequence", name := "length", desc := "()I" } : Jvm.MethodName) ∈ sg_T := sg_in8 11 rfl rfl
theorem kt_8_15 : Jvm.Cond.selects "java/lang/String" ({ cls := "java/lang/CharSequence", name := "length", desc := "()I" } : Jvm.MethodName) ({ cls := "java/lang/String", name := "length", desc := "()I" } : Jvm.MethodName) ∈ sg_T := sg_in8 15 rfl rfl
theorem kt_8_19 : Jvm.Cond.selects "java/lang/StringBuilder" ({ cls := "java/lang/CharSequence", name := "length", desc := "()I" } : Jvm.MethodName) ({ cls := "java/lang/StringBuilder", name := "length", desc := "()I" } : Jvm.MethodName) ∈ sg_T := sg_in8 19 rfl rfl
theorem kt_8_23 : Jvm.Cond.methodLink "MoonlitFloorLaw" (191 : Nat) ({ cls := "java/lang/CharSequence", name := "charAt", desc := "(I)C" } : Jvm.MethodName) ∈ sg_T := sg_in8 23 rfl rfl
theorem kt_8_26 : Jvm.Cond.selects "java/lang/String" ({ cls := "java/lang/CharSequence", name := "charAt", desc := "(I)C" } : Jvm.MethodName) ({ cls := "java/lang/String", name := "charAt", desc := "(I)C" } : Jvm.MethodName) ∈ sg_T := sg_in8 26 rfl rfl
theorem kt_8_29 : Jvm.Cond.selects "java/lang/StringBuilder" ({ cls := "java/lang/CharSequence", name := "charAt", desc := "(I)C" } : Jvm.MethodName) ({ cls := "java/lang/StringBuilder", name := "charAt", desc := "(I)C" } : Jvm.MethodName) ∈ sg_T := sg_in8 29 rfl rfl
theorem kt_8_31 : Jvm.Cond.instanceMethod ({ cls := "java/lang/StringBuilder", name := "charAt", desc := "(I)C" } : Jvm.MethodName) ∈ sg_T := sg_in8 31 rfl rfl
theorem kt_8_33 : Jvm.Cond.code ({ cls := "java/lang/StringBuilder", name := "charAt", desc := "(I)C" } : Jvm.MethodName) prog_32_method_88_code (2 : Nat) (Option.some Jvm.ClassFile.FieldType.char) ∈ sg_T := sg_in8 33 rfl rfl
theorem kt_8_34 : Jvm.Cond.methodLink "java/lang/StringBuilder" (329 : Nat) ({ cls := "java/lang/AbstractStringBuilder", name := "charAt", desc := "(I)C" } : Jvm.MethodName) ∈ sg_T := sg_in8 34 rfl rfl
theorem kt_8_35 : Jvm.Cond.instanceMethod ({ cls := "java/lang/AbstractStringBuilder", name := "charAt", desc := "(I)C" } : Jvm.MethodName) ∈ sg_T := sg_in8 35 rfl rfl
theorem kt_8_36 : Jvm.Cond.code ({ cls := "java/lang/AbstractStringBuilder", name := "charAt", desc := "(I)C" } : Jvm.MethodName) prog_15_method_14_code (5 : Nat) (Option.some Jvm.ClassFile.FieldType.char) ∈ sg_T := sg_in8 36 rfl rfl
theorem kt_8_37 : Jvm.Cond.methodLink "java/lang/AbstractStringBuilder" (138 : Nat) ({ cls := "java/lang/Math", name := "min", desc := "(II)I" } : Jvm.MethodName) ∈ sg_T := sg_in8 37 rfl rfl
theorem kt_8_38 : Jvm.Cond.methodLink "java/lang/AbstractStringBuilder" (144 : Nat) ({ cls := "java/lang/String", name := "checkIndex", desc := "(II)V" } : Jvm.MethodName) ∈ sg_T := sg_in8 38 rfl rfl
theorem kt_8_39 : Jvm.Cond.methodLink "java/lang/AbstractStringBuilder" (148 : Nat) ({ cls := "java/lang/StringUTF16", name := "getChar", desc := "([BI)C" } : Jvm.MethodName) ∈ sg_T := sg_in8 39 rfl rfl
theorem kt_8_40 : Jvm.Cond.methodLink "MoonlitFloorLaw" (21 : Nat) ({ cls := "MoonlitFloorLaw", name := "put", desc := "(LMoonlitFloor;[II)V" } : Jvm.MethodName) ∈ sg_T := sg_in8 40 rfl rfl
theorem kt_8_41 : Jvm.Cond.static ({ cls := "MoonlitFloorLaw", name := "put", desc := "(LMoonlitFloor;[II)V" } : Jvm.MethodName) ∈ sg_T := sg_in8 41 rfl rfl
theorem kt_8_42 : Jvm.Cond.code ({ cls := "MoonlitFloorLaw", name := "put", desc := "(LMoonlitFloor;[II)V" } : Jvm.MethodName) method_2_code (4 : Nat) (Option.none : Option Jvm.ClassFile.FieldType) ∈ sg_T := sg_in8 42 rfl rfl
theorem kt_8_43 : Jvm.Cond.methodLink "MoonlitFloorLaw" (7 : Nat) ({ cls := "MoonlitFloorLaw", name := "flush", desc := "(LMoonlitFloor;[I)V" } : Jvm.MethodName) ∈ sg_T := sg_in8 43 rfl rfl
theorem kt_8_44 : Jvm.Cond.static ({ cls := "MoonlitFloorLaw", name := "flush", desc := "(LMoonlitFloor;[I)V" } : Jvm.MethodName) ∈ sg_T := sg_in8 44 rfl rfl
theorem kt_8_45 : Jvm.Cond.code ({ cls := "MoonlitFloorLaw", name := "flush", desc := "(LMoonlitFloor;[I)V" } : Jvm.MethodName) method_3_code (3 : Nat) (Option.none : Option Jvm.ClassFile.FieldType) ∈ sg_T := sg_in8 45 rfl rfl
theorem kt_8_46 : Jvm.Cond.methodLink "MoonlitFloorLaw" (13 : Nat) ({ cls := "MoonlitFloor", name := "append", desc := "(IIIII)I" } : Jvm.MethodName) ∈ sg_T := sg_in8 46 rfl rfl
theorem kt_8_47 : Jvm.Cond.instanceMethod ({ cls := "MoonlitFloor", name := "append", desc := "(IIIII)I" } : Jvm.MethodName) ∈ sg_T := sg_in8 47 rfl rfl
theorem kt_8_48 : Jvm.Cond.selects "MoonlitFloor" ({ cls := "MoonlitFloor", name := "append", desc := "(IIIII)I" } : Jvm.MethodName) ({ cls := "MoonlitFloor", name := "append", desc := "(IIIII)I" } : Jvm.MethodName) ∈ sg_T := sg_in8 48 rfl rfl
theorem kt_8_49 : Jvm.Cond.code ({ cls := "MoonlitFloor", name := "append", desc := "(IIIII)I" } : Jvm.MethodName) prog_1_method_2_code (6 : Nat) (Option.some Jvm.ClassFile.FieldType.int) ∈ sg_T := sg_in8 49 rfl rfl
theorem kt_8_50 : Jvm.Cond.methodLink "MoonlitFloor" (54 : Nat) ({ cls := "MoonlitFloor", name := "appendWord", desc := "(I)V" } : Jvm.MethodName) ∈ sg_T := sg_in8 50 rfl rfl
theorem kt_8_52 : Jvm.Cond.instanceMethod ({ cls := "MoonlitFloor", name := "appendWord", desc := "(I)V" } : Jvm.MethodName) ∈ sg_T := sg_in8 52 rfl rfl
theorem kt_8_53 : Jvm.Cond.code ({ cls := "MoonlitFloor", name := "appendWord", desc := "(I)V" } : Jvm.MethodName) prog_1_method_3_code (3 : Nat) (Option.none : Option Jvm.ClassFile.FieldType) ∈ sg_T := sg_in8 53 rfl rfl
theorem kt_8_54 : Jvm.Cond.methodLink "MoonlitFloorLaw" (195 : Nat) ({ cls := "MoonlitFloorLaw", name := "said", desc := "(LMoonlitFloor;[I)I" } : Jvm.MethodName) ∈ sg_T := sg_in8 54 rfl rfl
theorem kt_8_55 : Jvm.Cond.static ({ cls := "MoonlitFloorLaw", name := "said", desc := "(LMoonlitFloor;[I)I" } : Jvm.MethodName) ∈ sg_T := sg_in8 55 rfl rfl
theorem kt_8_56 : Jvm.Cond.code ({ cls := "MoonlitFloorLaw", name := "said", desc := "(LMoonlitFloor;[I)I" } : Jvm.MethodName) method_5_code (3 : Nat) (Option.some Jvm.ClassFile.FieldType.int) ∈ sg_T := sg_in8 56 rfl rfl
theorem kt_8_57 : Jvm.Cond.methodLink "MoonlitFloorLaw" (323 : Nat) ({ cls := "MoonlitFloorLaw", name := "isOneRow", desc := "(LMoonlitFloor;LMoonlitFloorLaw$Floor;)Z" } : Jvm.MethodName) ∈ sg_T := sg_in8 57 rfl rfl
theorem kt_8_58 : Jvm.Cond.static ({ cls := "MoonlitFloorLaw", name := "isOneRow", desc := "(LMoonlitFloor;LMoonlitFloorLaw$Floor;)Z" } : Jvm.MethodName) ∈ sg_T := sg_in8 58 rfl rfl
theorem kt_8_59 : Jvm.Cond.code ({ cls := "MoonlitFloorLaw", name := "isOneRow", desc := "(LMoonlitFloor;LMoonlitFloorLaw$Floor;)Z" } : Jvm.MethodName) method_14_code (3 : Nat) (Option.some Jvm.ClassFile.FieldType.boolean) ∈ sg_T := sg_in8 59 rfl rfl
theorem kt_8_60 : Jvm.Cond.methodLink "MoonlitFloorLaw" (387 : Nat) ({ cls := "MoonlitFloor", name := "moonRow", desc := "()I" } : Jvm.MethodName) ∈ sg_T := sg_in8 60 rfl rfl
theorem kt_8_61 : Jvm.Cond.instanceMethod ({ cls := "MoonlitFloor", name := "moonRow", desc := "()I" } : Jvm.MethodName) ∈ sg_T := sg_in8 61 rfl rfl
theorem kt_8_62 : Jvm.Cond.selects "MoonlitFloor" ({ cls := "MoonlitFloor", name := "moonRow", desc := "()I" } : Jvm.MethodName) ({ cls := "MoonlitFloor", name := "moonRow", desc := "()I" } : Jvm.MethodName) ∈ sg_T := sg_in8 62 rfl rfl
theorem kt_8_63 : Jvm.Cond.code ({ cls := "MoonlitFloor", name := "moonRow", desc := "()I" } : Jvm.MethodName) prog_1_method_14_code (1 : Nat) (Option.some Jvm.ClassFile.FieldType.int) ∈ sg_T := sg_in8 63 rfl rfl
theorem kt_8_64 : Jvm.Cond.methodLink "MoonlitFloor" (121 : Nat) ({ cls := "MoonlitFloor$World", name := "rowInMoonlight", desc := "()I" } : Jvm.MethodName) ∈ sg_T := sg_in8 64 rfl rfl
theorem kt_8_65 : Jvm.Cond.methodLink "MoonlitFloorLaw" (343 : Nat) ({ cls := "MoonlitFloorLaw", name := "isPlaced", desc := "(LMoonlitFloor;)Z" } : Jvm.MethodName) ∈ sg_T := sg_in8 65 rfl rfl
theorem kt_8_66 : Jvm.Cond.static ({ cls := "MoonlitFloorLaw", name := "isPlaced", desc := "(LMoonlitFloor;)Z" } : Jvm.MethodName) ∈ sg_T := sg_in8 66 rfl rfl
theorem kt_8_67 : Jvm.Cond.code ({ cls := "MoonlitFloorLaw", name := "isPlaced", desc := "(LMoonlitFloor;)Z" } : Jvm.MethodName) method_15_code (1 : Nat) (Option.some Jvm.ClassFile.FieldType.boolean) ∈ sg_T := sg_in8 67 rfl rfl
theorem kt_8_68 : Jvm.Cond.methodLink "MoonlitFloorLaw" (390 : Nat) ({ cls := "MoonlitFloor", name := "moonShines", desc := "()Z" } : Jvm.MethodName) ∈ sg_T := sg_in8 68 rfl rfl
theorem kt_8_69 : Jvm.Cond.instanceMethod ({ cls := "MoonlitFloor", name := "moonShines", desc := "()Z" } : Jvm.MethodName) ∈ sg_T := sg_in8 69 rfl rfl
theorem kt_8_70 : Jvm.Cond.selects "MoonlitFloor" ({ cls := "MoonlitFloor", name := "moonShines", desc := "()Z" } : Jvm.MethodName) ({ cls := "MoonlitFloor", name := "moonShines", desc := "()Z" } : Jvm.MethodName) ∈ sg_T := sg_in8 70 rfl rfl
theorem kt_8_71 : Jvm.Cond.code ({ cls := "MoonlitFloor", name := "moonShines", desc := "()Z" } : Jvm.MethodName) prog_1_method_15_code (1 : Nat) (Option.some Jvm.ClassFile.FieldType.boolean) ∈ sg_T := sg_in8 71 rfl rfl
theorem kt_8_72 : Jvm.Cond.methodLink "MoonlitFloor" (124 : Nat) ({ cls := "MoonlitFloor$World", name := "isMoonOut", desc := "()Z" } : Jvm.MethodName) ∈ sg_T := sg_in8 72 rfl rfl
theorem kt_8_73 : Jvm.Cond.methodLink "MoonlitFloorLaw" (316 : Nat) ({ cls := "MoonlitFloorLaw", name := "sees", desc := "(LMoonlitFloor;LMoonlitFloorLaw$Floor;[J)V" } : Jvm.MethodName) ∈ sg_T := sg_in8 73 rfl rfl
theorem kt_8_74 : Jvm.Cond.static ({ cls := "MoonlitFloorLaw", name := "sees", desc := "(LMoonlitFloor;LMoonlitFloorLaw$Floor;[J)V" } : Jvm.MethodName) ∈ sg_T := sg_in8 74 rfl rfl
theorem kt_8_75 : Jvm.Cond.code ({ cls := "MoonlitFloorLaw", name := "sees", desc := "(LMoonlitFloor;LMoonlitFloorLaw$Floor;[J)V" } : Jvm.MethodName) method_16_code (4 : Nat) (Option.none : Option Jvm.ClassFile.FieldType) ∈ sg_T := sg_in8 75 rfl rfl
theorem kt_8_76 : Jvm.Cond.methodLink "MoonlitFloorLaw" (393 : Nat) ({ cls := "java/util/Arrays", name := "fill", desc := "([JJ)V" } : Jvm.MethodName) ∈ sg_T := sg_in8 76 rfl rfl
theorem kt_8_77 : Jvm.Cond.static ({ cls := "java/util/Arrays", name := "fill", desc := "([JJ)V" } : Jvm.MethodName) ∈ sg_T := sg_in8 77 rfl rfl
theorem kt_8_78 : Jvm.Cond.code ({ cls := "java/util/Arrays", name := "fill", desc := "([JJ)V" } : Jvm.MethodName) prog_42_method_101_code (5 : Nat) (Option.none : Option Jvm.ClassFile.FieldType) ∈ sg_T := sg_in8 78 rfl rfl
theorem kt_8_79 : Jvm.Cond.methodLink "MoonlitFloorLaw" (277 : Nat) ({ cls := "MoonlitFloor", name := "night", desc := "()I" } : Jvm.MethodName) ∈ sg_T := sg_in8 79 rfl rfl
theorem kt_8_80 : Jvm.Cond.instanceMethod ({ cls := "MoonlitFloor", name := "night", desc := "()I" } : Jvm.MethodName) ∈ sg_T := sg_in8 80 rfl rfl
theorem kt_8_81 : Jvm.Cond.selects "MoonlitFloor" ({ cls := "MoonlitFloor", name := "night", desc := "()I" } : Jvm.MethodName) ({ cls := "MoonlitFloor", name := "night", desc := "()I" } : Jvm.MethodName) ∈ sg_T := sg_in8 81 rfl rfl
theorem kt_8_82 : Jvm.Cond.code ({ cls := "MoonlitFloor", name := "night", desc := "()I" } : Jvm.MethodName) prog_1_method_11_code (1 : Nat) (Option.some Jvm.ClassFile.FieldType.int) ∈ sg_T := sg_in8 82 rfl rfl
theorem kt_8_83 : Jvm.Cond.methodLink "MoonlitFloorLaw" (279 : Nat) ({ cls := "MoonlitFloor", name := "minute", desc := "()I" } : Jvm.MethodName) ∈ sg_T := sg_in8 83 rfl rfl
theorem kt_8_84 : Jvm.Cond.instanceMethod ({ cls := "MoonlitFloor", name := "minute", desc := "()I" } : Jvm.MethodName) ∈ sg_T := sg_in8 84 rfl rfl
theorem kt_8_85 : Jvm.Cond.selects "MoonlitFloor" ({ cls := "MoonlitFloor", name := "minute", desc := "()I" } : Jvm.MethodName) ({ cls := "MoonlitFloor", name := "minute", desc := "()I" } : Jvm.MethodName) ∈ sg_T := sg_in8 85 rfl rfl
theorem kt_8_86 : Jvm.Cond.code ({ cls := "MoonlitFloor", name := "minute", desc := "()I" } : Jvm.MethodName) prog_1_method_12_code (1 : Nat) (Option.some Jvm.ClassFile.FieldType.int) ∈ sg_T := sg_in8 86 rfl rfl
theorem kt_8_87 : Jvm.Cond.methodLink "MoonlitFloorLaw" (251 : Nat) ({ cls := "MoonlitFloor", name := "pace", desc := "()I" } : Jvm.MethodName) ∈ sg_T := sg_in8 87 rfl rfl
theorem kt_8_88 : Jvm.Cond.instanceMethod ({ cls := "MoonlitFloor", name := "pace", desc := "()I" } : Jvm.MethodName) ∈ sg_T := sg_in8 88 rfl rfl
theorem kt_8_89 : Jvm.Cond.selects "MoonlitFloor" ({ cls := "MoonlitFloor", name := "pace", desc := "()I" } : Jvm.MethodName) ({ cls := "MoonlitFloor", name := "pace", desc := "()I" } : Jvm.MethodName) ∈ sg_T := sg_in8 89 rfl rfl
theorem kt_8_90 : Jvm.Cond.code ({ cls := "MoonlitFloor", name := "pace", desc := "()I" } : Jvm.MethodName) prog_1_method_21_code (1 : Nat) (Option.some Jvm.ClassFile.FieldType.int) ∈ sg_T := sg_in8 90 rfl rfl
theorem kt_8_91 : Jvm.Cond.methodLink "MoonlitFloorLaw" (284 : Nat) ({ cls := "MoonlitFloor", name := "catTile", desc := "()I" } : Jvm.MethodName) ∈ sg_T := sg_in8 91 rfl rfl
theorem kt_8_92 : Jvm.Cond.instanceMethod ({ cls := "MoonlitFloor", name := "catTile", desc := "()I" } : Jvm.MethodName) ∈ sg_T := sg_in8 92 rfl rfl
theorem kt_8_93 : Jvm.Cond.selects "MoonlitFloor" ({ cls := "MoonlitFloor", name := "catTile", desc := "()I" } : Jvm.MethodName) ({ cls := "MoonlitFloor", name := "catTile", desc := "()I" } : Jvm.MethodName) ∈ sg_T := sg_in8 93 rfl rfl
theorem kt_8_94 : Jvm.Cond.code ({ cls := "MoonlitFloor", name := "catTile", desc := "()I" } : Jvm.MethodName) prog_1_method_33_code (1 : Nat) (Option.some Jvm.ClassFile.FieldType.int) ∈ sg_T := sg_in8 94 rfl rfl
theorem kt_8_95 : Jvm.Cond.methodLink "MoonlitFloorLaw" (209 : Nat) ({ cls := "MoonlitFloor", name := "restRemaining", desc := "()I" } : Jvm.MethodName) ∈ sg_T := sg_in8 95 rfl rfl
theorem kt_8_96 : Jvm.Cond.instanceMethod ({ cls := "MoonlitFloor", name := "restRemaining", desc := "()I" } : Jvm.MethodName) ∈ sg_T := sg_in8 96 rfl rfl
theorem kt_8_97 : Jvm.Cond.selects "MoonlitFloor" ({ cls := "MoonlitFloor", name := "restRemaining", desc := "()I" } : Jvm.MethodName) ({ cls := "MoonlitFloor", name := "restRemaining", desc := "()I" } : Jvm.MethodName) ∈ sg_T := sg_in8 97 rfl rfl
theorem kt_8_98 : Jvm.Cond.code ({ cls := "MoonlitFloor", name := "restRemaining", desc := "()I" } : Jvm.MethodName) prog_1_method_25_code (1 : Nat) (Option.some Jvm.ClassFile.FieldType.int) ∈ sg_T := sg_in8 98 rfl rfl
theorem kt_8_99 : Jvm.Cond.methodLink "MoonlitFloorLaw" (215 : Nat) ({ cls := "MoonlitFloor", name := "stepsSincePause", desc := "()I" } : Jvm.MethodName) ∈ sg_T := sg_in8 99 rfl rfl
theorem kt_8_100 : Jvm.Cond.instanceMethod ({ cls := "MoonlitFloor", name := "stepsSincePause", desc := "()I" } : Jvm.MethodName) ∈ sg_T := sg_in8 100 rfl rfl
theorem kt_8_101 : Jvm.Cond.selects "MoonlitFloor" ({ cls := "MoonlitFloor", name := "stepsSincePause", desc := "()I" } : Jvm.MethodName) ({ cls := "MoonlitFloor", name := "stepsSincePause", desc := "()I" } : Jvm.MethodName) ∈ sg_T := sg_in8 101 rfl rfl
theorem kt_8_102 : Jvm.Cond.code ({ cls := "MoonlitFloor", name := "stepsSincePause", desc := "()I" } : Jvm.MethodName) prog_1_method_26_code (1 : Nat) (Option.some Jvm.ClassFile.FieldType.int) ∈ sg_T := sg_in8 102 rfl rfl
theorem kt_8_103 : Jvm.Cond.methodLink "MoonlitFloorLaw" (245 : Nat) ({ cls := "MoonlitFloor", name := "slideCount", desc := "()I" } : Jvm.MethodName) ∈ sg_T := sg_in8 103 rfl rfl
theorem kt_8_104 : Jvm.Cond.instanceMethod ({ cls := "MoonlitFloor", name := "slideCount", desc := "()I" } : Jvm.MethodName) ∈ sg_T := sg_in8 104 rfl rfl
theorem kt_8_105 : Jvm.Cond.selects "MoonlitFloor" ({ cls := "MoonlitFloor", name := "slideCount", desc := "()I" } : Jvm.MethodName) ({ cls := "MoonlitFloor", name := "slideCount", desc := "()I" } : Jvm.MethodName) ∈ sg_T := sg_in8 105 rfl rfl
theorem kt_8_106 : Jvm.Cond.code ({ cls := "MoonlitFloor", name := "slideCount", desc := "()I" } : Jvm.MethodName) prog_1_method_35_code (1 : Nat) (Option.some Jvm.ClassFile.FieldType.int) ∈ sg_T := sg_in8 106 rfl rfl
theorem kt_8_107 : Jvm.Cond.methodLink "MoonlitFloorLaw" (227 : Nat) ({ cls := "MoonlitFloor", name := "stepsTonight", desc := "()I" } : Jvm.MethodName) ∈ sg_T := sg_in8 107 rfl rfl
theorem kt_8_108 : Jvm.Cond.instanceMethod ({ cls := "MoonlitFloor", name := "stepsTonight", desc := "()I" } : Jvm.MethodName) ∈ sg_T := sg_in8 108 rfl rfl
theorem kt_8_109 : Jvm.Cond.selects "MoonlitFloor" ({ cls := "MoonlitFloor", name := "stepsTonight", desc := "()I" } : Jvm.MethodName) ({ cls := "MoonlitFloor", name := "stepsTonight", desc := "()I" } : Jvm.MethodName) ∈ sg_T := sg_in8 109 rfl rfl
theorem kt_8_110 : Jvm.Cond.code ({ cls := "MoonlitFloor", name := "stepsTonight", desc := "()I" } : Jvm.MethodName) prog_1_method_28_code (1 : Nat) (Option.some Jvm.ClassFile.FieldType.int) ∈ sg_T := sg_in8 110 rfl rfl
theorem kt_8_111 : Jvm.Cond.methodLink "MoonlitFloorLaw" (290 : Nat) ({ cls := "MoonlitFloor", name := "recordCount", desc := "()I" } : Jvm.MethodName) ∈ sg_T := sg_in8 111 rfl rfl
theorem kt_8_112 : Jvm.Cond.instanceMethod ({ cls := "MoonlitFloor", name := "recordCount", desc := "()I" } : Jvm.MethodName) ∈ sg_T := sg_in8 112 rfl rfl
theorem kt_8_113 : Jvm.Cond.selects "MoonlitFloor" ({ cls := "MoonlitFloor", name := "recordCount", desc := "()I" } : Jvm.MethodName) ({ cls := "MoonlitFloor", name := "recordCount", desc := "()I" } : Jvm.MethodName) ∈ sg_T := sg_in8 113 rfl rfl
theorem kt_8_114 : Jvm.Cond.code ({ cls := "MoonlitFloor", name := "recordCount", desc := "()I" } : Jvm.MethodName) prog_1_method_39_code (1 : Nat) (Option.some Jvm.ClassFile.FieldType.int) ∈ sg_T := sg_in8 114 rfl rfl
theorem kt_8_116 : Jvm.Cond.methodLink "MoonlitFloorLaw" (271 : Nat) ({ cls := "MoonlitFloor", name := "recordNight", desc := "(I)I" } : Jvm.MethodName) ∈ sg_T := sg_in8 116 rfl rfl
theorem kt_8_117 : Jvm.Cond.instanceMethod ({ cls := "MoonlitFloor", name := "recordNight", desc := "(I)I" } : Jvm.MethodName) ∈ sg_T := sg_in8 117 rfl rfl
theorem kt_8_118 : Jvm.Cond.selects "MoonlitFloor" ({ cls := "MoonlitFloor", name := "recordNight", desc := "(I)I" } : Jvm.MethodName) ({ cls := "MoonlitFloor", name := "recordNight", desc := "(I)I" } : Jvm.MethodName) ∈ sg_T := sg_in8 118 rfl rfl
theorem kt_8_119 : Jvm.Cond.code ({ cls := "MoonlitFloor", name := "recordNight", desc := "(I)I" } : Jvm.MethodName) prog_1_method_40_code (2 : Nat) (Option.some Jvm.ClassFile.FieldType.int) ∈ sg_T := sg_in8 119 rfl rfl
theorem kt_8_120 : Jvm.Cond.methodLink "MoonlitFloor" (221 : Nat) ({ cls := "MoonlitFloor", name := "requireRecord", desc := "(I)V" } : Jvm.MethodName) ∈ sg_T := sg_in8 120 rfl rfl
theorem kt_8_122 : Jvm.Cond.instanceMethod ({ cls := "MoonlitFloor", name := "requireRecord", desc := "(I)V" } : Jvm.MethodName) ∈ sg_T := sg_in8 122 rfl rfl
theorem kt_8_123 : Jvm.Cond.code ({ cls := "MoonlitFloor", name := "requireRecord", desc := "(I)V" } : Jvm.MethodName) prog_1_method_71_code (2 : Nat) (Option.none : Option Jvm.ClassFile.FieldType) ∈ sg_T := sg_in8 123 rfl rfl
theorem kt_8_125 : Jvm.Cond.methodLink "MoonlitFloorLaw" (274 : Nat) ({ cls := "MoonlitFloor", name := "recordSteps", desc := "(I)I" } : Jvm.MethodName) ∈ sg_T := sg_in8 125 rfl rfl
theorem kt_8_126 : Jvm.Cond.instanceMethod ({ cls := "MoonlitFloor", name := "recordSteps", desc := "(I)I" } : Jvm.MethodName) ∈ sg_T := sg_in8 126 rfl rfl
theorem kt_8_127 : Jvm.Cond.selects "MoonlitFloor" ({ cls := "MoonlitFloor", name := "recordSteps", desc := "(I)I" } : Jvm.MethodName) ({ cls := "MoonlitFloor", name := "recordSteps", desc := "(I)I" } : Jvm.MethodName) ∈ sg_T := sg_in8 127 rfl rfl
theorem kt_8_128 : Jvm.Cond.code ({ cls := "MoonlitFloor", name := "recordSteps", desc := "(I)I" } : Jvm.MethodName) prog_1_method_41_code (2 : Nat) (Option.some Jvm.ClassFile.FieldType.int) ∈ sg_T := sg_in8 128 rfl rfl
theorem kt_8_130 : Jvm.Cond.methodLink "MoonlitFloorLaw" (263 : Nat) ({ cls := "MoonlitFloor", name := "wear", desc := "(I)I" } : Jvm.MethodName) ∈ sg_T := sg_in8 130 rfl rfl
theorem kt_8_131 : Jvm.Cond.instanceMethod ({ cls := "MoonlitFloor", name := "wear", desc := "(I)I" } : Jvm.MethodName) ∈ sg_T := sg_in8 131 rfl rfl
theorem kt_8_132 : Jvm.Cond.selects "MoonlitFloor" ({ cls := "MoonlitFloor", name := "wear", desc := "(I)I" } : Jvm.MethodName) ({ cls := "MoonlitFloor", name := "wear", desc := "(I)I" } : Jvm.MethodName) ∈ sg_T := sg_in8 132 rfl rfl
theorem kt_8_133 : Jvm.Cond.code ({ cls := "MoonlitFloor", name := "wear", desc := "(I)I" } : Jvm.MethodName) prog_1_method_32_code (2 : Nat) (Option.some Jvm.ClassFile.FieldType.int) ∈ sg_T := sg_in8 133 rfl rfl
theorem kt_8_136 : Jvm.Cond.methodLink "MoonlitFloorLaw" (257 : Nat) ({ cls := "MoonlitFloor", name := "hasRug", desc := "(I)Z" } : Jvm.MethodName) ∈ sg_T := sg_in8 136 rfl rfl
theorem kt_8_137 : Jvm.Cond.instanceMethod ({ cls := "MoonlitFloor", name := "hasRug", desc := "(I)Z" } : Jvm.MethodName) ∈ sg_T := sg_in8 137 rfl rfl
theorem kt_8_138 : Jvm.Cond.selects "MoonlitFloor" ({ cls := "MoonlitFloor", name := "hasRug", desc := "(I)Z" } : Jvm.MethodName) ({ cls := "MoonlitFloor", name := "hasRug", desc := "(I)Z" } : Jvm.MethodName) ∈ sg_T := sg_in8 138 rfl rfl
theorem kt_8_139 : Jvm.Cond.code ({ cls := "MoonlitFloor", name := "hasRug", desc := "(I)Z" } : Jvm.MethodName) prog_1_method_34_code (2 : Nat) (Option.some Jvm.ClassFile.FieldType.boolean) ∈ sg_T := sg_in8 139 rfl rfl
theorem kt_8_140 : Jvm.Cond.methodLink "MoonlitFloorLaw" (381 : Nat) ({ cls := "java/util/Arrays", name := "equals", desc := "([J[J)Z" } : Jvm.MethodName) ∈ sg_T := sg_in8 140 rfl rfl
theorem kt_8_141 : Jvm.Cond.static ({ cls := "java/util/Arrays", name := "equals", desc := "([J[J)Z" } : Jvm.MethodName) ∈ sg_T := sg_in8 141 rfl rfl
theorem kt_8_142 : Jvm.Cond.code ({ cls := "java/util/Arrays", name := "equals", desc := "([J[J)Z" } : Jvm.MethodName) prog_42_method_81_code (3 : Nat) (Option.some Jvm.ClassFile.FieldType.boolean) ∈ sg_T := sg_in8 142 rfl rfl
theorem kt_8_143 : Jvm.Cond.methodLink "java/util/Arrays" (245 : Nat) ({ cls := "jdk/internal/util/ArraysSupport", name := "mismatch", desc := "([J[JI)I" } : Jvm.MethodName) ∈ sg_T := sg_in8 143 rfl rfl
theorem kt_8_144 : Jvm.Cond.static ({ cls := "jdk/internal/util/ArraysSupport", name := "mismatch", desc := "([J[JI)I" } : Jvm.MethodName) ∈ sg_T := sg_in8 144 rfl rfl
theorem kt_8_145 : Jvm.Cond.code ({ cls := "jdk/internal/util/ArraysSupport", name := "mismatch", desc := "([J[JI)I" } : Jvm.MethodName) prog_50_method_23_code (4 : Nat) (Option.some Jvm.ClassFile.FieldType.int) ∈ sg_T := sg_in8 145 rfl rfl
theorem kt_8_146 : Jvm.Cond.fieldLink "jdk/internal/util/ArraysSupport" (170 : Nat) "jdk/internal/misc/Unsafe" "ARRAY_LONG_BASE_OFFSET" "I" ∈ sg_T := sg_in8 146 rfl rfl
theorem kt_8_148 : Jvm.Cond.fieldLink "jdk/internal/util/ArraysSupport" (20 : Nat) "jdk/internal/util/ArraysSupport" "LOG2_ARRAY_LONG_INDEX_SCALE" "I" ∈ sg_T := sg_in8 148 rfl rfl
theorem kt_8_150 : Jvm.Cond.methodLink "jdk/internal/util/ArraysSupport" (122 : Nat) ({ cls := "jdk/internal/util/ArraysSupport", name := "vectorizedMismatch", desc := "(Ljava/lang/Object;JLjava/lang/Object;JII)I" } : Jvm.MethodName) ∈ sg_T := sg_in8 150 rfl rfl
theorem kt_8_151 : Jvm.Cond.static ({ cls := "jdk/internal/util/ArraysSupport", name := "vectorizedMismatch", desc := "(Ljava/lang/Object;JLjava/lang/Object;JII)I" } : Jvm.MethodName) ∈ sg_T := sg_in8 151 rfl rfl
theorem kt_8_152 : Jvm.Cond.code ({ cls := "jdk/internal/util/ArraysSupport", name := "vectorizedMismatch", desc := "(Ljava/lang/Object;JLjava/lang/Object;JII)I" } : Jvm.MethodName) prog_50_method_3_code (19 : Nat) (Option.some Jvm.ClassFile.FieldType.int) ∈ sg_T := sg_in8 152 rfl rfl
theorem kt_8_153 : Jvm.Cond.fieldLink "jdk/internal/util/ArraysSupport" (26 : Nat) "jdk/internal/util/ArraysSupport" "U" "Ljdk/internal/misc/Unsafe;" ∈ sg_T := sg_in8 153 rfl rfl
theorem kt_8_155 : Jvm.Cond.methodLink "jdk/internal/util/ArraysSupport" (30 : Nat) ({ cls := "jdk/internal/misc/Unsafe", name := "getLongUnaligned", desc := "(Ljava/lang/Object;J)J" } : Jvm.MethodName) ∈ sg_T := sg_in8 155 rfl rfl
theorem kt_8_156 : Jvm.Cond.instanceMethod ({ cls := "jdk/internal/misc/Unsafe", name := "getLongUnaligned", desc := "(Ljava/lang/Object;J)J" } : Jvm.MethodName) ∈ sg_T := sg_in8 156 rfl rfl
theorem kt_8_157 : Jvm.Cond.selects "jdk/internal/misc/Unsafe" ({ cls := "jdk/internal/misc/Unsafe", name := "getLongUnaligned", desc := "(Ljava/lang/Object;J)J" } : Jvm.MethodName) ({ cls := "jdk/internal/misc/Unsafe", name := "getLongUnaligned", desc := "(Ljava/lang/Object;J)J" } : Jvm.MethodName) ∈ sg_T := sg_in8 157 rfl rfl
theorem kt_8_158 : Jvm.Cond.code ({ cls := "jdk/internal/misc/Unsafe", name := "getLongUnaligned", desc := "(Ljava/lang/Object;J)J" } : Jvm.MethodName) prog_48_method_334_code (4 : Nat) (Option.some Jvm.ClassFile.FieldType.long) ∈ sg_T := sg_in8 158 rfl rfl
theorem kt_8_160 : Jvm.Cond.methodLink "jdk/internal/misc/Unsafe" (27 : Nat) ({ cls := "jdk/internal/misc/Unsafe", name := "getLong", desc := "(Ljava/lang/Object;J)J" } : Jvm.MethodName) ∈ sg_T := sg_in8 160 rfl rfl
theorem kt_8_161 : Jvm.Cond.instanceMethod ({ cls := "jdk/internal/misc/Unsafe", name := "getLong", desc := "(Ljava/lang/Object;J)J" } : Jvm.MethodName) ∈ sg_T := sg_in8 161 rfl rfl
theorem kt_8_162 : Jvm.Cond.selects "jdk/internal/misc/Unsafe" ({ cls := "jdk/internal/misc/Unsafe", name := "getLong", desc := "(Ljava/lang/Object;J)J" } : Jvm.MethodName) ({ cls := "jdk/internal/misc/Unsafe", name := "getLong", desc := "(Ljava/lang/Object;J)J" } : Jvm.MethodName) ∈ sg_T := sg_in8 162 rfl rfl
theorem kt_8_163 : Jvm.Cond.native ({ cls := "jdk/internal/misc/Unsafe", name := "getLong", desc := "(Ljava/lang/Object;J)J" } : Jvm.MethodName) ∈ sg_T := sg_in8 163 rfl rfl
theorem kt_8_165 : Jvm.Cond.methodLink "jdk/internal/misc/Unsafe" (17 : Nat) ({ cls := "jdk/internal/misc/Unsafe", name := "getInt", desc := "(Ljava/lang/Object;J)I" } : Jvm.MethodName) ∈ sg_T := sg_in8 165 rfl rfl
theorem kt_8_166 : Jvm.Cond.instanceMethod ({ cls := "jdk/internal/misc/Unsafe", name := "getInt", desc := "(Ljava/lang/Object;J)I" } : Jvm.MethodName) ∈ sg_T := sg_in8 166 rfl rfl
theorem kt_8_167 : Jvm.Cond.selects "jdk/internal/misc/Unsafe" ({ cls := "jdk/internal/misc/Unsafe", name := "getInt", desc := "(Ljava/lang/Object;J)I" } : Jvm.MethodName) ({ cls := "jdk/internal/misc/Unsafe", name := "getInt", desc := "(Ljava/lang/Object;J)I" } : Jvm.MethodName) ∈ sg_T := sg_in8 167 rfl rfl
theorem kt_8_168 : Jvm.Cond.native ({ cls := "jdk/internal/misc/Unsafe", name := "getInt", desc := "(Ljava/lang/Object;J)I" } : Jvm.MethodName) ∈ sg_T := sg_in8 168 rfl rfl
theorem kt_8_170 : Jvm.Cond.methodLink "jdk/internal/misc/Unsafe" (698 : Nat) ({ cls := "jdk/internal/misc/Unsafe", name := "makeLong", desc := "(II)J" } : Jvm.MethodName) ∈ sg_T := sg_in8 170 rfl rfl
theorem kt_8_171 : Jvm.Cond.static ({ cls := "jdk/internal/misc/Unsafe", name := "makeLong", desc := "(II)J" } : Jvm.MethodName) ∈ sg_T := sg_in8 171 rfl rfl
theorem kt_8_172 : Jvm.Cond.code ({ cls := "jdk/internal/misc/Unsafe", name := "makeLong", desc := "(II)J" } : Jvm.MethodName) prog_48_method_353_code (2 : Nat) (Option.some Jvm.ClassFile.FieldType.long) ∈ sg_T := sg_in8 172 rfl rfl
theorem kt_8_173 : Jvm.Cond.methodLink "jdk/internal/misc/Unsafe" (791 : Nat) ({ cls := "jdk/internal/misc/Unsafe", name := "toUnsignedLong", desc := "(I)J" } : Jvm.MethodName) ∈ sg_T := sg_in8 173 rfl rfl
theorem kt_8_174 : Jvm.Cond.static ({ cls := "jdk/internal/misc/Unsafe", name := "toUnsignedLong", desc := "(I)J" } : Jvm.MethodName) ∈ sg_T := sg_in8 174 rfl rfl
theorem kt_8_175 : Jvm.Cond.code ({ cls := "jdk/internal/misc/Unsafe", name := "toUnsignedLong", desc := "(I)J" } : Jvm.MethodName) prog_48_method_370_code (1 : Nat) (Option.some Jvm.ClassFile.FieldType.long) ∈ sg_T := sg_in8 175 rfl rfl
theorem kt_8_177 : Jvm.Cond.methodLink "jdk/internal/misc/Unsafe" (784 : Nat) ({ cls := "jdk/internal/misc/Unsafe", name := "pickPos", desc := "(II)I" } : Jvm.MethodName) ∈ sg_T := sg_in8 177 rfl rfl
theorem kt_8_178 : Jvm.Cond.static ({ cls := "jdk/internal/misc/Unsafe", name := "pickPos", desc := "(II)I" } : Jvm.MethodName) ∈ sg_T := sg_in8 178 rfl rfl
theorem kt_8_179 : Jvm.Cond.code ({ cls := "jdk/internal/misc/Unsafe", name := "pickPos", desc := "(II)I" } : Jvm.MethodName) prog_48_method_350_code (2 : Nat) (Option.some Jvm.ClassFile.FieldType.int) ∈ sg_T := sg_in8 179 rfl rfl
theorem kt_8_180 : Jvm.Cond.fieldLink "jdk/internal/misc/Unsafe" (351 : Nat) "jdk/internal/misc/UnsafeConstants" "BIG_ENDIAN" "Z" ∈ sg_T := sg_in8 180 rfl rfl
theorem kt_8_182 : Jvm.Cond.methodLink "jdk/internal/misc/Unsafe" (47 : Nat) ({ cls := "jdk/internal/misc/Unsafe", name := "getShort", desc := "(Ljava/lang/Object;J)S" } : Jvm.MethodName) ∈ sg_T := sg_in8 182 rfl rfl
theorem kt_8_183 : Jvm.Cond.instanceMethod ({ cls := "jdk/internal/misc/Unsafe", name := "getShort", desc := "(Ljava/lang/Object;J)S" } : Jvm.MethodName) ∈ sg_T := sg_in8 183 rfl rfl
theorem kt_8_184 : Jvm.Cond.selects "jdk/internal/misc/Unsafe" ({ cls := "jdk/internal/misc/Unsafe", name := "getShort", desc := "(Ljava/lang/Object;J)S" } : Jvm.MethodName) ({ cls := "jdk/internal/misc/Unsafe", name := "getShort", desc := "(Ljava/lang/Object;J)S" } : Jvm.MethodName) ∈ sg_T := sg_in8 184 rfl rfl
theorem kt_8_185 : Jvm.Cond.native ({ cls := "jdk/internal/misc/Unsafe", name := "getShort", desc := "(Ljava/lang/Object;J)S" } : Jvm.MethodName) ∈ sg_T := sg_in8 185 rfl rfl
theorem kt_8_188 : Jvm.Cond.methodLink "jdk/internal/misc/Unsafe" (704 : Nat) ({ cls := "jdk/internal/misc/Unsafe", name := "makeLong", desc := "(SSSS)J" } : Jvm.MethodName) ∈ sg_T := sg_in8 188 rfl rfl
theorem kt_8_189 : Jvm.Cond.static ({ cls := "jdk/internal/misc/Unsafe", name := "makeLong", desc := "(SSSS)J" } : Jvm.MethodName) ∈ sg_T := sg_in8 189 rfl rfl
theorem kt_8_190 : Jvm.Cond.code ({ cls := "jdk/internal/misc/Unsafe", name := "makeLong", desc := "(SSSS)J" } : Jvm.MethodName) prog_48_method_352_code (4 : Nat) (Option.some Jvm.ClassFile.FieldType.long) ∈ sg_T := sg_in8 190 rfl rfl
theorem kt_8_191 : Jvm.Cond.methodLink "jdk/internal/misc/Unsafe" (788 : Nat) ({ cls := "jdk/internal/misc/Unsafe", name := "toUnsignedLong", desc := "(S)J" } : Jvm.MethodName) ∈ sg_T := sg_in8 191 rfl rfl
theorem kt_8_192 : Jvm.Cond.static ({ cls := "jdk/internal/misc/Unsafe", name := "toUnsignedLong", desc := "(S)J" } : Jvm.MethodName) ∈ sg_T := sg_in8 192 rfl rfl
theorem kt_8_193 : Jvm.Cond.code ({ cls := "jdk/internal/misc/Unsafe", name := "toUnsignedLong", desc := "(S)J" } : Jvm.MethodName) prog_48_method_369_code (1 : Nat) (Option.some Jvm.ClassFile.FieldType.long) ∈ sg_T := sg_in8 193 rfl rfl
theorem kt_8_195 : Jvm.Cond.methodLink "jdk/internal/misc/Unsafe" (39 : Nat) ({ cls := "jdk/internal/misc/Unsafe", name := "getByte", desc := "(Ljava/lang/Object;J)B" } : Jvm.MethodName) ∈ sg_T := sg_in8 195 rfl rfl
theorem kt_8_196 : Jvm.Cond.instanceMethod ({ cls := "jdk/internal/misc/Unsafe", name := "getByte", desc := "(Ljava/lang/Object;J)B" } : Jvm.MethodName) ∈ sg_T := sg_in8 196 rfl rfl
theorem kt_8_197 : Jvm.Cond.selects "jdk/internal/misc/Unsafe" ({ cls := "jdk/internal/misc/Unsafe", name := "getByte", desc := "(Ljava/lang/Object;J)B" } : Jvm.MethodName) ({ cls := "jdk/internal/misc/Unsafe", name := "getByte", desc := "(Ljava/lang/Object;J)B" } : Jvm.MethodName) ∈ sg_T := sg_in8 197 rfl rfl
theorem kt_8_198 : Jvm.Cond.native ({ cls := "jdk/internal/misc/Unsafe", name := "getByte", desc := "(Ljava/lang/Object;J)B" } : Jvm.MethodName) ∈ sg_T := sg_in8 198 rfl rfl
theorem kt_8_200 : Jvm.Cond.methodLink "jdk/internal/misc/Unsafe" (709 : Nat) ({ cls := "jdk/internal/misc/Unsafe", name := "makeLong", desc := "(BBBBBBBB)J" } : Jvm.MethodName) ∈ sg_T := sg_in8 200 rfl rfl
theorem kt_8_201 : Jvm.Cond.static ({ cls := "jdk/internal/misc/Unsafe", name := "makeLong", desc := "(BBBBBBBB)J" } : Jvm.MethodName) ∈ sg_T := sg_in8 201 rfl rfl
theorem kt_8_202 : Jvm.Cond.code ({ cls := "jdk/internal/misc/Unsafe", name := "makeLong", desc := "(BBBBBBBB)J" } : Jvm.MethodName) prog_48_method_351_code (8 : Nat) (Option.some Jvm.ClassFile.FieldType.long) ∈ sg_T := sg_in8 202 rfl rfl
theorem kt_8_203 : Jvm.Cond.methodLink "jdk/internal/misc/Unsafe" (781 : Nat) ({ cls := "jdk/internal/misc/Unsafe", name := "toUnsignedLong", desc := "(B)J" } : Jvm.MethodName) ∈ sg_T := sg_in8 203 rfl rfl
theorem kt_8_204 : Jvm.Cond.static ({ cls := "jdk/internal/misc/Unsafe", name := "toUnsignedLong", desc := "(B)J" } : Jvm.MethodName) ∈ sg_T := sg_in8 204 rfl rfl
theorem kt_8_205 : Jvm.Cond.code ({ cls := "jdk/internal/misc/Unsafe", name := "toUnsignedLong", desc := "(B)J" } : Jvm.MethodName) prog_48_method_368_code (1 : Nat) (Option.some Jvm.ClassFile.FieldType.long) ∈ sg_T := sg_in8 205 rfl rfl
theorem kt_8_207 : Jvm.Cond.fieldLink "jdk/internal/util/ArraysSupport" (36 : Nat) "jdk/internal/util/ArraysSupport" "BIG_ENDIAN" "Z" ∈ sg_T := sg_in8 207 rfl rfl
theorem kt_8_209 : Jvm.Cond.methodLink "jdk/internal/util/ArraysSupport" (40 : Nat) ({ cls := "java/lang/Long", name := "numberOfLeadingZeros", desc := "(J)I" } : Jvm.MethodName) ∈ sg_T := sg_in8 209 rfl rfl
theorem kt_8_210 : Jvm.Cond.static ({ cls := "java/lang/Long", name := "numberOfLeadingZeros", desc := "(J)I" } : Jvm.MethodName) ∈ sg_T := sg_in8 210 rfl rfl
theorem kt_8_211 : Jvm.Cond.code ({ cls := "java/lang/Long", name := "numberOfLeadingZeros", desc := "(J)I" } : Jvm.MethodName) prog_27_method_48_code (3 : Nat) (Option.some Jvm.ClassFile.FieldType.int) ∈ sg_T := sg_in8 211 rfl rfl
theorem kt_8_212 : Jvm.Cond.methodLink "java/lang/Long" (308 : Nat) ({ cls := "java/lang/Integer", name := "numberOfLeadingZeros", desc := "(I)I" } : Jvm.MethodName) ∈ sg_T := sg_in8 212 rfl rfl
theorem kt_8_213 : Jvm.Cond.static ({ cls := "java/lang/Integer", name := "numberOfLeadingZeros", desc := "(I)I" } : Jvm.MethodName) ∈ sg_T := sg_in8 213 rfl rfl
theorem kt_8_214 : Jvm.Cond.code ({ cls := "java/lang/Integer", name := "numberOfLeadingZeros", desc := "(I)I" } : Jvm.MethodName) prog_25_method_47_code (2 : Nat) (Option.some Jvm.ClassFile.FieldType.int) ∈ sg_T := sg_in8 214 rfl rfl
theorem kt_8_215 : Jvm.Cond.constant "java/lang/Integer" (264 : Nat) (65536 : Int32) ∈ sg_T := sg_in8 215 rfl rfl
theorem kt_8_216 : Jvm.Cond.fieldLink "jdk/internal/util/ArraysSupport" (46 : Nat) "jdk/internal/util/ArraysSupport" "LOG2_BYTE_BIT_SIZE" "I" ∈ sg_T := sg_in8 216 rfl rfl
theorem kt_8_218 : Jvm.Cond.methodLink "jdk/internal/util/ArraysSupport" (49 : Nat) ({ cls := "java/lang/Long", name := "numberOfTrailingZeros", desc := "(J)I" } : Jvm.MethodName) ∈ sg_T := sg_in8 218 rfl rfl
theorem kt_8_219 : Jvm.Cond.static ({ cls := "java/lang/Long", name := "numberOfTrailingZeros", desc := "(J)I" } : Jvm.MethodName) ∈ sg_T := sg_in8 219 rfl rfl
theorem kt_8_220 : Jvm.Cond.code ({ cls := "java/lang/Long", name := "numberOfTrailingZeros", desc := "(J)I" } : Jvm.MethodName) prog_27_method_49_code (3 : Nat) (Option.some Jvm.ClassFile.FieldType.int) ∈ sg_T := sg_in8 220 rfl rfl
theorem kt_8_221 : Jvm.Cond.methodLink "java/lang/Long" (311 : Nat) ({ cls := "java/lang/Integer", name := "numberOfTrailingZeros", desc := "(I)I" } : Jvm.MethodName) ∈ sg_T := sg_in8 221 rfl rfl
theorem kt_8_222 : Jvm.Cond.static ({ cls := "java/lang/Integer", name := "numberOfTrailingZeros", desc := "(I)I" } : Jvm.MethodName) ∈ sg_T := sg_in8 222 rfl rfl
theorem kt_8_223 : Jvm.Cond.code ({ cls := "java/lang/Integer", name := "numberOfTrailingZeros", desc := "(I)I" } : Jvm.MethodName) prog_25_method_48_code (2 : Nat) (Option.some Jvm.ClassFile.FieldType.int) ∈ sg_T := sg_in8 223 rfl rfl
theorem kt_8_224 : Jvm.Cond.fieldLink "jdk/internal/util/ArraysSupport" (51 : Nat) "jdk/internal/util/ArraysSupport" "LOG2_ARRAY_INT_INDEX_SCALE" "I" ∈ sg_T := sg_in8 224 rfl rfl
theorem kt_8_226 : Jvm.Cond.methodLink "jdk/internal/util/ArraysSupport" (54 : Nat) ({ cls := "jdk/internal/misc/Unsafe", name := "getIntUnaligned", desc := "(Ljava/lang/Object;J)I" } : Jvm.MethodName) ∈ sg_T := sg_in8 226 rfl rfl
theorem kt_8_227 : Jvm.Cond.instanceMethod ({ cls := "jdk/internal/misc/Unsafe", name := "getIntUnaligned", desc := "(Ljava/lang/Object;J)I" } : Jvm.MethodName) ∈ sg_T := sg_in8 227 rfl rfl
theorem kt_8_228 : Jvm.Cond.selects "jdk/internal/misc/Unsafe" ({ cls := "jdk/internal/misc/Unsafe", name := "getIntUnaligned", desc := "(Ljava/lang/Object;J)I" } : Jvm.MethodName) ({ cls := "jdk/internal/misc/Unsafe", name := "getIntUnaligned", desc := "(Ljava/lang/Object;J)I" } : Jvm.MethodName) ∈ sg_T := sg_in8 228 rfl rfl
theorem kt_8_229 : Jvm.Cond.code ({ cls := "jdk/internal/misc/Unsafe", name := "getIntUnaligned", desc := "(Ljava/lang/Object;J)I" } : Jvm.MethodName) prog_48_method_336_code (4 : Nat) (Option.some Jvm.ClassFile.FieldType.int) ∈ sg_T := sg_in8 229 rfl rfl
theorem kt_8_230 : Jvm.Cond.methodLink "jdk/internal/misc/Unsafe" (719 : Nat) ({ cls := "jdk/internal/misc/Unsafe", name := "makeInt", desc := "(SS)I" } : Jvm.MethodName) ∈ sg_T := sg_in8 230 rfl rfl
theorem kt_8_231 : Jvm.Cond.static ({ cls := "jdk/internal/misc/Unsafe", name := "makeInt", desc := "(SS)I" } : Jvm.MethodName) ∈ sg_T := sg_in8 231 rfl rfl
theorem kt_8_232 : Jvm.Cond.code ({ cls := "jdk/internal/misc/Unsafe", name := "makeInt", desc := "(SS)I" } : Jvm.MethodName) prog_48_method_354_code (2 : Nat) (Option.some Jvm.ClassFile.FieldType.int) ∈ sg_T := sg_in8 232 rfl rfl
theorem kt_8_233 : Jvm.Cond.methodLink "jdk/internal/misc/Unsafe" (792 : Nat) ({ cls := "jdk/internal/misc/Unsafe", name := "toUnsignedInt", desc := "(S)I" } : Jvm.MethodName) ∈ sg_T := sg_in8 233 rfl rfl
theorem kt_8_234 : Jvm.Cond.static ({ cls := "jdk/internal/misc/Unsafe", name := "toUnsignedInt", desc := "(S)I" } : Jvm.MethodName) ∈ sg_T := sg_in8 234 rfl rfl
theorem kt_8_235 : Jvm.Cond.code ({ cls := "jdk/internal/misc/Unsafe", name := "toUnsignedInt", desc := "(S)I" } : Jvm.MethodName) prog_48_method_367_code (1 : Nat) (Option.some Jvm.ClassFile.FieldType.int) ∈ sg_T := sg_in8 235 rfl rfl
theorem kt_8_236 : Jvm.Cond.constant "jdk/internal/misc/Unsafe" (374 : Nat) (65535 : Int32) ∈ sg_T := sg_in8 236 rfl rfl
theorem kt_8_237 : Jvm.Cond.methodLink "jdk/internal/misc/Unsafe" (723 : Nat) ({ cls := "jdk/internal/misc/Unsafe", name := "makeInt", desc := "(BBBB)I" } : Jvm.MethodName) ∈ sg_T := sg_in8 237 rfl rfl
theorem kt_8_238 : Jvm.Cond.static ({ cls := "jdk/internal/misc/Unsafe", name := "makeInt", desc := "(BBBB)I" } : Jvm.MethodName) ∈ sg_T := sg_in8 238 rfl rfl
theorem kt_8_239 : Jvm.Cond.code ({ cls := "jdk/internal/misc/Unsafe", name := "makeInt", desc := "(BBBB)I" } : Jvm.MethodName) prog_48_method_355_code (4 : Nat) (Option.some Jvm.ClassFile.FieldType.int) ∈ sg_T := sg_in8 239 rfl rfl
theorem kt_9_0 : Jvm.Cond.methodLink "jdk/internal/misc/Unsafe" (796 : Nat) ({ cls := "jdk/internal/misc/Unsafe", name := "toUnsignedInt", desc := "(B)I" } : Jvm.MethodName) ∈ sg_T := sg_in9 0 rfl rfl
theorem kt_9_1 : Jvm.Cond.static ({ cls := "jdk/internal/misc/Unsafe", name := "toUnsignedInt", desc := "(B)I" } : Jvm.MethodName) ∈ sg_T := sg_in9 1 rfl rfl
theorem kt_9_2 : Jvm.Cond.code ({ cls := "jdk/internal/misc/Unsafe", name := "toUnsignedInt", desc := "(B)I" } : Jvm.MethodName) prog_48_method_366_code (1 : Nat) (Option.some Jvm.ClassFile.FieldType.int) ∈ sg_T := sg_in9 2 rfl rfl
theorem kt_9_3 : Jvm.Cond.methodLink "jdk/internal/util/ArraysSupport" (58 : Nat) ({ cls := "java/lang/Integer", name := "numberOfLeadingZeros", desc := "(I)I" } : Jvm.MethodName) ∈ sg_T := sg_in9 3 rfl rfl
theorem kt_9_4 : Jvm.Cond.methodLink "jdk/internal/util/ArraysSupport" (11 : Nat) ({ cls := "java/lang/Integer", name := "numberOfTrailingZeros", desc := "(I)I" } : Jvm.MethodName) ∈ sg_T := sg_in9 4 rfl rfl
theorem kt_9_5 : Jvm.Cond.arrayClass Jvm.ClassFile.FieldType.long ∈ sg_T := sg_in9 5 rfl rfl
theorem kt_9_6 : Jvm.Cond.sameMethod "java/lang/Throwable" "java/lang/Throwable" "fillInStackTrace" "(I)Ljava/lang/Throwable;" ∈ sg_T := sg_in9 6 rfl rfl
theorem kt_9_7 : Jvm.Cond.sameMethod "java/lang/AbstractStringBuilder" "java/lang/AbstractStringBuilder" "appendNull" "()Ljava/lang/AbstractStringBuilder;" ∈ sg_T := sg_in9 7 rfl rfl
theorem kt_9_8 : Jvm.Cond.sameMethod "java/lang/AbstractStringBuilder" "java/lang/AbstractStringBuilder" "ensureCapacityInternal" "(I)V" ∈ sg_T := sg_in9 8 rfl rfl
theorem kt_9_9 : Jvm.Cond.sameMethod "java/lang/AbstractStringBuilder" "java/lang/AbstractStringBuilder" "newCapacity" "(I)I" ∈ sg_T := sg_in9 9 rfl rfl
theorem kt_9_10 : Jvm.Cond.sameMethod "java/lang/AbstractStringBuilder" "java/lang/AbstractStringBuilder" "putStringAt" "(ILjava/lang/String;)V" ∈ sg_T := sg_in9 10 rfl rfl
theorem kt_9_11 : Jvm.Cond.sameMethod "java/lang/AbstractStringBuilder" "java/lang/AbstractStringBuilder" "inflateIfNeededFor" "(Ljava/lang/String;)V" ∈ sg_T := sg_in9 11 rfl rfl
theorem kt_9_12 : Jvm.Cond.sameMethod "java/lang/AbstractStringBuilder" "java/lang/AbstractStringBuilder" "inflate" "()V" ∈ sg_T := sg_in9 12 rfl rfl
theorem kt_9_13 : Jvm.Cond.sameMethod "java/lang/AbstractStringBuilder" "java/lang/AbstractStringBuilder" "append" "(I)Ljava/lang/AbstractStringBuilder;" ∈ sg_T := sg_in9 13 rfl rfl
theorem kt_9_14 : Jvm.Cond.sameMethod "java/lang/AbstractStringBuilder" "java/lang/AbstractStringBuilder" "append" "(C)Ljava/lang/AbstractStringBuilder;" ∈ sg_T := sg_in9 14 rfl rfl
theorem kt_9_15 : Jvm.Cond.sameMethod "java/lang/AbstractStringBuilder" "java/lang/AbstractStringBuilder" "charAt" "(I)C" ∈ sg_T := sg_in9 15 rfl rfl
theorem kt_9_34 : Jvm.Cond.sameMethod "[Ljava/lang/Object;" "java/lang/Object" "getClass" "()Ljava/lang/Class;" ∈ sg_T := sg_in9 34 rfl rfl
theorem kt_9_35 : Jvm.Cond.selects "[Ljava/lang/Object;" ({ cls := "java/lang/Object", name := "getClass", desc := "()Ljava/lang/Class;" } : Jvm.MethodName) ({ cls := "java/lang/Object", name := "getClass", desc := "()Ljava/lang/Class;" } : Jvm.MethodName) ∈ sg_T := sg_in9 35 rfl rfl
theorem kt_9_44 : Jvm.Cond.fieldLink "MoonlitFloor$Tokens" (70 : Nat) "MoonlitFloor$Sign" "text" "Ljava/lang/String;" ∈ sg_T := sg_in9 44 rfl rfl
theorem kt_9_45 : Jvm.Cond.fieldLink "MoonlitFloor$SetupReader" (158 : Nat) "MoonlitFloor$Sign" "event" "Z" ∈ sg_T := sg_in9 45 rfl rfl
theorem kt_9_46 : Jvm.Cond.fieldLink "MoonlitFloor$SetupReader" (161 : Nat) "MoonlitFloor$Sign" "setting" "Z" ∈ sg_T := sg_in9 46 rfl rfl
theorem kt_9_47 : Jvm.Cond.fieldLink "java/lang/Enum" (7 : Nat) "java/lang/Enum" "ordinal" "I" ∈ sg_T := sg_in9 47 rfl rfl
theorem kt_0_0 : Cond.selects "java/lang/Throwable" ⟨"java/lang/Throwable", "fillInStackTrace", "(I)Ljava/lang/Throwable;"⟩ ⟨"java/lang/Throwable", "fillInStackTrace", "(I)Ljava/lang/Throwable;"⟩ ∈ sg_T := sg_in0 0 rfl rfl
theorem kt_0_1 : Cond.selects "MoonlitFloor$SetupReader" ⟨"MoonlitFloor$SetupReader", "restart", "()V"⟩ ⟨"MoonlitFloor$SetupReader", "restart", "()V"⟩ ∈ sg_T := sg_in0 1 rfl rfl
theorem kt_0_2 : Cond.selects "MoonlitFloor$Tokens" ⟨"MoonlitFloor$Tokens", "add", "(LMoonlitFloor$Sign;II)V"⟩ ⟨"MoonlitFloor$Tokens", "add", "(LMoonlitFloor$Sign;II)V"⟩ ∈ sg_T := sg_in0 2 rfl rfl
theorem kt_0_3 : Cond.selects "MoonlitFloor$SetupReader" ⟨"MoonlitFloor$SetupReader", "readFloor", "()V"⟩ ⟨"MoonlitFloor$SetupReader", "readFloor", "()V"⟩ ∈ sg_T := sg_in0 3 rfl rfl
theorem kt_0_4 : Cond.selects "MoonlitFloor$SetupReader" ⟨"MoonlitFloor$SetupReader", "fail", "(I)V"⟩ ⟨"MoonlitFloor$SetupReader", "fail", "(I)V"⟩ ∈ sg_T := sg_in0 4 rfl rfl
theorem kt_0_5 : Cond.selects "MoonlitFloor$SetupReader" ⟨"MoonlitFloor$SetupReader", "takeNumber", "(II)I"⟩ ⟨"MoonlitFloor$SetupReader", "takeNumber", "(II)I"⟩ ∈ sg_T := sg_in0 5 rfl rfl
theorem kt_0_6 : Cond.selects "MoonlitFloor$SetupReader" ⟨"MoonlitFloor$SetupReader", "number", "(II)I"⟩ ⟨"MoonlitFloor$SetupReader", "number", "(II)I"⟩ ∈ sg_T := sg_in0 6 rfl rfl
theorem kt_0_7 : Cond.selects "MoonlitFloor$SetupReader" ⟨"MoonlitFloor$SetupReader", "readSeparator", "()V"⟩ ⟨"MoonlitFloor$SetupReader", "readSeparator", "()V"⟩ ∈ sg_T := sg_in0 7 rfl rfl
theorem kt_0_8 : Cond.selects "MoonlitFloor$SetupReader" ⟨"MoonlitFloor$SetupReader", "closeBracket", "()V"⟩ ⟨"MoonlitFloor$SetupReader", "closeBracket", "()V"⟩ ∈ sg_T := sg_in0 8 rfl rfl
theorem kt_0_9 : Cond.selects "MoonlitFloor$SetupReader" ⟨"MoonlitFloor$SetupReader", "finish", "()V"⟩ ⟨"MoonlitFloor$SetupReader", "finish", "()V"⟩ ∈ sg_T := sg_in0 9 rfl rfl
theorem kt_0_10 : Cond.selects "MoonlitFloor$World" ⟨"MoonlitFloor$World", "liesInMoonlight", "(I)Z"⟩ ⟨"MoonlitFloor$World", "liesInMoonlight", "(I)Z"⟩ ∈ sg_T := sg_in0 10 rfl rfl
theorem kt_0_11 : Cond.selects "MoonlitFloor$World" ⟨"MoonlitFloor$World", "settle", "(I)Z"⟩ ⟨"MoonlitFloor$World", "settle", "(I)Z"⟩ ∈ sg_T := sg_in0 11 rfl rfl
theorem kt_0_12 : Cond.selects "MoonlitFloor$SetupReader" ⟨"MoonlitFloor$SetupReader", "startsEvent", "()Z"⟩ ⟨"MoonlitFloor$SetupReader", "startsEvent", "()Z"⟩ ∈ sg_T := sg_in0 12 rfl rfl
theorem kt_0_13 : Cond.selects "MoonlitFloor$SetupReader" ⟨"MoonlitFloor$SetupReader", "readEvent", "()I"⟩ ⟨"MoonlitFloor$SetupReader", "readEvent", "()I"⟩ ∈ sg_T := sg_in0 13 rfl rfl
theorem kt_0_14 : Cond.selects "MoonlitFloor$SetupReader" ⟨"MoonlitFloor$SetupReader", "startEvents", "()V"⟩ ⟨"MoonlitFloor$SetupReader", "startEvents", "()V"⟩ ∈ sg_T := sg_in0 14 rfl rfl
theorem kt_0_15 : Cond.selects "MoonlitFloor$SetupReader" ⟨"MoonlitFloor$SetupReader", "takeMinutes", "(I)I"⟩ ⟨"MoonlitFloor$SetupReader", "takeMinutes", "(I)I"⟩ ∈ sg_T := sg_in0 15 rfl rfl
theorem kt_0_16 : Cond.selects "MoonlitFloor$SetupReader" ⟨"MoonlitFloor$SetupReader", "readSpill", "()V"⟩ ⟨"MoonlitFloor$SetupReader", "readSpill", "()V"⟩ ∈ sg_T := sg_in0 16 rfl rfl
theorem kt_0_17 : Cond.selects "MoonlitFloor$SetupReader" ⟨"MoonlitFloor$SetupReader", "readCurtains", "(I)V"⟩ ⟨"MoonlitFloor$SetupReader", "readCurtains", "(I)V"⟩ ∈ sg_T := sg_in0 17 rfl rfl
theorem kt_0_18 : Cond.selects "MoonlitFloor$SetupReader" ⟨"MoonlitFloor$SetupReader", "readCarry", "()V"⟩ ⟨"MoonlitFloor$SetupReader", "readCarry", "()V"⟩ ∈ sg_T := sg_in0 18 rfl rfl
theorem kt_0_19 : Cond.selects "MoonlitFloor$SetupReader" ⟨"MoonlitFloor$SetupReader", "readRepeat", "()V"⟩ ⟨"MoonlitFloor$SetupReader", "readRepeat", "()V"⟩ ∈ sg_T := sg_in0 19 rfl rfl
theorem kt_0_20 : Cond.selects "MoonlitFloor$SetupReader" ⟨"MoonlitFloor$SetupReader", "readTiles", "(LMoonlitFloor$Sign;)V"⟩ ⟨"MoonlitFloor$SetupReader", "readTiles", "(LMoonlitFloor$Sign;)V"⟩ ∈ sg_T := sg_in0 20 rfl rfl
theorem kt_0_21 : Cond.selects "MoonlitFloor$SetupReader" ⟨"MoonlitFloor$SetupReader", "readItem", "(LMoonlitFloor$Sign;)V"⟩ ⟨"MoonlitFloor$SetupReader", "readItem", "(LMoonlitFloor$Sign;)V"⟩ ∈ sg_T := sg_in0 21 rfl rfl
theorem kt_0_22 : Cond.selects "MoonlitFloor$SetupReader" ⟨"MoonlitFloor$SetupReader", "countWanted", "(LMoonlitFloor$Sign;III)I"⟩ ⟨"MoonlitFloor$SetupReader", "countWanted", "(LMoonlitFloor$Sign;III)I"⟩ ∈ sg_T := sg_in0 22 rfl rfl
theorem kt_0_23 : Cond.selects "MoonlitFloor$SetupReader" ⟨"MoonlitFloor$SetupReader", "isWanted", "(LMoonlitFloor$Sign;I)Z"⟩ ⟨"MoonlitFloor$SetupReader", "isWanted", "(LMoonlitFloor$Sign;I)Z"⟩ ∈ sg_T := sg_in0 23 rfl rfl
theorem kt_0_24 : Cond.selects "MoonlitFloor$SetupReader" ⟨"MoonlitFloor$SetupReader", "handleLine", "(LMoonlitFloor$Sign;III)V"⟩ ⟨"MoonlitFloor$SetupReader", "handleLine", "(LMoonlitFloor$Sign;III)V"⟩ ∈ sg_T := sg_in0 24 rfl rfl
theorem kt_0_25 : Cond.selects "MoonlitFloor$World" ⟨"MoonlitFloor$World", "moveCat", "()Z"⟩ ⟨"MoonlitFloor$World", "moveCat", "()Z"⟩ ∈ sg_T := sg_in0 25 rfl rfl
theorem kt_0_26 : Cond.selects "MoonlitFloor$World" ⟨"MoonlitFloor$World", "spillBowl", "()V"⟩ ⟨"MoonlitFloor$World", "spillBowl", "()V"⟩ ∈ sg_T := sg_in0 26 rfl rfl
theorem kt_0_27 : Cond.selects "MoonlitFloor$World" ⟨"MoonlitFloor$World", "distance", "(II)I"⟩ ⟨"MoonlitFloor$World", "distance", "(II)I"⟩ ∈ sg_T := sg_in0 27 rfl rfl
theorem kt_0_28 : Cond.selects "MoonlitFloor$World" ⟨"MoonlitFloor$World", "startle", "()V"⟩ ⟨"MoonlitFloor$World", "startle", "()V"⟩ ∈ sg_T := sg_in0 28 rfl rfl
theorem kt_0_29 : Cond.selects "MoonlitFloor$World" ⟨"MoonlitFloor$World", "walk", "(I)V"⟩ ⟨"MoonlitFloor$World", "walk", "(I)V"⟩ ∈ sg_T := sg_in0 29 rfl rfl
theorem kt_0_30 : Cond.selects "MoonlitFloor$World" ⟨"MoonlitFloor$World", "canEnter", "(I)Z"⟩ ⟨"MoonlitFloor$World", "canEnter", "(I)Z"⟩ ∈ sg_T := sg_in0 30 rfl rfl
theorem kt_0_31 : Cond.selects "MoonlitFloor$World" ⟨"MoonlitFloor$World", "slideRug", "(II)V"⟩ ⟨"MoonlitFloor$World", "slideRug", "(II)V"⟩ ∈ sg_T := sg_in0 31 rfl rfl
theorem kt_0_32 : Cond.selects "MoonlitFloor$World" ⟨"MoonlitFloor$World", "enter", "(I)V"⟩ ⟨"MoonlitFloor$World", "enter", "(I)V"⟩ ∈ sg_T := sg_in0 32 rfl rfl
theorem kt_0_33 : Cond.selects "MoonlitFloor$World" ⟨"MoonlitFloor$World", "drySpills", "()V"⟩ ⟨"MoonlitFloor$World", "drySpills", "()V"⟩ ∈ sg_T := sg_in0 33 rfl rfl
theorem kt_0_34 : Cond.selects "MoonlitFloor$World" ⟨"MoonlitFloor$World", "endNight", "()V"⟩ ⟨"MoonlitFloor$World", "endNight", "()V"⟩ ∈ sg_T := sg_in0 34 rfl rfl
theorem kt_0_35 : Cond.selects "MoonlitFloor$World" ⟨"MoonlitFloor$World", "stirCurtains", "()V"⟩ ⟨"MoonlitFloor$World", "stirCurtains", "()V"⟩ ∈ sg_T := sg_in0 35 rfl rfl
theorem kt_0_36 : Cond.selects "MoonlitFloor$SetupReader" ⟨"MoonlitFloor$SetupReader", "readSetting", "()V"⟩ ⟨"MoonlitFloor$SetupReader", "readSetting", "()V"⟩ ∈ sg_T := sg_in0 36 rfl rfl
theorem kt_0_37 : Cond.selects "MoonlitFloor$SetupReader" ⟨"MoonlitFloor$SetupReader", "readWalker", "()V"⟩ ⟨"MoonlitFloor$SetupReader", "readWalker", "()V"⟩ ∈ sg_T := sg_in0 37 rfl rfl
theorem kt_0_38 : Cond.selects "MoonlitFloor$SetupReader" ⟨"MoonlitFloor$SetupReader", "readCat", "()V"⟩ ⟨"MoonlitFloor$SetupReader", "readCat", "()V"⟩ ∈ sg_T := sg_in0 38 rfl rfl
theorem kt_0_39 : Cond.selects "MoonlitFloor$SetupReader" ⟨"MoonlitFloor$SetupReader", "readDraught", "()V"⟩ ⟨"MoonlitFloor$SetupReader", "readDraught", "()V"⟩ ∈ sg_T := sg_in0 39 rfl rfl
theorem kt_0_40 : Cond.selects "MoonlitFloor$SetupReader" ⟨"MoonlitFloor$SetupReader", "readCloud", "()V"⟩ ⟨"MoonlitFloor$SetupReader", "readCloud", "()V"⟩ ∈ sg_T := sg_in0 40 rfl rfl
theorem kt_0_41 : Cond.selects "MoonlitFloor" ⟨"MoonlitFloor", "requireSetup", "()V"⟩ ⟨"MoonlitFloor", "requireSetup", "()V"⟩ ∈ sg_T := sg_in0 41 rfl rfl
theorem kt_0_42 : Cond.selects "MoonlitFloor" ⟨"MoonlitFloor", "requireTile", "(I)V"⟩ ⟨"MoonlitFloor", "requireTile", "(I)V"⟩ ∈ sg_T := sg_in0 42 rfl rfl
theorem kt_0_43 : Cond.selects "MoonlitFloor" ⟨"MoonlitFloor", "requireColumn", "(I)V"⟩ ⟨"MoonlitFloor", "requireColumn", "(I)V"⟩ ∈ sg_T := sg_in0 43 rfl rfl
theorem kt_0_44 : Cond.selects "MoonlitFloor" ⟨"MoonlitFloor", "requireForetellable", "(I)V"⟩ ⟨"MoonlitFloor", "requireForetellable", "(I)V"⟩ ∈ sg_T := sg_in0 44 rfl rfl
theorem kt_0_45 : Cond.selects "MoonlitFloor" ⟨"MoonlitFloor", "foretellSteps", "(II)I"⟩ ⟨"MoonlitFloor", "foretellSteps", "(II)I"⟩ ∈ sg_T := sg_in0 45 rfl rfl
theorem kt_0_46 : Cond.selects "MoonlitFloor" ⟨"MoonlitFloor", "requirePace", "(I)V"⟩ ⟨"MoonlitFloor", "requirePace", "(I)V"⟩ ∈ sg_T := sg_in0 46 rfl rfl
theorem kt_0_47 : Cond.selects "MoonlitFloor" ⟨"MoonlitFloor", "requireSlot", "(I)V"⟩ ⟨"MoonlitFloor", "requireSlot", "(I)V"⟩ ∈ sg_T := sg_in0 47 rfl rfl
theorem kt_0_48 : Cond.selects "java/util/ArrayList" ⟨"java/util/ArrayList", "add", "(Ljava/lang/Object;[Ljava/lang/Object;I)V"⟩ ⟨"java/util/ArrayList", "add", "(Ljava/lang/Object;[Ljava/lang/Object;I)V"⟩ ∈ sg_T := sg_in0 48 rfl rfl
theorem kt_0_49 : Cond.selects "java/util/ArrayList" ⟨"java/util/ArrayList", "grow", "()[Ljava/lang/Object;"⟩ ⟨"java/util/ArrayList", "grow", "()[Ljava/lang/Object;"⟩ ∈ sg_T := sg_in0 49 rfl rfl
theorem kt_0_50 : Cond.selects "java/util/ArrayList" ⟨"java/util/ArrayList", "grow", "(I)[Ljava/lang/Object;"⟩ ⟨"java/util/ArrayList", "grow", "(I)[Ljava/lang/Object;"⟩ ∈ sg_T := sg_in0 50 rfl rfl
theorem kt_0_51 : Cond.selects "java/util/ArrayList" ⟨"java/util/ArrayList", "rangeCheckForAdd", "(I)V"⟩ ⟨"java/util/ArrayList", "rangeCheckForAdd", "(I)V"⟩ ∈ sg_T := sg_in0 51 rfl rfl
theorem kt_0_52 : Cond.selects "java/util/ArrayList" ⟨"java/util/ArrayList", "fastRemove", "([Ljava/lang/Object;I)V"⟩ ⟨"java/util/ArrayList", "fastRemove", "([Ljava/lang/Object;I)V"⟩ ∈ sg_T := sg_in0 52 rfl rfl
theorem kt_0_53 : Cond.selects "MoonlitFloor" ⟨"MoonlitFloor", "appendWord", "(I)V"⟩ ⟨"MoonlitFloor", "appendWord", "(I)V"⟩ ∈ sg_T := sg_in0 53 rfl rfl
theorem kt_0_54 : Cond.selects "MoonlitFloor" ⟨"MoonlitFloor", "requireRecord", "(I)V"⟩ ⟨"MoonlitFloor", "requireRecord", "(I)V"⟩ ∈ sg_T := sg_in0 54 rfl rfl
end
section
/-! THE ABSTRACT MACHINE (am_): the same bytecode over a heap of numbers whose shape is known ahead. A cell's name (AA): cell j of the i-th World, the x-th Sign, a number (the class's other cells by the order of their making; from 1000 on what is constant), or a cell of kind k that the law makes as its i-th. -/
abbrev AA : Type := (Fin 12 × Nat) ⊕ (Fin 37 ⊕ (Nat ⊕ (Nat × Nat)))
abbrev AV : Type := Value ⊕ AA
/-- the law's cells: longs, how many, kinds, lengths -/
abbrev AD : Type := (Nat → Nat → Int64) × Nat × (Nat → Nat) × (Nat → Nat)
/-- numbers, references, a long (no use), the law's cells, a number (no use), cells and elements made, the script's length, the class's next cell to be made (none: all made) -/
abbrev AH : Type := (AA → Nat → Int32) × (AA → Nat → AV) × Int64 × AD × Nat × Nat × Nat × Nat × Option Nat
/-- an instruction: its place, itself, its length, where it jumps -/
abbrev CI : Type := Nat × Instr × Nat × Nat
/-- a method: its class's number, its locals, its code, its handlers (from, to, target, the local that takes the exception, class) -/
abbrev MR : Type := Nat × Nat × List CI × List (Nat × Nat × Nat × Nat × Nat)
abbrev AL : Type := List (Option AV)
abbrev AO : Type := (Option AV) ⊕ Nat
/-- the classes that are thrown -/
def am_xs : Nat → String
  | 0 => "java/lang/IllegalStateException"
  | 1 => "java/lang/IndexOutOfBoundsException"
  | _ => "java/lang/IllegalArgumentException"
abbrev AR : Type := Option (AO × AH)
abbrev vi (x : Int32) : AV := Sum.inl (Value.int x)
abbrev za (n : Nat) : AA := Sum.inr (Sum.inr (Sum.inl n))
abbrev da (k i : Nat) : AA := Sum.inr (Sum.inr (Sum.inr (k, i)))
abbrev dr (k i : Nat) : AV := Sum.inr (da k i)
abbrev zr (n : Nat) : AV := Sum.inr (za n)
abbrev wa (i : Fin 12) (j : Nat) : AA := Sum.inl (i, j)
abbrev wr (i : Fin 12) : AV := Sum.inr (wa i 0)
abbrev ga (x : Fin 37) : AA := Sum.inr (Sum.inl x)
abbrev gr' (x : Fin 37) : AV := Sum.inr (ga x)
abbrev AH.i (h : AH) : AA → Nat → Int32 := h.1
abbrev AH.r (h : AH) : AA → Nat → AV := h.2.1
abbrev AH.dy (h : AH) : AD := h.2.2.2.1
abbrev AH.lg (h : AH) : Nat → Nat → Int64 := h.2.2.2.1.1
abbrev AH.nd (h : AH) : Nat := h.2.2.2.1.2.1
abbrev AH.dk (h : AH) : Nat → Nat := h.2.2.2.1.2.2.1
abbrev AH.dl (h : AH) : Nat → Nat := h.2.2.2.1.2.2.2
abbrev AH.cp (h : AH) : Nat := h.2.2.2.2.1
abbrev AH.nc (h : AH) : Nat := h.2.2.2.2.2.1
abbrev AH.ns (h : AH) : Nat := h.2.2.2.2.2.2.1
abbrev AH.sl (h : AH) : Nat := h.2.2.2.2.2.2.2.1
abbrev AH.nx (h : AH) : Option Nat := h.2.2.2.2.2.2.2.2
def am_u {α : Type} (f : AA → Nat → α) (a : AA) (k : Nat) (v : α) : AA → Nat → α := fun b j => if j = k then (if b = a then v else f b j) else f b j
def am_cpy (f : AA → Nat → Int32) (src dst : AA) (sp dp n : Nat) : AA → Nat → Int32 := fun b j => if b = dst ∧ dp ≤ j ∧ j < dp + n then f src (sp + (j - dp)) else f b j
def am_lk {α : Type} (n : Nat) : List (Nat × α) → Option α
  | [] => none
  | e :: t => bif Nat.beq n e.1 then some e.2 else am_lk n t
def am_jmp (n : Nat) : List CI → List CI
  | [] => []
  | e :: t => bif Nat.beq n e.1 then e :: t else am_jmp n t
/-- the cells of a World: class or kind of array, fields or length -/
def am_tw : List (Nat × Nat × Nat) := [(0, 10, 14), (1, 5, 13), (2, 100, 10), (3, 100, 4), (4, 100, 4), (5, 100, 30), (6, 9, 9), (7, 6, 3), (8, 100, 10), (9, 100, 10), (10, 100, 10), (11, 100, 80), (12, 100, 80), (13, 100, 80), (14, 100, 80)]
def am_tz : List (Nat × Nat × Nat) := [(0, 11, 8), (1, 100, 500), (2, 1, 4), (3, 101, 16), (34, 7, 11), (35, 8, 5), (36, 106, 501), (37, 100, 501), (38, 100, 501), (39, 100, 3), (40, 100, 3), (41, 4, 5), (42, 105, 8), (43, 105, 2), (44, 100, 2)]
/-- which cell is made as the n-th -/
def am_lay (n : Nat) : AA := if 4 ≤ n ∧ n < 34 then wa (Fin.ofNat 12 ((n - 4) / 15)) ((n - 4) % 15) else if 45 ≤ n ∧ n < 195 then wa (Fin.ofNat 12 (2 + (n - 45) / 15)) ((n - 45) % 15) else za n
def am_ix : AA → Nat
  | Sum.inl (i, j) => if i.val < 2 then 4 + 15 * i.val + j else 45 + 15 * (i.val - 2) + j
  | Sum.inr (Sum.inl x) => x.val
  | Sum.inr (Sum.inr (Sum.inl n)) => n
  | Sum.inr (Sum.inr (Sum.inr q)) => 195 + q.2
end
section
/-! the methods: code as the machine decodes it (am_ machine's tables), by program -/
set_option maxRecDepth 100000 in
def mL_law : MR := (13, 17, [(0, .new 14, 3, 0), (3, .dup, 1, 0), (4, .invokespecial 300, 3, 0), (7, .astore_n 1, 1, 0), (8, .bipush 7, 2, 0), (10, .newarray .int, 2, 0), (12, .astore_n 2, 1, 0), (13, .aload_n 0, 1, 0), (14, .invokestatic 301, 3, 0), (17, .astore_n 3, 1, 0), (18, .aload_n 1, 1, 0), (19, .aload_n 1, 1, 0), (20, .aload_n 2, 1, 0), (21, .aload_n 3, 1, 0), (22, .aload_n 0, 1, 0), (23, .iconst 5, 1, 0), (24, .invokestatic 28, 3, 0), (27, .invokestatic 305, 3, 0), (30, .invokestatic 309, 3, 0), (33, .invokevirtual 313, 3, 0), (36, .aload_n 3, 1, 0), (37, .invokevirtual 75, 3, 0), (40, .if_icmp .eq 5, 3, 45), (43, .iconst 0, 1, 0), (44, .ireturn, 1, 1), (45, .bipush 100, 2, 0), (47, .newarray .long, 2, 0), (49, .astore 4, 2, 0), (51, .bipush 100, 2, 0), (53, .newarray .long, 2, 0), (55, .astore 5, 2, 0), (57, .iconst 0, 1, 0), (58, .istore 6, 2, 0), (60, .iload 6, 2, 0), (62, .bipush 20, 2, 0), (64, .if_icmp .ge 643, 3, 707), (67, .aload_n 0, 1, 0), (68, .bipush 6, 2, 0), (70, .iload 6, 2, 0), (72, .iadd, 1, 0), (73, .invokestatic 28, 3, 0), (76, .istore 7, 2, 0), (78, .iload 7, 2, 0), (80, .iconst 1, 1, 0), (81, .iand, 1, 0), (82, .istore 8, 2, 0), (84, .iload 7, 2, 0), (86, .iconst 5, 1, 0), (87, .iushr, 1, 0), (88, .bipush 15, 2, 0), (90, .iand, 1, 0), (91, .aload_n 3, 1, 0), (92, .invokevirtual 75, 3, 0), (95, .irem, 1, 0), (96, .istore 9, 2, 0), (98, .iload 7, 2, 0), (100, .bipush 9, 2, 0), (102, .iushr, 1, 0), (103, .bipush 7, 2, 0), (105, .iand, 1, 0), (106, .aload_n 3, 1, 0), (107, .getfield 36, 3, 0), (110, .irem, 1, 0), (111, .istore 10, 2, 0), (113, .iconst 1, 1, 0), (114, .iload 7, 2, 0), (116, .bipush 12, 2, 0), (118, .iushr, 1, 0), (119, .bipush 15, 2, 0), (121, .iand, 1, 0), (122, .iadd, 1, 0), (123, .istore 11, 2, 0), (125, .aload_n 1, 1, 0), (126, .aload_n 3, 1, 0), (127, .aload 4, 2, 0), (129, .invokestatic 316, 3, 0), (132, .aload_n 1, 1, 0), (133, .iload 8, 2, 0), (135, .invokevirtual 320, 3, 0), (138, .i2l, 1, 0), (139, .aload 4, 2, 0), (141, .iconst 0, 1, 0), (142, .laload, 1, 0), (143, .lcmp, 1, 0), (144, .ifCond .ne 18, 3, 162), (147, .aload_n 1, 1, 0), (148, .invokevirtual 297, 3, 0), (151, .ifCond .ne 11, 3, 162), (154, .aload_n 1, 1, 0), (155, .aload_n 3, 1, 0), (156, .invokestatic 323, 3, 0), (159, .ifCond .ne 5, 3, 164), (162, .iconst 0, 1, 0), (163, .ireturn, 1, 1), (164, .iload 7, 2, 0), (166, .iconst 1, 1, 0), (167, .iushr, 1, 0), (168, .bipush 15, 2, 0), (170, .iand, 1, 0), (171, .istore 12, 2, 0), (173, .iload 12, 2, 0), (175, .iconst 5, 1, 0), (176, .if_icmp .ge 113, 3, 289), (179, .aload_n 1, 1, 0), (180, .iload 11, 2, 0), (182, .invokevirtual 326, 3, 0), (185, .istore 13, 2, 0), (187, .aload_n 1, 1, 0), (188, .iload 11, 2, 0), (190, .invokevirtual 329, 3, 0), (193, .istore 14, 2, 0), (195, .aload_n 1, 1, 0), (196, .iload 9, 2, 0), (198, .iload 11, 2, 0), (200, .invokevirtual 332, 3, 0), (203, .istore 15, 2, 0), (205, .aload_n 1, 1, 0), (206, .iload 9, 2, 0), (208, .invokevirtual 336, 3, 0), (211, .istore 16, 2, 0), (213, .aload_n 1, 1, 0), (214, .iload 11, 2, 0), (216, .invokevirtual 339, 3, 0), (219, .i2l, 1, 0), (220, .iload 13, 2, 0), (222, .i2l, 1, 0), (223, .aload 4, 2, 0), (225, .iconst 2, 1, 0), (226, .laload, 1, 0), (227, .lsub, 1, 0), (228, .lcmp, 1, 0), (229, .ifCond .ne 55, 3, 284), (232, .aload_n 1, 1, 0), (233, .invokevirtual 221, 3, 0), (236, .iload 13, 2, 0), (238, .if_icmp .ne 46, 3, 284), (241, .aload_n 1, 1, 0), (242, .invokevirtual 199, 3, 0), (245, .iload 14, 2, 0), (247, .if_icmp .ne 37, 3, 284), (250, .aload_n 1, 1, 0), (251, .iload 9, 2, 0), (253, .invokevirtual 260, 3, 0), (256, .iload 15, 2, 0), (258, .if_icmp .ne 26, 3, 284), (261, .iload 16, 2, 0), (263, .iload 11, 2, 0), (265, .if_icmp .ne 12, 3, 277), (268, .aload_n 1, 1, 0), (269, .iload 9, 2, 0), (271, .invokevirtual 340, 3, 0), (274, .ifCond .eq 10, 3, 284), (277, .aload_n 1, 1, 0), (278, .invokestatic 343, 3, 0), (281, .ifCond .ne 5, 3, 286), (284, .iconst 0, 1, 0), (285, .ireturn, 1, 1), (286, .goto 345, 3, 631), (289, .iload 12, 2, 0), (291, .bipush 7, 2, 0), (293, .if_icmp .ge 64, 3, 357), (296, .aload_n 1, 1, 0), (297, .iload 11, 2, 0), (299, .invokevirtual 347, 3, 0), (302, .istore 13, 2, 0), (304, .aload_n 1, 1, 0), (305, .iload 13, 2, 0), (307, .iload 11, 2, 0), (309, .invokevirtual 350, 3, 0), (312, .istore 14, 2, 0), (314, .aload_n 1, 1, 0), (315, .iload 13, 2, 0), (317, .invokevirtual 353, 3, 0), (320, .i2l, 1, 0), (321, .aload 4, 2, 0), (323, .iconst 3, 1, 0), (324, .laload, 1, 0), (325, .lcmp, 1, 0), (326, .ifCond .ne 26, 3, 352), (329, .aload_n 1, 1, 0), (330, .iload 11, 2, 0), (332, .invokevirtual 326, 3, 0), (335, .iload 14, 2, 0), (337, .if_icmp .ne 15, 3, 352), (340, .iload 14, 2, 0), (342, .aload_n 1, 1, 0), (343, .iconst 1, 1, 0), (344, .iload 11, 2, 0), (346, .invokevirtual 350, 3, 0), (349, .if_icmp .ge 5, 3, 354), (352, .iconst 0, 1, 0), (353, .ireturn, 1, 1), (354, .goto 277, 3, 631), (357, .iload 12, 2, 0), (359, .bipush 9, 2, 0), (361, .if_icmp .ge 40, 3, 401), (364, .aload_n 1, 1, 0), (365, .iload 11, 2, 0), (367, .invokevirtual 356, 3, 0), (370, .istore 13, 2, 0), (372, .iload 13, 2, 0), (374, .ifCond .lt 24, 3, 398), (377, .aload_n 1, 1, 0), (378, .iload 13, 2, 0), (380, .iconst 0, 1, 0), (381, .invokevirtual 359, 3, 0), (384, .ifCond .eq 12, 3, 396), (387, .aload_n 1, 1, 0), (388, .iload 13, 2, 0), (390, .invokevirtual 265, 3, 0), (393, .ifCond .eq 5, 3, 398), (396, .iconst 0, 1, 0), (397, .ireturn, 1, 1), (398, .goto 233, 3, 631), (401, .iload 12, 2, 0), (403, .bipush 11, 2, 0), (405, .if_icmp .ge 42, 3, 447), (408, .aload_n 1, 1, 0), (409, .iload 9, 2, 0), (411, .invokevirtual 253, 3, 0), (414, .ifCond .ne 217, 3, 631), (417, .aload_n 1, 1, 0), (418, .iload 9, 2, 0), (420, .invokevirtual 260, 3, 0), (423, .ifCond .ne 208, 3, 631), (426, .aload_n 1, 1, 0), (427, .iload 9, 2, 0), (429, .invokevirtual 363, 3, 0), (432, .iconst 1, 1, 0), (433, .if_icmp .lt 12, 3, 445), (436, .aload_n 1, 1, 0), (437, .iload 9, 2, 0), (439, .invokevirtual 253, 3, 0), (442, .ifCond .ne 189, 3, 631), (445, .iconst 0, 1, 0), (446, .ireturn, 1, 1), (447, .iload 12, 2, 0), (449, .bipush 13, 2, 0), (451, .if_icmp .ge 41, 3, 492), (454, .aload_n 1, 1, 0), (455, .iload 9, 2, 0), (457, .invokevirtual 260, 3, 0), (460, .istore 13, 2, 0), (462, .iload 13, 2, 0), (464, .ifCond .le 25, 3, 489), (467, .aload_n 1, 1, 0), (468, .iload 9, 2, 0), (470, .invokevirtual 366, 3, 0), (473, .iload 13, 2, 0), (475, .if_icmp .ne 12, 3, 487), (478, .aload_n 1, 1, 0), (479, .iload 9, 2, 0), (481, .invokevirtual 260, 3, 0), (484, .ifCond .eq 5, 3, 489), (487, .iconst 0, 1, 0), (488, .ireturn, 1, 1), (489, .goto 142, 3, 631), (492, .iload 12, 2, 0), (494, .bipush 13, 2, 0), (496, .if_icmp .ne 36, 3, 532), (499, .aload_n 1, 1, 0), (500, .invokevirtual 205, 3, 0), (503, .istore 13, 2, 0), (505, .aload_n 1, 1, 0), (506, .invokevirtual 369, 3, 0), (509, .iload 13, 2, 0), (511, .if_icmp .eq 16, 3, 527), (514, .aload_n 1, 1, 0), (515, .invokevirtual 233, 3, 0), (518, .i2l, 1, 0), (519, .aload 4, 2, 0), (521, .iconst 5, 1, 0), (522, .laload, 1, 0), (523, .lcmp, 1, 0), (524, .ifCond .eq 5, 3, 529), (527, .iconst 0, 1, 0), (528, .ireturn, 1, 1), (529, .goto 102, 3, 631), (532, .iload 12, 2, 0), (534, .bipush 14, 2, 0), (536, .if_icmp .ne 52, 3, 588), (539, .aload_n 1, 1, 0), (540, .invokevirtual 372, 3, 0), (543, .istore 13, 2, 0), (545, .iload 13, 2, 0), (547, .ifCond .le 38, 3, 585), (550, .iload 13, 2, 0), (552, .sipush 300, 3, 0), (555, .if_icmp .gt 30, 3, 585), (558, .aload_n 1, 1, 0), (559, .iload 13, 2, 0), (561, .invokevirtual 339, 3, 0), (564, .ifCond .lt 19, 3, 583), (567, .aload_n 1, 1, 0), (568, .invokevirtual 239, 3, 0), (571, .i2l, 1, 0), (572, .aload 4, 2, 0), (574, .bipush 6, 2, 0), (576, .laload, 1, 0), (577, .lconst 1, 1, 0), (578, .ladd, 1, 0), (579, .lcmp, 1, 0), (580, .ifCond .eq 5, 3, 585), (583, .iconst 0, 1, 0), (584, .ireturn, 1, 1), (585, .goto 46, 3, 631), (588, .aload_n 1, 1, 0), (589, .iload 10, 2, 0), (591, .invokevirtual 265, 3, 0), (594, .istore 13, 2, 0), (596, .aload_n 1, 1, 0), (597, .iload 10, 2, 0), (599, .iconst 1, 1, 0), (600, .invokevirtual 359, 3, 0), (603, .iload 13, 2, 0), (605, .if_icmp .ne 24, 3, 629), (608, .aload_n 1, 1, 0), (609, .iload 9, 2, 0), (611, .invokevirtual 340, 3, 0), (614, .ifCond .eq 17, 3, 631), (617, .iload 9, 2, 0), (619, .aload_n 3, 1, 0), (620, .getfield 36, 3, 0), (623, .irem, 1, 0), (624, .iload 10, 2, 0), (626, .if_icmp .ne 5, 3, 631), (629, .iconst 0, 1, 0), (630, .ireturn, 1, 1), (631, .aload_n 1, 1, 0), (632, .invokevirtual 297, 3, 0), (635, .ifCond .ne 11, 3, 646), (638, .aload_n 1, 1, 0), (639, .aload_n 3, 1, 0), (640, .invokestatic 323, 3, 0), (643, .ifCond .ne 5, 3, 648), (646, .iconst 0, 1, 0), (647, .ireturn, 1, 1), (648, .iload 7, 2, 0), (650, .bipush 25, 2, 0), (652, .iushr, 1, 0), (653, .iconst 3, 1, 0), (654, .iand, 1, 0), (655, .ifCond .ne 46, 3, 701), (658, .aload_n 1, 1, 0), (659, .iload 8, 2, 0), (661, .invokevirtual 375, 3, 0), (664, .i2l, 1, 0), (665, .aload 4, 2, 0), (667, .iconst 0, 1, 0), (668, .laload, 1, 0), (669, .lcmp, 1, 0), (670, .ifCond .ne 10, 3, 680), (673, .aload_n 1, 1, 0), (674, .invokevirtual 378, 3, 0), (677, .ifCond .eq 5, 3, 682), (680, .iconst 0, 1, 0), (681, .ireturn, 1, 1), (682, .aload_n 1, 1, 0), (683, .aload_n 3, 1, 0), (684, .aload 5, 2, 0), (686, .invokestatic 316, 3, 0), (689, .aload 4, 2, 0), (691, .aload 5, 2, 0), (693, .invokestatic 381, 3, 0), (696, .ifCond .ne 5, 3, 701), (699, .iconst 0, 1, 0), (700, .ireturn, 1, 1), (701, .iinc 6 1, 3, 0), (704, .goto (-644), 3, 60), (707, .aload_n 1, 1, 0), (708, .invokevirtual 297, 3, 0), (711, .ifCond .ne 7, 3, 718), (714, .iconst 1, 1, 0), (715, .goto 4, 3, 719), (718, .iconst 0, 1, 0), (719, .ireturn, 1, 1)], [])
def mX9_init : MR := (11, 1, [(0, .aload_n 0, 1, 0), (1, .invokespecial 1, 3, 0), (4, .aload_n 0, 1, 0), (5, .sipush 500, 3, 0), (8, .newarray .int, 2, 0), (10, .putfield 9, 3, 0), (13, .aload_n 0, 1, 0), (14, .new 13, 3, 0), (17, .dup, 1, 0), (18, .invokespecial 15, 3, 0), (21, .putfield 16, 3, 0), (24, .aload_n 0, 1, 0), (25, .new 20, 3, 0), (28, .dup, 1, 0), (29, .invokespecial 22, 3, 0), (32, .putfield 23, 3, 0), (35, .aload_n 0, 1, 0), (36, .new 20, 3, 0), (39, .dup, 1, 0), (40, .invokespecial 22, 3, 0), (43, .putfield 27, 3, 0), (46, .aload_n 0, 1, 0), (47, .new 30, 3, 0), (50, .dup, 1, 0), (51, .aload_n 0, 1, 0), (52, .getfield 27, 3, 0), (55, .invokespecial 32, 3, 0), (58, .putfield 35, 3, 0), (61, .aload_n 0, 1, 0), (62, .new 39, 3, 0), (65, .dup, 1, 0), (66, .invokespecial 41, 3, 0), (69, .putfield 42, 3, 0), (72, .aload_n 0, 1, 0), (73, .iconst 0, 1, 0), (74, .putfield 46, 3, 0), (77, .aload_n 0, 1, 0), (78, .iconst 0, 1, 0), (79, .putfield 50, 3, 0), (82, .return_, 1, 0)], [])
def mJ4_init_da8c8 : MR := (1, 1, [(0, .aload_n 0, 1, 0), (1, .bipush 16, 2, 0), (3, .invokespecial 1, 3, 0), (6, .return_, 1, 0)], [])
def mJ5_init_d00df : MR := (16, 2, [(0, .aload_n 0, 1, 0), (1, .invokespecial 3, 3, 0), (4, .getstatic 18, 3, 0), (7, .ifCond .eq 18, 3, 25), (10, .aload_n 0, 1, 0), (11, .iload_n 1, 1, 0), (12, .newarray .byte, 2, 0), (14, .putfield 15, 3, 0), (17, .aload_n 0, 1, 0), (18, .iconst 0, 1, 0), (19, .putfield 22, 3, 0), (22, .goto 16, 3, 38), (25, .aload_n 0, 1, 0), (26, .iload_n 1, 1, 0), (27, .invokestatic 26, 3, 0), (30, .putfield 15, 3, 0), (33, .aload_n 0, 1, 0), (34, .iconst 1, 1, 0), (35, .putfield 22, 3, 0), (38, .return_, 1, 0)], [])
def mX8_init : MR := (10, 1, [(0, .aload_n 0, 1, 0), (1, .invokespecial 3, 3, 0), (4, .aload_n 0, 1, 0), (5, .new 9, 3, 0), (8, .dup, 1, 0), (9, .invokespecial 11, 3, 0), (12, .putfield 12, 3, 0), (15, .aload_n 0, 1, 0), (16, .new 18, 3, 0), (19, .dup, 1, 0), (20, .invokespecial 20, 3, 0), (23, .putfield 21, 3, 0), (26, .aload_n 0, 1, 0), (27, .new 25, 3, 0), (30, .dup, 1, 0), (31, .invokespecial 27, 3, 0), (34, .putfield 28, 3, 0), (37, .aload_n 0, 1, 0), (38, .bipush 10, 2, 0), (40, .newarray .int, 2, 0), (42, .putfield 32, 3, 0), (45, .aload_n 0, 1, 0), (46, .bipush 80, 2, 0), (48, .newarray .int, 2, 0), (50, .putfield 36, 3, 0), (53, .aload_n 0, 1, 0), (54, .bipush 80, 2, 0), (56, .newarray .int, 2, 0), (58, .putfield 39, 3, 0), (61, .aload_n 0, 1, 0), (62, .bipush 80, 2, 0), (64, .newarray .int, 2, 0), (66, .putfield 42, 3, 0), (69, .aload_n 0, 1, 0), (70, .bipush 80, 2, 0), (72, .newarray .int, 2, 0), (74, .putfield 45, 3, 0), (77, .return_, 1, 0)], [])
def mX2_init : MR := (5, 1, [(0, .aload_n 0, 1, 0), (1, .invokespecial 3, 3, 0), (4, .aload_n 0, 1, 0), (5, .bipush 10, 2, 0), (7, .newarray .int, 2, 0), (9, .putfield 9, 3, 0), (12, .aload_n 0, 1, 0), (13, .iconst 4, 1, 0), (14, .newarray .int, 2, 0), (16, .putfield 15, 3, 0), (19, .aload_n 0, 1, 0), (20, .iconst 4, 1, 0), (21, .newarray .int, 2, 0), (23, .putfield 18, 3, 0), (26, .aload_n 0, 1, 0), (27, .bipush 30, 2, 0), (29, .newarray .int, 2, 0), (31, .putfield 21, 3, 0), (34, .return_, 1, 0)], [])
def mX7_init : MR := (9, 1, [(0, .aload_n 0, 1, 0), (1, .invokespecial 3, 3, 0), (4, .return_, 1, 0)], [])
def mX3_init : MR := (6, 1, [(0, .aload_n 0, 1, 0), (1, .invokespecial 3, 3, 0), (4, .aload_n 0, 1, 0), (5, .bipush 10, 2, 0), (7, .newarray .int, 2, 0), (9, .putfield 9, 3, 0), (12, .aload_n 0, 1, 0), (13, .bipush 10, 2, 0), (15, .newarray .int, 2, 0), (17, .putfield 15, 3, 0), (20, .return_, 1, 0)], [])
def mX4_init : MR := (7, 2, [(0, .aload_n 0, 1, 0), (1, .invokespecial 3, 3, 0), (4, .aload_n 0, 1, 0), (5, .new 9, 3, 0), (8, .dup, 1, 0), (9, .invokespecial 11, 3, 0), (12, .putfield 12, 3, 0), (15, .aload_n 0, 1, 0), (16, .iconst 3, 1, 0), (17, .newarray .int, 2, 0), (19, .putfield 18, 3, 0), (22, .aload_n 0, 1, 0), (23, .iconst 3, 1, 0), (24, .newarray .int, 2, 0), (26, .putfield 22, 3, 0), (29, .aload_n 0, 1, 0), (30, .aload_n 1, 1, 0), (31, .putfield 25, 3, 0), (34, .aload_n 0, 1, 0), (35, .iconst 0, 1, 0), (36, .putfield 29, 3, 0), (39, .aload_n 0, 1, 0), (40, .iconst (-1), 1, 0), (41, .putfield 33, 3, 0), (44, .return_, 1, 0)], [])
def mX6_init : MR := (8, 1, [(0, .aload_n 0, 1, 0), (1, .invokespecial 3, 3, 0), (4, .aload_n 0, 1, 0), (5, .sipush 501, 3, 0), (8, .anewarray 9, 3, 0), (11, .putfield 11, 3, 0), (14, .aload_n 0, 1, 0), (15, .sipush 501, 3, 0), (18, .newarray .int, 2, 0), (20, .putfield 17, 3, 0), (23, .aload_n 0, 1, 0), (24, .sipush 501, 3, 0), (27, .newarray .int, 2, 0), (29, .putfield 21, 3, 0), (32, .return_, 1, 0)], [])
def mX1_init : MR := (4, 2, [(0, .aload_n 0, 1, 0), (1, .invokespecial 3, 3, 0), (4, .aload_n 0, 1, 0), (5, .bipush 8, 2, 0), (7, .anewarray 9, 3, 0), (10, .putfield 11, 3, 0), (13, .aload_n 0, 1, 0), (14, .iconst 2, 1, 0), (15, .anewarray 9, 3, 0), (18, .putfield 17, 3, 0), (21, .aload_n 0, 1, 0), (22, .iconst 2, 1, 0), (23, .newarray .int, 2, 0), (25, .putfield 20, 3, 0), (28, .iconst 0, 1, 0), (29, .istore_n 1, 1, 0), (30, .iload_n 1, 1, 0), (31, .bipush 8, 2, 0), (33, .if_icmp .ge 22, 3, 55), (36, .aload_n 0, 1, 0), (37, .getfield 11, 3, 0), (40, .iload_n 1, 1, 0), (41, .new 9, 3, 0), (44, .dup, 1, 0), (45, .invokespecial 24, 3, 0), (48, .aastore, 1, 0), (49, .iinc 1 1, 3, 0), (52, .goto (-22), 3, 30), (55, .iconst 0, 1, 0), (56, .istore_n 1, 1, 0), (57, .iload_n 1, 1, 0), (58, .iconst 2, 1, 0), (59, .if_icmp .ge 22, 3, 81), (62, .aload_n 0, 1, 0), (63, .getfield 17, 3, 0), (66, .iload_n 1, 1, 0), (67, .new 9, 3, 0), (70, .dup, 1, 0), (71, .invokespecial 24, 3, 0), (74, .aastore, 1, 0), (75, .iinc 1 1, 3, 0), (78, .goto (-21), 3, 57), (81, .return_, 1, 0)], [])
set_option maxRecDepth 100000 in
def mL_floor : MR := (13, 6, [(0, .new 25, 3, 0), (3, .dup, 1, 0), (4, .invokespecial 27, 3, 0), (7, .astore_n 1, 1, 0), (8, .aload_n 0, 1, 0), (9, .iconst 0, 1, 0), (10, .invokestatic 28, 3, 0), (13, .istore_n 2, 1, 0), (14, .aload_n 1, 1, 0), (15, .iconst 2, 1, 0), (16, .iload_n 2, 1, 0), (17, .iconst 1, 1, 0), (18, .iand, 1, 0), (19, .iadd, 1, 0), (20, .putfield 32, 3, 0), (23, .aload_n 1, 1, 0), (24, .iconst 2, 1, 0), (25, .iload_n 2, 1, 0), (26, .iconst 1, 1, 0), (27, .iushr, 1, 0), (28, .iconst 3, 1, 0), (29, .iand, 1, 0), (30, .iadd, 1, 0), (31, .putfield 36, 3, 0), (34, .aload_n 1, 1, 0), (35, .iconst 1, 1, 0), (36, .iload_n 2, 1, 0), (37, .iconst 3, 1, 0), (38, .iushr, 1, 0), (39, .iconst 3, 1, 0), (40, .iand, 1, 0), (41, .iadd, 1, 0), (42, .putfield 39, 3, 0), (45, .aload_n 1, 1, 0), (46, .iconst 1, 1, 0), (47, .iload_n 2, 1, 0), (48, .iconst 5, 1, 0), (49, .iushr, 1, 0), (50, .iconst 3, 1, 0), (51, .iand, 1, 0), (52, .iadd, 1, 0), (53, .putfield 42, 3, 0), (56, .aload_n 1, 1, 0), (57, .iconst 1, 1, 0), (58, .iload_n 2, 1, 0), (59, .bipush 7, 2, 0), (61, .iushr, 1, 0), (62, .bipush 7, 2, 0), (64, .iand, 1, 0), (65, .iadd, 1, 0), (66, .putfield 45, 3, 0), (69, .aload_n 1, 1, 0), (70, .iload_n 2, 1, 0), (71, .bipush 10, 2, 0), (73, .iushr, 1, 0), (74, .iconst 3, 1, 0), (75, .iand, 1, 0), (76, .putfield 48, 3, 0), (79, .aload_n 1, 1, 0), (80, .iload_n 2, 1, 0), (81, .bipush 12, 2, 0), (83, .iushr, 1, 0), (84, .bipush 7, 2, 0), (86, .iand, 1, 0), (87, .putfield 51, 3, 0), (90, .aload_n 1, 1, 0), (91, .iload_n 2, 1, 0), (92, .bipush 15, 2, 0), (94, .iushr, 1, 0), (95, .iconst 3, 1, 0), (96, .iand, 1, 0), (97, .putfield 54, 3, 0), (100, .aload_n 1, 1, 0), (101, .aload_n 0, 1, 0), (102, .iconst 1, 1, 0), (103, .invokestatic 28, 3, 0), (106, .bipush 31, 2, 0), (108, .iand, 1, 0), (109, .bipush 10, 2, 0), (111, .iadd, 1, 0), (112, .putfield 57, 3, 0), (115, .aload_n 1, 1, 0), (116, .iload_n 2, 1, 0), (117, .bipush 17, 2, 0), (119, .iushr, 1, 0), (120, .bipush 7, 2, 0), (122, .iand, 1, 0), (123, .aload_n 1, 1, 0), (124, .getfield 36, 3, 0), (127, .irem, 1, 0), (128, .putfield 60, 3, 0), (131, .aload_n 1, 1, 0), (132, .iload_n 2, 1, 0), (133, .bipush 20, 2, 0), (135, .iushr, 1, 0), (136, .iconst 1, 1, 0), (137, .iand, 1, 0), (138, .ifCond .ne 7, 3, 145), (141, .iconst 1, 1, 0), (142, .goto 4, 3, 146), (145, .iconst 0, 1, 0), (146, .putfield 63, 3, 0), (149, .aload_n 1, 1, 0), (150, .aload_n 1, 1, 0), (151, .getfield 36, 3, 0), (154, .newarray .boolean, 2, 0), (156, .putfield 67, 3, 0), (159, .aload_n 1, 1, 0), (160, .aload_n 1, 1, 0), (161, .getfield 36, 3, 0), (164, .newarray .int, 2, 0), (166, .putfield 71, 3, 0), (169, .aload_n 1, 1, 0), (170, .aload_n 1, 1, 0), (171, .invokevirtual 75, 3, 0), (174, .newarray .boolean, 2, 0), (176, .putfield 79, 3, 0), (179, .aload_n 1, 1, 0), (180, .aload_n 1, 1, 0), (181, .invokevirtual 75, 3, 0), (184, .newarray .boolean, 2, 0), (186, .putfield 82, 3, 0), (189, .aload_n 1, 1, 0), (190, .aload_n 1, 1, 0), (191, .invokevirtual 75, 3, 0), (194, .newarray .int, 2, 0), (196, .putfield 85, 3, 0), (199, .aload_n 1, 1, 0), (200, .aload_n 1, 1, 0), (201, .invokevirtual 75, 3, 0), (204, .newarray .int, 2, 0), (206, .putfield 88, 3, 0), (209, .aload_n 0, 1, 0), (210, .iconst 2, 1, 0), (211, .invokestatic 28, 3, 0), (214, .istore_n 3, 1, 0), (215, .iconst 0, 1, 0), (216, .istore 4, 2, 0), (218, .iload 4, 2, 0), (220, .aload_n 1, 1, 0), (221, .getfield 36, 3, 0), (224, .if_icmp .ge 62, 3, 286), (227, .aload_n 1, 1, 0), (228, .getfield 67, 3, 0), (231, .iload 4, 2, 0), (233, .iload_n 3, 1, 0), (234, .iconst 4, 1, 0), (235, .iload 4, 2, 0), (237, .imul, 1, 0), (238, .iushr, 1, 0), (239, .bipush 7, 2, 0), (241, .iand, 1, 0), (242, .ifCond .ne 7, 3, 249), (245, .iconst 1, 1, 0), (246, .goto 4, 3, 250), (249, .iconst 0, 1, 0), (250, .bastore, 1, 0), (251, .iload_n 3, 1, 0), (252, .iconst 4, 1, 0), (253, .iload 4, 2, 0), (255, .imul, 1, 0), (256, .iushr, 1, 0), (257, .bipush 12, 2, 0), (259, .iand, 1, 0), (260, .bipush 12, 2, 0), (262, .if_icmp .ne 18, 3, 280), (265, .aload_n 1, 1, 0), (266, .getfield 71, 3, 0), (269, .iload 4, 2, 0), (271, .iconst 2, 1, 0), (272, .iload_n 2, 1, 0), (273, .iload 4, 2, 0), (275, .iushr, 1, 0), (276, .iconst 3, 1, 0), (277, .iand, 1, 0), (278, .iadd, 1, 0), (279, .iastore, 1, 0), (280, .iinc 4 1, 3, 0), (283, .goto (-65), 3, 218), (286, .iload_n 3, 1, 0), (287, .bipush 20, 2, 0), (289, .iushr, 1, 0), (290, .iconst 3, 1, 0), (291, .iand, 1, 0), (292, .ifCond .ne 34, 3, 326), (295, .aload_n 1, 1, 0), (296, .getfield 91, 3, 0), (299, .iconst 2, 1, 0), (300, .newarray .int, 2, 0), (302, .dup, 1, 0), (303, .iconst 0, 1, 0), (304, .iload_n 3, 1, 0), (305, .bipush 22, 2, 0), (307, .iushr, 1, 0), (308, .iconst 3, 1, 0), (309, .iand, 1, 0), (310, .iastore, 1, 0), (311, .dup, 1, 0), (312, .iconst 1, 1, 0), (313, .iload_n 3, 1, 0), (314, .bipush 22, 2, 0), (316, .iushr, 1, 0), (317, .iconst 3, 1, 0), (318, .iand, 1, 0), (319, .iconst 1, 1, 0), (320, .iadd, 1, 0), (321, .iastore, 1, 0), (322, .invokevirtual 95, 3, 0), (325, .pop, 1, 0), (326, .aload_n 0, 1, 0), (327, .iconst 3, 1, 0), (328, .invokestatic 28, 3, 0), (331, .istore 4, 2, 0), (333, .aload_n 1, 1, 0), (334, .iload 4, 2, 0), (336, .bipush 15, 2, 0), (338, .iand, 1, 0), (339, .aload_n 1, 1, 0), (340, .invokevirtual 75, 3, 0), (343, .irem, 1, 0), (344, .putfield 101, 3, 0), (347, .aload_n 1, 1, 0), (348, .iload 4, 2, 0), (350, .iconst 4, 1, 0), (351, .iushr, 1, 0), (352, .bipush 7, 2, 0), (354, .iand, 1, 0), (355, .newarray .int, 2, 0), (357, .putfield 104, 3, 0), (360, .iconst 0, 1, 0), (361, .istore 5, 2, 0), (363, .iload 5, 2, 0), (365, .aload_n 1, 1, 0), (366, .getfield 104, 3, 0), (369, .arraylength, 1, 0), (370, .if_icmp .ge 31, 3, 401), (373, .aload_n 1, 1, 0), (374, .getfield 104, 3, 0), (377, .iload 5, 2, 0), (379, .aload_n 0, 1, 0), (380, .iconst 4, 1, 0), (381, .invokestatic 28, 3, 0), (384, .iconst 3, 1, 0), (385, .iload 5, 2, 0), (387, .imul, 1, 0), (388, .iushr, 1, 0), (389, .bipush 7, 2, 0), (391, .iand, 1, 0), (392, .iconst 5, 1, 0), (393, .irem, 1, 0), (394, .iastore, 1, 0), (395, .iinc 5 1, 3, 0), (398, .goto (-35), 3, 363), (401, .iconst 0, 1, 0), (402, .istore 5, 2, 0), (404, .iload 5, 2, 0), (406, .iconst 2, 1, 0), (407, .if_icmp .ge 33, 3, 440), (410, .aload_n 1, 1, 0), (411, .getfield 82, 3, 0), (414, .iload 4, 2, 0), (416, .bipush 7, 2, 0), (418, .iconst 4, 1, 0), (419, .iload 5, 2, 0), (421, .imul, 1, 0), (422, .iadd, 1, 0), (423, .iushr, 1, 0), (424, .bipush 15, 2, 0), (426, .iand, 1, 0), (427, .aload_n 1, 1, 0), (428, .invokevirtual 75, 3, 0), (431, .irem, 1, 0), (432, .iconst 1, 1, 0), (433, .bastore, 1, 0), (434, .iinc 5 1, 3, 0), (437, .goto (-33), 3, 404), (440, .aload_n 1, 1, 0), (441, .areturn, 1, 0)], [])
def mX10_init : MR := (12, 1, [(0, .aload_n 0, 1, 0), (1, .invokespecial 1, 3, 0), (4, .aload_n 0, 1, 0), (5, .iconst (-1), 1, 0), (6, .putfield 7, 3, 0), (9, .aload_n 0, 1, 0), (10, .iconst (-1), 1, 0), (11, .putfield 13, 3, 0), (14, .aload_n 0, 1, 0), (15, .iconst 0, 1, 0), (16, .newarray .int, 2, 0), (18, .putfield 16, 3, 0), (21, .aload_n 0, 1, 0), (22, .new 20, 3, 0), (25, .dup, 1, 0), (26, .invokespecial 22, 3, 0), (29, .putfield 23, 3, 0), (32, .aload_n 0, 1, 0), (33, .new 20, 3, 0), (36, .dup, 1, 0), (37, .invokespecial 22, 3, 0), (40, .putfield 27, 3, 0), (43, .return_, 1, 0)], [])
def mJx4a65c_init_da8c8 : MR := (2, 1, [(0, .aload_n 0, 1, 0), (1, .invokespecial 1, 3, 0), (4, .aload_n 0, 1, 0), (5, .getstatic 39, 3, 0), (8, .putfield 9, 3, 0), (11, .return_, 1, 0)], [])
def mJxc12de_init_da8c8 : MR := (27, 1, [(0, .aload_n 0, 1, 0), (1, .invokespecial 1, 3, 0), (4, .aload_n 0, 1, 0), (5, .iconst 0, 1, 0), (6, .putfield 7, 3, 0), (9, .return_, 1, 0)], [])
def mJxa1e45_init_da8c8 : MR := (28, 1, [(0, .aload_n 0, 1, 0), (1, .invokespecial 1, 3, 0), (4, .return_, 1, 0)], [])
def mL_cell : MR := (13, 2, [(0, .iload_n 1, 1, 0), (1, .aload_n 0, 1, 0), (2, .arraylength, 1, 0), (3, .if_icmp .ge 9, 3, 12), (6, .aload_n 0, 1, 0), (7, .iload_n 1, 1, 0), (8, .iaload, 1, 0), (9, .goto 4, 3, 13), (12, .iconst 0, 1, 0), (13, .ireturn, 1, 0)], [])
def mX10_tiles : MR := (12, 1, [(0, .aload_n 0, 1, 0), (1, .getfield 31, 3, 0), (4, .aload_n 0, 1, 0), (5, .getfield 34, 3, 0), (8, .imul, 1, 0), (9, .ireturn, 1, 0)], [])
def mJx4a65c_add_9ea2d : MR := (2, 2, [(0, .aload_n 0, 1, 0), (1, .dup, 1, 0), (2, .getfield 63, 3, 0), (5, .iconst 1, 1, 0), (6, .iadd, 1, 0), (7, .putfield 63, 3, 0), (10, .aload_n 0, 1, 0), (11, .aload_n 1, 1, 0), (12, .aload_n 0, 1, 0), (13, .getfield 9, 3, 0), (16, .aload_n 0, 1, 0), (17, .getfield 48, 3, 0), (20, .invokevirtual 131, 3, 0), (23, .iconst 1, 1, 0), (24, .ireturn, 1, 1)], [])
def mJx4a65c_add_72be8 : MR := (2, 4, [(0, .iload_n 3, 1, 0), (1, .aload_n 2, 1, 0), (2, .arraylength, 1, 0), (3, .if_icmp .ne 8, 3, 11), (6, .aload_n 0, 1, 0), (7, .invokevirtual 129, 3, 0), (10, .astore_n 2, 1, 0), (11, .aload_n 2, 1, 0), (12, .iload_n 3, 1, 0), (13, .aload_n 1, 1, 0), (14, .aastore, 1, 0), (15, .aload_n 0, 1, 0), (16, .iload_n 3, 1, 0), (17, .iconst 1, 1, 0), (18, .iadd, 1, 0), (19, .putfield 48, 3, 0), (22, .return_, 1, 0)], [])
def mJx4a65c_grow_d5877 : MR := (2, 1, [(0, .aload_n 0, 1, 0), (1, .aload_n 0, 1, 0), (2, .getfield 48, 3, 0), (5, .iconst 1, 1, 0), (6, .iadd, 1, 0), (7, .invokevirtual 69, 3, 0), (10, .areturn, 1, 0)], [])
def mJx4a65c_grow_92f84 : MR := (2, 4, [(0, .aload_n 0, 1, 0), (1, .getfield 9, 3, 0), (4, .arraylength, 1, 0), (5, .istore_n 2, 1, 0), (6, .iload_n 2, 1, 0), (7, .ifCond .gt 13, 3, 20), (10, .aload_n 0, 1, 0), (11, .getfield 9, 3, 0), (14, .getstatic 39, 3, 0), (17, .if_acmp .eq 28, 3, 45), (20, .iload_n 2, 1, 0), (21, .iload_n 1, 1, 0), (22, .iload_n 2, 1, 0), (23, .isub, 1, 0), (24, .iload_n 2, 1, 0), (25, .iconst 1, 1, 0), (26, .ishr, 1, 0), (27, .invokestatic 73, 3, 0), (30, .istore_n 3, 1, 0), (31, .aload_n 0, 1, 0), (32, .aload_n 0, 1, 0), (33, .getfield 9, 3, 0), (36, .iload_n 3, 1, 0), (37, .invokestatic 66, 3, 0), (40, .dup_x1, 1, 0), (41, .putfield 9, 3, 0), (44, .areturn, 1, 0), (45, .aload_n 0, 1, 0), (46, .bipush 10, 2, 0), (48, .iload_n 1, 1, 0), (49, .invokestatic 79, 3, 0), (52, .anewarray 7, 3, 0), (55, .dup_x1, 1, 0), (56, .putfield 9, 3, 0), (59, .areturn, 1, 0)], [])
def mJ8_newLength_cabcc : MR := (24, 4, [(0, .iload_n 0, 1, 0), (1, .iload_n 1, 1, 0), (2, .iload_n 2, 1, 0), (3, .invokestatic 194, 3, 0), (6, .iadd, 1, 0), (7, .istore_n 3, 1, 0), (8, .iconst 0, 1, 0), (9, .iload_n 3, 1, 0), (10, .if_icmp .ge 11, 3, 21), (13, .iload_n 3, 1, 0), (14, .ldc 200, 2, 0), (16, .if_icmp .gt 5, 3, 21), (19, .iload_n 3, 1, 0), (20, .ireturn, 1, 0), (21, .iload_n 0, 1, 0), (22, .iload_n 1, 1, 0), (23, .invokestatic 201, 3, 0), (26, .ireturn, 1, 0)], [])
set_option maxRecDepth 100000 in
def mL_text : MR := (13, 8, [(0, .new 107, 3, 0), (3, .dup, 1, 0), (4, .ldc 109, 2, 0), (6, .invokespecial 111, 3, 0), (9, .aload_n 0, 1, 0), (10, .getfield 32, 3, 0), (13, .invokevirtual 114, 3, 0), (16, .bipush 32, 2, 0), (18, .invokevirtual 117, 3, 0), (21, .aload_n 0, 1, 0), (22, .getfield 36, 3, 0), (25, .invokevirtual 114, 3, 0), (28, .astore_n 2, 1, 0), (29, .aload_n 2, 1, 0), (30, .ldc 120, 2, 0), (32, .invokevirtual 122, 3, 0), (35, .aload_n 0, 1, 0), (36, .getfield 39, 3, 0), (39, .invokevirtual 114, 3, 0), (42, .ldc 125, 2, 0), (44, .invokevirtual 122, 3, 0), (47, .aload_n 0, 1, 0), (48, .getfield 42, 3, 0), (51, .invokevirtual 114, 3, 0), (54, .ldc 127, 2, 0), (56, .invokevirtual 122, 3, 0), (59, .aload_n 0, 1, 0), (60, .getfield 45, 3, 0), (63, .invokevirtual 114, 3, 0), (66, .ldc 129, 2, 0), (68, .invokevirtual 122, 3, 0), (71, .aload_n 0, 1, 0), (72, .getfield 48, 3, 0), (75, .invokevirtual 114, 3, 0), (78, .ldc 131, 2, 0), (80, .invokevirtual 122, 3, 0), (83, .aload_n 0, 1, 0), (84, .getfield 51, 3, 0), (87, .invokevirtual 114, 3, 0), (90, .pop, 1, 0), (91, .aload_n 2, 1, 0), (92, .ldc 133, 2, 0), (94, .invokevirtual 122, 3, 0), (97, .aload_n 0, 1, 0), (98, .getfield 54, 3, 0), (101, .invokevirtual 114, 3, 0), (104, .ldc 135, 2, 0), (106, .invokevirtual 122, 3, 0), (109, .aload_n 0, 1, 0), (110, .getfield 57, 3, 0), (113, .invokevirtual 114, 3, 0), (116, .ldc 137, 2, 0), (118, .invokevirtual 122, 3, 0), (121, .aload_n 0, 1, 0), (122, .getfield 60, 3, 0), (125, .invokevirtual 114, 3, 0), (128, .aload_n 0, 1, 0), (129, .getfield 63, 3, 0), (132, .ifCond .eq 8, 3, 140), (135, .ldc 139, 2, 0), (137, .goto 5, 3, 142), (140, .ldc 141, 2, 0), (142, .invokevirtual 122, 3, 0), (145, .ldc 143, 2, 0), (147, .invokevirtual 122, 3, 0), (150, .aload_n 0, 1, 0), (151, .getfield 101, 3, 0), (154, .invokevirtual 114, 3, 0), (157, .pop, 1, 0), (158, .iconst 0, 1, 0), (159, .istore_n 3, 1, 0), (160, .iload_n 3, 1, 0), (161, .aload_n 0, 1, 0), (162, .getfield 104, 3, 0), (165, .arraylength, 1, 0), (166, .if_icmp .ge 75, 3, 241), (169, .aload_n 2, 1, 0), (170, .aload_n 0, 1, 0), (171, .getfield 104, 3, 0), (174, .iload_n 3, 1, 0), (175, .iaload, 1, 0), (176, .ifCond .ne 8, 3, 184), (179, .ldc 145, 2, 0), (181, .goto 50, 3, 231), (184, .aload_n 0, 1, 0), (185, .getfield 104, 3, 0), (188, .iload_n 3, 1, 0), (189, .iaload, 1, 0), (190, .iconst 1, 1, 0), (191, .if_icmp .ne 8, 3, 199), (194, .ldc 147, 2, 0), (196, .goto 35, 3, 231), (199, .aload_n 0, 1, 0), (200, .getfield 104, 3, 0), (203, .iload_n 3, 1, 0), (204, .iaload, 1, 0), (205, .iconst 2, 1, 0), (206, .if_icmp .ne 8, 3, 214), (209, .ldc 149, 2, 0), (211, .goto 20, 3, 231), (214, .aload_n 0, 1, 0), (215, .getfield 104, 3, 0), (218, .iload_n 3, 1, 0), (219, .iaload, 1, 0), (220, .iconst 3, 1, 0), (221, .if_icmp .ne 8, 3, 229), (224, .ldc 141, 2, 0), (226, .goto 5, 3, 231), (229, .ldc 139, 2, 0), (231, .invokevirtual 122, 3, 0), (234, .pop, 1, 0), (235, .iinc 3 1, 3, 0), (238, .goto (-78), 3, 160), (241, .iconst 0, 1, 0), (242, .istore_n 3, 1, 0), (243, .iload_n 3, 1, 0), (244, .aload_n 0, 1, 0), (245, .getfield 36, 3, 0), (248, .if_icmp .ge 63, 3, 311), (251, .aload_n 0, 1, 0), (252, .getfield 67, 3, 0), (255, .iload_n 3, 1, 0), (256, .baload, 1, 0), (257, .ifCond .eq 14, 3, 271), (260, .aload_n 2, 1, 0), (261, .ldc 151, 2, 0), (263, .invokevirtual 122, 3, 0), (266, .iload_n 3, 1, 0), (267, .invokevirtual 114, 3, 0), (270, .pop, 1, 0), (271, .aload_n 0, 1, 0), (272, .getfield 71, 3, 0), (275, .iload_n 3, 1, 0), (276, .iaload, 1, 0), (277, .ifCond .le 28, 3, 305), (280, .aload_n 2, 1, 0), (281, .ldc 153, 2, 0), (283, .invokevirtual 122, 3, 0), (286, .iload_n 3, 1, 0), (287, .invokevirtual 114, 3, 0), (290, .bipush 32, 2, 0), (292, .invokevirtual 117, 3, 0), (295, .aload_n 0, 1, 0), (296, .getfield 71, 3, 0), (299, .iload_n 3, 1, 0), (300, .iaload, 1, 0), (301, .invokevirtual 114, 3, 0), (304, .pop, 1, 0), (305, .iinc 3 1, 3, 0), (308, .goto (-65), 3, 243), (311, .iconst 0, 1, 0), (312, .istore_n 3, 1, 0), (313, .iload_n 3, 1, 0), (314, .aload_n 0, 1, 0), (315, .getfield 91, 3, 0), (318, .invokevirtual 155, 3, 0), (321, .if_icmp .ge 53, 3, 374), (324, .aload_n 2, 1, 0), (325, .ldc 158, 2, 0), (327, .invokevirtual 122, 3, 0), (330, .aload_n 0, 1, 0), (331, .getfield 91, 3, 0), (334, .iload_n 3, 1, 0), (335, .invokevirtual 160, 3, 0), (338, .checkcast 164, 3, 0), (341, .iconst 0, 1, 0), (342, .iaload, 1, 0), (343, .invokevirtual 114, 3, 0), (346, .bipush 32, 2, 0), (348, .invokevirtual 117, 3, 0), (351, .aload_n 0, 1, 0), (352, .getfield 91, 3, 0), (355, .iload_n 3, 1, 0), (356, .invokevirtual 160, 3, 0), (359, .checkcast 164, 3, 0), (362, .iconst 1, 1, 0), (363, .iaload, 1, 0), (364, .invokevirtual 114, 3, 0), (367, .pop, 1, 0), (368, .iinc 3 1, 3, 0), (371, .goto (-58), 3, 313), (374, .iconst 0, 1, 0), (375, .istore_n 3, 1, 0), (376, .iload_n 3, 1, 0), (377, .aload_n 0, 1, 0), (378, .invokevirtual 75, 3, 0), (381, .if_icmp .ge 29, 3, 410), (384, .aload_n 0, 1, 0), (385, .getfield 82, 3, 0), (388, .iload_n 3, 1, 0), (389, .baload, 1, 0), (390, .ifCond .eq 14, 3, 404), (393, .aload_n 2, 1, 0), (394, .ldc 165, 2, 0), (396, .invokevirtual 122, 3, 0), (399, .iload_n 3, 1, 0), (400, .invokevirtual 114, 3, 0), (403, .pop, 1, 0), (404, .iinc 3 1, 3, 0), (407, .goto (-31), 3, 376), (410, .aload_n 0, 1, 0), (411, .invokevirtual 167, 3, 0), (414, .iload_n 1, 1, 0), (415, .iconst 3, 1, 0), (416, .iand, 1, 0), (417, .aload_n 0, 1, 0), (418, .getfield 32, 3, 0), (421, .irem, 1, 0), (422, .istore_n 3, 1, 0), (423, .iload_n 1, 1, 0), (424, .iconst 2, 1, 0), (425, .iushr, 1, 0), (426, .bipush 15, 2, 0), (428, .iand, 1, 0), (429, .aload_n 0, 1, 0), (430, .invokevirtual 75, 3, 0), (433, .irem, 1, 0), (434, .istore 4, 2, 0), (436, .aload_n 2, 1, 0), (437, .ldc 170, 2, 0), (439, .invokevirtual 122, 3, 0), (442, .iload 4, 2, 0), (444, .invokevirtual 114, 3, 0), (447, .ldc 172, 2, 0), (449, .invokevirtual 122, 3, 0), (452, .iload_n 3, 1, 0), (453, .invokevirtual 114, 3, 0), (456, .pop, 1, 0), (457, .aload_n 0, 1, 0), (458, .getfield 85, 3, 0), (461, .iload 4, 2, 0), (463, .iconst 3, 1, 0), (464, .iastore, 1, 0), (465, .iconst 0, 1, 0), (466, .istore 5, 2, 0), (468, .iload 5, 2, 0), (470, .aload_n 0, 1, 0), (471, .getfield 36, 3, 0), (474, .if_icmp .ge 38, 3, 512), (477, .iload_n 3, 1, 0), (478, .aload_n 0, 1, 0), (479, .getfield 36, 3, 0), (482, .imul, 1, 0), (483, .iload 5, 2, 0), (485, .iadd, 1, 0), (486, .iload 4, 2, 0), (488, .if_icmp .eq 18, 3, 506), (491, .aload_n 0, 1, 0), (492, .getfield 79, 3, 0), (495, .iload_n 3, 1, 0), (496, .aload_n 0, 1, 0), (497, .getfield 36, 3, 0), (500, .imul, 1, 0), (501, .iload 5, 2, 0), (503, .iadd, 1, 0), (504, .iconst 1, 1, 0), (505, .bastore, 1, 0), (506, .iinc 5 1, 3, 0), (509, .goto (-41), 3, 468), (512, .iconst 1, 1, 0), (513, .iload_n 1, 1, 0), (514, .bipush 6, 2, 0), (516, .iushr, 1, 0), (517, .iconst 1, 1, 0), (518, .iand, 1, 0), (519, .iadd, 1, 0), (520, .istore 5, 2, 0), (522, .aload_n 2, 1, 0), (523, .ldc 174, 2, 0), (525, .invokevirtual 122, 3, 0), (528, .iload 5, 2, 0), (530, .invokevirtual 114, 3, 0), (533, .ldc 176, 2, 0), (535, .invokevirtual 122, 3, 0), (538, .pop, 1, 0), (539, .iconst 0, 1, 0), (540, .istore 6, 2, 0), (542, .iload 6, 2, 0), (544, .iload 5, 2, 0), (546, .if_icmp .ge 32, 3, 578), (549, .aload_n 0, 1, 0), (550, .aload_n 0, 1, 0), (551, .getfield 63, 3, 0), (554, .ifCond .ne 7, 3, 561), (557, .iconst 1, 1, 0), (558, .goto 4, 3, 562), (561, .iconst 0, 1, 0), (562, .putfield 63, 3, 0), (565, .aload_n 0, 1, 0), (566, .iconst 2, 1, 0), (567, .invokevirtual 178, 3, 0), (570, .istore 7, 2, 0), (572, .iinc 6 1, 3, 0), (575, .goto (-33), 3, 542), (578, .aload_n 2, 1, 0), (579, .invokevirtual 182, 3, 0), (582, .areturn, 1, 0)], [])
def mJ4_init_a7421 : MR := (1, 2, [(0, .aload_n 0, 1, 0), (1, .aload_n 1, 1, 0), (2, .invokespecial 7, 3, 0), (5, .return_, 1, 0)], [])
def mJ5_init_a7421 : MR := (16, 5, [(0, .aload_n 0, 1, 0), (1, .invokespecial 3, 3, 0), (4, .aload_n 1, 1, 0), (5, .invokevirtual 32, 3, 0), (8, .istore_n 2, 1, 0), (9, .iload_n 2, 1, 0), (10, .ldc 38, 2, 0), (12, .if_icmp .ge 10, 3, 22), (15, .iload_n 2, 1, 0), (16, .bipush 16, 2, 0), (18, .iadd, 1, 0), (19, .goto 5, 3, 24), (22, .ldc 39, 2, 0), (24, .istore_n 3, 1, 0), (25, .aload_n 1, 1, 0), (26, .invokevirtual 40, 3, 0), (29, .istore 4, 2, 0), (31, .aload_n 0, 1, 0), (32, .iload 4, 2, 0), (34, .putfield 22, 3, 0), (37, .aload_n 0, 1, 0), (38, .iload 4, 2, 0), (40, .ifCond .ne 9, 3, 49), (43, .iload_n 3, 1, 0), (44, .newarray .byte, 2, 0), (46, .goto 7, 3, 53), (49, .iload_n 3, 1, 0), (50, .invokestatic 26, 3, 0), (53, .putfield 15, 3, 0), (56, .aload_n 0, 1, 0), (57, .aload_n 1, 1, 0), (58, .invokevirtual 43, 3, 0), (61, .pop, 1, 0), (62, .return_, 1, 0)], [])
def mJ0_length_8abf5 : MR := (0, 1, [(0, .aload_n 0, 1, 0), (1, .getfield 9, 3, 0), (4, .arraylength, 1, 0), (5, .aload_n 0, 1, 0), (6, .invokevirtual 335, 3, 0), (9, .ishr, 1, 0), (10, .ireturn, 1, 0)], [])
def mJ0_coder_7d493 : MR := (0, 1, [(0, .getstatic 38, 3, 0), (3, .ifCond .eq 10, 3, 13), (6, .aload_n 0, 1, 0), (7, .getfield 15, 3, 0), (10, .goto 4, 3, 14), (13, .iconst 1, 1, 0), (14, .ireturn, 1, 3)], [])
def mJ4_append_cf1ce : MR := (1, 2, [(0, .aload_n 0, 1, 0), (1, .aload_n 1, 1, 0), (2, .invokevirtual 23, 3, 0), (5, .areturn, 1, 0)], [])
def mJ4_append_15ec4 : MR := (1, 2, [(0, .aload_n 0, 1, 0), (1, .aload_n 1, 1, 0), (2, .invokespecial 29, 3, 0), (5, .pop, 1, 0), (6, .aload_n 0, 1, 0), (7, .areturn, 1, 0)], [])
def mJ5_append_cf1ce : MR := (16, 3, [(0, .aload_n 1, 1, 0), (1, .ifnonnull 8, 3, 9), (4, .aload_n 0, 1, 0), (5, .invokevirtual 204, 3, 0), (8, .areturn, 1, 0), (9, .aload_n 1, 1, 0), (10, .invokevirtual 32, 3, 0), (13, .istore_n 2, 1, 0), (14, .aload_n 0, 1, 0), (15, .aload_n 0, 1, 0), (16, .getfield 79, 3, 0), (19, .iload_n 2, 1, 0), (20, .iadd, 1, 0), (21, .invokevirtual 100, 3, 0), (24, .aload_n 0, 1, 0), (25, .aload_n 0, 1, 0), (26, .getfield 79, 3, 0), (29, .aload_n 1, 1, 0), (30, .invokevirtual 208, 3, 0), (33, .aload_n 0, 1, 0), (34, .dup, 1, 0), (35, .getfield 79, 3, 0), (38, .iload_n 2, 1, 0), (39, .iadd, 1, 0), (40, .putfield 79, 3, 0), (43, .aload_n 0, 1, 0), (44, .areturn, 1, 0)], [])
def mJ5_ensureCapacityInternal_d00df : MR := (16, 3, [(0, .aload_n 0, 1, 0), (1, .getfield 15, 3, 0), (4, .arraylength, 1, 0), (5, .aload_n 0, 1, 0), (6, .getfield 22, 3, 0), (9, .ishr, 1, 0), (10, .istore_n 2, 1, 0), (11, .iload_n 1, 1, 0), (12, .iload_n 2, 1, 0), (13, .isub, 1, 0), (14, .ifCond .le 24, 3, 38), (17, .aload_n 0, 1, 0), (18, .aload_n 0, 1, 0), (19, .getfield 15, 3, 0), (22, .aload_n 0, 1, 0), (23, .iload_n 1, 1, 0), (24, .invokevirtual 104, 3, 0), (27, .aload_n 0, 1, 0), (28, .getfield 22, 3, 0), (31, .ishl, 1, 0), (32, .invokestatic 108, 3, 0), (35, .putfield 15, 3, 0), (38, .return_, 1, 0)], [])
def mJ5_newCapacity_0f7a4 : MR := (16, 6, [(0, .aload_n 0, 1, 0), (1, .getfield 15, 3, 0), (4, .arraylength, 1, 0), (5, .istore_n 2, 1, 0), (6, .iload_n 1, 1, 0), (7, .aload_n 0, 1, 0), (8, .getfield 22, 3, 0), (11, .ishl, 1, 0), (12, .istore_n 3, 1, 0), (13, .iload_n 3, 1, 0), (14, .iload_n 2, 1, 0), (15, .isub, 1, 0), (16, .istore 4, 2, 0), (18, .iload_n 2, 1, 0), (19, .iload 4, 2, 0), (21, .iload_n 2, 1, 0), (22, .iconst 2, 1, 0), (23, .aload_n 0, 1, 0), (24, .getfield 22, 3, 0), (27, .ishl, 1, 0), (28, .iadd, 1, 0), (29, .invokestatic 114, 3, 0), (32, .istore 5, 2, 0), (34, .iload 5, 2, 0), (36, .ldc 39, 2, 0), (38, .if_icmp .ne 13, 3, 51), (41, .new 120, 3, 0), (44, .dup, 1, 0), (45, .ldc 122, 2, 0), (47, .invokespecial 124, 3, 0), (50, .athrow, 1, 0), (51, .iload 5, 2, 0), (53, .aload_n 0, 1, 0), (54, .getfield 22, 3, 0), (57, .ishr, 1, 0), (58, .ireturn, 1, 0)], [])
def mJ7_copyOf_9075b : MR := (18, 3, [(0, .iload_n 1, 1, 0), (1, .aload_n 0, 1, 0), (2, .arraylength, 1, 0), (3, .if_icmp .ne 11, 3, 14), (6, .aload_n 0, 1, 0), (7, .invokevirtual 310, 3, 0), (10, .checkcast 311, 3, 0), (13, .areturn, 1, 0), (14, .iload_n 1, 1, 0), (15, .newarray .byte, 2, 0), (17, .astore_n 2, 1, 0), (18, .aload_n 0, 1, 0), (19, .iconst 0, 1, 0), (20, .aload_n 2, 1, 0), (21, .iconst 0, 1, 0), (22, .aload_n 0, 1, 0), (23, .arraylength, 1, 0), (24, .iload_n 1, 1, 0), (25, .invokestatic 304, 3, 0), (28, .invokestatic 150, 3, 0), (31, .aload_n 2, 1, 0), (32, .areturn, 1, 0)], [])
def mJ5_isLatin1_aae02 : MR := (16, 1, [(0, .getstatic 18, 3, 0), (3, .ifCond .eq 14, 3, 17), (6, .aload_n 0, 1, 0), (7, .getfield 22, 3, 0), (10, .ifCond .ne 7, 3, 17), (13, .iconst 1, 1, 0), (14, .goto 4, 3, 18), (17, .iconst 0, 1, 0), (18, .ireturn, 1, 1)], [])
def mJ5_putStringAt_47b60 : MR := (16, 3, [(0, .aload_n 0, 1, 0), (1, .aload_n 2, 1, 0), (2, .invokevirtual 397, 3, 0), (5, .aload_n 2, 1, 0), (6, .aload_n 0, 1, 0), (7, .getfield 15, 3, 0), (10, .iload_n 1, 1, 0), (11, .aload_n 0, 1, 0), (12, .getfield 22, 3, 0), (15, .invokevirtual 399, 3, 0), (18, .return_, 1, 0)], [])
def mJ5_inflateIfNeededFor_a7421 : MR := (16, 2, [(0, .getstatic 18, 3, 0), (3, .ifCond .eq 18, 3, 21), (6, .aload_n 0, 1, 0), (7, .getfield 22, 3, 0), (10, .aload_n 1, 1, 0), (11, .invokevirtual 40, 3, 0), (14, .if_icmp .eq 7, 3, 21), (17, .aload_n 0, 1, 0), (18, .invokevirtual 195, 3, 0), (21, .return_, 1, 0)], [])
def mJ0_getBytes_840e7 : MR := (0, 4, [(0, .aload_n 0, 1, 0), (1, .invokevirtual 335, 3, 0), (4, .iload_n 3, 1, 0), (5, .if_icmp .ne 23, 3, 28), (8, .aload_n 0, 1, 0), (9, .getfield 9, 3, 0), (12, .iconst 0, 1, 0), (13, .aload_n 1, 1, 0), (14, .iload_n 2, 1, 0), (15, .iload_n 3, 1, 0), (16, .ishl, 1, 0), (17, .aload_n 0, 1, 0), (18, .getfield 9, 3, 0), (21, .arraylength, 1, 0), (22, .invokestatic 212, 3, 0), (25, .goto 18, 3, 43), (28, .aload_n 0, 1, 0), (29, .getfield 9, 3, 0), (32, .iconst 0, 1, 0), (33, .aload_n 1, 1, 0), (34, .iload_n 2, 1, 0), (35, .aload_n 0, 1, 0), (36, .getfield 9, 3, 0), (39, .arraylength, 1, 0), (40, .invokestatic 106, 3, 0), (43, .return_, 1, 0)], [])
def mJ4_append_bf812 : MR := (1, 2, [(0, .aload_n 0, 1, 0), (1, .iload_n 1, 1, 0), (2, .invokespecial 53, 3, 0), (5, .pop, 1, 0), (6, .aload_n 0, 1, 0), (7, .areturn, 1, 0)], [])
def mJ5_append_c97b9 : MR := (16, 4, [(0, .aload_n 0, 1, 0), (1, .getfield 79, 3, 0), (4, .istore_n 2, 1, 0), (5, .iload_n 2, 1, 0), (6, .iload_n 1, 1, 0), (7, .invokestatic 245, 3, 0), (10, .iadd, 1, 0), (11, .istore_n 3, 1, 0), (12, .aload_n 0, 1, 0), (13, .iload_n 3, 1, 0), (14, .invokevirtual 100, 3, 0), (17, .aload_n 0, 1, 0), (18, .invokevirtual 83, 3, 0), (21, .ifCond .eq 16, 3, 37), (24, .iload_n 1, 1, 0), (25, .iload_n 3, 1, 0), (26, .aload_n 0, 1, 0), (27, .getfield 15, 3, 0), (30, .invokestatic 248, 3, 0), (33, .pop, 1, 0), (34, .goto 14, 3, 48), (37, .iload_n 1, 1, 0), (38, .iload_n 2, 1, 0), (39, .iload_n 3, 1, 0), (40, .aload_n 0, 1, 0), (41, .getfield 15, 3, 0), (44, .invokestatic 251, 3, 0), (47, .pop, 1, 0), (48, .aload_n 0, 1, 0), (49, .iload_n 3, 1, 0), (50, .putfield 79, 3, 0), (53, .aload_n 0, 1, 0), (54, .areturn, 1, 0)], [])
def mJ6_stringSize_0f7a4 : MR := (17, 4, [(0, .iconst 1, 1, 0), (1, .istore_n 1, 1, 0), (2, .iload_n 0, 1, 0), (3, .ifCond .lt 8, 3, 11), (6, .iconst 0, 1, 0), (7, .istore_n 1, 1, 0), (8, .iload_n 0, 1, 0), (9, .ineg, 1, 0), (10, .istore_n 0, 1, 0), (11, .bipush (-10), 2, 0), (13, .istore_n 2, 1, 0), (14, .iconst 1, 1, 0), (15, .istore_n 3, 1, 0), (16, .iload_n 3, 1, 0), (17, .bipush 10, 2, 0), (19, .if_icmp .ge 23, 3, 42), (22, .iload_n 0, 1, 0), (23, .iload_n 2, 1, 0), (24, .if_icmp .le 7, 3, 31), (27, .iload_n 3, 1, 0), (28, .iload_n 1, 1, 0), (29, .iadd, 1, 0), (30, .ireturn, 1, 0), (31, .bipush 10, 2, 0), (33, .iload_n 2, 1, 0), (34, .imul, 1, 0), (35, .istore_n 2, 1, 0), (36, .iinc 3 1, 3, 0), (39, .goto (-23), 3, 16), (42, .bipush 10, 2, 0), (44, .iload_n 1, 1, 0), (45, .iadd, 1, 0), (46, .ireturn, 1, 0)], [])
def mJ6_getChars_ba4f3 : MR := (17, 7, [(0, .iload_n 1, 1, 0), (1, .istore 5, 2, 0), (3, .iload_n 0, 1, 0), (4, .ifCond .ge 7, 3, 11), (7, .iconst 1, 1, 0), (8, .goto 4, 3, 12), (11, .iconst 0, 1, 0), (12, .istore 6, 2, 0), (14, .iload 6, 2, 0), (16, .ifCond .ne 6, 3, 22), (19, .iload_n 0, 1, 0), (20, .ineg, 1, 0), (21, .istore_n 0, 1, 0), (22, .iload_n 0, 1, 0), (23, .bipush (-100), 2, 0), (25, .if_icmp .gt 47, 3, 72), (28, .iload_n 0, 1, 0), (29, .bipush 100, 2, 0), (31, .idiv, 1, 0), (32, .istore_n 3, 1, 0), (33, .iload_n 3, 1, 0), (34, .bipush 100, 2, 0), (36, .imul, 1, 0), (37, .iload_n 0, 1, 0), (38, .isub, 1, 0), (39, .istore 4, 2, 0), (41, .iload_n 3, 1, 0), (42, .istore_n 0, 1, 0), (43, .aload_n 2, 1, 0), (44, .iinc 5 (-1), 3, 0), (47, .iload 5, 2, 0), (49, .getstatic 83, 3, 0), (52, .iload 4, 2, 0), (54, .baload, 1, 0), (55, .bastore, 1, 0), (56, .aload_n 2, 1, 0), (57, .iinc 5 (-1), 3, 0), (60, .iload 5, 2, 0), (62, .getstatic 87, 3, 0), (65, .iload 4, 2, 0), (67, .baload, 1, 0), (68, .bastore, 1, 0), (69, .goto (-47), 3, 22), (72, .aload_n 2, 1, 0), (73, .iinc 5 (-1), 3, 0), (76, .iload 5, 2, 0), (78, .getstatic 83, 3, 0), (81, .iload_n 0, 1, 0), (82, .ineg, 1, 0), (83, .baload, 1, 0), (84, .bastore, 1, 0), (85, .iload_n 0, 1, 0), (86, .bipush (-9), 2, 0), (88, .if_icmp .ge 16, 3, 104), (91, .aload_n 2, 1, 0), (92, .iinc 5 (-1), 3, 0), (95, .iload 5, 2, 0), (97, .getstatic 87, 3, 0), (100, .iload_n 0, 1, 0), (101, .ineg, 1, 0), (102, .baload, 1, 0), (103, .bastore, 1, 0), (104, .iload 6, 2, 0), (106, .ifCond .eq 12, 3, 118), (109, .aload_n 2, 1, 0), (110, .iinc 5 (-1), 3, 0), (113, .iload 5, 2, 0), (115, .bipush 45, 2, 0), (117, .bastore, 1, 0), (118, .iload 5, 2, 0), (120, .ireturn, 1, 0)], [])
def mJ4_append_cf468 : MR := (1, 2, [(0, .aload_n 0, 1, 0), (1, .iload_n 1, 1, 0), (2, .invokespecial 50, 3, 0), (5, .pop, 1, 0), (6, .aload_n 0, 1, 0), (7, .areturn, 1, 0)], [])
def mJ5_append_3fe6f : MR := (16, 2, [(0, .aload_n 0, 1, 0), (1, .aload_n 0, 1, 0), (2, .getfield 79, 3, 0), (5, .iconst 1, 1, 0), (6, .iadd, 1, 0), (7, .invokevirtual 100, 3, 0), (10, .aload_n 0, 1, 0), (11, .invokevirtual 83, 3, 0), (14, .ifCond .eq 31, 3, 45), (17, .iload_n 1, 1, 0), (18, .invokestatic 191, 3, 0), (21, .ifCond .eq 24, 3, 45), (24, .aload_n 0, 1, 0), (25, .getfield 15, 3, 0), (28, .aload_n 0, 1, 0), (29, .dup, 1, 0), (30, .getfield 79, 3, 0), (33, .dup_x1, 1, 0), (34, .iconst 1, 1, 0), (35, .iadd, 1, 0), (36, .putfield 79, 3, 0), (39, .iload_n 1, 1, 0), (40, .i2b, 1, 0), (41, .bastore, 1, 0), (42, .goto 33, 3, 75), (45, .aload_n 0, 1, 0), (46, .invokevirtual 83, 3, 0), (49, .ifCond .eq 7, 3, 56), (52, .aload_n 0, 1, 0), (53, .invokevirtual 195, 3, 0), (56, .aload_n 0, 1, 0), (57, .getfield 15, 3, 0), (60, .aload_n 0, 1, 0), (61, .dup, 1, 0), (62, .getfield 79, 3, 0), (65, .dup_x1, 1, 0), (66, .iconst 1, 1, 0), (67, .iadd, 1, 0), (68, .putfield 79, 3, 0), (71, .iload_n 1, 1, 0), (72, .invokestatic 197, 3, 0), (75, .aload_n 0, 1, 0), (76, .areturn, 1, 0)], [])
def mJ1_canEncode_fc78d : MR := (21, 1, [(0, .iload_n 0, 1, 0), (1, .sipush 255, 3, 0), (4, .if_icmp .gt 7, 3, 11), (7, .iconst 1, 1, 0), (8, .goto 4, 3, 12), (11, .iconst 0, 1, 0), (12, .ireturn, 1, 1)], [])
def mJx4a65c_size_8abf5 : MR := (2, 1, [(0, .aload_n 0, 1, 0), (1, .getfield 48, 3, 0), (4, .ireturn, 1, 0)], [])
def mJx4a65c_get_915e3 : MR := (2, 2, [(0, .iload_n 1, 1, 0), (1, .aload_n 0, 1, 0), (2, .getfield 48, 3, 0), (5, .invokestatic 118, 3, 0), (8, .pop, 1, 0), (9, .aload_n 0, 1, 0), (10, .iload_n 1, 1, 0), (11, .invokevirtual 123, 3, 0), (14, .areturn, 1, 0)], [])
def mJ15_checkIndex_7cf53 : MR := (26, 2, [(0, .iload_n 0, 1, 0), (1, .iload_n 1, 1, 0), (2, .aconst_null, 1, 0), (3, .invokestatic 105, 3, 0), (6, .ireturn, 1, 0)], [])
def mJ3_checkIndex_8e157 : MR := (23, 3, [(0, .iload_n 0, 1, 0), (1, .ifCond .lt 8, 3, 9), (4, .iload_n 0, 1, 0), (5, .iload_n 1, 1, 0), (6, .if_icmp .lt 10, 3, 16), (9, .aload_n 2, 1, 0), (10, .iload_n 0, 1, 0), (11, .iload_n 1, 1, 0), (12, .invokestatic 95, 3, 0), (15, .athrow, 1, 0), (16, .iload_n 0, 1, 0), (17, .ireturn, 1, 0)], [])
def mJx4a65c_elementData_915e3 : MR := (2, 2, [(0, .aload_n 0, 1, 0), (1, .getfield 9, 3, 0), (4, .iload_n 1, 1, 0), (5, .aaload, 1, 0), (6, .areturn, 1, 0)], [])
def mX10_relocate : MR := (12, 3, [(0, .aload_n 0, 1, 0), (1, .invokevirtual 139, 3, 0), (4, .ifCond .eq 21, 3, 25), (7, .aload_n 0, 1, 0), (8, .getfield 7, 3, 0), (11, .ifCond .lt 15, 3, 26), (14, .aload_n 0, 1, 0), (15, .aload_n 0, 1, 0), (16, .getfield 7, 3, 0), (19, .invokevirtual 168, 3, 0), (22, .ifCond .eq 4, 3, 26), (25, .return_, 1, 0), (26, .iconst (-1), 1, 0), (27, .istore_n 1, 1, 0), (28, .iconst 0, 1, 0), (29, .istore_n 2, 1, 0), (30, .iload_n 2, 1, 0), (31, .aload_n 0, 1, 0), (32, .invokevirtual 172, 3, 0), (35, .if_icmp .ge 66, 3, 101), (38, .aload_n 0, 1, 0), (39, .iload_n 2, 1, 0), (40, .invokevirtual 168, 3, 0), (43, .ifCond .eq 52, 3, 95), (46, .aload_n 0, 1, 0), (47, .getfield 110, 3, 0), (50, .iload_n 2, 1, 0), (51, .iaload, 1, 0), (52, .ifCond .le 6, 3, 58), (55, .goto 40, 3, 95), (58, .iload_n 1, 1, 0), (59, .ifCond .lt 34, 3, 93), (62, .iload_n 2, 1, 0), (63, .aload_n 0, 1, 0), (64, .getfield 34, 3, 0), (67, .irem, 1, 0), (68, .aload_n 0, 1, 0), (69, .getfield 61, 3, 0), (72, .isub, 1, 0), (73, .invokestatic 130, 3, 0), (76, .iload_n 1, 1, 0), (77, .aload_n 0, 1, 0), (78, .getfield 34, 3, 0), (81, .irem, 1, 0), (82, .aload_n 0, 1, 0), (83, .getfield 61, 3, 0), (86, .isub, 1, 0), (87, .invokestatic 130, 3, 0), (90, .if_icmp .ge 5, 3, 95), (93, .iload_n 2, 1, 0), (94, .istore_n 1, 1, 0), (95, .iinc 2 1, 3, 0), (98, .goto (-68), 3, 30), (101, .aload_n 0, 1, 0), (102, .iload_n 1, 1, 0), (103, .putfield 7, 3, 0), (106, .iload_n 1, 1, 0), (107, .ifCond .lt 13, 3, 120), (110, .aload_n 0, 1, 0), (111, .iload_n 1, 1, 0), (112, .aload_n 0, 1, 0), (113, .getfield 34, 3, 0), (116, .irem, 1, 0), (117, .putfield 61, 3, 0), (120, .return_, 1, 0)], [])
def mX10_shines : MR := (12, 3, [(0, .aload_n 0, 1, 0), (1, .invokevirtual 136, 3, 0), (4, .ifCond .le 7, 3, 11), (7, .iconst 1, 1, 0), (8, .goto 4, 3, 12), (11, .iconst 0, 1, 0), (12, .istore_n 1, 1, 0), (13, .iconst 0, 1, 0), (14, .istore_n 2, 1, 0), (15, .iload_n 2, 1, 0), (16, .aload_n 0, 1, 0), (17, .getfield 23, 3, 0), (20, .invokevirtual 118, 3, 0), (23, .if_icmp .ge 51, 3, 74), (26, .aload_n 0, 1, 0), (27, .getfield 58, 3, 0), (30, .aload_n 0, 1, 0), (31, .getfield 23, 3, 0), (34, .iload_n 2, 1, 0), (35, .invokevirtual 122, 3, 0), (38, .checkcast 114, 3, 0), (41, .iconst 0, 1, 0), (42, .iaload, 1, 0), (43, .if_icmp .lt 25, 3, 68), (46, .aload_n 0, 1, 0), (47, .getfield 58, 3, 0), (50, .aload_n 0, 1, 0), (51, .getfield 23, 3, 0), (54, .iload_n 2, 1, 0), (55, .invokevirtual 122, 3, 0), (58, .checkcast 114, 3, 0), (61, .iconst 1, 1, 0), (62, .iaload, 1, 0), (63, .if_icmp .gt 5, 3, 68), (66, .iconst 0, 1, 0), (67, .istore_n 1, 1, 0), (68, .iinc 2 1, 3, 0), (71, .goto (-56), 3, 15), (74, .iload_n 1, 1, 0), (75, .ireturn, 1, 1)], [])
def mX10_bright : MR := (12, 1, [(0, .bipush 15, 2, 0), (2, .bipush 15, 2, 0), (4, .aload_n 0, 1, 0), (5, .getfield 55, 3, 0), (8, .bipush 30, 2, 0), (10, .irem, 1, 0), (11, .isub, 1, 0), (12, .invokestatic 130, 3, 0), (15, .isub, 1, 0), (16, .ireturn, 1, 0)], [])
def mX10_lit : MR := (12, 2, [(0, .aload_n 0, 1, 0), (1, .invokevirtual 139, 3, 0), (4, .ifCond .eq 39, 3, 43), (7, .aload_n 0, 1, 0), (8, .getfield 92, 3, 0), (11, .iload_n 1, 1, 0), (12, .aload_n 0, 1, 0), (13, .getfield 34, 3, 0), (16, .irem, 1, 0), (17, .baload, 1, 0), (18, .ifCond .ne 25, 3, 43), (21, .iload_n 1, 1, 0), (22, .aload_n 0, 1, 0), (23, .getfield 34, 3, 0), (26, .idiv, 1, 0), (27, .aload_n 0, 1, 0), (28, .getfield 58, 3, 0), (31, .aload_n 0, 1, 0), (32, .getfield 37, 3, 0), (35, .idiv, 1, 0), (36, .if_icmp .ne 7, 3, 43), (39, .iconst 1, 1, 0), (40, .goto 4, 3, 44), (43, .iconst 0, 1, 0), (44, .ireturn, 1, 1)], [])
def mX10_advance : MR := (12, 5, [(0, .aload_n 0, 1, 0), (1, .getfield 70, 3, 0), (4, .istore_n 2, 1, 0), (5, .iconst 0, 1, 0), (6, .istore_n 3, 1, 0), (7, .iload_n 3, 1, 0), (8, .iload_n 1, 1, 0), (9, .if_icmp .ge 168, 3, 177), (12, .aload_n 0, 1, 0), (13, .invokevirtual 175, 3, 0), (16, .aload_n 0, 1, 0), (17, .invokevirtual 178, 3, 0), (20, .iconst 0, 1, 0), (21, .istore 4, 2, 0), (23, .iload 4, 2, 0), (25, .aload_n 0, 1, 0), (26, .invokevirtual 172, 3, 0), (29, .if_icmp .ge 43, 3, 72), (32, .aload_n 0, 1, 0), (33, .getfield 110, 3, 0), (36, .iload 4, 2, 0), (38, .iconst 0, 1, 0), (39, .aload_n 0, 1, 0), (40, .getfield 110, 3, 0), (43, .iload 4, 2, 0), (45, .iaload, 1, 0), (46, .aload_n 0, 1, 0), (47, .getfield 104, 3, 0), (50, .iload 4, 2, 0), (52, .baload, 1, 0), (53, .ifCond .eq 7, 3, 60), (56, .iconst 2, 1, 0), (57, .goto 4, 3, 61), (60, .iconst 1, 1, 0), (61, .isub, 1, 0), (62, .invokestatic 181, 3, 0), (65, .iastore, 1, 0), (66, .iinc 4 1, 3, 0), (69, .goto (-46), 3, 23), (72, .aload_n 0, 1, 0), (73, .dup, 1, 0), (74, .getfield 58, 3, 0), (77, .iconst 1, 1, 0), (78, .iadd, 1, 0), (79, .putfield 58, 3, 0), (82, .aload_n 0, 1, 0), (83, .getfield 58, 3, 0), (86, .aload_n 0, 1, 0), (87, .getfield 31, 3, 0), (90, .aload_n 0, 1, 0), (91, .getfield 37, 3, 0), (94, .imul, 1, 0), (95, .if_icmp .ne 7, 3, 102), (98, .aload_n 0, 1, 0), (99, .invokevirtual 184, 3, 0), (102, .iconst 0, 1, 0), (103, .istore 4, 2, 0), (105, .iload 4, 2, 0), (107, .aload_n 0, 1, 0), (108, .getfield 34, 3, 0), (111, .if_icmp .ge 56, 3, 167), (114, .aload_n 0, 1, 0), (115, .getfield 107, 3, 0), (118, .iload 4, 2, 0), (120, .iaload, 1, 0), (121, .ifCond .le 40, 3, 161), (124, .aload_n 0, 1, 0), (125, .getfield 58, 3, 0), (128, .aload_n 0, 1, 0), (129, .getfield 107, 3, 0), (132, .iload 4, 2, 0), (134, .iaload, 1, 0), (135, .irem, 1, 0), (136, .ifCond .ne 25, 3, 161), (139, .aload_n 0, 1, 0), (140, .getfield 92, 3, 0), (143, .iload 4, 2, 0), (145, .aload_n 0, 1, 0), (146, .getfield 92, 3, 0), (149, .iload 4, 2, 0), (151, .baload, 1, 0), (152, .ifCond .ne 7, 3, 159), (155, .iconst 1, 1, 0), (156, .goto 4, 3, 160), (159, .iconst 0, 1, 0), (160, .bastore, 1, 0), (161, .iinc 4 1, 3, 0), (164, .goto (-59), 3, 105), (167, .aload_n 0, 1, 0), (168, .invokevirtual 187, 3, 0), (171, .iinc 3 1, 3, 0), (174, .goto (-167), 3, 7), (177, .aload_n 0, 1, 0), (178, .getfield 70, 3, 0), (181, .iload_n 2, 1, 0), (182, .isub, 1, 0), (183, .ireturn, 1, 0)], [])
set_option maxRecDepth 100000 in
def mX10_prowl : MR := (12, 5, [(0, .aload_n 0, 1, 0), (1, .getfield 13, 3, 0), (4, .ifCond .lt 11, 3, 15), (7, .aload_n 0, 1, 0), (8, .getfield 16, 3, 0), (11, .arraylength, 1, 0), (12, .ifCond .ne 4, 3, 16), (15, .return_, 1, 0), (16, .aload_n 0, 1, 0), (17, .getfield 16, 3, 0), (20, .aload_n 0, 1, 0), (21, .getfield 85, 3, 0), (24, .iaload, 1, 0), (25, .istore_n 1, 1, 0), (26, .iload_n 1, 1, 0), (27, .ifCond .ne 7, 3, 34), (30, .iconst (-1), 1, 0), (31, .goto 12, 3, 43), (34, .aload_n 0, 1, 0), (35, .aload_n 0, 1, 0), (36, .getfield 13, 3, 0), (39, .iload_n 1, 1, 0), (40, .invokevirtual 147, 3, 0), (43, .istore_n 2, 1, 0), (44, .iload_n 2, 1, 0), (45, .ifCond .lt 17, 3, 62), (48, .aload_n 0, 1, 0), (49, .getfield 110, 3, 0), (52, .iload_n 2, 1, 0), (53, .iaload, 1, 0), (54, .ifCond .ne 8, 3, 62), (57, .aload_n 0, 1, 0), (58, .iload_n 2, 1, 0), (59, .putfield 13, 3, 0), (62, .aload_n 0, 1, 0), (63, .aload_n 0, 1, 0), (64, .getfield 85, 3, 0), (67, .iconst 1, 1, 0), (68, .iadd, 1, 0), (69, .aload_n 0, 1, 0), (70, .getfield 16, 3, 0), (73, .arraylength, 1, 0), (74, .irem, 1, 0), (75, .putfield 85, 3, 0), (78, .aload_n 0, 1, 0), (79, .getfield 101, 3, 0), (82, .aload_n 0, 1, 0), (83, .getfield 13, 3, 0), (86, .baload, 1, 0), (87, .ifCond .ne 4, 3, 91), (90, .return_, 1, 0), (91, .aload_n 0, 1, 0), (92, .getfield 101, 3, 0), (95, .aload_n 0, 1, 0), (96, .getfield 13, 3, 0), (99, .iconst 0, 1, 0), (100, .bastore, 1, 0), (101, .aload_n 0, 1, 0), (102, .getfield 110, 3, 0), (105, .aload_n 0, 1, 0), (106, .getfield 13, 3, 0), (109, .aload_n 0, 1, 0), (110, .getfield 43, 3, 0), (113, .iastore, 1, 0), (114, .aload_n 0, 1, 0), (115, .getfield 7, 3, 0), (118, .aload_n 0, 1, 0), (119, .getfield 13, 3, 0), (122, .if_icmp .ne 29, 3, 151), (125, .aload_n 0, 1, 0), (126, .aload_n 0, 1, 0), (127, .getfield 46, 3, 0), (130, .putfield 64, 3, 0), (133, .aload_n 0, 1, 0), (134, .iconst 0, 1, 0), (135, .putfield 67, 3, 0), (138, .aload_n 0, 1, 0), (139, .dup, 1, 0), (140, .getfield 79, 3, 0), (143, .iconst 1, 1, 0), (144, .iadd, 1, 0), (145, .putfield 79, 3, 0), (148, .goto 85, 3, 233), (151, .aload_n 0, 1, 0), (152, .getfield 7, 3, 0), (155, .ifCond .lt 78, 3, 233), (158, .aload_n 0, 1, 0), (159, .getfield 7, 3, 0), (162, .aload_n 0, 1, 0), (163, .getfield 34, 3, 0), (166, .irem, 1, 0), (167, .aload_n 0, 1, 0), (168, .getfield 13, 3, 0), (171, .aload_n 0, 1, 0), (172, .getfield 34, 3, 0), (175, .irem, 1, 0), (176, .isub, 1, 0), (177, .istore_n 3, 1, 0), (178, .aload_n 0, 1, 0), (179, .getfield 7, 3, 0), (182, .aload_n 0, 1, 0), (183, .getfield 34, 3, 0), (186, .idiv, 1, 0), (187, .aload_n 0, 1, 0), (188, .getfield 13, 3, 0), (191, .aload_n 0, 1, 0), (192, .getfield 34, 3, 0), (195, .idiv, 1, 0), (196, .isub, 1, 0), (197, .invokestatic 130, 3, 0), (200, .iload_n 3, 1, 0), (201, .invokestatic 130, 3, 0), (204, .iadd, 1, 0), (205, .istore 4, 2, 0), (207, .iload 4, 2, 0), (209, .aload_n 0, 1, 0), (210, .getfield 52, 3, 0), (213, .if_icmp .gt 20, 3, 233), (216, .iload_n 3, 1, 0), (217, .ifCond .eq 16, 3, 233), (220, .aload_n 0, 1, 0), (221, .iload_n 3, 1, 0), (222, .ifCond .le 7, 3, 229), (225, .iconst 1, 1, 0), (226, .goto 4, 3, 230), (229, .iconst 0, 1, 0), (230, .putfield 88, 3, 0), (233, .return_, 1, 0)], [])
def mX10_beside : MR := (12, 5, [(0, .iload_n 1, 1, 0), (1, .aload_n 0, 1, 0), (2, .getfield 34, 3, 0), (5, .idiv, 1, 0), (6, .iload_n 2, 1, 0), (7, .iconst 1, 1, 0), (8, .if_icmp .ne 7, 3, 15), (11, .iconst (-1), 1, 0), (12, .goto 13, 3, 25), (15, .iload_n 2, 1, 0), (16, .iconst 2, 1, 0), (17, .if_icmp .ne 7, 3, 24), (20, .iconst 1, 1, 0), (21, .goto 4, 3, 25), (24, .iconst 0, 1, 0), (25, .iadd, 1, 0), (26, .istore_n 3, 1, 0), (27, .iload_n 1, 1, 0), (28, .aload_n 0, 1, 0), (29, .getfield 34, 3, 0), (32, .irem, 1, 0), (33, .iload_n 2, 1, 0), (34, .iconst 3, 1, 0), (35, .if_icmp .ne 7, 3, 42), (38, .iconst (-1), 1, 0), (39, .goto 13, 3, 52), (42, .iload_n 2, 1, 0), (43, .iconst 4, 1, 0), (44, .if_icmp .ne 7, 3, 51), (47, .iconst 1, 1, 0), (48, .goto 4, 3, 52), (51, .iconst 0, 1, 0), (52, .iadd, 1, 0), (53, .istore 4, 2, 0), (55, .iload_n 3, 1, 0), (56, .ifCond .lt 25, 3, 81), (59, .iload_n 3, 1, 0), (60, .aload_n 0, 1, 0), (61, .getfield 31, 3, 0), (64, .if_icmp .eq 17, 3, 81), (67, .iload 4, 2, 0), (69, .ifCond .lt 12, 3, 81), (72, .iload 4, 2, 0), (74, .aload_n 0, 1, 0), (75, .getfield 34, 3, 0), (78, .if_icmp .ne 7, 3, 85), (81, .iconst (-1), 1, 0), (82, .goto 12, 3, 94), (85, .iload_n 3, 1, 0), (86, .aload_n 0, 1, 0), (87, .getfield 34, 3, 0), (90, .imul, 1, 0), (91, .iload 4, 2, 0), (93, .iadd, 1, 0), (94, .ireturn, 1, 0)], [])
set_option maxRecDepth 100000 in
def mX10_walk : MR := (12, 5, [(0, .aload_n 0, 1, 0), (1, .getfield 64, 3, 0), (4, .ifCond .le 14, 3, 18), (7, .aload_n 0, 1, 0), (8, .dup, 1, 0), (9, .getfield 64, 3, 0), (12, .iconst 1, 1, 0), (13, .isub, 1, 0), (14, .putfield 64, 3, 0), (17, .return_, 1, 0), (18, .aload_n 0, 1, 0), (19, .getfield 7, 3, 0), (22, .ifCond .ge 7, 3, 29), (25, .iconst 0, 1, 0), (26, .goto 7, 3, 33), (29, .aload_n 0, 1, 0), (30, .invokevirtual 153, 3, 0), (33, .istore_n 1, 1, 0), (34, .iconst 0, 1, 0), (35, .istore_n 2, 1, 0), (36, .iload_n 2, 1, 0), (37, .iload_n 1, 1, 0), (38, .if_icmp .ge 225, 3, 263), (41, .aload_n 0, 1, 0), (42, .invokevirtual 156, 3, 0), (45, .ifCond .le 32, 3, 77), (48, .aload_n 0, 1, 0), (49, .aload_n 0, 1, 0), (50, .getfield 88, 3, 0), (53, .ifCond .ne 7, 3, 60), (56, .iconst 1, 1, 0), (57, .goto 4, 3, 61), (60, .iconst 0, 1, 0), (61, .putfield 88, 3, 0), (64, .aload_n 0, 1, 0), (65, .dup, 1, 0), (66, .getfield 76, 3, 0), (69, .iconst 1, 1, 0), (70, .iadd, 1, 0), (71, .putfield 76, 3, 0), (74, .goto 151, 3, 225), (77, .aload_n 0, 1, 0), (78, .invokevirtual 150, 3, 0), (81, .istore_n 3, 1, 0), (82, .aload_n 0, 1, 0), (83, .iload_n 3, 1, 0), (84, .aload_n 0, 1, 0), (85, .getfield 88, 3, 0), (88, .ifCond .eq 7, 3, 95), (91, .iconst 4, 1, 0), (92, .goto 4, 3, 96), (95, .iconst 3, 1, 0), (96, .invokevirtual 147, 3, 0), (99, .istore 4, 2, 0), (101, .aload_n 0, 1, 0), (102, .iload_n 3, 1, 0), (103, .putfield 7, 3, 0), (106, .aload_n 0, 1, 0), (107, .iload_n 3, 1, 0), (108, .aload_n 0, 1, 0), (109, .getfield 34, 3, 0), (112, .irem, 1, 0), (113, .putfield 61, 3, 0), (116, .aload_n 0, 1, 0), (117, .getfield 115, 3, 0), (120, .iload_n 3, 1, 0), (121, .dup2, 1, 0), (122, .iaload, 1, 0), (123, .iconst 1, 1, 0), (124, .iadd, 1, 0), (125, .iastore, 1, 0), (126, .aload_n 0, 1, 0), (127, .dup, 1, 0), (128, .getfield 70, 3, 0), (131, .iconst 1, 1, 0), (132, .iadd, 1, 0), (133, .putfield 70, 3, 0), (136, .aload_n 0, 1, 0), (137, .dup, 1, 0), (138, .getfield 73, 3, 0), (141, .iconst 1, 1, 0), (142, .iadd, 1, 0), (143, .putfield 73, 3, 0), (146, .aload_n 0, 1, 0), (147, .dup, 1, 0), (148, .getfield 67, 3, 0), (151, .iconst 1, 1, 0), (152, .iadd, 1, 0), (153, .putfield 67, 3, 0), (156, .aload_n 0, 1, 0), (157, .getfield 104, 3, 0), (160, .iload_n 3, 1, 0), (161, .baload, 1, 0), (162, .ifCond .eq 63, 3, 225), (165, .iload 4, 2, 0), (167, .ifCond .lt 58, 3, 225), (170, .aload_n 0, 1, 0), (171, .getfield 104, 3, 0), (174, .iload 4, 2, 0), (176, .baload, 1, 0), (177, .ifCond .ne 48, 3, 225), (180, .aload_n 0, 1, 0), (181, .getfield 101, 3, 0), (184, .iload 4, 2, 0), (186, .baload, 1, 0), (187, .ifCond .ne 38, 3, 225), (190, .aload_n 0, 1, 0), (191, .getfield 110, 3, 0), (194, .iload 4, 2, 0), (196, .iaload, 1, 0), (197, .ifCond .ne 28, 3, 225), (200, .aload_n 0, 1, 0), (201, .getfield 104, 3, 0), (204, .iload_n 3, 1, 0), (205, .iconst 0, 1, 0), (206, .bastore, 1, 0), (207, .aload_n 0, 1, 0), (208, .getfield 104, 3, 0), (211, .iload 4, 2, 0), (213, .iconst 1, 1, 0), (214, .bastore, 1, 0), (215, .aload_n 0, 1, 0), (216, .dup, 1, 0), (217, .getfield 82, 3, 0), (220, .iconst 1, 1, 0), (221, .iadd, 1, 0), (222, .putfield 82, 3, 0), (225, .aload_n 0, 1, 0), (226, .getfield 49, 3, 0), (229, .ifCond .eq 28, 3, 257), (232, .aload_n 0, 1, 0), (233, .getfield 67, 3, 0), (236, .aload_n 0, 1, 0), (237, .getfield 49, 3, 0), (240, .if_icmp .ge 6, 3, 246), (243, .goto 14, 3, 257), (246, .aload_n 0, 1, 0), (247, .iconst 1, 1, 0), (248, .putfield 64, 3, 0), (251, .aload_n 0, 1, 0), (252, .iconst 0, 1, 0), (253, .putfield 67, 3, 0), (256, .return_, 1, 0), (257, .iinc 2 1, 3, 0), (260, .goto (-224), 3, 36), (263, .return_, 1, 0)], [])
def mX10_steps : MR := (12, 1, [(0, .aload_n 0, 1, 0), (1, .invokevirtual 139, 3, 0), (4, .ifCond .eq 21, 3, 25), (7, .aload_n 0, 1, 0), (8, .getfield 40, 3, 0), (11, .iconst 1, 1, 0), (12, .aload_n 0, 1, 0), (13, .invokevirtual 136, 3, 0), (16, .iconst 4, 1, 0), (17, .idiv, 1, 0), (18, .iadd, 1, 0), (19, .invokestatic 143, 3, 0), (22, .goto 4, 3, 26), (25, .iconst 0, 1, 0), (26, .ireturn, 1, 0)], [])
def mX10_block : MR := (12, 2, [(0, .aload_n 0, 1, 0), (1, .getfield 7, 3, 0), (4, .ifCond .ge 5, 3, 9), (7, .iconst 1, 1, 0), (8, .ireturn, 1, 0), (9, .aload_n 0, 1, 0), (10, .invokevirtual 139, 3, 0), (13, .ifCond .ne 5, 3, 18), (16, .iconst 2, 1, 0), (17, .ireturn, 1, 0), (18, .aload_n 0, 1, 0), (19, .getfield 64, 3, 0), (22, .ifCond .le 5, 3, 27), (25, .iconst 3, 1, 0), (26, .ireturn, 1, 0), (27, .aload_n 0, 1, 0), (28, .invokevirtual 150, 3, 0), (31, .istore_n 1, 1, 0), (32, .iload_n 1, 1, 0), (33, .ifCond .ge 7, 3, 40), (36, .iconst 4, 1, 0), (37, .goto 36, 3, 73), (40, .aload_n 0, 1, 0), (41, .getfield 92, 3, 0), (44, .iload_n 1, 1, 0), (45, .aload_n 0, 1, 0), (46, .getfield 34, 3, 0), (49, .irem, 1, 0), (50, .baload, 1, 0), (51, .ifCond .eq 7, 3, 58), (54, .iconst 5, 1, 0), (55, .goto 18, 3, 73), (58, .aload_n 0, 1, 0), (59, .getfield 110, 3, 0), (62, .iload_n 1, 1, 0), (63, .iaload, 1, 0), (64, .ifCond .le 8, 3, 72), (67, .bipush 6, 2, 0), (69, .goto 4, 3, 73), (72, .iconst 0, 1, 0), (73, .ireturn, 1, 0)], [])
def mX10_ahead : MR := (12, 1, [(0, .aload_n 0, 1, 0), (1, .aload_n 0, 1, 0), (2, .getfield 7, 3, 0), (5, .aload_n 0, 1, 0), (6, .getfield 88, 3, 0), (9, .ifCond .eq 7, 3, 16), (12, .iconst 4, 1, 0), (13, .goto 4, 3, 17), (16, .iconst 3, 1, 0), (17, .invokevirtual 147, 3, 0), (20, .ireturn, 1, 0)], [])
def mX10_dawn : MR := (12, 3, [(0, .aload_n 0, 1, 0), (1, .aload_n 0, 1, 0), (2, .getfield 73, 3, 0), (5, .invokevirtual 159, 3, 0), (8, .istore_n 1, 1, 0), (9, .aload_n 0, 1, 0), (10, .getfield 73, 3, 0), (13, .ifCond .le 59, 3, 72), (16, .iload_n 1, 1, 0), (17, .bipush 10, 2, 0), (19, .if_icmp .ge 53, 3, 72), (22, .aload_n 0, 1, 0), (23, .getfield 27, 3, 0), (26, .iload_n 1, 1, 0), (27, .iconst 2, 1, 0), (28, .newarray .int, 2, 0), (30, .dup, 1, 0), (31, .iconst 0, 1, 0), (32, .aload_n 0, 1, 0), (33, .getfield 55, 3, 0), (36, .iastore, 1, 0), (37, .dup, 1, 0), (38, .iconst 1, 1, 0), (39, .aload_n 0, 1, 0), (40, .getfield 73, 3, 0), (43, .iastore, 1, 0), (44, .invokevirtual 162, 3, 0), (47, .aload_n 0, 1, 0), (48, .getfield 27, 3, 0), (51, .invokevirtual 118, 3, 0), (54, .bipush 10, 2, 0), (56, .if_icmp .le 16, 3, 72), (59, .aload_n 0, 1, 0), (60, .getfield 27, 3, 0), (63, .bipush 10, 2, 0), (65, .invokevirtual 165, 3, 0), (68, .checkcast 114, 3, 0), (71, .astore_n 2, 1, 0), (72, .aload_n 0, 1, 0), (73, .dup, 1, 0), (74, .getfield 55, 3, 0), (77, .iconst 1, 1, 0), (78, .iadd, 1, 0), (79, .putfield 55, 3, 0), (82, .aload_n 0, 1, 0), (83, .iconst 0, 1, 0), (84, .putfield 58, 3, 0), (87, .aload_n 0, 1, 0), (88, .iconst 0, 1, 0), (89, .putfield 73, 3, 0), (92, .return_, 1, 0)], [])
def mX10_rank : MR := (12, 4, [(0, .iconst 0, 1, 0), (1, .istore_n 2, 1, 0), (2, .iconst 0, 1, 0), (3, .istore_n 3, 1, 0), (4, .iload_n 3, 1, 0), (5, .aload_n 0, 1, 0), (6, .getfield 27, 3, 0), (9, .invokevirtual 118, 3, 0), (12, .if_icmp .ge 29, 3, 41), (15, .aload_n 0, 1, 0), (16, .getfield 27, 3, 0), (19, .iload_n 3, 1, 0), (20, .invokevirtual 122, 3, 0), (23, .checkcast 114, 3, 0), (26, .iconst 1, 1, 0), (27, .iaload, 1, 0), (28, .iload_n 1, 1, 0), (29, .if_icmp .lt 6, 3, 35), (32, .iinc 2 1, 3, 0), (35, .iinc 3 1, 3, 0), (38, .goto (-34), 3, 4), (41, .iload_n 2, 1, 0), (42, .ireturn, 1, 0)], [])
def mJx4a65c_add_7a177 : MR := (2, 5, [(0, .aload_n 0, 1, 0), (1, .iload_n 1, 1, 0), (2, .invokevirtual 135, 3, 0), (5, .aload_n 0, 1, 0), (6, .dup, 1, 0), (7, .getfield 63, 3, 0), (10, .iconst 1, 1, 0), (11, .iadd, 1, 0), (12, .putfield 63, 3, 0), (15, .aload_n 0, 1, 0), (16, .getfield 48, 3, 0), (19, .dup, 1, 0), (20, .istore_n 3, 1, 0), (21, .aload_n 0, 1, 0), (22, .getfield 9, 3, 0), (25, .dup, 1, 0), (26, .astore 4, 2, 0), (28, .arraylength, 1, 0), (29, .if_icmp .ne 9, 3, 38), (32, .aload_n 0, 1, 0), (33, .invokevirtual 129, 3, 0), (36, .astore 4, 2, 0), (38, .aload 4, 2, 0), (40, .iload_n 1, 1, 0), (41, .aload 4, 2, 0), (43, .iload_n 1, 1, 0), (44, .iconst 1, 1, 0), (45, .iadd, 1, 0), (46, .iload_n 3, 1, 0), (47, .iload_n 1, 1, 0), (48, .isub, 1, 0), (49, .invokestatic 112, 3, 0), (52, .aload 4, 2, 0), (54, .iload_n 1, 1, 0), (55, .aload_n 2, 1, 0), (56, .aastore, 1, 0), (57, .aload_n 0, 1, 0), (58, .iload_n 3, 1, 0), (59, .iconst 1, 1, 0), (60, .iadd, 1, 0), (61, .putfield 48, 3, 0), (64, .return_, 1, 0)], [])
def mJx4a65c_rangeCheckForAdd_d00df : MR := (2, 2, [(0, .iload_n 1, 1, 0), (1, .aload_n 0, 1, 0), (2, .getfield 48, 3, 0), (5, .if_icmp .gt 7, 3, 12), (8, .iload_n 1, 1, 0), (9, .ifCond .ge 16, 3, 25), (12, .new 187, 3, 0), (15, .dup, 1, 0), (16, .aload_n 0, 1, 0), (17, .iload_n 1, 1, 0), (18, .invokevirtual 198, 3, 0), (21, .invokespecial 193, 3, 0), (24, .athrow, 1, 0), (25, .return_, 1, 0)], [])
def mJ4_toString_0e30d : MR := (1, 1, [(0, .new 18, 3, 0), (3, .dup, 1, 0), (4, .aload_n 0, 1, 0), (5, .invokespecial 137, 3, 0), (8, .areturn, 1, 0)], [])
def mJ0_init_81219 : MR := (0, 2, [(0, .aload_n 0, 1, 0), (1, .aload_n 1, 1, 0), (2, .aconst_null, 1, 0), (3, .invokespecial 489, 3, 0), (6, .return_, 1, 0)], [])
def mJ0_init_db425 : MR := (0, 5, [(0, .aload_n 0, 1, 0), (1, .invokespecial 1, 3, 0), (4, .aload_n 1, 1, 0), (5, .invokevirtual 552, 3, 0), (8, .astore_n 3, 1, 0), (9, .aload_n 1, 1, 0), (10, .invokevirtual 549, 3, 0), (13, .istore 4, 2, 0), (15, .aload_n 1, 1, 0), (16, .invokevirtual 1047, 3, 0), (19, .ifCond .eq 22, 3, 41), (22, .aload_n 0, 1, 0), (23, .iconst 0, 1, 0), (24, .putfield 15, 3, 0), (27, .aload_n 0, 1, 0), (28, .aload_n 3, 1, 0), (29, .iconst 0, 1, 0), (30, .iload 4, 2, 0), (32, .invokestatic 54, 3, 0), (35, .putfield 9, 3, 0), (38, .goto 59, 3, 97), (41, .getstatic 38, 3, 0), (44, .ifCond .eq 35, 3, 79), (47, .aload_n 1, 1, 0), (48, .getfield 1048, 3, 0), (51, .ifCond .eq 28, 3, 79), (54, .aload_n 0, 1, 0), (55, .aload_n 3, 1, 0), (56, .iconst 0, 1, 0), (57, .iload 4, 2, 0), (59, .invokestatic 1051, 3, 0), (62, .putfield 9, 3, 0), (65, .aload_n 0, 1, 0), (66, .aload_n 0, 1, 0), (67, .getfield 9, 3, 0), (70, .iload 4, 2, 0), (72, .invokestatic 47, 3, 0), (75, .putfield 15, 3, 0), (78, .return_, 1, 0), (79, .aload_n 0, 1, 0), (80, .iconst 1, 1, 0), (81, .putfield 15, 3, 0), (84, .aload_n 0, 1, 0), (85, .aload_n 3, 1, 0), (86, .iconst 0, 1, 0), (87, .iload 4, 2, 0), (89, .iconst 1, 1, 0), (90, .ishl, 1, 0), (91, .invokestatic 54, 3, 0), (94, .putfield 9, 3, 0), (97, .return_, 1, 0)], [])
def mJ5_getValue_6d5f1 : MR := (16, 1, [(0, .aload_n 0, 1, 0), (1, .getfield 15, 3, 0), (4, .areturn, 1, 0)], [])
def mJ4_length_8abf5 : MR := (1, 1, [(0, .aload_n 0, 1, 0), (1, .invokespecial 343, 3, 0), (4, .ireturn, 1, 0)], [])
def mJ5_length_8abf5 : MR := (16, 1, [(0, .aload_n 0, 1, 0), (1, .getfield 79, 3, 0), (4, .ireturn, 1, 0)], [])
def mJ7_copyOfRange_39247 : MR := (18, 3, [(0, .iload_n 1, 1, 0), (1, .ifCond .ne 9, 3, 10), (4, .iload_n 2, 1, 0), (5, .aload_n 0, 1, 0), (6, .arraylength, 1, 0), (7, .if_icmp .eq 10, 3, 17), (10, .aload_n 0, 1, 0), (11, .iload_n 1, 1, 0), (12, .iload_n 2, 1, 0), (13, .invokestatic 339, 3, 0), (16, .areturn, 1, 0), (17, .aload_n 0, 1, 0), (18, .invokevirtual 310, 3, 0), (21, .checkcast 311, 3, 0), (24, .areturn, 1, 0)], [])
def mJ7_copyOfRangeByte_39247 : MR := (18, 5, [(0, .iload_n 1, 1, 0), (1, .iload_n 2, 1, 0), (2, .invokestatic 343, 3, 0), (5, .iload_n 2, 1, 0), (6, .iload_n 1, 1, 0), (7, .isub, 1, 0), (8, .istore_n 3, 1, 0), (9, .iload_n 3, 1, 0), (10, .newarray .byte, 2, 0), (12, .astore 4, 2, 0), (14, .aload_n 0, 1, 0), (15, .iload_n 1, 1, 0), (16, .aload 4, 2, 0), (18, .iconst 0, 1, 0), (19, .aload_n 0, 1, 0), (20, .arraylength, 1, 0), (21, .iload_n 1, 1, 0), (22, .isub, 1, 0), (23, .iload_n 3, 1, 0), (24, .invokestatic 304, 3, 0), (27, .invokestatic 150, 3, 0), (30, .aload 4, 2, 0), (32, .areturn, 1, 0)], [])
def mJ7_checkLength_df160 : MR := (18, 2, [(0, .iload_n 1, 1, 0), (1, .iload_n 0, 1, 0), (2, .if_icmp .ge 35, 3, 37), (5, .new 43, 3, 0), (8, .dup, 1, 0), (9, .new 45, 3, 0), (12, .dup, 1, 0), (13, .invokespecial 47, 3, 0), (16, .iload_n 0, 1, 0), (17, .invokevirtual 54, 3, 0), (20, .ldc_w 337, 3, 0), (23, .invokevirtual 50, 3, 0), (26, .iload_n 1, 1, 0), (27, .invokevirtual 54, 3, 0), (30, .invokevirtual 61, 3, 0), (33, .invokespecial 65, 3, 0), (36, .athrow, 1, 0), (37, .return_, 1, 0)], [])
def mL_told : MR := (13, 4, [(0, .iconst 0, 1, 0), (1, .istore_n 3, 1, 0), (2, .iload_n 3, 1, 0), (3, .aload_n 2, 1, 0), (4, .invokeinterface 186 1, 5, 0), (9, .if_icmp .ge 21, 3, 30), (12, .aload_n 0, 1, 0), (13, .aload_n 1, 1, 0), (14, .aload_n 2, 1, 0), (15, .iload_n 3, 1, 0), (16, .invokeinterface 191 2, 5, 0), (21, .invokestatic 21, 3, 0), (24, .iinc 3 1, 3, 0), (27, .goto (-25), 3, 2), (30, .aload_n 0, 1, 0), (31, .aload_n 1, 1, 0), (32, .invokestatic 195, 3, 0), (35, .ireturn, 1, 0)], [])
def mJ0_charAt_5068e : MR := (0, 2, [(0, .aload_n 0, 1, 0), (1, .invokevirtual 492, 3, 0), (4, .ifCond .eq 12, 3, 16), (7, .aload_n 0, 1, 0), (8, .getfield 9, 3, 0), (11, .iload_n 1, 1, 0), (12, .invokestatic 495, 3, 0), (15, .ireturn, 1, 2), (16, .aload_n 0, 1, 0), (17, .getfield 9, 3, 0), (20, .iload_n 1, 1, 0), (21, .invokestatic 498, 3, 0), (24, .ireturn, 1, 2)], [])
def mJ0_isLatin1_aae02 : MR := (0, 1, [(0, .getstatic 38, 3, 0), (3, .ifCond .eq 14, 3, 17), (6, .aload_n 0, 1, 0), (7, .getfield 15, 3, 0), (10, .ifCond .ne 7, 3, 17), (13, .iconst 1, 1, 0), (14, .goto 4, 3, 18), (17, .iconst 0, 1, 0), (18, .ireturn, 1, 1)], [])
def mJ1_charAt_3b067 : MR := (21, 2, [(0, .iload_n 1, 1, 0), (1, .aload_n 0, 1, 0), (2, .arraylength, 1, 0), (3, .invokestatic 9, 3, 0), (6, .aload_n 0, 1, 0), (7, .iload_n 1, 1, 0), (8, .baload, 1, 0), (9, .sipush 255, 3, 0), (12, .iand, 1, 0), (13, .i2c, 1, 0), (14, .ireturn, 1, 2)], [])
def mL_put : MR := (13, 4, [(0, .aload_n 1, 1, 0), (1, .iconst 5, 1, 0), (2, .iaload, 1, 0), (3, .istore_n 3, 1, 0), (4, .aload_n 1, 1, 0), (5, .iload_n 3, 1, 0), (6, .iconst 4, 1, 0), (7, .idiv, 1, 0), (8, .aload_n 1, 1, 0), (9, .iload_n 3, 1, 0), (10, .iconst 4, 1, 0), (11, .idiv, 1, 0), (12, .iaload, 1, 0), (13, .bipush 8, 2, 0), (15, .ishl, 1, 0), (16, .iload_n 2, 1, 0), (17, .ior, 1, 0), (18, .iastore, 1, 0), (19, .aload_n 1, 1, 0), (20, .iconst 5, 1, 0), (21, .dup2, 1, 0), (22, .iaload, 1, 0), (23, .iconst 1, 1, 0), (24, .iadd, 1, 0), (25, .iastore, 1, 0), (26, .aload_n 1, 1, 0), (27, .bipush 6, 2, 0), (29, .dup2, 1, 0), (30, .iaload, 1, 0), (31, .iconst 1, 1, 0), (32, .iadd, 1, 0), (33, .iastore, 1, 0), (34, .aload_n 1, 1, 0), (35, .iconst 5, 1, 0), (36, .iaload, 1, 0), (37, .bipush 20, 2, 0), (39, .if_icmp .ne 8, 3, 47), (42, .aload_n 0, 1, 0), (43, .aload_n 1, 1, 0), (44, .invokestatic 7, 3, 0), (47, .return_, 1, 0)], [])
def mL_flush : MR := (13, 3, [(0, .aload_n 0, 1, 0), (1, .aload_n 1, 1, 0), (2, .iconst 0, 1, 0), (3, .iaload, 1, 0), (4, .aload_n 1, 1, 0), (5, .iconst 1, 1, 0), (6, .iaload, 1, 0), (7, .aload_n 1, 1, 0), (8, .iconst 2, 1, 0), (9, .iaload, 1, 0), (10, .aload_n 1, 1, 0), (11, .iconst 3, 1, 0), (12, .iaload, 1, 0), (13, .aload_n 1, 1, 0), (14, .iconst 4, 1, 0), (15, .iaload, 1, 0), (16, .invokevirtual 13, 3, 0), (19, .istore_n 2, 1, 0), (20, .aload_n 1, 1, 0), (21, .iconst 5, 1, 0), (22, .iconst 0, 1, 0), (23, .iastore, 1, 0), (24, .return_, 1, 0)], [])
def mX9_append : MR := (11, 6, [(0, .aload_n 0, 1, 0), (1, .getfield 46, 3, 0), (4, .bipush 20, 2, 0), (6, .iadd, 1, 0), (7, .sipush 500, 3, 0), (10, .if_icmp .le 5, 3, 15), (13, .iconst (-1), 1, 0), (14, .ireturn, 1, 0), (15, .aload_n 0, 1, 0), (16, .iload_n 1, 1, 0), (17, .invokevirtual 54, 3, 0), (20, .aload_n 0, 1, 0), (21, .iload_n 2, 1, 0), (22, .invokevirtual 54, 3, 0), (25, .aload_n 0, 1, 0), (26, .iload_n 3, 1, 0), (27, .invokevirtual 54, 3, 0), (30, .aload_n 0, 1, 0), (31, .iload 4, 2, 0), (33, .invokevirtual 54, 3, 0), (36, .aload_n 0, 1, 0), (37, .iload 5, 2, 0), (39, .invokevirtual 54, 3, 0), (42, .aload_n 0, 1, 0), (43, .getfield 46, 3, 0), (46, .ireturn, 1, 0)], [])
def mX9_appendWord : MR := (11, 3, [(0, .bipush 24, 2, 0), (2, .istore_n 2, 1, 0), (3, .iload_n 2, 1, 0), (4, .ifCond .lt 37, 3, 41), (7, .aload_n 0, 1, 0), (8, .getfield 9, 3, 0), (11, .aload_n 0, 1, 0), (12, .getfield 46, 3, 0), (15, .iload_n 1, 1, 0), (16, .iload_n 2, 1, 0), (17, .iushr, 1, 0), (18, .sipush 255, 3, 0), (21, .iand, 1, 0), (22, .invokestatic 58, 3, 0), (25, .aload_n 0, 1, 0), (26, .dup, 1, 0), (27, .getfield 46, 3, 0), (30, .iconst 1, 1, 0), (31, .iadd, 1, 0), (32, .putfield 46, 3, 0), (35, .iinc 2 (-8), 3, 0), (38, .goto (-35), 3, 3), (41, .return_, 1, 0)], [])
def mX9_put : MR := (11, 3, [(0, .iload_n 1, 1, 0), (1, .ifCond .lt 13, 3, 14), (4, .iload_n 1, 1, 0), (5, .aload_n 0, 1, 0), (6, .arraylength, 1, 0), (7, .if_icmp .ge 7, 3, 14), (10, .aload_n 0, 1, 0), (11, .iload_n 1, 1, 0), (12, .iload_n 2, 1, 0), (13, .iastore, 1, 0), (14, .return_, 1, 0)], [])
def mL_said : MR := (13, 3, [(0, .aload_n 1, 1, 0), (1, .bipush 6, 2, 0), (3, .iaload, 1, 0), (4, .istore_n 2, 1, 0), (5, .aload_n 1, 1, 0), (6, .iconst 5, 1, 0), (7, .iaload, 1, 0), (8, .ifCond .le 13, 3, 21), (11, .aload_n 0, 1, 0), (12, .aload_n 1, 1, 0), (13, .bipush 32, 2, 0), (15, .invokestatic 21, 3, 0), (18, .goto (-13), 3, 5), (21, .aload_n 1, 1, 0), (22, .bipush 6, 2, 0), (24, .iconst 0, 1, 0), (25, .iastore, 1, 0), (26, .iload_n 2, 1, 0), (27, .ireturn, 1, 0)], [])
def mX9_parseSetup : MR := (11, 2, [(0, .iload_n 1, 1, 0), (1, .ifCond .lt 11, 3, 12), (4, .iload_n 1, 1, 0), (5, .aload_n 0, 1, 0), (6, .getfield 46, 3, 0), (9, .if_icmp .le 13, 3, 22), (12, .new 62, 3, 0), (15, .dup, 1, 0), (16, .ldc 64, 2, 0), (18, .invokespecial 66, 3, 0), (21, .athrow, 1, 0), (22, .aload_n 0, 1, 0), (23, .iconst 0, 1, 0), (24, .putfield 46, 3, 0), (27, .aload_n 0, 1, 0), (28, .getfield 35, 3, 0), (31, .aload_n 0, 1, 0), (32, .getfield 9, 3, 0), (35, .iload_n 1, 1, 0), (36, .invokevirtual 69, 3, 0), (39, .ifCond .ne 13, 3, 52), (42, .new 73, 3, 0), (45, .dup, 1, 0), (46, .ldc 75, 2, 0), (48, .invokespecial 77, 3, 0), (51, .athrow, 1, 0), (52, .aload_n 0, 1, 0), (53, .getfield 23, 3, 0), (56, .aload_n 0, 1, 0), (57, .getfield 27, 3, 0), (60, .invokevirtual 78, 3, 0), (63, .aload_n 0, 1, 0), (64, .getfield 42, 3, 0), (67, .invokevirtual 81, 3, 0), (70, .aload_n 0, 1, 0), (71, .iconst 1, 1, 0), (72, .putfield 50, 3, 0), (75, .aload_n 0, 1, 0), (76, .getfield 23, 3, 0), (79, .invokevirtual 84, 3, 0), (82, .ireturn, 1, 0)], [])
def mX4_read : MR := (7, 4, [(0, .aload_n 0, 1, 0), (1, .invokevirtual 36, 3, 0), (4, .aload_n 0, 1, 0), (5, .getfield 12, 3, 0), (8, .aload_n 1, 1, 0), (9, .iload_n 2, 1, 0), (10, .invokevirtual 39, 3, 0), (13, .aload_n 0, 1, 0), (14, .invokevirtual 43, 3, 0), (17, .iconst 0, 1, 0), (18, .istore_n 3, 1, 0), (19, .iload_n 3, 1, 0), (20, .ldc 46, 2, 0), (22, .if_icmp .ge 62, 3, 84), (25, .aload_n 0, 1, 0), (26, .getfield 47, 3, 0), (29, .ifCond .ne 55, 3, 84), (32, .aload_n 0, 1, 0), (33, .getfield 29, 3, 0), (36, .ifCond .ne 48, 3, 84), (39, .aload_n 0, 1, 0), (40, .getfield 51, 3, 0), (43, .ifCond .ne 10, 3, 53), (46, .aload_n 0, 1, 0), (47, .invokevirtual 54, 3, 0), (50, .goto 28, 3, 78), (53, .aload_n 0, 1, 0), (54, .invokevirtual 57, 3, 0), (57, .ifCond .eq 17, 3, 74), (60, .aload_n 0, 1, 0), (61, .getfield 25, 3, 0), (64, .aload_n 0, 1, 0), (65, .invokevirtual 61, 3, 0), (68, .invokevirtual 65, 3, 0), (71, .goto 7, 3, 78), (74, .aload_n 0, 1, 0), (75, .invokevirtual 71, 3, 0), (78, .iinc 3 1, 3, 0), (81, .goto (-62), 3, 19), (84, .aload_n 0, 1, 0), (85, .getfield 29, 3, 0), (88, .ifCond .ne 7, 3, 95), (91, .iconst 1, 1, 0), (92, .goto 4, 3, 96), (95, .iconst 0, 1, 0), (96, .ireturn, 1, 1)], [])
def mX4_restart : MR := (7, 1, [(0, .aload_n 0, 1, 0), (1, .getfield 25, 3, 0), (4, .invokevirtual 74, 3, 0), (7, .aload_n 0, 1, 0), (8, .iconst 0, 1, 0), (9, .putfield 77, 3, 0), (12, .aload_n 0, 1, 0), (13, .iconst 0, 1, 0), (14, .putfield 80, 3, 0), (17, .aload_n 0, 1, 0), (18, .iconst 0, 1, 0), (19, .putfield 51, 3, 0), (22, .aload_n 0, 1, 0), (23, .iconst 0, 1, 0), (24, .putfield 83, 3, 0), (27, .aload_n 0, 1, 0), (28, .iconst 0, 1, 0), (29, .putfield 47, 3, 0), (32, .aload_n 0, 1, 0), (33, .iconst 0, 1, 0), (34, .putfield 29, 3, 0), (37, .aload_n 0, 1, 0), (38, .iconst (-1), 1, 0), (39, .putfield 33, 3, 0), (42, .return_, 1, 0)], [])
def mX8_reset : MR := (10, 1, [(0, .aload_n 0, 1, 0), (1, .getfield 12, 3, 0), (4, .invokevirtual 48, 3, 0), (7, .aload_n 0, 1, 0), (8, .getfield 21, 3, 0), (11, .invokevirtual 51, 3, 0), (14, .aload_n 0, 1, 0), (15, .getfield 28, 3, 0), (18, .invokevirtual 52, 3, 0), (21, .aload_n 0, 1, 0), (22, .getfield 32, 3, 0), (25, .iconst 0, 1, 0), (26, .invokestatic 53, 3, 0), (29, .aload_n 0, 1, 0), (30, .getfield 36, 3, 0), (33, .iconst 0, 1, 0), (34, .invokestatic 53, 3, 0), (37, .aload_n 0, 1, 0), (38, .getfield 39, 3, 0), (41, .iconst 0, 1, 0), (42, .invokestatic 53, 3, 0), (45, .aload_n 0, 1, 0), (46, .getfield 42, 3, 0), (49, .iconst 0, 1, 0), (50, .invokestatic 53, 3, 0), (53, .aload_n 0, 1, 0), (54, .getfield 45, 3, 0), (57, .iconst 0, 1, 0), (58, .invokestatic 53, 3, 0), (61, .aload_n 0, 1, 0), (62, .iconst 1, 1, 0), (63, .putfield 59, 3, 0), (66, .aload_n 0, 1, 0), (67, .bipush 15, 2, 0), (69, .putfield 63, 3, 0), (72, .aload_n 0, 1, 0), (73, .iconst 0, 1, 0), (74, .putfield 66, 3, 0), (77, .aload_n 0, 1, 0), (78, .iconst 0, 1, 0), (79, .putfield 69, 3, 0), (82, .aload_n 0, 1, 0), (83, .iconst (-1), 1, 0), (84, .putfield 72, 3, 0), (87, .aload_n 0, 1, 0), (88, .iconst 0, 1, 0), (89, .putfield 75, 3, 0), (92, .return_, 1, 0)], [])
def mX2_reset : MR := (5, 1, [(0, .aload_n 0, 1, 0), (1, .getfield 9, 3, 0), (4, .iconst 0, 1, 0), (5, .invokestatic 24, 3, 0), (8, .aload_n 0, 1, 0), (9, .iconst 2, 1, 0), (10, .putfield 30, 3, 0), (13, .aload_n 0, 1, 0), (14, .iconst 2, 1, 0), (15, .putfield 34, 3, 0), (18, .aload_n 0, 1, 0), (19, .iconst 5, 1, 0), (20, .putfield 37, 3, 0), (23, .aload_n 0, 1, 0), (24, .bipush 10, 2, 0), (26, .putfield 40, 3, 0), (29, .aload_n 0, 1, 0), (30, .iconst 0, 1, 0), (31, .putfield 43, 3, 0), (34, .aload_n 0, 1, 0), (35, .iconst 0, 1, 0), (36, .putfield 46, 3, 0), (39, .aload_n 0, 1, 0), (40, .iconst 0, 1, 0), (41, .putfield 49, 3, 0), (44, .aload_n 0, 1, 0), (45, .iconst 0, 1, 0), (46, .putfield 52, 3, 0), (49, .aload_n 0, 1, 0), (50, .iconst 0, 1, 0), (51, .putfield 55, 3, 0), (54, .return_, 1, 0)], [])
def mJ7_fill_53178 : MR := (18, 4, [(0, .iconst 0, 1, 0), (1, .istore_n 2, 1, 0), (2, .aload_n 0, 1, 0), (3, .arraylength, 1, 0), (4, .istore_n 3, 1, 0), (5, .iload_n 2, 1, 0), (6, .iload_n 3, 1, 0), (7, .if_icmp .ge 13, 3, 20), (10, .aload_n 0, 1, 0), (11, .iload_n 2, 1, 0), (12, .iload_n 1, 1, 0), (13, .iastore, 1, 0), (14, .iinc 2 1, 3, 0), (17, .goto (-12), 3, 5), (20, .return_, 1, 0)], [])
def mX7_reset : MR := (9, 1, [(0, .aload_n 0, 1, 0), (1, .iconst (-1), 1, 0), (2, .putfield 9, 3, 0), (5, .aload_n 0, 1, 0), (6, .iconst 0, 1, 0), (7, .putfield 15, 3, 0), (10, .aload_n 0, 1, 0), (11, .iconst 1, 1, 0), (12, .putfield 18, 3, 0), (15, .aload_n 0, 1, 0), (16, .iconst 0, 1, 0), (17, .putfield 22, 3, 0), (20, .aload_n 0, 1, 0), (21, .iconst 0, 1, 0), (22, .putfield 25, 3, 0), (25, .aload_n 0, 1, 0), (26, .iconst 0, 1, 0), (27, .putfield 28, 3, 0), (30, .aload_n 0, 1, 0), (31, .iconst 0, 1, 0), (32, .putfield 31, 3, 0), (35, .aload_n 0, 1, 0), (36, .iconst 0, 1, 0), (37, .putfield 34, 3, 0), (40, .aload_n 0, 1, 0), (41, .iconst 0, 1, 0), (42, .putfield 37, 3, 0), (45, .return_, 1, 0)], [])
def mX3_reset : MR := (6, 1, [(0, .aload_n 0, 1, 0), (1, .iconst 0, 1, 0), (2, .putfield 18, 3, 0), (5, .return_, 1, 0)], [])
def mX6_scan : MR := (8, 5, [(0, .aload_n 0, 1, 0), (1, .iconst 0, 1, 0), (2, .putfield 24, 3, 0), (5, .aload_n 0, 1, 0), (6, .iconst 0, 1, 0), (7, .putfield 28, 3, 0), (10, .iconst 0, 1, 0), (11, .istore_n 3, 1, 0), (12, .iconst 0, 1, 0), (13, .istore 4, 2, 0), (15, .iload 4, 2, 0), (17, .iload_n 2, 1, 0), (18, .if_icmp .ge 54, 3, 72), (21, .iload 4, 2, 0), (23, .iload_n 3, 1, 0), (24, .if_icmp .lt 42, 3, 66), (27, .aload_n 1, 1, 0), (28, .iload 4, 2, 0), (30, .invokestatic 31, 3, 0), (33, .bipush 32, 2, 0), (35, .if_icmp .eq 31, 3, 66), (38, .aload_n 1, 1, 0), (39, .iload 4, 2, 0), (41, .iload_n 2, 1, 0), (42, .invokestatic 35, 3, 0), (45, .istore_n 3, 1, 0), (46, .aload_n 0, 1, 0), (47, .aload_n 1, 1, 0), (48, .iload 4, 2, 0), (50, .iload_n 3, 1, 0), (51, .invokestatic 39, 3, 0), (54, .iload 4, 2, 0), (56, .aload_n 1, 1, 0), (57, .iload 4, 2, 0), (59, .iload_n 3, 1, 0), (60, .invokestatic 43, 3, 0), (63, .invokevirtual 46, 3, 0), (66, .iinc 4 1, 3, 0), (69, .goto (-54), 3, 15), (72, .aload_n 0, 1, 0), (73, .getstatic 50, 3, 0), (76, .iload_n 2, 1, 0), (77, .iconst 0, 1, 0), (78, .invokevirtual 46, 3, 0), (81, .return_, 1, 0)], [])
def mX9_at : MR := (11, 2, [(0, .iload_n 1, 1, 0), (1, .ifCond .lt 15, 3, 16), (4, .iload_n 1, 1, 0), (5, .aload_n 0, 1, 0), (6, .arraylength, 1, 0), (7, .if_icmp .ge 9, 3, 16), (10, .aload_n 0, 1, 0), (11, .iload_n 1, 1, 0), (12, .iaload, 1, 0), (13, .goto 4, 3, 17), (16, .iconst 0, 1, 0), (17, .ireturn, 1, 0)], [])
def mX6_tokenEnd : MR := (8, 5, [(0, .aload_n 0, 1, 0), (1, .iload_n 1, 1, 0), (2, .invokestatic 31, 3, 0), (5, .istore_n 3, 1, 0), (6, .iload_n 1, 1, 0), (7, .iconst 1, 1, 0), (8, .iadd, 1, 0), (9, .istore 4, 2, 0), (11, .iload 4, 2, 0), (13, .iload_n 2, 1, 0), (14, .if_icmp .ge 47, 3, 61), (17, .iload_n 3, 1, 0), (18, .invokestatic 54, 3, 0), (21, .ifCond .eq 15, 3, 36), (24, .aload_n 0, 1, 0), (25, .iload 4, 2, 0), (27, .invokestatic 31, 3, 0), (30, .invokestatic 54, 3, 0), (33, .ifCond .ne 22, 3, 55), (36, .iload_n 3, 1, 0), (37, .invokestatic 58, 3, 0), (40, .ifCond .eq 21, 3, 61), (43, .aload_n 0, 1, 0), (44, .iload 4, 2, 0), (46, .invokestatic 31, 3, 0), (49, .invokestatic 58, 3, 0), (52, .ifCond .eq 9, 3, 61), (55, .iinc 4 1, 3, 0), (58, .goto (-47), 3, 11), (61, .iload 4, 2, 0), (63, .ireturn, 1, 0)], [])
def mX6_isLetter : MR := (8, 1, [(0, .iload_n 0, 1, 0), (1, .bipush 97, 2, 0), (3, .if_icmp .lt 13, 3, 16), (6, .iload_n 0, 1, 0), (7, .bipush 122, 2, 0), (9, .if_icmp .gt 7, 3, 16), (12, .iconst 1, 1, 0), (13, .goto 4, 3, 17), (16, .iconst 0, 1, 0), (17, .ireturn, 1, 1)], [])
def mX6_isDigit : MR := (8, 1, [(0, .iload_n 0, 1, 0), (1, .bipush 48, 2, 0), (3, .if_icmp .lt 13, 3, 16), (6, .iload_n 0, 1, 0), (7, .bipush 57, 2, 0), (9, .if_icmp .gt 7, 3, 16), (12, .iconst 1, 1, 0), (13, .goto 4, 3, 17), (16, .iconst 0, 1, 0), (17, .ireturn, 1, 1)], [])
def mX6_signOf : MR := (8, 7, [(0, .aload_n 0, 1, 0), (1, .iload_n 1, 1, 0), (2, .invokestatic 31, 3, 0), (5, .invokestatic 58, 3, 0), (8, .ifCond .eq 20, 3, 28), (11, .iload_n 2, 1, 0), (12, .iload_n 1, 1, 0), (13, .isub, 1, 0), (14, .iconst 3, 1, 0), (15, .if_icmp .gt 9, 3, 24), (18, .getstatic 61, 3, 0), (21, .goto 6, 3, 27), (24, .getstatic 64, 3, 0), (27, .areturn, 1, 0), (28, .getstatic 67, 3, 0), (31, .astore_n 3, 1, 0), (32, .aload_n 3, 1, 0), (33, .arraylength, 1, 0), (34, .istore 4, 2, 0), (36, .iconst 0, 1, 0), (37, .istore 5, 2, 0), (39, .iload 5, 2, 0), (41, .iload 4, 2, 0), (43, .if_icmp .ge 45, 3, 88), (46, .aload_n 3, 1, 0), (47, .iload 5, 2, 0), (49, .aaload, 1, 0), (50, .astore 6, 2, 0), (52, .aload 6, 2, 0), (54, .getfield 70, 3, 0), (57, .invokevirtual 74, 3, 0), (60, .iload_n 2, 1, 0), (61, .iload_n 1, 1, 0), (62, .isub, 1, 0), (63, .if_icmp .ne 19, 3, 82), (66, .aload 6, 2, 0), (68, .getfield 70, 3, 0), (71, .aload_n 0, 1, 0), (72, .iload_n 1, 1, 0), (73, .invokestatic 80, 3, 0), (76, .ifCond .eq 6, 3, 82), (79, .aload 6, 2, 0), (81, .areturn, 1, 0), (82, .iinc 5 1, 3, 0), (85, .goto (-46), 3, 39), (88, .getstatic 64, 3, 0), (91, .areturn, 1, 0)], [])
def mX6_spells : MR := (8, 4, [(0, .iconst 0, 1, 0), (1, .istore_n 3, 1, 0), (2, .iload_n 3, 1, 0), (3, .aload_n 0, 1, 0), (4, .invokevirtual 74, 3, 0), (7, .if_icmp .ge 26, 3, 33), (10, .aload_n 0, 1, 0), (11, .iload_n 3, 1, 0), (12, .invokevirtual 84, 3, 0), (15, .aload_n 1, 1, 0), (16, .iload_n 2, 1, 0), (17, .iload_n 3, 1, 0), (18, .iadd, 1, 0), (19, .invokestatic 31, 3, 0), (22, .if_icmp .eq 5, 3, 27), (25, .iconst 0, 1, 0), (26, .ireturn, 1, 1), (27, .iinc 3 1, 3, 0), (30, .goto (-28), 3, 2), (33, .iconst 1, 1, 0), (34, .ireturn, 1, 1)], [])
def mX6_numberOf : MR := (8, 5, [(0, .iconst 0, 1, 0), (1, .istore_n 3, 1, 0), (2, .iload_n 1, 1, 0), (3, .istore 4, 2, 0), (5, .iload 4, 2, 0), (7, .iload_n 2, 1, 0), (8, .if_icmp .ge 32, 3, 40), (11, .iload 4, 2, 0), (13, .iload_n 1, 1, 0), (14, .iconst 3, 1, 0), (15, .iadd, 1, 0), (16, .if_icmp .ge 24, 3, 40), (19, .iload_n 3, 1, 0), (20, .bipush 10, 2, 0), (22, .imul, 1, 0), (23, .aload_n 0, 1, 0), (24, .iload 4, 2, 0), (26, .invokestatic 31, 3, 0), (29, .iadd, 1, 0), (30, .bipush 48, 2, 0), (32, .isub, 1, 0), (33, .istore_n 3, 1, 0), (34, .iinc 4 1, 3, 0), (37, .goto (-32), 3, 5), (40, .iload_n 3, 1, 0), (41, .ireturn, 1, 0)], [])
def mX6_add : MR := (8, 4, [(0, .aload_n 0, 1, 0), (1, .getfield 24, 3, 0), (4, .aload_n 0, 1, 0), (5, .getfield 11, 3, 0), (8, .arraylength, 1, 0), (9, .if_icmp .ge 47, 3, 56), (12, .aload_n 0, 1, 0), (13, .getfield 11, 3, 0), (16, .aload_n 0, 1, 0), (17, .getfield 24, 3, 0), (20, .aload_n 1, 1, 0), (21, .aastore, 1, 0), (22, .aload_n 0, 1, 0), (23, .getfield 17, 3, 0), (26, .aload_n 0, 1, 0), (27, .getfield 24, 3, 0), (30, .iload_n 2, 1, 0), (31, .invokestatic 88, 3, 0), (34, .aload_n 0, 1, 0), (35, .getfield 21, 3, 0), (38, .aload_n 0, 1, 0), (39, .getfield 24, 3, 0), (42, .iload_n 3, 1, 0), (43, .invokestatic 88, 3, 0), (46, .aload_n 0, 1, 0), (47, .dup, 1, 0), (48, .getfield 24, 3, 0), (51, .iconst 1, 1, 0), (52, .iadd, 1, 0), (53, .putfield 24, 3, 0), (56, .return_, 1, 0)], [])
def mX4_readFloor : MR := (7, 3, [(0, .aload_n 0, 1, 0), (1, .getfield 12, 3, 0), (4, .invokevirtual 89, 3, 0), (7, .getstatic 111, 3, 0), (10, .if_acmp .eq 9, 3, 19), (13, .aload_n 0, 1, 0), (14, .iconst 1, 1, 0), (15, .invokevirtual 99, 3, 0), (18, .return_, 1, 0), (19, .aload_n 0, 1, 0), (20, .getfield 12, 3, 0), (23, .invokevirtual 108, 3, 0), (26, .aload_n 0, 1, 0), (27, .iconst 2, 1, 0), (28, .bipush 8, 2, 0), (30, .invokevirtual 114, 3, 0), (33, .istore_n 1, 1, 0), (34, .iload_n 1, 1, 0), (35, .iconst (-1), 1, 0), (36, .if_icmp .ne 7, 3, 43), (39, .iconst (-1), 1, 0), (40, .goto 10, 3, 50), (43, .aload_n 0, 1, 0), (44, .iconst 2, 1, 0), (45, .bipush 10, 2, 0), (47, .invokevirtual 114, 3, 0), (50, .istore_n 2, 1, 0), (51, .iload_n 2, 1, 0), (52, .iconst (-1), 1, 0), (53, .if_icmp .eq 25, 3, 78), (56, .aload_n 0, 1, 0), (57, .getfield 25, 3, 0), (60, .getfield 117, 3, 0), (63, .iload_n 1, 1, 0), (64, .putfield 121, 3, 0), (67, .aload_n 0, 1, 0), (68, .getfield 25, 3, 0), (71, .getfield 117, 3, 0), (74, .iload_n 2, 1, 0), (75, .putfield 126, 3, 0), (78, .return_, 1, 0)], [])
def mX6_sign : MR := (8, 2, [(0, .aload_n 0, 1, 0), (1, .getfield 28, 3, 0), (4, .ifCond .lt 38, 3, 42), (7, .aload_n 0, 1, 0), (8, .getfield 28, 3, 0), (11, .aload_n 0, 1, 0), (12, .getfield 24, 3, 0), (15, .if_icmp .ge 27, 3, 42), (18, .aload_n 0, 1, 0), (19, .getfield 28, 3, 0), (22, .aload_n 0, 1, 0), (23, .getfield 11, 3, 0), (26, .arraylength, 1, 0), (27, .if_icmp .ge 15, 3, 42), (30, .aload_n 0, 1, 0), (31, .getfield 11, 3, 0), (34, .aload_n 0, 1, 0), (35, .getfield 28, 3, 0), (38, .aaload, 1, 0), (39, .goto 4, 3, 43), (42, .aconst_null, 1, 0), (43, .astore_n 1, 1, 0), (44, .aload_n 1, 1, 0), (45, .ifnonnull 9, 3, 54), (48, .getstatic 50, 3, 0), (51, .goto 4, 3, 55), (54, .aload_n 1, 1, 0), (55, .areturn, 1, 0)], [])
def mX4_fail : MR := (7, 2, [(0, .aload_n 0, 1, 0), (1, .iload_n 1, 1, 0), (2, .putfield 29, 3, 0), (5, .aload_n 0, 1, 0), (6, .aload_n 0, 1, 0), (7, .getfield 12, 3, 0), (10, .invokevirtual 86, 3, 0), (13, .putfield 33, 3, 0), (16, .return_, 1, 0)], [])
def mX6_start : MR := (8, 1, [(0, .aload_n 0, 1, 0), (1, .getfield 28, 3, 0), (4, .ifCond .lt 27, 3, 31), (7, .aload_n 0, 1, 0), (8, .getfield 28, 3, 0), (11, .aload_n 0, 1, 0), (12, .getfield 17, 3, 0), (15, .arraylength, 1, 0), (16, .if_icmp .ge 15, 3, 31), (19, .aload_n 0, 1, 0), (20, .getfield 17, 3, 0), (23, .aload_n 0, 1, 0), (24, .getfield 28, 3, 0), (27, .iaload, 1, 0), (28, .goto 4, 3, 32), (31, .iconst 0, 1, 0), (32, .ireturn, 1, 0)], [])
def mX6_goOn : MR := (8, 1, [(0, .aload_n 0, 1, 0), (1, .getfield 28, 3, 0), (4, .iconst 1, 1, 0), (5, .iadd, 1, 0), (6, .aload_n 0, 1, 0), (7, .getfield 24, 3, 0), (10, .if_icmp .ge 13, 3, 23), (13, .aload_n 0, 1, 0), (14, .dup, 1, 0), (15, .getfield 28, 3, 0), (18, .iconst 1, 1, 0), (19, .iadd, 1, 0), (20, .putfield 28, 3, 0), (23, .return_, 1, 0)], [])
def mX4_takeNumber : MR := (7, 4, [(0, .aload_n 0, 1, 0), (1, .iload_n 1, 1, 0), (2, .iload_n 2, 1, 0), (3, .invokevirtual 105, 3, 0), (6, .istore_n 3, 1, 0), (7, .iload_n 3, 1, 0), (8, .iconst (-1), 1, 0), (9, .if_icmp .eq 10, 3, 19), (12, .aload_n 0, 1, 0), (13, .getfield 12, 3, 0), (16, .invokevirtual 108, 3, 0), (19, .iload_n 3, 1, 0), (20, .ireturn, 1, 0)], [])
def mX4_number : MR := (7, 4, [(0, .aload_n 0, 1, 0), (1, .getfield 12, 3, 0), (4, .invokevirtual 89, 3, 0), (7, .getstatic 93, 3, 0), (10, .if_acmp .eq 10, 3, 20), (13, .aload_n 0, 1, 0), (14, .iconst 1, 1, 0), (15, .invokevirtual 99, 3, 0), (18, .iconst (-1), 1, 0), (19, .ireturn, 1, 0), (20, .aload_n 0, 1, 0), (21, .getfield 12, 3, 0), (24, .invokevirtual 102, 3, 0), (27, .istore_n 3, 1, 0), (28, .iload_n 3, 1, 0), (29, .iload_n 1, 1, 0), (30, .if_icmp .lt 8, 3, 38), (33, .iload_n 3, 1, 0), (34, .iload_n 2, 1, 0), (35, .if_icmp .le 10, 3, 45), (38, .aload_n 0, 1, 0), (39, .iconst 2, 1, 0), (40, .invokevirtual 99, 3, 0), (43, .iconst (-1), 1, 0), (44, .ireturn, 1, 0), (45, .iload_n 3, 1, 0), (46, .ireturn, 1, 0)], [])
def mX6_number : MR := (8, 1, [(0, .aload_n 0, 1, 0), (1, .getfield 21, 3, 0), (4, .aload_n 0, 1, 0), (5, .getfield 28, 3, 0), (8, .invokestatic 31, 3, 0), (11, .ireturn, 1, 0)], [])
def mX4_readSeparator : MR := (7, 2, [(0, .aload_n 0, 1, 0), (1, .getfield 12, 3, 0), (4, .invokevirtual 89, 3, 0), (7, .astore_n 1, 1, 0), (8, .aload_n 1, 1, 0), (9, .getstatic 129, 3, 0), (12, .if_acmp .ne 18, 3, 30), (15, .aload_n 0, 1, 0), (16, .getfield 12, 3, 0), (19, .invokevirtual 108, 3, 0), (22, .aload_n 0, 1, 0), (23, .iconst 1, 1, 0), (24, .putfield 51, 3, 0), (27, .goto 50, 3, 77), (30, .aload_n 1, 1, 0), (31, .getstatic 132, 3, 0), (34, .if_acmp .ne 17, 3, 51), (37, .aload_n 0, 1, 0), (38, .getfield 77, 3, 0), (41, .ifCond .le 10, 3, 51), (44, .aload_n 0, 1, 0), (45, .invokevirtual 135, 3, 0), (48, .goto 29, 3, 77), (51, .aload_n 1, 1, 0), (52, .getstatic 138, 3, 0), (55, .if_acmp .ne 17, 3, 72), (58, .aload_n 0, 1, 0), (59, .getfield 77, 3, 0), (62, .ifCond .ne 10, 3, 72), (65, .aload_n 0, 1, 0), (66, .invokevirtual 141, 3, 0), (69, .goto 8, 3, 77), (72, .aload_n 0, 1, 0), (73, .iconst 1, 1, 0), (74, .invokevirtual 99, 3, 0), (77, .return_, 1, 0)], [])
def mX4_closeBracket : MR := (7, 3, [(0, .aload_n 0, 1, 0), (1, .getfield 77, 3, 0), (4, .iconst 1, 1, 0), (5, .isub, 1, 0), (6, .istore_n 1, 1, 0), (7, .aload_n 0, 1, 0), (8, .getfield 22, 3, 0), (11, .iload_n 1, 1, 0), (12, .invokestatic 144, 3, 0), (15, .istore_n 2, 1, 0), (16, .iload_n 2, 1, 0), (17, .ifCond .le 37, 3, 54), (20, .aload_n 0, 1, 0), (21, .getfield 22, 3, 0), (24, .iload_n 1, 1, 0), (25, .iload_n 2, 1, 0), (26, .iconst 1, 1, 0), (27, .isub, 1, 0), (28, .invokestatic 148, 3, 0), (31, .aload_n 0, 1, 0), (32, .getfield 12, 3, 0), (35, .aload_n 0, 1, 0), (36, .getfield 18, 3, 0), (39, .iload_n 1, 1, 0), (40, .invokestatic 144, 3, 0), (43, .invokevirtual 152, 3, 0), (46, .aload_n 0, 1, 0), (47, .iconst 1, 1, 0), (48, .putfield 51, 3, 0), (51, .goto 20, 3, 71), (54, .aload_n 0, 1, 0), (55, .dup, 1, 0), (56, .getfield 77, 3, 0), (59, .iconst 1, 1, 0), (60, .isub, 1, 0), (61, .putfield 77, 3, 0), (64, .aload_n 0, 1, 0), (65, .getfield 12, 3, 0), (68, .invokevirtual 108, 3, 0), (71, .return_, 1, 0)], [])
def mX6_goBackTo : MR := (8, 2, [(0, .aload_n 0, 1, 0), (1, .iload_n 1, 1, 0), (2, .putfield 28, 3, 0), (5, .return_, 1, 0)], [])
def mX4_finish : MR := (7, 1, [(0, .aload_n 0, 1, 0), (1, .iconst 1, 1, 0), (2, .putfield 47, 3, 0), (5, .aload_n 0, 1, 0), (6, .getfield 83, 3, 0), (9, .ifCond .ne 10, 3, 19), (12, .aload_n 0, 1, 0), (13, .getfield 25, 3, 0), (16, .invokevirtual 155, 3, 0), (19, .return_, 1, 0)], [])
def mX8_relocate : MR := (10, 2, [(0, .aload_n 0, 1, 0), (1, .invokevirtual 109, 3, 0), (4, .ifCond .eq 28, 3, 32), (7, .aload_n 0, 1, 0), (8, .getfield 21, 3, 0), (11, .getfield 148, 3, 0), (14, .iconst (-1), 1, 0), (15, .if_icmp .eq 18, 3, 33), (18, .aload_n 0, 1, 0), (19, .aload_n 0, 1, 0), (20, .getfield 21, 3, 0), (23, .getfield 148, 3, 0), (26, .invokevirtual 113, 3, 0), (29, .ifCond .eq 4, 3, 33), (32, .return_, 1, 0), (33, .aload_n 0, 1, 0), (34, .getfield 21, 3, 0), (37, .iconst (-1), 1, 0), (38, .putfield 148, 3, 0), (41, .iconst 0, 1, 0), (42, .istore_n 1, 1, 0), (43, .iload_n 1, 1, 0), (44, .aload_n 0, 1, 0), (45, .getfield 12, 3, 0), (48, .getfield 95, 3, 0), (51, .if_icmp .ge 42, 3, 93), (54, .aload_n 0, 1, 0), (55, .aload_n 0, 1, 0), (56, .getfield 21, 3, 0), (59, .getfield 204, 3, 0), (62, .iload_n 1, 1, 0), (63, .isub, 1, 0), (64, .invokevirtual 257, 3, 0), (67, .ifCond .ne 19, 3, 86), (70, .aload_n 0, 1, 0), (71, .aload_n 0, 1, 0), (72, .getfield 21, 3, 0), (75, .getfield 204, 3, 0), (78, .iload_n 1, 1, 0), (79, .iadd, 1, 0), (80, .invokevirtual 257, 3, 0), (83, .ifCond .eq 4, 3, 87), (86, .return_, 1, 0), (87, .iinc 1 1, 3, 0), (90, .goto (-47), 3, 43), (93, .return_, 1, 0)], [])
def mX8_isMoonOut : MR := (10, 1, [(0, .aload_n 0, 1, 0), (1, .invokevirtual 101, 3, 0), (4, .ifCond .le 21, 3, 25), (7, .aload_n 0, 1, 0), (8, .getfield 12, 3, 0), (11, .aload_n 0, 1, 0), (12, .getfield 66, 3, 0), (15, .invokevirtual 105, 3, 0), (18, .ifCond .ne 7, 3, 25), (21, .iconst 1, 1, 0), (22, .goto 4, 3, 26), (25, .iconst 0, 1, 0), (26, .ireturn, 1, 1)], [])
def mX8_moonlight : MR := (10, 2, [(0, .aload_n 0, 1, 0), (1, .getfield 63, 3, 0), (4, .bipush 30, 2, 0), (6, .irem, 1, 0), (7, .istore_n 1, 1, 0), (8, .iload_n 1, 1, 0), (9, .bipush 15, 2, 0), (11, .if_icmp .gt 7, 3, 18), (14, .iload_n 1, 1, 0), (15, .goto 7, 3, 22), (18, .bipush 30, 2, 0), (20, .iload_n 1, 1, 0), (21, .isub, 1, 0), (22, .ireturn, 1, 0)], [])
def mX2_isCloudy : MR := (5, 3, [(0, .iconst 0, 1, 0), (1, .istore_n 2, 1, 0), (2, .iload_n 2, 1, 0), (3, .aload_n 0, 1, 0), (4, .getfield 52, 3, 0), (7, .if_icmp .ge 36, 3, 43), (10, .iload_n 2, 1, 0), (11, .iconst 4, 1, 0), (12, .if_icmp .ge 31, 3, 43), (15, .iload_n 1, 1, 0), (16, .aload_n 0, 1, 0), (17, .getfield 15, 3, 0), (20, .iload_n 2, 1, 0), (21, .iaload, 1, 0), (22, .if_icmp .lt 15, 3, 37), (25, .iload_n 1, 1, 0), (26, .aload_n 0, 1, 0), (27, .getfield 18, 3, 0), (30, .iload_n 2, 1, 0), (31, .iaload, 1, 0), (32, .if_icmp .gt 5, 3, 37), (35, .iconst 1, 1, 0), (36, .ireturn, 1, 1), (37, .iinc 2 1, 3, 0), (40, .goto (-38), 3, 2), (43, .iconst 0, 1, 0), (44, .ireturn, 1, 1)], [])
def mX8_liesInMoonlight : MR := (10, 2, [(0, .aload_n 0, 1, 0), (1, .iload_n 1, 1, 0), (2, .invokevirtual 116, 3, 0), (5, .aload_n 0, 1, 0), (6, .invokevirtual 120, 3, 0), (9, .if_icmp .ne 22, 3, 31), (12, .aload_n 0, 1, 0), (13, .getfield 32, 3, 0), (16, .aload_n 0, 1, 0), (17, .iload_n 1, 1, 0), (18, .invokevirtual 123, 3, 0), (21, .invokestatic 126, 3, 0), (24, .ifCond .ne 7, 3, 31), (27, .iconst 1, 1, 0), (28, .goto 4, 3, 32), (31, .iconst 0, 1, 0), (32, .ireturn, 1, 1)], [])
def mX8_rowOf : MR := (10, 2, [(0, .aload_n 0, 1, 0), (1, .getfield 12, 3, 0), (4, .getfield 95, 3, 0), (7, .ifCond .le 15, 3, 22), (10, .iload_n 1, 1, 0), (11, .aload_n 0, 1, 0), (12, .getfield 12, 3, 0), (15, .getfield 95, 3, 0), (18, .idiv, 1, 0), (19, .goto 4, 3, 23), (22, .iconst 0, 1, 0), (23, .ireturn, 1, 0)], [])
def mX8_rowInMoonlight : MR := (10, 1, [(0, .aload_n 0, 1, 0), (1, .getfield 12, 3, 0), (4, .getfield 98, 3, 0), (7, .ifCond .le 18, 3, 25), (10, .aload_n 0, 1, 0), (11, .getfield 66, 3, 0), (14, .aload_n 0, 1, 0), (15, .getfield 12, 3, 0), (18, .getfield 98, 3, 0), (21, .idiv, 1, 0), (22, .goto 4, 3, 26), (25, .iconst 0, 1, 0), (26, .ireturn, 1, 0)], [])
def mX8_columnOf : MR := (10, 2, [(0, .aload_n 0, 1, 0), (1, .getfield 12, 3, 0), (4, .getfield 95, 3, 0), (7, .ifCond .le 15, 3, 22), (10, .iload_n 1, 1, 0), (11, .aload_n 0, 1, 0), (12, .getfield 12, 3, 0), (15, .getfield 95, 3, 0), (18, .irem, 1, 0), (19, .goto 4, 3, 23), (22, .iconst 0, 1, 0), (23, .ireturn, 1, 0)], [])
def mX8_settle : MR := (10, 3, [(0, .aload_n 0, 1, 0), (1, .invokevirtual 120, 3, 0), (4, .aload_n 0, 1, 0), (5, .getfield 12, 3, 0), (8, .getfield 95, 3, 0), (11, .imul, 1, 0), (12, .iload_n 1, 1, 0), (13, .iadd, 1, 0), (14, .istore_n 2, 1, 0), (15, .iload_n 1, 1, 0), (16, .ifCond .lt 36, 3, 52), (19, .iload_n 1, 1, 0), (20, .aload_n 0, 1, 0), (21, .getfield 12, 3, 0), (24, .getfield 95, 3, 0), (27, .if_icmp .ge 25, 3, 52), (30, .aload_n 0, 1, 0), (31, .getfield 32, 3, 0), (34, .iload_n 1, 1, 0), (35, .invokestatic 126, 3, 0), (38, .ifCond .gt 14, 3, 52), (41, .aload_n 0, 1, 0), (42, .getfield 39, 3, 0), (45, .iload_n 2, 1, 0), (46, .invokestatic 126, 3, 0), (49, .ifCond .le 5, 3, 54), (52, .iconst 0, 1, 0), (53, .ireturn, 1, 1), (54, .aload_n 0, 1, 0), (55, .getfield 21, 3, 0), (58, .iload_n 2, 1, 0), (59, .putfield 148, 3, 0), (62, .aload_n 0, 1, 0), (63, .getfield 21, 3, 0), (66, .iload_n 1, 1, 0), (67, .putfield 204, 3, 0), (70, .iconst 1, 1, 0), (71, .ireturn, 1, 1)], [])
def mX4_startsEvent : MR := (7, 2, [(0, .aload_n 0, 1, 0), (1, .getfield 12, 3, 0), (4, .invokevirtual 89, 3, 0), (7, .astore_n 1, 1, 0), (8, .aload_n 0, 1, 0), (9, .getfield 83, 3, 0), (12, .ifCond .ne 17, 3, 29), (15, .aload_n 1, 1, 0), (16, .getfield 158, 3, 0), (19, .ifCond .eq 14, 3, 33), (22, .aload_n 1, 1, 0), (23, .getfield 161, 3, 0), (26, .ifCond .ne 7, 3, 33), (29, .iconst 1, 1, 0), (30, .goto 4, 3, 34), (33, .iconst 0, 1, 0), (34, .ireturn, 1, 1)], [])
set_option maxRecDepth 100000 in
def mX4_readEvent : MR := (7, 2, [(0, .aload_n 0, 1, 0), (1, .getfield 12, 3, 0), (4, .invokevirtual 89, 3, 0), (7, .astore_n 1, 1, 0), (8, .aload_n 1, 1, 0), (9, .getfield 158, 3, 0), (12, .ifCond .ne 10, 3, 22), (15, .aload_n 0, 1, 0), (16, .iconst 1, 1, 0), (17, .invokevirtual 99, 3, 0), (20, .iconst 0, 1, 0), (21, .ireturn, 1, 0), (22, .aload_n 1, 1, 0), (23, .getstatic 304, 3, 0), (26, .if_acmp .ne 18, 3, 44), (29, .aload_n 0, 1, 0), (30, .getfield 77, 3, 0), (33, .iconst 3, 1, 0), (34, .if_icmp .lt 10, 3, 44), (37, .aload_n 0, 1, 0), (38, .iconst 4, 1, 0), (39, .invokevirtual 99, 3, 0), (42, .iconst 0, 1, 0), (43, .ireturn, 1, 0), (44, .aload_n 0, 1, 0), (45, .invokevirtual 307, 3, 0), (48, .aload_n 0, 1, 0), (49, .iconst 0, 1, 0), (50, .putfield 51, 3, 0), (53, .aload_n 1, 1, 0), (54, .getstatic 310, 3, 0), (57, .if_acmp .ne 23, 3, 80), (60, .aload_n 0, 1, 0), (61, .aload_n 0, 1, 0), (62, .getfield 25, 3, 0), (65, .invokevirtual 313, 3, 0), (68, .aload_n 0, 1, 0), (69, .getfield 25, 3, 0), (72, .getfield 316, 3, 0), (75, .isub, 1, 0), (76, .invokevirtual 319, 3, 0), (79, .ireturn, 1, 0), (80, .aload_n 0, 1, 0), (81, .getfield 12, 3, 0), (84, .invokevirtual 108, 3, 0), (87, .aload_n 1, 1, 0), (88, .getstatic 323, 3, 0), (91, .if_acmp .ne 16, 3, 107), (94, .aload_n 0, 1, 0), (95, .aload_n 0, 1, 0), (96, .iconst 1, 1, 0), (97, .sipush 300, 3, 0), (100, .invokevirtual 105, 3, 0), (103, .invokevirtual 319, 3, 0), (106, .ireturn, 1, 0), (107, .getstatic 170, 3, 0), (110, .aload_n 1, 1, 0), (111, .invokevirtual 175, 3, 0), (114, .iaload, 1, 0), (115, .tableswitch 185 2 23 #[139, 185, 185, 185, 185, 185, 185, 185, 185, 185, 185, 185, 185, 185, 185, 185, 101, 108, 155, 163, 171, 178], 101, 0), (216, .aload_n 0, 1, 0), (217, .invokevirtual 326, 3, 0), (220, .goto 85, 3, 305), (223, .aload_n 0, 1, 0), (224, .getfield 25, 3, 0), (227, .getfield 224, 3, 0), (230, .aload_n 0, 1, 0), (231, .getfield 25, 3, 0), (234, .getfield 224, 3, 0), (237, .getfield 233, 3, 0), (240, .ifCond .ne 7, 3, 247), (243, .iconst 1, 1, 0), (244, .goto 4, 3, 248), (247, .iconst 0, 1, 0), (248, .putfield 233, 3, 0), (251, .goto 54, 3, 305), (254, .aload_n 0, 1, 0), (255, .getfield 25, 3, 0), (258, .aload_n 0, 1, 0), (259, .iconst 1, 1, 0), (260, .iconst 5, 1, 0), (261, .invokevirtual 114, 3, 0), (264, .putfield 181, 3, 0), (267, .goto 38, 3, 305), (270, .aload_n 0, 1, 0), (271, .iconst 0, 1, 0), (272, .invokevirtual 211, 3, 0), (275, .goto 30, 3, 305), (278, .aload_n 0, 1, 0), (279, .iconst 1, 1, 0), (280, .invokevirtual 211, 3, 0), (283, .goto 22, 3, 305), (286, .aload_n 0, 1, 0), (287, .invokevirtual 329, 3, 0), (290, .goto 15, 3, 305), (293, .aload_n 0, 1, 0), (294, .invokevirtual 332, 3, 0), (297, .goto 8, 3, 305), (300, .aload_n 0, 1, 0), (301, .aload_n 1, 1, 0), (302, .invokevirtual 214, 3, 0), (305, .iconst 0, 1, 0), (306, .ireturn, 1, 0)], [])
def mX4_startEvents : MR := (7, 1, [(0, .aload_n 0, 1, 0), (1, .getfield 83, 3, 0), (4, .ifCond .ne 15, 3, 19), (7, .aload_n 0, 1, 0), (8, .iconst 1, 1, 0), (9, .putfield 83, 3, 0), (12, .aload_n 0, 1, 0), (13, .getfield 25, 3, 0), (16, .invokevirtual 155, 3, 0), (19, .return_, 1, 0)], [])
def mX8_nightLength : MR := (10, 1, [(0, .aload_n 0, 1, 0), (1, .getfield 12, 3, 0), (4, .getfield 92, 3, 0), (7, .aload_n 0, 1, 0), (8, .getfield 12, 3, 0), (11, .getfield 98, 3, 0), (14, .imul, 1, 0), (15, .ireturn, 1, 0)], [])
def mX4_takeMinutes : MR := (7, 2, [(0, .iload_n 1, 1, 0), (1, .iconst (-1), 1, 0), (2, .if_icmp .ne 5, 3, 7), (5, .iconst 0, 1, 0), (6, .ireturn, 1, 0), (7, .aload_n 0, 1, 0), (8, .getfield 80, 3, 0), (11, .iload_n 1, 1, 0), (12, .iadd, 1, 0), (13, .sipush 2000, 3, 0), (16, .if_icmp .le 10, 3, 26), (19, .aload_n 0, 1, 0), (20, .iconst 4, 1, 0), (21, .invokevirtual 99, 3, 0), (24, .iconst 0, 1, 0), (25, .ireturn, 1, 0), (26, .aload_n 0, 1, 0), (27, .getfield 12, 3, 0), (30, .invokevirtual 108, 3, 0), (33, .aload_n 0, 1, 0), (34, .dup, 1, 0), (35, .getfield 80, 3, 0), (38, .iload_n 1, 1, 0), (39, .iadd, 1, 0), (40, .putfield 80, 3, 0), (43, .iload_n 1, 1, 0), (44, .ireturn, 1, 0)], [])
def mJx29ce0_ordinal_8abf5 : MR := (20, 1, [(0, .aload_n 0, 1, 0), (1, .getfield 7, 3, 0), (4, .ireturn, 1, 0)], [])
def mX4_readSpill : MR := (7, 3, [(0, .aload_n 0, 1, 0), (1, .iconst 0, 1, 0), (2, .aload_n 0, 1, 0), (3, .getfield 25, 3, 0), (6, .invokevirtual 236, 3, 0), (9, .iconst 1, 1, 0), (10, .isub, 1, 0), (11, .invokevirtual 105, 3, 0), (14, .istore_n 1, 1, 0), (15, .iload_n 1, 1, 0), (16, .iconst (-1), 1, 0), (17, .if_icmp .ne 4, 3, 21), (20, .return_, 1, 0), (21, .aload_n 0, 1, 0), (22, .getfield 25, 3, 0), (25, .iload_n 1, 1, 0), (26, .invokevirtual 335, 3, 0), (29, .ifCond .ne 9, 3, 38), (32, .aload_n 0, 1, 0), (33, .iconst 3, 1, 0), (34, .invokevirtual 99, 3, 0), (37, .return_, 1, 0), (38, .aload_n 0, 1, 0), (39, .getfield 12, 3, 0), (42, .invokevirtual 108, 3, 0), (45, .aload_n 0, 1, 0), (46, .iconst 1, 1, 0), (47, .bipush 99, 2, 0), (49, .invokevirtual 114, 3, 0), (52, .istore_n 2, 1, 0), (53, .iload_n 2, 1, 0), (54, .iconst (-1), 1, 0), (55, .if_icmp .eq 15, 3, 70), (58, .aload_n 0, 1, 0), (59, .getfield 25, 3, 0), (62, .getfield 295, 3, 0), (65, .iload_n 1, 1, 0), (66, .iload_n 2, 1, 0), (67, .invokestatic 148, 3, 0), (70, .return_, 1, 0)], [])
def mX8_tileCount : MR := (10, 1, [(0, .aload_n 0, 1, 0), (1, .getfield 12, 3, 0), (4, .getfield 92, 3, 0), (7, .aload_n 0, 1, 0), (8, .getfield 12, 3, 0), (11, .getfield 95, 3, 0), (14, .imul, 1, 0), (15, .ireturn, 1, 0)], [])
def mX8_hasRoomForBowl : MR := (10, 2, [(0, .aload_n 0, 1, 0), (1, .getfield 42, 3, 0), (4, .iload_n 1, 1, 0), (5, .invokestatic 126, 3, 0), (8, .ifCond .ne 18, 3, 26), (11, .aload_n 0, 1, 0), (12, .getfield 39, 3, 0), (15, .iload_n 1, 1, 0), (16, .invokestatic 126, 3, 0), (19, .ifCond .ne 7, 3, 26), (22, .iconst 1, 1, 0), (23, .goto 4, 3, 27), (26, .iconst 0, 1, 0), (27, .ireturn, 1, 1)], [])
def mX4_readCurtains : MR := (7, 4, [(0, .iconst 0, 1, 0), (1, .istore_n 2, 1, 0), (2, .iload_n 2, 1, 0), (3, .sipush 500, 3, 0), (6, .if_icmp .ge 91, 3, 97), (9, .iload_n 2, 1, 0), (10, .ifCond .le 17, 3, 27), (13, .aload_n 0, 1, 0), (14, .getfield 12, 3, 0), (17, .invokevirtual 89, 3, 0), (20, .getstatic 93, 3, 0), (23, .if_acmp .eq 4, 3, 27), (26, .return_, 1, 0), (27, .aload_n 0, 1, 0), (28, .iconst 0, 1, 0), (29, .aload_n 0, 1, 0), (30, .getfield 25, 3, 0), (33, .getfield 117, 3, 0), (36, .getfield 126, 3, 0), (39, .iconst 1, 1, 0), (40, .isub, 1, 0), (41, .invokevirtual 105, 3, 0), (44, .istore_n 3, 1, 0), (45, .iload_n 3, 1, 0), (46, .iconst (-1), 1, 0), (47, .if_icmp .ne 4, 3, 51), (50, .return_, 1, 0), (51, .aload_n 0, 1, 0), (52, .getfield 25, 3, 0), (55, .getfield 261, 3, 0), (58, .iload_n 3, 1, 0), (59, .invokestatic 144, 3, 0), (62, .iload_n 1, 1, 0), (63, .if_icmp .ne 9, 3, 72), (66, .aload_n 0, 1, 0), (67, .iconst 3, 1, 0), (68, .invokevirtual 99, 3, 0), (71, .return_, 1, 0), (72, .aload_n 0, 1, 0), (73, .getfield 25, 3, 0), (76, .getfield 261, 3, 0), (79, .iload_n 3, 1, 0), (80, .iload_n 1, 1, 0), (81, .invokestatic 148, 3, 0), (84, .aload_n 0, 1, 0), (85, .getfield 12, 3, 0), (88, .invokevirtual 108, 3, 0), (91, .iinc 2 1, 3, 0), (94, .goto (-92), 3, 2), (97, .return_, 1, 0)], [])
def mX4_readCarry : MR := (7, 2, [(0, .aload_n 0, 1, 0), (1, .iconst 0, 1, 0), (2, .aload_n 0, 1, 0), (3, .getfield 25, 3, 0), (6, .invokevirtual 236, 3, 0), (9, .iconst 1, 1, 0), (10, .isub, 1, 0), (11, .invokevirtual 105, 3, 0), (14, .istore_n 1, 1, 0), (15, .iload_n 1, 1, 0), (16, .iconst (-1), 1, 0), (17, .if_icmp .ne 4, 3, 21), (20, .return_, 1, 0), (21, .aload_n 0, 1, 0), (22, .getfield 25, 3, 0), (25, .getfield 239, 3, 0), (28, .iconst (-1), 1, 0), (29, .if_icmp .ne 9, 3, 38), (32, .aload_n 0, 1, 0), (33, .iconst 3, 1, 0), (34, .invokevirtual 99, 3, 0), (37, .return_, 1, 0), (38, .aload_n 0, 1, 0), (39, .getfield 12, 3, 0), (42, .invokevirtual 108, 3, 0), (45, .aload_n 0, 1, 0), (46, .getfield 25, 3, 0), (49, .iload_n 1, 1, 0), (50, .putfield 239, 3, 0), (53, .return_, 1, 0)], [])
def mX4_readRepeat : MR := (7, 2, [(0, .aload_n 0, 1, 0), (1, .iconst 1, 1, 0), (2, .iconst 5, 1, 0), (3, .invokevirtual 114, 3, 0), (6, .istore_n 1, 1, 0), (7, .iload_n 1, 1, 0), (8, .iconst (-1), 1, 0), (9, .if_icmp .ne 4, 3, 13), (12, .return_, 1, 0), (13, .aload_n 0, 1, 0), (14, .getfield 12, 3, 0), (17, .invokevirtual 89, 3, 0), (20, .getstatic 339, 3, 0), (23, .if_acmp .eq 9, 3, 32), (26, .aload_n 0, 1, 0), (27, .iconst 1, 1, 0), (28, .invokevirtual 99, 3, 0), (31, .return_, 1, 0), (32, .aload_n 0, 1, 0), (33, .getfield 12, 3, 0), (36, .invokevirtual 108, 3, 0), (39, .aload_n 0, 1, 0), (40, .getfield 18, 3, 0), (43, .aload_n 0, 1, 0), (44, .getfield 77, 3, 0), (47, .aload_n 0, 1, 0), (48, .getfield 12, 3, 0), (51, .invokevirtual 342, 3, 0), (54, .invokestatic 148, 3, 0), (57, .aload_n 0, 1, 0), (58, .getfield 22, 3, 0), (61, .aload_n 0, 1, 0), (62, .getfield 77, 3, 0), (65, .iload_n 1, 1, 0), (66, .iconst 1, 1, 0), (67, .isub, 1, 0), (68, .invokestatic 148, 3, 0), (71, .aload_n 0, 1, 0), (72, .dup, 1, 0), (73, .getfield 77, 3, 0), (76, .iconst 1, 1, 0), (77, .iadd, 1, 0), (78, .putfield 77, 3, 0), (81, .aload_n 0, 1, 0), (82, .iconst 1, 1, 0), (83, .putfield 51, 3, 0), (86, .return_, 1, 0)], [])
def mX6_mark : MR := (8, 1, [(0, .aload_n 0, 1, 0), (1, .getfield 28, 3, 0), (4, .ireturn, 1, 0)], [])
def mX4_readTiles : MR := (7, 4, [(0, .iconst 0, 1, 0), (1, .istore_n 2, 1, 0), (2, .iload_n 2, 1, 0), (3, .sipush 500, 3, 0), (6, .if_icmp .ge 55, 3, 61), (9, .aload_n 0, 1, 0), (10, .getfield 29, 3, 0), (13, .ifCond .ne 48, 3, 61), (16, .aload_n 0, 1, 0), (17, .getfield 12, 3, 0), (20, .invokevirtual 89, 3, 0), (23, .astore_n 3, 1, 0), (24, .iload_n 2, 1, 0), (25, .ifCond .le 25, 3, 50), (28, .aload_n 3, 1, 0), (29, .getstatic 93, 3, 0), (32, .if_acmp .eq 18, 3, 50), (35, .aload_n 3, 1, 0), (36, .getstatic 264, 3, 0), (39, .if_acmp .eq 11, 3, 50), (42, .aload_n 3, 1, 0), (43, .getstatic 267, 3, 0), (46, .if_acmp .eq 4, 3, 50), (49, .return_, 1, 0), (50, .aload_n 0, 1, 0), (51, .aload_n 1, 1, 0), (52, .invokevirtual 270, 3, 0), (55, .iinc 2 1, 3, 0), (58, .goto (-56), 3, 2), (61, .return_, 1, 0)], [])
set_option maxRecDepth 100000 in
def mX4_readItem : MR := (7, 11, [(0, .aload_n 0, 1, 0), (1, .getfield 12, 3, 0), (4, .invokevirtual 89, 3, 0), (7, .getstatic 264, 3, 0), (10, .if_acmp .ne 7, 3, 17), (13, .iconst 1, 1, 0), (14, .goto 4, 3, 18), (17, .iconst 0, 1, 0), (18, .istore_n 2, 1, 0), (19, .aload_n 0, 1, 0), (20, .getfield 12, 3, 0), (23, .invokevirtual 89, 3, 0), (26, .getstatic 267, 3, 0), (29, .if_acmp .ne 7, 3, 36), (32, .iconst 1, 1, 0), (33, .goto 4, 3, 37), (36, .iconst 0, 1, 0), (37, .istore_n 3, 1, 0), (38, .iload_n 2, 1, 0), (39, .ifCond .ne 7, 3, 46), (42, .iload_n 3, 1, 0), (43, .ifCond .eq 10, 3, 53), (46, .aload_n 0, 1, 0), (47, .getfield 12, 3, 0), (50, .invokevirtual 108, 3, 0), (53, .aload_n 0, 1, 0), (54, .getfield 25, 3, 0), (57, .getfield 117, 3, 0), (60, .astore 4, 2, 0), (62, .iload_n 2, 1, 0), (63, .ifCond .eq 11, 3, 74), (66, .aload 4, 2, 0), (68, .getfield 121, 3, 0), (71, .goto 22, 3, 93), (74, .iload_n 3, 1, 0), (75, .ifCond .eq 11, 3, 86), (78, .aload 4, 2, 0), (80, .getfield 126, 3, 0), (83, .goto 10, 3, 93), (86, .aload_n 0, 1, 0), (87, .getfield 25, 3, 0), (90, .invokevirtual 236, 3, 0), (93, .istore 5, 2, 0), (95, .aload_n 0, 1, 0), (96, .iconst 0, 1, 0), (97, .iload 5, 2, 0), (99, .iconst 1, 1, 0), (100, .isub, 1, 0), (101, .invokevirtual 105, 3, 0), (104, .istore 6, 2, 0), (106, .iload 6, 2, 0), (108, .iconst (-1), 1, 0), (109, .if_icmp .ne 4, 3, 113), (112, .return_, 1, 0), (113, .iload_n 2, 1, 0), (114, .ifCond .eq 14, 3, 128), (117, .iload 6, 2, 0), (119, .aload 4, 2, 0), (121, .getfield 126, 3, 0), (124, .imul, 1, 0), (125, .goto 5, 3, 130), (128, .iload 6, 2, 0), (130, .istore 7, 2, 0), (132, .iload_n 3, 1, 0), (133, .ifCond .eq 11, 3, 144), (136, .aload 4, 2, 0), (138, .getfield 126, 3, 0), (141, .goto 4, 3, 145), (144, .iconst 1, 1, 0), (145, .istore 8, 2, 0), (147, .iload_n 2, 1, 0), (148, .ifCond .eq 11, 3, 159), (151, .aload 4, 2, 0), (153, .getfield 126, 3, 0), (156, .goto 16, 3, 172), (159, .iload_n 3, 1, 0), (160, .ifCond .eq 11, 3, 171), (163, .aload 4, 2, 0), (165, .getfield 121, 3, 0), (168, .goto 4, 3, 172), (171, .iconst 1, 1, 0), (172, .istore 9, 2, 0), (174, .aload_n 0, 1, 0), (175, .aload_n 1, 1, 0), (176, .iload 7, 2, 0), (178, .iload 8, 2, 0), (180, .iload 9, 2, 0), (182, .invokevirtual 273, 3, 0), (185, .istore 10, 2, 0), (187, .iload 10, 2, 0), (189, .ifCond .ne 19, 3, 208), (192, .iload_n 2, 1, 0), (193, .ifCond .ne 15, 3, 208), (196, .iload_n 3, 1, 0), (197, .ifCond .ne 11, 3, 208), (200, .aload_n 0, 1, 0), (201, .iconst 3, 1, 0), (202, .invokevirtual 99, 3, 0), (205, .goto 54, 3, 259), (208, .aload_n 1, 1, 0), (209, .getstatic 277, 3, 0), (212, .if_acmp .ne 29, 3, 241), (215, .aload_n 0, 1, 0), (216, .getfield 25, 3, 0), (219, .getfield 280, 3, 0), (222, .invokestatic 283, 3, 0), (225, .iload 10, 2, 0), (227, .iadd, 1, 0), (228, .bipush 6, 2, 0), (230, .if_icmp .le 11, 3, 241), (233, .aload_n 0, 1, 0), (234, .iconst 4, 1, 0), (235, .invokevirtual 99, 3, 0), (238, .goto 21, 3, 259), (241, .aload_n 0, 1, 0), (242, .aload_n 1, 1, 0), (243, .iload 7, 2, 0), (245, .iload 8, 2, 0), (247, .iload 9, 2, 0), (249, .invokevirtual 287, 3, 0), (252, .aload_n 0, 1, 0), (253, .getfield 12, 3, 0), (256, .invokevirtual 108, 3, 0), (259, .return_, 1, 0)], [])
def mX4_countWanted : MR := (7, 7, [(0, .iconst 0, 1, 0), (1, .istore 5, 2, 0), (3, .iconst 0, 1, 0), (4, .istore 6, 2, 0), (6, .iload 6, 2, 0), (8, .iload 4, 2, 0), (10, .if_icmp .ge 26, 3, 36), (13, .aload_n 0, 1, 0), (14, .aload_n 1, 1, 0), (15, .iload_n 2, 1, 0), (16, .iload 6, 2, 0), (18, .iload_n 3, 1, 0), (19, .imul, 1, 0), (20, .iadd, 1, 0), (21, .invokevirtual 291, 3, 0), (24, .ifCond .eq 6, 3, 30), (27, .iinc 5 1, 3, 0), (30, .iinc 6 1, 3, 0), (33, .goto (-27), 3, 6), (36, .iload 5, 2, 0), (38, .ireturn, 1, 0)], [])
def mX4_isWanted : MR := (7, 4, [(0, .iload_n 2, 1, 0), (1, .ifCond .lt 9, 3, 10), (4, .iload_n 2, 1, 0), (5, .bipush 80, 2, 0), (7, .if_icmp .lt 5, 3, 12), (10, .iconst 0, 1, 0), (11, .ireturn, 1, 1), (12, .aload_n 1, 1, 0), (13, .getstatic 277, 3, 0), (16, .if_acmp .ne 21, 3, 37), (19, .aload_n 0, 1, 0), (20, .getfield 25, 3, 0), (23, .getfield 280, 3, 0), (26, .iload_n 2, 1, 0), (27, .iaload, 1, 0), (28, .ifCond .ne 7, 3, 35), (31, .iconst 1, 1, 0), (32, .goto 4, 3, 36), (35, .iconst 0, 1, 0), (36, .ireturn, 1, 1), (37, .aload_n 0, 1, 0), (38, .getfield 25, 3, 0), (41, .getfield 295, 3, 0), (44, .iload_n 2, 1, 0), (45, .iaload, 1, 0), (46, .ifCond .le 7, 3, 53), (49, .iconst 1, 1, 0), (50, .goto 4, 3, 54), (53, .iconst 0, 1, 0), (54, .istore_n 3, 1, 0), (55, .aload_n 1, 1, 0), (56, .getstatic 298, 3, 0), (59, .if_acmp .ne 27, 3, 86), (62, .iload_n 3, 1, 0), (63, .ifCond .ne 19, 3, 82), (66, .aload_n 0, 1, 0), (67, .getfield 25, 3, 0), (70, .getfield 301, 3, 0), (73, .iload_n 2, 1, 0), (74, .iaload, 1, 0), (75, .ifCond .ne 7, 3, 82), (78, .iconst 1, 1, 0), (79, .goto 8, 3, 87), (82, .iconst 0, 1, 0), (83, .goto 4, 3, 87), (86, .iload_n 3, 1, 0), (87, .ireturn, 1, 1)], [])
def mX9_countMarked : MR := (11, 6, [(0, .iconst 0, 1, 0), (1, .istore_n 1, 1, 0), (2, .aload_n 0, 1, 0), (3, .astore_n 2, 1, 0), (4, .aload_n 2, 1, 0), (5, .arraylength, 1, 0), (6, .istore_n 3, 1, 0), (7, .iconst 0, 1, 0), (8, .istore 4, 2, 0), (10, .iload 4, 2, 0), (12, .iload_n 3, 1, 0), (13, .if_icmp .ge 23, 3, 36), (16, .aload_n 2, 1, 0), (17, .iload 4, 2, 0), (19, .iaload, 1, 0), (20, .istore 5, 2, 0), (22, .iload 5, 2, 0), (24, .ifCond .le 6, 3, 30), (27, .iinc 1 1, 3, 0), (30, .iinc 4 1, 3, 0), (33, .goto (-23), 3, 10), (36, .iload_n 1, 1, 0), (37, .ireturn, 1, 0)], [])
def mX4_handleLine : MR := (7, 7, [(0, .iconst 0, 1, 0), (1, .istore 5, 2, 0), (3, .iload 5, 2, 0), (5, .iload 4, 2, 0), (7, .if_icmp .ge 89, 3, 96), (10, .iload_n 2, 1, 0), (11, .iload 5, 2, 0), (13, .iload_n 3, 1, 0), (14, .imul, 1, 0), (15, .iadd, 1, 0), (16, .istore 6, 2, 0), (18, .aload_n 0, 1, 0), (19, .aload_n 1, 1, 0), (20, .iload 6, 2, 0), (22, .invokevirtual 291, 3, 0), (25, .ifCond .ne 6, 3, 31), (28, .goto 62, 3, 90), (31, .aload_n 1, 1, 0), (32, .getstatic 277, 3, 0), (35, .if_acmp .ne 19, 3, 54), (38, .aload_n 0, 1, 0), (39, .getfield 25, 3, 0), (42, .getfield 280, 3, 0), (45, .iload 6, 2, 0), (47, .iconst 1, 1, 0), (48, .invokestatic 148, 3, 0), (51, .goto 39, 3, 90), (54, .aload_n 1, 1, 0), (55, .getstatic 298, 3, 0), (58, .if_acmp .ne 19, 3, 77), (61, .aload_n 0, 1, 0), (62, .getfield 25, 3, 0), (65, .getfield 301, 3, 0), (68, .iload 6, 2, 0), (70, .iconst 1, 1, 0), (71, .invokestatic 148, 3, 0), (74, .goto 16, 3, 90), (77, .aload_n 0, 1, 0), (78, .getfield 25, 3, 0), (81, .getfield 295, 3, 0), (84, .iload 6, 2, 0), (86, .iconst 0, 1, 0), (87, .invokestatic 148, 3, 0), (90, .iinc 5 1, 3, 0), (93, .goto (-90), 3, 3), (96, .return_, 1, 0)], [])
def mX8_passMinutes : MR := (10, 3, [(0, .iconst 0, 1, 0), (1, .istore_n 2, 1, 0), (2, .iload_n 2, 1, 0), (3, .iload_n 1, 1, 0), (4, .if_icmp .ge 13, 3, 17), (7, .aload_n 0, 1, 0), (8, .invokevirtual 136, 3, 0), (11, .iinc 2 1, 3, 0), (14, .goto (-12), 3, 2), (17, .return_, 1, 0)], [])
def mX8_passMinute : MR := (10, 1, [(0, .aload_n 0, 1, 0), (1, .invokevirtual 139, 3, 0), (4, .ifCond .eq 21, 3, 25), (7, .aload_n 0, 1, 0), (8, .getfield 42, 3, 0), (11, .aload_n 0, 1, 0), (12, .getfield 72, 3, 0), (15, .invokestatic 126, 3, 0), (18, .ifCond .le 7, 3, 25), (21, .aload_n 0, 1, 0), (22, .invokevirtual 142, 3, 0), (25, .aload_n 0, 1, 0), (26, .getfield 21, 3, 0), (29, .getfield 145, 3, 0), (32, .ifCond .le 19, 3, 51), (35, .aload_n 0, 1, 0), (36, .getfield 21, 3, 0), (39, .dup, 1, 0), (40, .getfield 145, 3, 0), (43, .iconst 1, 1, 0), (44, .isub, 1, 0), (45, .putfield 145, 3, 0), (48, .goto 22, 3, 70), (51, .aload_n 0, 1, 0), (52, .getfield 21, 3, 0), (55, .getfield 148, 3, 0), (58, .iconst (-1), 1, 0), (59, .if_icmp .eq 11, 3, 70), (62, .aload_n 0, 1, 0), (63, .aload_n 0, 1, 0), (64, .invokevirtual 151, 3, 0), (67, .invokevirtual 154, 3, 0), (70, .aload_n 0, 1, 0), (71, .invokevirtual 158, 3, 0), (74, .aload_n 0, 1, 0), (75, .dup, 1, 0), (76, .getfield 66, 3, 0), (79, .iconst 1, 1, 0), (80, .iadd, 1, 0), (81, .putfield 66, 3, 0), (84, .aload_n 0, 1, 0), (85, .getfield 66, 3, 0), (88, .aload_n 0, 1, 0), (89, .invokevirtual 161, 3, 0), (92, .if_icmp .lt 7, 3, 99), (95, .aload_n 0, 1, 0), (96, .invokevirtual 164, 3, 0), (99, .aload_n 0, 1, 0), (100, .invokevirtual 167, 3, 0), (103, .aload_n 0, 1, 0), (104, .invokevirtual 170, 3, 0), (107, .return_, 1, 0)], [])
def mX8_moveCat : MR := (10, 2, [(0, .aload_n 0, 1, 0), (1, .getfield 72, 3, 0), (4, .iconst (-1), 1, 0), (5, .if_icmp .eq 13, 3, 18), (8, .aload_n 0, 1, 0), (9, .getfield 12, 3, 0), (12, .getfield 173, 3, 0), (15, .ifCond .gt 5, 3, 20), (18, .iconst 0, 1, 0), (19, .ireturn, 1, 1), (20, .aload_n 0, 1, 0), (21, .aload_n 0, 1, 0), (22, .getfield 72, 3, 0), (25, .aload_n 0, 1, 0), (26, .getfield 12, 3, 0), (29, .getfield 176, 3, 0), (32, .aload_n 0, 1, 0), (33, .getfield 75, 3, 0), (36, .invokestatic 126, 3, 0), (39, .invokevirtual 179, 3, 0), (42, .istore_n 1, 1, 0), (43, .iload_n 1, 1, 0), (44, .iconst (-1), 1, 0), (45, .if_icmp .eq 19, 3, 64), (48, .aload_n 0, 1, 0), (49, .getfield 39, 3, 0), (52, .iload_n 1, 1, 0), (53, .invokestatic 126, 3, 0), (56, .ifCond .ne 8, 3, 64), (59, .aload_n 0, 1, 0), (60, .iload_n 1, 1, 0), (61, .putfield 72, 3, 0), (64, .aload_n 0, 1, 0), (65, .aload_n 0, 1, 0), (66, .getfield 75, 3, 0), (69, .iconst 1, 1, 0), (70, .iadd, 1, 0), (71, .aload_n 0, 1, 0), (72, .getfield 12, 3, 0), (75, .getfield 173, 3, 0), (78, .irem, 1, 0), (79, .putfield 75, 3, 0), (82, .iconst 1, 1, 0), (83, .ireturn, 1, 1)], [])
def mX8_neighbor : MR := (10, 5, [(0, .aload_n 0, 1, 0), (1, .getfield 12, 3, 0), (4, .getfield 95, 3, 0), (7, .istore_n 3, 1, 0), (8, .iload_n 3, 1, 0), (9, .ifCond .le 9, 3, 18), (12, .iload_n 1, 1, 0), (13, .iload_n 3, 1, 0), (14, .irem, 1, 0), (15, .goto 4, 3, 19), (18, .iconst 0, 1, 0), (19, .istore 4, 2, 0), (21, .iload_n 2, 1, 0), (22, .tableswitch 95 1 4 #[30, 43, 66, 79], 30, 0), (52, .iload_n 1, 1, 0), (53, .iload_n 3, 1, 0), (54, .if_icmp .lt 9, 3, 63), (57, .iload_n 1, 1, 0), (58, .iload_n 3, 1, 0), (59, .isub, 1, 0), (60, .goto 4, 3, 64), (63, .iconst (-1), 1, 0), (64, .ireturn, 1, 0), (65, .iload_n 1, 1, 0), (66, .iload_n 3, 1, 0), (67, .iadd, 1, 0), (68, .aload_n 0, 1, 0), (69, .getfield 12, 3, 0), (72, .getfield 92, 3, 0), (75, .iload_n 3, 1, 0), (76, .imul, 1, 0), (77, .if_icmp .ge 9, 3, 86), (80, .iload_n 1, 1, 0), (81, .iload_n 3, 1, 0), (82, .iadd, 1, 0), (83, .goto 4, 3, 87), (86, .iconst (-1), 1, 0), (87, .ireturn, 1, 0), (88, .iload 4, 2, 0), (90, .ifCond .le 9, 3, 99), (93, .iload_n 1, 1, 0), (94, .iconst 1, 1, 0), (95, .isub, 1, 0), (96, .goto 4, 3, 100), (99, .iconst (-1), 1, 0), (100, .ireturn, 1, 0), (101, .iload 4, 2, 0), (103, .iconst 1, 1, 0), (104, .iadd, 1, 0), (105, .iload_n 3, 1, 0), (106, .if_icmp .ge 9, 3, 115), (109, .iload_n 1, 1, 0), (110, .iconst 1, 1, 0), (111, .iadd, 1, 0), (112, .goto 4, 3, 116), (115, .iconst (-1), 1, 0), (116, .ireturn, 1, 0), (117, .iload_n 1, 1, 0), (118, .ireturn, 1, 0)], [])
def mX8_spillBowl : MR := (10, 1, [(0, .aload_n 0, 1, 0), (1, .getfield 42, 3, 0), (4, .aload_n 0, 1, 0), (5, .getfield 72, 3, 0), (8, .iconst 0, 1, 0), (9, .invokestatic 182, 3, 0), (12, .aload_n 0, 1, 0), (13, .getfield 39, 3, 0), (16, .aload_n 0, 1, 0), (17, .getfield 72, 3, 0), (20, .aload_n 0, 1, 0), (21, .getfield 12, 3, 0), (24, .getfield 186, 3, 0), (27, .invokestatic 182, 3, 0), (30, .aload_n 0, 1, 0), (31, .getfield 21, 3, 0), (34, .getfield 148, 3, 0), (37, .aload_n 0, 1, 0), (38, .getfield 72, 3, 0), (41, .if_icmp .ne 20, 3, 61), (44, .aload_n 0, 1, 0), (45, .getfield 21, 3, 0), (48, .aload_n 0, 1, 0), (49, .getfield 12, 3, 0), (52, .getfield 189, 3, 0), (55, .invokevirtual 192, 3, 0), (58, .goto 43, 3, 101), (61, .aload_n 0, 1, 0), (62, .getfield 21, 3, 0), (65, .getfield 148, 3, 0), (68, .iconst (-1), 1, 0), (69, .if_icmp .eq 32, 3, 101), (72, .aload_n 0, 1, 0), (73, .aload_n 0, 1, 0), (74, .getfield 21, 3, 0), (77, .getfield 148, 3, 0), (80, .aload_n 0, 1, 0), (81, .getfield 72, 3, 0), (84, .invokevirtual 195, 3, 0), (87, .aload_n 0, 1, 0), (88, .getfield 12, 3, 0), (91, .getfield 198, 3, 0), (94, .if_icmp .gt 7, 3, 101), (97, .aload_n 0, 1, 0), (98, .invokevirtual 201, 3, 0), (101, .return_, 1, 0)], [])
def mX7_fall : MR := (9, 2, [(0, .aload_n 0, 1, 0), (1, .dup, 1, 0), (2, .getfield 37, 3, 0), (5, .iconst 1, 1, 0), (6, .iadd, 1, 0), (7, .putfield 37, 3, 0), (10, .aload_n 0, 1, 0), (11, .iload_n 1, 1, 0), (12, .putfield 22, 3, 0), (15, .aload_n 0, 1, 0), (16, .iconst 0, 1, 0), (17, .putfield 25, 3, 0), (20, .return_, 1, 0)], [])
def mX8_distance : MR := (10, 3, [(0, .aload_n 0, 1, 0), (1, .iload_n 1, 1, 0), (2, .invokevirtual 116, 3, 0), (5, .aload_n 0, 1, 0), (6, .iload_n 2, 1, 0), (7, .invokevirtual 116, 3, 0), (10, .isub, 1, 0), (11, .invokestatic 211, 3, 0), (14, .aload_n 0, 1, 0), (15, .iload_n 1, 1, 0), (16, .invokevirtual 123, 3, 0), (19, .aload_n 0, 1, 0), (20, .iload_n 2, 1, 0), (21, .invokevirtual 123, 3, 0), (24, .isub, 1, 0), (25, .invokestatic 211, 3, 0), (28, .iadd, 1, 0), (29, .ireturn, 1, 0)], [])
def mX8_startle : MR := (10, 2, [(0, .aload_n 0, 1, 0), (1, .aload_n 0, 1, 0), (2, .getfield 72, 3, 0), (5, .invokevirtual 123, 3, 0), (8, .istore_n 1, 1, 0), (9, .iload_n 1, 1, 0), (10, .aload_n 0, 1, 0), (11, .getfield 21, 3, 0), (14, .getfield 204, 3, 0), (17, .if_icmp .eq 26, 3, 43), (20, .aload_n 0, 1, 0), (21, .getfield 21, 3, 0), (24, .iload_n 1, 1, 0), (25, .aload_n 0, 1, 0), (26, .getfield 21, 3, 0), (29, .getfield 204, 3, 0), (32, .if_icmp .ge 7, 3, 39), (35, .iconst 1, 1, 0), (36, .goto 4, 3, 40), (39, .iconst 0, 1, 0), (40, .putfield 207, 3, 0), (43, .return_, 1, 0)], [])
def mX8_triedSteps : MR := (10, 1, [(0, .aload_n 0, 1, 0), (1, .invokevirtual 109, 3, 0), (4, .ifCond .eq 21, 3, 25), (7, .aload_n 0, 1, 0), (8, .getfield 59, 3, 0), (11, .iconst 1, 1, 0), (12, .aload_n 0, 1, 0), (13, .invokevirtual 101, 3, 0), (16, .iconst 4, 1, 0), (17, .idiv, 1, 0), (18, .iadd, 1, 0), (19, .invokestatic 130, 3, 0), (22, .goto 4, 3, 26), (25, .iconst 0, 1, 0), (26, .ireturn, 1, 0)], [])
def mX8_walk : MR := (10, 5, [(0, .iconst 0, 1, 0), (1, .istore_n 2, 1, 0), (2, .iload_n 2, 1, 0), (3, .iload_n 1, 1, 0), (4, .if_icmp .ge 108, 3, 112), (7, .aload_n 0, 1, 0), (8, .getfield 21, 3, 0), (11, .getfield 207, 3, 0), (14, .ifCond .eq 7, 3, 21), (17, .iconst 4, 1, 0), (18, .goto 4, 3, 22), (21, .iconst 3, 1, 0), (22, .istore_n 3, 1, 0), (23, .aload_n 0, 1, 0), (24, .aload_n 0, 1, 0), (25, .getfield 21, 3, 0), (28, .getfield 148, 3, 0), (31, .iload_n 3, 1, 0), (32, .invokevirtual 179, 3, 0), (35, .istore 4, 2, 0), (37, .aload_n 0, 1, 0), (38, .iload 4, 2, 0), (40, .invokevirtual 214, 3, 0), (43, .ifCond .ne 13, 3, 56), (46, .aload_n 0, 1, 0), (47, .getfield 21, 3, 0), (50, .invokevirtual 217, 3, 0), (53, .goto 53, 3, 106), (56, .aload_n 0, 1, 0), (57, .iload 4, 2, 0), (59, .iload_n 3, 1, 0), (60, .invokevirtual 220, 3, 0), (63, .aload_n 0, 1, 0), (64, .iload 4, 2, 0), (66, .invokevirtual 224, 3, 0), (69, .aload_n 0, 1, 0), (70, .getfield 12, 3, 0), (73, .getfield 227, 3, 0), (76, .ifCond .le 30, 3, 106), (79, .aload_n 0, 1, 0), (80, .getfield 21, 3, 0), (83, .getfield 230, 3, 0), (86, .aload_n 0, 1, 0), (87, .getfield 12, 3, 0), (90, .getfield 227, 3, 0), (93, .if_icmp .lt 13, 3, 106), (96, .aload_n 0, 1, 0), (97, .getfield 21, 3, 0), (100, .invokevirtual 233, 3, 0), (103, .goto 9, 3, 112), (106, .iinc 2 1, 3, 0), (109, .goto (-107), 3, 2), (112, .return_, 1, 0)], [])
def mX8_canEnter : MR := (10, 2, [(0, .iload_n 1, 1, 0), (1, .iconst (-1), 1, 0), (2, .if_icmp .eq 33, 3, 35), (5, .aload_n 0, 1, 0), (6, .getfield 32, 3, 0), (9, .aload_n 0, 1, 0), (10, .iload_n 1, 1, 0), (11, .invokevirtual 123, 3, 0), (14, .invokestatic 126, 3, 0), (17, .ifCond .ne 18, 3, 35), (20, .aload_n 0, 1, 0), (21, .getfield 39, 3, 0), (24, .iload_n 1, 1, 0), (25, .invokestatic 126, 3, 0), (28, .ifCond .ne 7, 3, 35), (31, .iconst 1, 1, 0), (32, .goto 4, 3, 36), (35, .iconst 0, 1, 0), (36, .ireturn, 1, 1)], [])
def mX7_turnBack : MR := (9, 1, [(0, .aload_n 0, 1, 0), (1, .aload_n 0, 1, 0), (2, .getfield 18, 3, 0), (5, .ifCond .ne 7, 3, 12), (8, .iconst 1, 1, 0), (9, .goto 4, 3, 13), (12, .iconst 0, 1, 0), (13, .putfield 18, 3, 0), (16, .aload_n 0, 1, 0), (17, .dup, 1, 0), (18, .getfield 34, 3, 0), (21, .iconst 1, 1, 0), (22, .iadd, 1, 0), (23, .putfield 34, 3, 0), (26, .return_, 1, 0)], [])
def mX8_slideRug : MR := (10, 4, [(0, .aload_n 0, 1, 0), (1, .getfield 45, 3, 0), (4, .iload_n 1, 1, 0), (5, .invokestatic 126, 3, 0), (8, .ifCond .ne 4, 3, 12), (11, .return_, 1, 0), (12, .aload_n 0, 1, 0), (13, .iload_n 1, 1, 0), (14, .iload_n 2, 1, 0), (15, .invokevirtual 179, 3, 0), (18, .istore_n 3, 1, 0), (19, .iload_n 3, 1, 0), (20, .iconst (-1), 1, 0), (21, .if_icmp .eq 50, 3, 71), (24, .aload_n 0, 1, 0), (25, .getfield 45, 3, 0), (28, .iload_n 3, 1, 0), (29, .invokestatic 126, 3, 0), (32, .ifCond .ne 39, 3, 71), (35, .aload_n 0, 1, 0), (36, .iload_n 3, 1, 0), (37, .invokevirtual 236, 3, 0), (40, .ifCond .eq 31, 3, 71), (43, .aload_n 0, 1, 0), (44, .getfield 45, 3, 0), (47, .iload_n 1, 1, 0), (48, .iconst 0, 1, 0), (49, .invokestatic 182, 3, 0), (52, .aload_n 0, 1, 0), (53, .getfield 45, 3, 0), (56, .iload_n 3, 1, 0), (57, .iconst 1, 1, 0), (58, .invokestatic 182, 3, 0), (61, .aload_n 0, 1, 0), (62, .dup, 1, 0), (63, .getfield 69, 3, 0), (66, .iconst 1, 1, 0), (67, .iadd, 1, 0), (68, .putfield 69, 3, 0), (71, .return_, 1, 0)], [])
def mX8_enter : MR := (10, 2, [(0, .aload_n 0, 1, 0), (1, .getfield 21, 3, 0), (4, .iload_n 1, 1, 0), (5, .putfield 148, 3, 0), (8, .aload_n 0, 1, 0), (9, .getfield 21, 3, 0), (12, .aload_n 0, 1, 0), (13, .iload_n 1, 1, 0), (14, .invokevirtual 123, 3, 0), (17, .putfield 204, 3, 0), (20, .aload_n 0, 1, 0), (21, .getfield 21, 3, 0), (24, .invokevirtual 239, 3, 0), (27, .aload_n 0, 1, 0), (28, .getfield 36, 3, 0), (31, .iload_n 1, 1, 0), (32, .aload_n 0, 1, 0), (33, .getfield 36, 3, 0), (36, .iload_n 1, 1, 0), (37, .invokestatic 126, 3, 0), (40, .iconst 1, 1, 0), (41, .iadd, 1, 0), (42, .invokestatic 182, 3, 0), (45, .return_, 1, 0)], [])
def mX7_countStep : MR := (9, 1, [(0, .aload_n 0, 1, 0), (1, .dup, 1, 0), (2, .getfield 28, 3, 0), (5, .iconst 1, 1, 0), (6, .iadd, 1, 0), (7, .putfield 28, 3, 0), (10, .aload_n 0, 1, 0), (11, .dup, 1, 0), (12, .getfield 31, 3, 0), (15, .iconst 1, 1, 0), (16, .iadd, 1, 0), (17, .putfield 31, 3, 0), (20, .aload_n 0, 1, 0), (21, .dup, 1, 0), (22, .getfield 25, 3, 0), (25, .iconst 1, 1, 0), (26, .iadd, 1, 0), (27, .putfield 25, 3, 0), (30, .return_, 1, 0)], [])
def mX7_pause : MR := (9, 1, [(0, .aload_n 0, 1, 0), (1, .iconst 1, 1, 0), (2, .putfield 22, 3, 0), (5, .aload_n 0, 1, 0), (6, .iconst 0, 1, 0), (7, .putfield 25, 3, 0), (10, .return_, 1, 0)], [])
def mX8_drySpills : MR := (10, 5, [(0, .aload_n 0, 1, 0), (1, .invokevirtual 242, 3, 0), (4, .istore_n 1, 1, 0), (5, .iconst 0, 1, 0), (6, .istore_n 2, 1, 0), (7, .iload_n 2, 1, 0), (8, .iload_n 1, 1, 0), (9, .if_icmp .ge 56, 3, 65), (12, .aload_n 0, 1, 0), (13, .getfield 39, 3, 0), (16, .iload_n 2, 1, 0), (17, .invokestatic 126, 3, 0), (20, .istore_n 3, 1, 0), (21, .iload_n 3, 1, 0), (22, .ifCond .le 37, 3, 59), (25, .aload_n 0, 1, 0), (26, .getfield 45, 3, 0), (29, .iload_n 2, 1, 0), (30, .invokestatic 126, 3, 0), (33, .ifCond .le 7, 3, 40), (36, .iconst 2, 1, 0), (37, .goto 4, 3, 41), (40, .iconst 1, 1, 0), (41, .istore 4, 2, 0), (43, .aload_n 0, 1, 0), (44, .getfield 39, 3, 0), (47, .iload_n 2, 1, 0), (48, .iload_n 3, 1, 0), (49, .iload 4, 2, 0), (51, .isub, 1, 0), (52, .iconst 0, 1, 0), (53, .invokestatic 245, 3, 0), (56, .invokestatic 182, 3, 0), (59, .iinc 2 1, 3, 0), (62, .goto (-55), 3, 7), (65, .return_, 1, 0)], [])
def mX8_endNight : MR := (10, 1, [(0, .aload_n 0, 1, 0), (1, .getfield 21, 3, 0), (4, .getfield 248, 3, 0), (7, .ifCond .le 21, 3, 28), (10, .aload_n 0, 1, 0), (11, .getfield 28, 3, 0), (14, .aload_n 0, 1, 0), (15, .getfield 63, 3, 0), (18, .aload_n 0, 1, 0), (19, .getfield 21, 3, 0), (22, .getfield 248, 3, 0), (25, .invokevirtual 251, 3, 0), (28, .aload_n 0, 1, 0), (29, .dup, 1, 0), (30, .getfield 63, 3, 0), (33, .iconst 1, 1, 0), (34, .iadd, 1, 0), (35, .putfield 63, 3, 0), (38, .aload_n 0, 1, 0), (39, .iconst 0, 1, 0), (40, .putfield 66, 3, 0), (43, .aload_n 0, 1, 0), (44, .getfield 21, 3, 0), (47, .iconst 0, 1, 0), (48, .putfield 248, 3, 0), (51, .return_, 1, 0)], [])
def mX3_add : MR := (6, 5, [(0, .aload_n 0, 1, 0), (1, .iload_n 2, 1, 0), (2, .invokevirtual 26, 3, 0), (5, .istore_n 3, 1, 0), (6, .iload_n 3, 1, 0), (7, .bipush 10, 2, 0), (9, .if_icmp .lt 4, 3, 13), (12, .return_, 1, 0), (13, .aload_n 0, 1, 0), (14, .aload_n 0, 1, 0), (15, .getfield 18, 3, 0), (18, .iconst 1, 1, 0), (19, .iadd, 1, 0), (20, .bipush 10, 2, 0), (22, .invokestatic 30, 3, 0), (25, .putfield 18, 3, 0), (28, .aload_n 0, 1, 0), (29, .getfield 18, 3, 0), (32, .iconst 1, 1, 0), (33, .isub, 1, 0), (34, .istore 4, 2, 0), (36, .iload 4, 2, 0), (38, .iload_n 3, 1, 0), (39, .if_icmp .le 49, 3, 88), (42, .aload_n 0, 1, 0), (43, .getfield 9, 3, 0), (46, .iload 4, 2, 0), (48, .aload_n 0, 1, 0), (49, .getfield 9, 3, 0), (52, .iload 4, 2, 0), (54, .iconst 1, 1, 0), (55, .isub, 1, 0), (56, .invokestatic 36, 3, 0), (59, .invokestatic 40, 3, 0), (62, .aload_n 0, 1, 0), (63, .getfield 15, 3, 0), (66, .iload 4, 2, 0), (68, .aload_n 0, 1, 0), (69, .getfield 15, 3, 0), (72, .iload 4, 2, 0), (74, .iconst 1, 1, 0), (75, .isub, 1, 0), (76, .invokestatic 36, 3, 0), (79, .invokestatic 40, 3, 0), (82, .iinc 4 (-1), 3, 0), (85, .goto (-49), 3, 36), (88, .aload_n 0, 1, 0), (89, .getfield 9, 3, 0), (92, .iload_n 3, 1, 0), (93, .iload_n 1, 1, 0), (94, .invokestatic 40, 3, 0), (97, .aload_n 0, 1, 0), (98, .getfield 15, 3, 0), (101, .iload_n 3, 1, 0), (102, .iload_n 2, 1, 0), (103, .invokestatic 40, 3, 0), (106, .return_, 1, 0)], [])
def mX3_rankFor : MR := (6, 3, [(0, .iconst 0, 1, 0), (1, .istore_n 2, 1, 0), (2, .iload_n 2, 1, 0), (3, .aload_n 0, 1, 0), (4, .getfield 18, 3, 0), (7, .if_icmp .ge 25, 3, 32), (10, .iload_n 2, 1, 0), (11, .bipush 10, 2, 0), (13, .if_icmp .ge 19, 3, 32), (16, .aload_n 0, 1, 0), (17, .getfield 15, 3, 0), (20, .iload_n 2, 1, 0), (21, .iaload, 1, 0), (22, .iload_n 1, 1, 0), (23, .if_icmp .lt 9, 3, 32), (26, .iinc 2 1, 3, 0), (29, .goto (-27), 3, 2), (32, .iload_n 2, 1, 0), (33, .ireturn, 1, 0)], [])
def mX8_stirCurtains : MR := (10, 3, [(0, .iconst 0, 1, 0), (1, .istore_n 1, 1, 0), (2, .iload_n 1, 1, 0), (3, .aload_n 0, 1, 0), (4, .getfield 12, 3, 0), (7, .getfield 95, 3, 0), (10, .if_icmp .ge 52, 3, 62), (13, .aload_n 0, 1, 0), (14, .getfield 12, 3, 0), (17, .getfield 254, 3, 0), (20, .iload_n 1, 1, 0), (21, .invokestatic 126, 3, 0), (24, .istore_n 2, 1, 0), (25, .iload_n 2, 1, 0), (26, .ifCond .le 30, 3, 56), (29, .aload_n 0, 1, 0), (30, .getfield 66, 3, 0), (33, .iload_n 2, 1, 0), (34, .irem, 1, 0), (35, .ifCond .ne 21, 3, 56), (38, .aload_n 0, 1, 0), (39, .getfield 32, 3, 0), (42, .iload_n 1, 1, 0), (43, .iconst 1, 1, 0), (44, .aload_n 0, 1, 0), (45, .getfield 32, 3, 0), (48, .iload_n 1, 1, 0), (49, .invokestatic 126, 3, 0), (52, .isub, 1, 0), (53, .invokestatic 182, 3, 0), (56, .iinc 1 1, 3, 0), (59, .goto (-57), 3, 2), (62, .return_, 1, 0)], [])
set_option maxRecDepth 100000 in
def mX4_readSetting : MR := (7, 3, [(0, .aload_n 0, 1, 0), (1, .getfield 12, 3, 0), (4, .invokevirtual 89, 3, 0), (7, .astore_n 1, 1, 0), (8, .aload_n 0, 1, 0), (9, .getfield 25, 3, 0), (12, .getfield 117, 3, 0), (15, .astore_n 2, 1, 0), (16, .aload_n 1, 1, 0), (17, .getfield 161, 3, 0), (20, .ifCond .ne 9, 3, 29), (23, .aload_n 0, 1, 0), (24, .iconst 1, 1, 0), (25, .invokevirtual 99, 3, 0), (28, .return_, 1, 0), (29, .aload_n 1, 1, 0), (30, .getstatic 164, 3, 0), (33, .if_acmp .ne 17, 3, 50), (36, .aload_n 2, 1, 0), (37, .getfield 167, 3, 0), (40, .iconst 4, 1, 0), (41, .if_icmp .lt 9, 3, 50), (44, .aload_n 0, 1, 0), (45, .iconst 4, 1, 0), (46, .invokevirtual 99, 3, 0), (49, .return_, 1, 0), (50, .aload_n 0, 1, 0), (51, .iconst 0, 1, 0), (52, .putfield 51, 3, 0), (55, .aload_n 0, 1, 0), (56, .getfield 12, 3, 0), (59, .invokevirtual 108, 3, 0), (62, .getstatic 170, 3, 0), (65, .aload_n 1, 1, 0), (66, .invokevirtual 175, 3, 0), (69, .iaload, 1, 0), (70, .tableswitch 202 1 12 #[62, 76, 92, 106, 120, 134, 148, 166, 173, 180, 187, 194], 62, 0), (132, .aload_n 2, 1, 0), (133, .aload_n 0, 1, 0), (134, .iconst 1, 1, 0), (135, .bipush 20, 2, 0), (137, .invokevirtual 114, 3, 0), (140, .putfield 178, 3, 0), (143, .goto 134, 3, 277), (146, .aload_n 0, 1, 0), (147, .getfield 25, 3, 0), (150, .aload_n 0, 1, 0), (151, .iconst 1, 1, 0), (152, .iconst 5, 1, 0), (153, .invokevirtual 114, 3, 0), (156, .putfield 181, 3, 0), (159, .goto 118, 3, 277), (162, .aload_n 2, 1, 0), (163, .aload_n 0, 1, 0), (164, .iconst 1, 1, 0), (165, .bipush 99, 2, 0), (167, .invokevirtual 114, 3, 0), (170, .putfield 184, 3, 0), (173, .goto 104, 3, 277), (176, .aload_n 2, 1, 0), (177, .aload_n 0, 1, 0), (178, .iconst 0, 1, 0), (179, .bipush 9, 2, 0), (181, .invokevirtual 114, 3, 0), (184, .putfield 187, 3, 0), (187, .goto 90, 3, 277), (190, .aload_n 2, 1, 0), (191, .aload_n 0, 1, 0), (192, .iconst 0, 1, 0), (193, .bipush 99, 2, 0), (195, .invokevirtual 114, 3, 0), (198, .putfield 190, 3, 0), (201, .goto 76, 3, 277), (204, .aload_n 2, 1, 0), (205, .aload_n 0, 1, 0), (206, .iconst 0, 1, 0), (207, .bipush 20, 2, 0), (209, .invokevirtual 114, 3, 0), (212, .putfield 193, 3, 0), (215, .goto 62, 3, 277), (218, .aload_n 0, 1, 0), (219, .getfield 25, 3, 0), (222, .aload_n 0, 1, 0), (223, .iconst 0, 1, 0), (224, .sipush 999, 3, 0), (227, .invokevirtual 114, 3, 0), (230, .putfield 196, 3, 0), (233, .goto 44, 3, 277), (236, .aload_n 0, 1, 0), (237, .invokevirtual 199, 3, 0), (240, .goto 37, 3, 277), (243, .aload_n 0, 1, 0), (244, .invokevirtual 202, 3, 0), (247, .goto 30, 3, 277), (250, .aload_n 0, 1, 0), (251, .invokevirtual 205, 3, 0), (254, .goto 23, 3, 277), (257, .aload_n 0, 1, 0), (258, .invokevirtual 208, 3, 0), (261, .goto 16, 3, 277), (264, .aload_n 0, 1, 0), (265, .iconst 1, 1, 0), (266, .invokevirtual 211, 3, 0), (269, .goto 8, 3, 277), (272, .aload_n 0, 1, 0), (273, .aload_n 1, 1, 0), (274, .invokevirtual 214, 3, 0), (277, .return_, 1, 0)], [])
def mX4_readWalker : MR := (7, 3, [(0, .aload_n 0, 1, 0), (1, .iconst 0, 1, 0), (2, .aload_n 0, 1, 0), (3, .getfield 25, 3, 0), (6, .getfield 117, 3, 0), (9, .getfield 126, 3, 0), (12, .iconst 1, 1, 0), (13, .isub, 1, 0), (14, .invokevirtual 114, 3, 0), (17, .istore_n 1, 1, 0), (18, .iload_n 1, 1, 0), (19, .iconst (-1), 1, 0), (20, .if_icmp .ne 4, 3, 24), (23, .return_, 1, 0), (24, .aload_n 0, 1, 0), (25, .getfield 12, 3, 0), (28, .invokevirtual 89, 3, 0), (31, .astore_n 2, 1, 0), (32, .aload_n 2, 1, 0), (33, .getstatic 218, 3, 0), (36, .if_acmp .eq 16, 3, 52), (39, .aload_n 2, 1, 0), (40, .getstatic 221, 3, 0), (43, .if_acmp .eq 9, 3, 52), (46, .aload_n 0, 1, 0), (47, .iconst 1, 1, 0), (48, .invokevirtual 99, 3, 0), (51, .return_, 1, 0), (52, .aload_n 0, 1, 0), (53, .getfield 12, 3, 0), (56, .invokevirtual 108, 3, 0), (59, .aload_n 0, 1, 0), (60, .getfield 25, 3, 0), (63, .getfield 224, 3, 0), (66, .iload_n 1, 1, 0), (67, .putfield 228, 3, 0), (70, .aload_n 0, 1, 0), (71, .getfield 25, 3, 0), (74, .getfield 224, 3, 0), (77, .aload_n 2, 1, 0), (78, .getstatic 221, 3, 0), (81, .if_acmp .ne 7, 3, 88), (84, .iconst 1, 1, 0), (85, .goto 4, 3, 89), (88, .iconst 0, 1, 0), (89, .putfield 233, 3, 0), (92, .return_, 1, 0)], [])
def mX4_readCat : MR := (7, 4, [(0, .aload_n 0, 1, 0), (1, .iconst 0, 1, 0), (2, .aload_n 0, 1, 0), (3, .getfield 25, 3, 0), (6, .invokevirtual 236, 3, 0), (9, .iconst 1, 1, 0), (10, .isub, 1, 0), (11, .invokevirtual 114, 3, 0), (14, .istore_n 1, 1, 0), (15, .iload_n 1, 1, 0), (16, .iconst (-1), 1, 0), (17, .if_icmp .ne 4, 3, 21), (20, .return_, 1, 0), (21, .aload_n 0, 1, 0), (22, .getfield 25, 3, 0), (25, .iload_n 1, 1, 0), (26, .putfield 239, 3, 0), (29, .aload_n 0, 1, 0), (30, .getfield 25, 3, 0), (33, .getfield 117, 3, 0), (36, .iconst 0, 1, 0), (37, .putfield 242, 3, 0), (40, .iconst 0, 1, 0), (41, .istore_n 2, 1, 0), (42, .iload_n 2, 1, 0), (43, .bipush 30, 2, 0), (45, .if_icmp .gt 73, 3, 118), (48, .aload_n 0, 1, 0), (49, .getfield 12, 3, 0), (52, .invokevirtual 89, 3, 0), (55, .invokestatic 245, 3, 0), (58, .istore_n 3, 1, 0), (59, .iload_n 3, 1, 0), (60, .iconst (-1), 1, 0), (61, .if_icmp .ne 4, 3, 65), (64, .return_, 1, 0), (65, .iload_n 2, 1, 0), (66, .bipush 30, 2, 0), (68, .if_icmp .ne 9, 3, 77), (71, .aload_n 0, 1, 0), (72, .iconst 4, 1, 0), (73, .invokevirtual 99, 3, 0), (76, .return_, 1, 0), (77, .aload_n 0, 1, 0), (78, .getfield 25, 3, 0), (81, .getfield 117, 3, 0), (84, .getfield 249, 3, 0), (87, .iload_n 2, 1, 0), (88, .iload_n 3, 1, 0), (89, .invokestatic 148, 3, 0), (92, .aload_n 0, 1, 0), (93, .getfield 25, 3, 0), (96, .getfield 117, 3, 0), (99, .iload_n 2, 1, 0), (100, .iconst 1, 1, 0), (101, .iadd, 1, 0), (102, .putfield 242, 3, 0), (105, .aload_n 0, 1, 0), (106, .getfield 12, 3, 0), (109, .invokevirtual 108, 3, 0), (112, .iinc 2 1, 3, 0), (115, .goto (-73), 3, 42), (118, .return_, 1, 0)], [])
def mX4_moveOf : MR := (7, 1, [(0, .getstatic 170, 3, 0), (3, .aload_n 0, 1, 0), (4, .invokevirtual 175, 3, 0), (7, .iaload, 1, 0), (8, .tableswitch 46 13 17 #[36, 38, 40, 42, 44], 36, 0), (44, .iconst 0, 1, 0), (45, .ireturn, 1, 0), (46, .iconst 1, 1, 0), (47, .ireturn, 1, 0), (48, .iconst 2, 1, 0), (49, .ireturn, 1, 0), (50, .iconst 3, 1, 0), (51, .ireturn, 1, 0), (52, .iconst 4, 1, 0), (53, .ireturn, 1, 0), (54, .iconst (-1), 1, 0), (55, .ireturn, 1, 0)], [])
def mX4_readDraught : MR := (7, 3, [(0, .aload_n 0, 1, 0), (1, .iconst 0, 1, 0), (2, .aload_n 0, 1, 0), (3, .getfield 25, 3, 0), (6, .getfield 117, 3, 0), (9, .getfield 126, 3, 0), (12, .iconst 1, 1, 0), (13, .isub, 1, 0), (14, .invokevirtual 114, 3, 0), (17, .istore_n 1, 1, 0), (18, .iload_n 1, 1, 0), (19, .iconst (-1), 1, 0), (20, .if_icmp .ne 7, 3, 27), (23, .iconst (-1), 1, 0), (24, .goto 10, 3, 34), (27, .aload_n 0, 1, 0), (28, .iconst 2, 1, 0), (29, .bipush 60, 2, 0), (31, .invokevirtual 114, 3, 0), (34, .istore_n 2, 1, 0), (35, .iload_n 2, 1, 0), (36, .iconst (-1), 1, 0), (37, .if_icmp .eq 18, 3, 55), (40, .aload_n 0, 1, 0), (41, .getfield 25, 3, 0), (44, .getfield 117, 3, 0), (47, .getfield 252, 3, 0), (50, .iload_n 1, 1, 0), (51, .iload_n 2, 1, 0), (52, .invokestatic 148, 3, 0), (55, .return_, 1, 0)], [])
def mX4_readCloud : MR := (7, 4, [(0, .aload_n 0, 1, 0), (1, .getfield 25, 3, 0), (4, .getfield 117, 3, 0), (7, .astore_n 1, 1, 0), (8, .aload_n 0, 1, 0), (9, .iconst 0, 1, 0), (10, .sipush 159, 3, 0), (13, .invokevirtual 114, 3, 0), (16, .istore_n 2, 1, 0), (17, .iload_n 2, 1, 0), (18, .iconst (-1), 1, 0), (19, .if_icmp .ne 7, 3, 26), (22, .iconst (-1), 1, 0), (23, .goto 11, 3, 34), (26, .aload_n 0, 1, 0), (27, .iload_n 2, 1, 0), (28, .sipush 159, 3, 0), (31, .invokevirtual 114, 3, 0), (34, .istore_n 3, 1, 0), (35, .iload_n 3, 1, 0), (36, .iconst (-1), 1, 0), (37, .if_icmp .eq 37, 3, 74), (40, .aload_n 1, 1, 0), (41, .getfield 255, 3, 0), (44, .aload_n 1, 1, 0), (45, .getfield 167, 3, 0), (48, .iload_n 2, 1, 0), (49, .invokestatic 148, 3, 0), (52, .aload_n 1, 1, 0), (53, .getfield 258, 3, 0), (56, .aload_n 1, 1, 0), (57, .getfield 167, 3, 0), (60, .iload_n 3, 1, 0), (61, .invokestatic 148, 3, 0), (64, .aload_n 1, 1, 0), (65, .dup, 1, 0), (66, .getfield 167, 3, 0), (69, .iconst 1, 1, 0), (70, .iadd, 1, 0), (71, .putfield 167, 3, 0), (74, .return_, 1, 0)], [])
def mX8_copyFrom : MR := (10, 2, [(0, .aload_n 0, 1, 0), (1, .getfield 12, 3, 0), (4, .aload_n 1, 1, 0), (5, .getfield 12, 3, 0), (8, .invokevirtual 78, 3, 0), (11, .aload_n 0, 1, 0), (12, .getfield 21, 3, 0), (15, .aload_n 1, 1, 0), (16, .getfield 21, 3, 0), (19, .invokevirtual 82, 3, 0), (22, .aload_n 0, 1, 0), (23, .getfield 28, 3, 0), (26, .aload_n 1, 1, 0), (27, .getfield 28, 3, 0), (30, .invokevirtual 85, 3, 0), (33, .aload_n 1, 1, 0), (34, .getfield 32, 3, 0), (37, .aload_n 0, 1, 0), (38, .getfield 32, 3, 0), (41, .invokestatic 88, 3, 0), (44, .aload_n 1, 1, 0), (45, .getfield 36, 3, 0), (48, .aload_n 0, 1, 0), (49, .getfield 36, 3, 0), (52, .invokestatic 88, 3, 0), (55, .aload_n 1, 1, 0), (56, .getfield 39, 3, 0), (59, .aload_n 0, 1, 0), (60, .getfield 39, 3, 0), (63, .invokestatic 88, 3, 0), (66, .aload_n 1, 1, 0), (67, .getfield 42, 3, 0), (70, .aload_n 0, 1, 0), (71, .getfield 42, 3, 0), (74, .invokestatic 88, 3, 0), (77, .aload_n 1, 1, 0), (78, .getfield 45, 3, 0), (81, .aload_n 0, 1, 0), (82, .getfield 45, 3, 0), (85, .invokestatic 88, 3, 0), (88, .aload_n 0, 1, 0), (89, .aload_n 1, 1, 0), (90, .getfield 59, 3, 0), (93, .putfield 59, 3, 0), (96, .aload_n 0, 1, 0), (97, .aload_n 1, 1, 0), (98, .getfield 63, 3, 0), (101, .putfield 63, 3, 0), (104, .aload_n 0, 1, 0), (105, .aload_n 1, 1, 0), (106, .getfield 66, 3, 0), (109, .putfield 66, 3, 0), (112, .aload_n 0, 1, 0), (113, .aload_n 1, 1, 0), (114, .getfield 69, 3, 0), (117, .putfield 69, 3, 0), (120, .aload_n 0, 1, 0), (121, .aload_n 1, 1, 0), (122, .getfield 72, 3, 0), (125, .putfield 72, 3, 0), (128, .aload_n 0, 1, 0), (129, .aload_n 1, 1, 0), (130, .getfield 75, 3, 0), (133, .putfield 75, 3, 0), (136, .return_, 1, 0)], [])
def mX2_copyFrom : MR := (5, 2, [(0, .aload_n 1, 1, 0), (1, .getfield 9, 3, 0), (4, .aload_n 0, 1, 0), (5, .getfield 9, 3, 0), (8, .invokestatic 58, 3, 0), (11, .aload_n 1, 1, 0), (12, .getfield 15, 3, 0), (15, .aload_n 0, 1, 0), (16, .getfield 15, 3, 0), (19, .invokestatic 58, 3, 0), (22, .aload_n 1, 1, 0), (23, .getfield 18, 3, 0), (26, .aload_n 0, 1, 0), (27, .getfield 18, 3, 0), (30, .invokestatic 58, 3, 0), (33, .aload_n 1, 1, 0), (34, .getfield 21, 3, 0), (37, .aload_n 0, 1, 0), (38, .getfield 21, 3, 0), (41, .invokestatic 58, 3, 0), (44, .aload_n 0, 1, 0), (45, .aload_n 1, 1, 0), (46, .getfield 30, 3, 0), (49, .putfield 30, 3, 0), (52, .aload_n 0, 1, 0), (53, .aload_n 1, 1, 0), (54, .getfield 34, 3, 0), (57, .putfield 34, 3, 0), (60, .aload_n 0, 1, 0), (61, .aload_n 1, 1, 0), (62, .getfield 37, 3, 0), (65, .putfield 37, 3, 0), (68, .aload_n 0, 1, 0), (69, .aload_n 1, 1, 0), (70, .getfield 40, 3, 0), (73, .putfield 40, 3, 0), (76, .aload_n 0, 1, 0), (77, .aload_n 1, 1, 0), (78, .getfield 43, 3, 0), (81, .putfield 43, 3, 0), (84, .aload_n 0, 1, 0), (85, .aload_n 1, 1, 0), (86, .getfield 46, 3, 0), (89, .putfield 46, 3, 0), (92, .aload_n 0, 1, 0), (93, .aload_n 1, 1, 0), (94, .getfield 49, 3, 0), (97, .putfield 49, 3, 0), (100, .aload_n 0, 1, 0), (101, .aload_n 1, 1, 0), (102, .getfield 52, 3, 0), (105, .putfield 52, 3, 0), (108, .aload_n 0, 1, 0), (109, .aload_n 1, 1, 0), (110, .getfield 55, 3, 0), (113, .putfield 55, 3, 0), (116, .return_, 1, 0)], [])
def mX9_copy : MR := (11, 2, [(0, .aload_n 0, 1, 0), (1, .iconst 0, 1, 0), (2, .aload_n 1, 1, 0), (3, .iconst 0, 1, 0), (4, .aload_n 0, 1, 0), (5, .arraylength, 1, 0), (6, .aload_n 1, 1, 0), (7, .arraylength, 1, 0), (8, .invokestatic 327, 3, 0), (11, .invokestatic 332, 3, 0), (14, .return_, 1, 0)], [])
def mX7_copyFrom : MR := (9, 2, [(0, .aload_n 0, 1, 0), (1, .aload_n 1, 1, 0), (2, .getfield 9, 3, 0), (5, .putfield 9, 3, 0), (8, .aload_n 0, 1, 0), (9, .aload_n 1, 1, 0), (10, .getfield 15, 3, 0), (13, .putfield 15, 3, 0), (16, .aload_n 0, 1, 0), (17, .aload_n 1, 1, 0), (18, .getfield 18, 3, 0), (21, .putfield 18, 3, 0), (24, .aload_n 0, 1, 0), (25, .aload_n 1, 1, 0), (26, .getfield 22, 3, 0), (29, .putfield 22, 3, 0), (32, .aload_n 0, 1, 0), (33, .aload_n 1, 1, 0), (34, .getfield 25, 3, 0), (37, .putfield 25, 3, 0), (40, .aload_n 0, 1, 0), (41, .aload_n 1, 1, 0), (42, .getfield 28, 3, 0), (45, .putfield 28, 3, 0), (48, .aload_n 0, 1, 0), (49, .aload_n 1, 1, 0), (50, .getfield 31, 3, 0), (53, .putfield 31, 3, 0), (56, .aload_n 0, 1, 0), (57, .aload_n 1, 1, 0), (58, .getfield 34, 3, 0), (61, .putfield 34, 3, 0), (64, .aload_n 0, 1, 0), (65, .aload_n 1, 1, 0), (66, .getfield 37, 3, 0), (69, .putfield 37, 3, 0), (72, .return_, 1, 0)], [])
def mX3_copyFrom : MR := (6, 2, [(0, .aload_n 1, 1, 0), (1, .getfield 9, 3, 0), (4, .aload_n 0, 1, 0), (5, .getfield 9, 3, 0), (8, .invokestatic 22, 3, 0), (11, .aload_n 1, 1, 0), (12, .getfield 15, 3, 0), (15, .aload_n 0, 1, 0), (16, .getfield 15, 3, 0), (19, .invokestatic 22, 3, 0), (22, .aload_n 0, 1, 0), (23, .aload_n 1, 1, 0), (24, .getfield 18, 3, 0), (27, .putfield 18, 3, 0), (30, .return_, 1, 0)], [])
def mX1_forgetAll : MR := (4, 1, [(0, .aload_n 0, 1, 0), (1, .invokevirtual 54, 3, 0), (4, .aload_n 0, 1, 0), (5, .getfield 20, 3, 0), (8, .iconst 0, 1, 0), (9, .invokestatic 57, 3, 0), (12, .return_, 1, 0)], [])
def mX1_forgetChanges : MR := (4, 1, [(0, .aload_n 0, 1, 0), (1, .iconst 0, 1, 0), (2, .putfield 37, 3, 0), (5, .return_, 1, 0)], [])
set_option maxRecDepth 100000 in
def mL_sees : MR := (13, 4, [(0, .aload_n 2, 1, 0), (1, .lconst 0, 1, 0), (2, .invokestatic 393, 3, 0), (5, .aload_n 2, 1, 0), (6, .iconst 0, 1, 0), (7, .aload_n 0, 1, 0), (8, .invokevirtual 277, 3, 0), (11, .i2l, 1, 0), (12, .lastore, 1, 0), (13, .aload_n 2, 1, 0), (14, .iconst 1, 1, 0), (15, .aload_n 0, 1, 0), (16, .invokevirtual 279, 3, 0), (19, .i2l, 1, 0), (20, .lastore, 1, 0), (21, .aload_n 2, 1, 0), (22, .iconst 2, 1, 0), (23, .aload_n 0, 1, 0), (24, .invokevirtual 221, 3, 0), (27, .i2l, 1, 0), (28, .lastore, 1, 0), (29, .aload_n 2, 1, 0), (30, .iconst 3, 1, 0), (31, .aload_n 0, 1, 0), (32, .invokevirtual 251, 3, 0), (35, .i2l, 1, 0), (36, .lastore, 1, 0), (37, .aload_n 2, 1, 0), (38, .iconst 4, 1, 0), (39, .aload_n 0, 1, 0), (40, .invokevirtual 199, 3, 0), (43, .i2l, 1, 0), (44, .lastore, 1, 0), (45, .aload_n 2, 1, 0), (46, .iconst 5, 1, 0), (47, .aload_n 0, 1, 0), (48, .invokevirtual 233, 3, 0), (51, .i2l, 1, 0), (52, .lastore, 1, 0), (53, .aload_n 2, 1, 0), (54, .bipush 6, 2, 0), (56, .aload_n 0, 1, 0), (57, .invokevirtual 239, 3, 0), (60, .i2l, 1, 0), (61, .lastore, 1, 0), (62, .aload_n 2, 1, 0), (63, .bipush 7, 2, 0), (65, .aload_n 0, 1, 0), (66, .invokevirtual 284, 3, 0), (69, .i2l, 1, 0), (70, .lastore, 1, 0), (71, .aload_n 2, 1, 0), (72, .bipush 8, 2, 0), (74, .aload_n 0, 1, 0), (75, .invokevirtual 209, 3, 0), (78, .i2l, 1, 0), (79, .lastore, 1, 0), (80, .aload_n 2, 1, 0), (81, .bipush 9, 2, 0), (83, .aload_n 0, 1, 0), (84, .invokevirtual 215, 3, 0), (87, .i2l, 1, 0), (88, .lastore, 1, 0), (89, .aload_n 2, 1, 0), (90, .bipush 10, 2, 0), (92, .aload_n 0, 1, 0), (93, .invokevirtual 205, 3, 0), (96, .ifCond .eq 7, 3, 103), (99, .lconst 1, 1, 0), (100, .goto 4, 3, 104), (103, .lconst 0, 1, 0), (104, .lastore, 1, 0), (105, .aload_n 2, 1, 0), (106, .bipush 11, 2, 0), (108, .aload_n 0, 1, 0), (109, .invokevirtual 245, 3, 0), (112, .i2l, 1, 0), (113, .lastore, 1, 0), (114, .aload_n 2, 1, 0), (115, .bipush 12, 2, 0), (117, .aload_n 0, 1, 0), (118, .invokevirtual 227, 3, 0), (121, .i2l, 1, 0), (122, .lastore, 1, 0), (123, .iconst 0, 1, 0), (124, .istore_n 3, 1, 0), (125, .iload_n 3, 1, 0), (126, .aload_n 0, 1, 0), (127, .invokevirtual 290, 3, 0), (130, .if_icmp .ge 32, 3, 162), (133, .aload_n 2, 1, 0), (134, .bipush 15, 2, 0), (136, .iload_n 3, 1, 0), (137, .iadd, 1, 0), (138, .ldc2_w 397, 3, 0), (141, .aload_n 0, 1, 0), (142, .iload_n 3, 1, 0), (143, .invokevirtual 271, 3, 0), (146, .i2l, 1, 0), (147, .lmul, 1, 0), (148, .aload_n 0, 1, 0), (149, .iload_n 3, 1, 0), (150, .invokevirtual 274, 3, 0), (153, .i2l, 1, 0), (154, .ladd, 1, 0), (155, .lastore, 1, 0), (156, .iinc 3 1, 3, 0), (159, .goto (-34), 3, 125), (162, .iconst 0, 1, 0), (163, .istore_n 3, 1, 0), (164, .iload_n 3, 1, 0), (165, .aload_n 1, 1, 0), (166, .getfield 36, 3, 0), (169, .if_icmp .ge 28, 3, 197), (172, .aload_n 2, 1, 0), (173, .bipush 30, 2, 0), (175, .iload_n 3, 1, 0), (176, .iadd, 1, 0), (177, .aload_n 0, 1, 0), (178, .iload_n 3, 1, 0), (179, .invokevirtual 265, 3, 0), (182, .ifCond .eq 7, 3, 189), (185, .lconst 1, 1, 0), (186, .goto 4, 3, 190), (189, .lconst 0, 1, 0), (190, .lastore, 1, 0), (191, .iinc 3 1, 3, 0), (194, .goto (-30), 3, 164), (197, .iconst 0, 1, 0), (198, .istore_n 3, 1, 0), (199, .iload_n 3, 1, 0), (200, .aload_n 1, 1, 0), (201, .invokevirtual 75, 3, 0), (204, .if_icmp .ge 66, 3, 270), (207, .aload_n 2, 1, 0), (208, .bipush 40, 2, 0), (210, .iload_n 3, 1, 0), (211, .iadd, 1, 0), (212, .ldc2_w 399, 3, 0), (215, .aload_n 0, 1, 0), (216, .iload_n 3, 1, 0), (217, .invokevirtual 263, 3, 0), (220, .i2l, 1, 0), (221, .lmul, 1, 0), (222, .ldc2_w 401, 3, 0), (225, .aload_n 0, 1, 0), (226, .iload_n 3, 1, 0), (227, .invokevirtual 260, 3, 0), (230, .i2l, 1, 0), (231, .lmul, 1, 0), (232, .ladd, 1, 0), (233, .aload_n 0, 1, 0), (234, .iload_n 3, 1, 0), (235, .invokevirtual 253, 3, 0), (238, .ifCond .eq 9, 3, 247), (241, .ldc2_w 403, 3, 0), (244, .goto 4, 3, 248), (247, .lconst 0, 1, 0), (248, .ladd, 1, 0), (249, .aload_n 0, 1, 0), (250, .iload_n 3, 1, 0), (251, .invokevirtual 257, 3, 0), (254, .ifCond .eq 7, 3, 261), (257, .lconst 1, 1, 0), (258, .goto 4, 3, 262), (261, .lconst 0, 1, 0), (262, .ladd, 1, 0), (263, .lastore, 1, 0), (264, .iinc 3 1, 3, 0), (267, .goto (-68), 3, 199), (270, .return_, 1, 0)], [])
def mJ7_fill_d0a16 : MR := (18, 5, [(0, .iconst 0, 1, 0), (1, .istore_n 3, 1, 0), (2, .aload_n 0, 1, 0), (3, .arraylength, 1, 0), (4, .istore 4, 2, 0), (6, .iload_n 3, 1, 0), (7, .iload 4, 2, 0), (9, .if_icmp .ge 13, 3, 22), (12, .aload_n 0, 1, 0), (13, .iload_n 3, 1, 0), (14, .lload_n 1, 1, 0), (15, .lastore, 1, 0), (16, .iinc 3 1, 3, 0), (19, .goto (-13), 3, 6), (22, .return_, 1, 0)], [])
def mX9_night : MR := (11, 1, [(0, .aload_n 0, 1, 0), (1, .invokevirtual 94, 3, 0), (4, .aload_n 0, 1, 0), (5, .getfield 23, 3, 0), (8, .getfield 112, 3, 0), (11, .ireturn, 1, 0)], [])
def mX9_requireSetup : MR := (11, 1, [(0, .aload_n 0, 1, 0), (1, .getfield 50, 3, 0), (4, .ifCond .ne 14, 3, 18), (7, .new 291, 3, 0), (10, .dup, 1, 0), (11, .ldc_w 313, 3, 0), (14, .invokespecial 295, 3, 0), (17, .athrow, 1, 0), (18, .return_, 1, 0)], [])
def mX9_minute : MR := (11, 1, [(0, .aload_n 0, 1, 0), (1, .invokevirtual 94, 3, 0), (4, .aload_n 0, 1, 0), (5, .getfield 23, 3, 0), (8, .getfield 115, 3, 0), (11, .ireturn, 1, 0)], [])
def mX9_totalSteps : MR := (11, 1, [(0, .aload_n 0, 1, 0), (1, .invokevirtual 94, 3, 0), (4, .aload_n 0, 1, 0), (5, .getfield 23, 3, 0), (8, .getfield 157, 3, 0), (11, .getfield 175, 3, 0), (14, .ireturn, 1, 0)], [])
def mX9_pace : MR := (11, 1, [(0, .aload_n 0, 1, 0), (1, .invokevirtual 94, 3, 0), (4, .aload_n 0, 1, 0), (5, .getfield 23, 3, 0), (8, .getfield 151, 3, 0), (11, .ireturn, 1, 0)], [])
def mX9_walkerTile : MR := (11, 1, [(0, .aload_n 0, 1, 0), (1, .invokevirtual 94, 3, 0), (4, .aload_n 0, 1, 0), (5, .getfield 23, 3, 0), (8, .getfield 157, 3, 0), (11, .getfield 161, 3, 0), (14, .ireturn, 1, 0)], [])
def mX9_turnCount : MR := (11, 1, [(0, .aload_n 0, 1, 0), (1, .invokevirtual 94, 3, 0), (4, .aload_n 0, 1, 0), (5, .getfield 23, 3, 0), (8, .getfield 157, 3, 0), (11, .getfield 181, 3, 0), (14, .ireturn, 1, 0)], [])
def mX9_fallCount : MR := (11, 1, [(0, .aload_n 0, 1, 0), (1, .invokevirtual 94, 3, 0), (4, .aload_n 0, 1, 0), (5, .getfield 23, 3, 0), (8, .getfield 157, 3, 0), (11, .getfield 184, 3, 0), (14, .ireturn, 1, 0)], [])
def mX9_catTile : MR := (11, 1, [(0, .aload_n 0, 1, 0), (1, .invokevirtual 94, 3, 0), (4, .aload_n 0, 1, 0), (5, .getfield 23, 3, 0), (8, .getfield 193, 3, 0), (11, .ireturn, 1, 0)], [])
def mX9_restRemaining : MR := (11, 1, [(0, .aload_n 0, 1, 0), (1, .invokevirtual 94, 3, 0), (4, .aload_n 0, 1, 0), (5, .getfield 23, 3, 0), (8, .getfield 157, 3, 0), (11, .getfield 169, 3, 0), (14, .ireturn, 1, 0)], [])
def mX9_stepsSincePause : MR := (11, 1, [(0, .aload_n 0, 1, 0), (1, .invokevirtual 94, 3, 0), (4, .aload_n 0, 1, 0), (5, .getfield 23, 3, 0), (8, .getfield 157, 3, 0), (11, .getfield 172, 3, 0), (14, .ireturn, 1, 0)], [])
def mX9_facesRight : MR := (11, 1, [(0, .aload_n 0, 1, 0), (1, .invokevirtual 94, 3, 0), (4, .aload_n 0, 1, 0), (5, .getfield 23, 3, 0), (8, .getfield 157, 3, 0), (11, .getfield 166, 3, 0), (14, .ireturn, 1, 1)], [])
def mX9_slideCount : MR := (11, 1, [(0, .aload_n 0, 1, 0), (1, .invokevirtual 94, 3, 0), (4, .aload_n 0, 1, 0), (5, .getfield 23, 3, 0), (8, .getfield 199, 3, 0), (11, .ireturn, 1, 0)], [])
def mX9_stepsTonight : MR := (11, 1, [(0, .aload_n 0, 1, 0), (1, .invokevirtual 94, 3, 0), (4, .aload_n 0, 1, 0), (5, .getfield 23, 3, 0), (8, .getfield 157, 3, 0), (11, .getfield 178, 3, 0), (14, .ireturn, 1, 0)], [])
def mX9_recordCount : MR := (11, 1, [(0, .aload_n 0, 1, 0), (1, .invokevirtual 94, 3, 0), (4, .aload_n 0, 1, 0), (5, .getfield 23, 3, 0), (8, .getfield 212, 3, 0), (11, .getfield 216, 3, 0), (14, .ireturn, 1, 0)], [])
def mX9_recordNight : MR := (11, 2, [(0, .aload_n 0, 1, 0), (1, .invokevirtual 94, 3, 0), (4, .aload_n 0, 1, 0), (5, .iload_n 1, 1, 0), (6, .invokevirtual 221, 3, 0), (9, .aload_n 0, 1, 0), (10, .getfield 23, 3, 0), (13, .getfield 212, 3, 0), (16, .getfield 224, 3, 0), (19, .iload_n 1, 1, 0), (20, .invokestatic 141, 3, 0), (23, .ireturn, 1, 0)], [])
def mX9_requireRecord : MR := (11, 2, [(0, .iload_n 1, 1, 0), (1, .ifCond .lt 17, 3, 18), (4, .iload_n 1, 1, 0), (5, .aload_n 0, 1, 0), (6, .getfield 23, 3, 0), (9, .getfield 212, 3, 0), (12, .getfield 216, 3, 0), (15, .if_icmp .lt 14, 3, 29), (18, .new 62, 3, 0), (21, .dup, 1, 0), (22, .ldc_w 319, 3, 0), (25, .invokespecial 66, 3, 0), (28, .athrow, 1, 0), (29, .return_, 1, 0)], [])
def mX9_recordSteps : MR := (11, 2, [(0, .aload_n 0, 1, 0), (1, .invokevirtual 94, 3, 0), (4, .aload_n 0, 1, 0), (5, .iload_n 1, 1, 0), (6, .invokevirtual 221, 3, 0), (9, .aload_n 0, 1, 0), (10, .getfield 23, 3, 0), (13, .getfield 212, 3, 0), (16, .getfield 227, 3, 0), (19, .iload_n 1, 1, 0), (20, .invokestatic 141, 3, 0), (23, .ireturn, 1, 0)], [])
def mX9_isCurtainClosed : MR := (11, 2, [(0, .aload_n 0, 1, 0), (1, .invokevirtual 94, 3, 0), (4, .aload_n 0, 1, 0), (5, .iload_n 1, 1, 0), (6, .invokevirtual 135, 3, 0), (9, .aload_n 0, 1, 0), (10, .getfield 23, 3, 0), (13, .getfield 138, 3, 0), (16, .iload_n 1, 1, 0), (17, .invokestatic 141, 3, 0), (20, .ifCond .le 7, 3, 27), (23, .iconst 1, 1, 0), (24, .goto 4, 3, 28), (27, .iconst 0, 1, 0), (28, .ireturn, 1, 1)], [])
def mX9_requireColumn : MR := (11, 2, [(0, .iload_n 1, 1, 0), (1, .ifCond .lt 17, 3, 18), (4, .iload_n 1, 1, 0), (5, .aload_n 0, 1, 0), (6, .getfield 23, 3, 0), (9, .getfield 97, 3, 0), (12, .getfield 106, 3, 0), (15, .if_icmp .lt 14, 3, 29), (18, .new 62, 3, 0), (21, .dup, 1, 0), (22, .ldc_w 317, 3, 0), (25, .invokespecial 66, 3, 0), (28, .athrow, 1, 0), (29, .return_, 1, 0)], [])
def mX9_wear : MR := (11, 2, [(0, .aload_n 0, 1, 0), (1, .invokevirtual 94, 3, 0), (4, .aload_n 0, 1, 0), (5, .iload_n 1, 1, 0), (6, .invokevirtual 128, 3, 0), (9, .aload_n 0, 1, 0), (10, .getfield 23, 3, 0), (13, .getfield 190, 3, 0), (16, .iload_n 1, 1, 0), (17, .invokestatic 141, 3, 0), (20, .ireturn, 1, 0)], [])
def mX9_requireTile : MR := (11, 2, [(0, .iload_n 1, 1, 0), (1, .ifCond .lt 14, 3, 15), (4, .iload_n 1, 1, 0), (5, .aload_n 0, 1, 0), (6, .getfield 23, 3, 0), (9, .invokevirtual 84, 3, 0), (12, .if_icmp .lt 14, 3, 26), (15, .new 62, 3, 0), (18, .dup, 1, 0), (19, .ldc_w 315, 3, 0), (22, .invokespecial 66, 3, 0), (25, .athrow, 1, 0), (26, .return_, 1, 0)], [])
def mX9_spillTime : MR := (11, 2, [(0, .aload_n 0, 1, 0), (1, .invokevirtual 94, 3, 0), (4, .aload_n 0, 1, 0), (5, .iload_n 1, 1, 0), (6, .invokevirtual 128, 3, 0), (9, .aload_n 0, 1, 0), (10, .getfield 23, 3, 0), (13, .getfield 205, 3, 0), (16, .iload_n 1, 1, 0), (17, .invokestatic 141, 3, 0), (20, .ireturn, 1, 0)], [])
def mX9_hasBowl : MR := (11, 2, [(0, .aload_n 0, 1, 0), (1, .invokevirtual 94, 3, 0), (4, .aload_n 0, 1, 0), (5, .iload_n 1, 1, 0), (6, .invokevirtual 128, 3, 0), (9, .aload_n 0, 1, 0), (10, .getfield 23, 3, 0), (13, .getfield 202, 3, 0), (16, .iload_n 1, 1, 0), (17, .invokestatic 141, 3, 0), (20, .ifCond .le 7, 3, 27), (23, .iconst 1, 1, 0), (24, .goto 4, 3, 28), (27, .iconst 0, 1, 0), (28, .ireturn, 1, 1)], [])
def mX9_hasRug : MR := (11, 2, [(0, .aload_n 0, 1, 0), (1, .invokevirtual 94, 3, 0), (4, .aload_n 0, 1, 0), (5, .iload_n 1, 1, 0), (6, .invokevirtual 128, 3, 0), (9, .aload_n 0, 1, 0), (10, .getfield 23, 3, 0), (13, .getfield 196, 3, 0), (16, .iload_n 1, 1, 0), (17, .invokestatic 141, 3, 0), (20, .ifCond .le 7, 3, 27), (23, .iconst 1, 1, 0), (24, .goto 4, 3, 28), (27, .iconst 0, 1, 0), (28, .ireturn, 1, 1)], [])
def mX9_saveState : MR := (11, 2, [(0, .aload_n 0, 1, 0), (1, .invokevirtual 94, 3, 0), (4, .aload_n 0, 1, 0), (5, .iload_n 1, 1, 0), (6, .invokevirtual 297, 3, 0), (9, .aload_n 0, 1, 0), (10, .getfield 42, 3, 0), (13, .iload_n 1, 1, 0), (14, .aload_n 0, 1, 0), (15, .getfield 23, 3, 0), (18, .invokevirtual 300, 3, 0), (21, .aload_n 0, 1, 0), (22, .getfield 23, 3, 0), (25, .getfield 112, 3, 0), (28, .ireturn, 1, 0)], [])
def mX9_requireSlot : MR := (11, 2, [(0, .iload_n 1, 1, 0), (1, .ifCond .lt 8, 3, 9), (4, .iload_n 1, 1, 0), (5, .iconst 2, 1, 0), (6, .if_icmp .lt 14, 3, 20), (9, .new 62, 3, 0), (12, .dup, 1, 0), (13, .ldc_w 321, 3, 0), (16, .invokespecial 66, 3, 0), (19, .athrow, 1, 0), (20, .return_, 1, 0)], [])
def mX1_store : MR := (4, 4, [(0, .aload_n 0, 1, 0), (1, .getfield 17, 3, 0), (4, .iload_n 1, 1, 0), (5, .invokestatic 29, 3, 0), (8, .astore_n 3, 1, 0), (9, .aload_n 3, 1, 0), (10, .ifnonnull 4, 3, 14), (13, .return_, 1, 0), (14, .aload_n 3, 1, 0), (15, .aload_n 2, 1, 0), (16, .invokevirtual 33, 3, 0), (19, .aload_n 0, 1, 0), (20, .getfield 20, 3, 0), (23, .iload_n 1, 1, 0), (24, .iconst 1, 1, 0), (25, .invokestatic 46, 3, 0), (28, .return_, 1, 0)], [])
def mX1_worldAt : MR := (4, 2, [(0, .iload_n 1, 1, 0), (1, .ifCond .lt 15, 3, 16), (4, .iload_n 1, 1, 0), (5, .aload_n 0, 1, 0), (6, .arraylength, 1, 0), (7, .if_icmp .ge 9, 3, 16), (10, .aload_n 0, 1, 0), (11, .iload_n 1, 1, 0), (12, .aaload, 1, 0), (13, .goto 4, 3, 17), (16, .aconst_null, 1, 0), (17, .areturn, 1, 0)], [])
def mX9_imbalance : MR := (11, 3, [(0, .aload_n 0, 1, 0), (1, .invokevirtual 94, 3, 0), (4, .aload_n 0, 1, 0), (5, .getfield 23, 3, 0), (8, .getfield 190, 3, 0), (11, .invokestatic 235, 3, 0), (14, .aload_n 0, 1, 0), (15, .getfield 23, 3, 0), (18, .getfield 157, 3, 0), (21, .getfield 175, 3, 0), (24, .isub, 1, 0), (25, .istore_n 1, 1, 0), (26, .aload_n 0, 1, 0), (27, .getfield 23, 3, 0), (30, .getfield 157, 3, 0), (33, .getfield 178, 3, 0), (36, .aload_n 0, 1, 0), (37, .getfield 23, 3, 0), (40, .getfield 157, 3, 0), (43, .getfield 175, 3, 0), (46, .if_icmp .le 7, 3, 53), (49, .iconst 1, 1, 0), (50, .goto 4, 3, 54), (53, .iconst 0, 1, 0), (54, .istore_n 2, 1, 0), (55, .iload_n 1, 1, 0), (56, .ifCond .ge 8, 3, 64), (59, .iload_n 1, 1, 0), (60, .ineg, 1, 0), (61, .goto 4, 3, 65), (64, .iload_n 1, 1, 0), (65, .iload_n 2, 1, 0), (66, .iadd, 1, 0), (67, .ireturn, 1, 0)], [])
def mX9_sum : MR := (11, 6, [(0, .iconst 0, 1, 0), (1, .istore_n 1, 1, 0), (2, .aload_n 0, 1, 0), (3, .astore_n 2, 1, 0), (4, .aload_n 2, 1, 0), (5, .arraylength, 1, 0), (6, .istore_n 3, 1, 0), (7, .iconst 0, 1, 0), (8, .istore 4, 2, 0), (10, .iload 4, 2, 0), (12, .iload_n 3, 1, 0), (13, .if_icmp .ge 20, 3, 33), (16, .aload_n 2, 1, 0), (17, .iload 4, 2, 0), (19, .iaload, 1, 0), (20, .istore 5, 2, 0), (22, .iload_n 1, 1, 0), (23, .iload 5, 2, 0), (25, .iadd, 1, 0), (26, .istore_n 1, 1, 0), (27, .iinc 4 1, 3, 0), (30, .goto (-20), 3, 10), (33, .iload_n 1, 1, 0), (34, .ireturn, 1, 0)], [])
def mL_isOneRow : MR := (13, 3, [(0, .iconst 0, 1, 0), (1, .istore_n 2, 1, 0), (2, .iload_n 2, 1, 0), (3, .aload_n 1, 1, 0), (4, .invokevirtual 75, 3, 0), (7, .if_icmp .ge 32, 3, 39), (10, .aload_n 0, 1, 0), (11, .iload_n 2, 1, 0), (12, .invokevirtual 340, 3, 0), (15, .ifCond .eq 18, 3, 33), (18, .iload_n 2, 1, 0), (19, .aload_n 1, 1, 0), (20, .getfield 36, 3, 0), (23, .idiv, 1, 0), (24, .aload_n 0, 1, 0), (25, .invokevirtual 387, 3, 0), (28, .if_icmp .eq 5, 3, 33), (31, .iconst 0, 1, 0), (32, .ireturn, 1, 1), (33, .iinc 2 1, 3, 0), (36, .goto (-34), 3, 2), (39, .iconst 1, 1, 0), (40, .ireturn, 1, 1)], [])
def mX9_isLit : MR := (11, 2, [(0, .aload_n 0, 1, 0), (1, .invokevirtual 94, 3, 0), (4, .aload_n 0, 1, 0), (5, .iload_n 1, 1, 0), (6, .invokevirtual 128, 3, 0), (9, .aload_n 0, 1, 0), (10, .getfield 23, 3, 0), (13, .iload_n 1, 1, 0), (14, .invokevirtual 131, 3, 0), (17, .ireturn, 1, 1)], [])
def mX8_isTileLit : MR := (10, 2, [(0, .aload_n 0, 1, 0), (1, .invokevirtual 109, 3, 0), (4, .ifCond .eq 15, 3, 19), (7, .aload_n 0, 1, 0), (8, .iload_n 1, 1, 0), (9, .invokevirtual 113, 3, 0), (12, .ifCond .eq 7, 3, 19), (15, .iconst 1, 1, 0), (16, .goto 4, 3, 20), (19, .iconst 0, 1, 0), (20, .ireturn, 1, 1)], [])
def mX9_moonRow : MR := (11, 1, [(0, .aload_n 0, 1, 0), (1, .invokevirtual 94, 3, 0), (4, .aload_n 0, 1, 0), (5, .getfield 23, 3, 0), (8, .invokevirtual 121, 3, 0), (11, .ireturn, 1, 0)], [])
def mX9_stepsAfter : MR := (11, 2, [(0, .aload_n 0, 1, 0), (1, .invokevirtual 94, 3, 0), (4, .aload_n 0, 1, 0), (5, .iload_n 1, 1, 0), (6, .invokevirtual 238, 3, 0), (9, .aload_n 0, 1, 0), (10, .aload_n 0, 1, 0), (11, .getfield 23, 3, 0), (14, .getfield 151, 3, 0), (17, .iload_n 1, 1, 0), (18, .invokevirtual 241, 3, 0), (21, .ireturn, 1, 0)], [])
def mX9_requireForetellable : MR := (11, 2, [(0, .iload_n 1, 1, 0), (1, .ifCond .lt 10, 3, 11), (4, .iload_n 1, 1, 0), (5, .sipush 300, 3, 0), (8, .if_icmp .le 14, 3, 22), (11, .new 73, 3, 0), (14, .dup, 1, 0), (15, .ldc_w 323, 3, 0), (18, .invokespecial 77, 3, 0), (21, .athrow, 1, 0), (22, .return_, 1, 0)], [])
def mX9_foretellSteps : MR := (11, 3, [(0, .aload_n 0, 1, 0), (1, .getfield 27, 3, 0), (4, .aload_n 0, 1, 0), (5, .getfield 23, 3, 0), (8, .invokevirtual 78, 3, 0), (11, .aload_n 0, 1, 0), (12, .getfield 27, 3, 0), (15, .iload_n 1, 1, 0), (16, .putfield 151, 3, 0), (19, .aload_n 0, 1, 0), (20, .getfield 27, 3, 0), (23, .iload_n 2, 1, 0), (24, .invokevirtual 245, 3, 0), (27, .aload_n 0, 1, 0), (28, .getfield 27, 3, 0), (31, .getfield 157, 3, 0), (34, .getfield 175, 3, 0), (37, .ireturn, 1, 0)], [])
def mX9_walkerTileAfter : MR := (11, 2, [(0, .aload_n 0, 1, 0), (1, .invokevirtual 94, 3, 0), (4, .aload_n 0, 1, 0), (5, .iload_n 1, 1, 0), (6, .invokevirtual 238, 3, 0), (9, .aload_n 0, 1, 0), (10, .getfield 27, 3, 0), (13, .aload_n 0, 1, 0), (14, .getfield 23, 3, 0), (17, .invokevirtual 78, 3, 0), (20, .aload_n 0, 1, 0), (21, .getfield 27, 3, 0), (24, .iload_n 1, 1, 0), (25, .invokevirtual 245, 3, 0), (28, .aload_n 0, 1, 0), (29, .getfield 27, 3, 0), (32, .getfield 157, 3, 0), (35, .getfield 161, 3, 0), (38, .ireturn, 1, 0)], [])
def mX9_spillTimeAfter : MR := (11, 3, [(0, .aload_n 0, 1, 0), (1, .invokevirtual 94, 3, 0), (4, .aload_n 0, 1, 0), (5, .iload_n 1, 1, 0), (6, .invokevirtual 128, 3, 0), (9, .aload_n 0, 1, 0), (10, .iload_n 2, 1, 0), (11, .invokevirtual 238, 3, 0), (14, .aload_n 0, 1, 0), (15, .getfield 27, 3, 0), (18, .aload_n 0, 1, 0), (19, .getfield 23, 3, 0), (22, .invokevirtual 78, 3, 0), (25, .aload_n 0, 1, 0), (26, .getfield 27, 3, 0), (29, .iload_n 2, 1, 0), (30, .invokevirtual 245, 3, 0), (33, .aload_n 0, 1, 0), (34, .getfield 27, 3, 0), (37, .getfield 205, 3, 0), (40, .iload_n 1, 1, 0), (41, .invokestatic 141, 3, 0), (44, .ireturn, 1, 0)], [])
def mX9_minutesUntilLit : MR := (11, 3, [(0, .aload_n 0, 1, 0), (1, .invokevirtual 94, 3, 0), (4, .aload_n 0, 1, 0), (5, .iload_n 1, 1, 0), (6, .invokevirtual 128, 3, 0), (9, .aload_n 0, 1, 0), (10, .getfield 27, 3, 0), (13, .aload_n 0, 1, 0), (14, .getfield 23, 3, 0), (17, .invokevirtual 78, 3, 0), (20, .iconst 0, 1, 0), (21, .istore_n 2, 1, 0), (22, .iload_n 2, 1, 0), (23, .sipush 500, 3, 0), (26, .if_icmp .gt 29, 3, 55), (29, .aload_n 0, 1, 0), (30, .getfield 27, 3, 0), (33, .iload_n 1, 1, 0), (34, .invokevirtual 131, 3, 0), (37, .ifCond .eq 5, 3, 42), (40, .iload_n 2, 1, 0), (41, .ireturn, 1, 0), (42, .aload_n 0, 1, 0), (43, .getfield 27, 3, 0), (46, .invokevirtual 148, 3, 0), (49, .iinc 2 1, 3, 0), (52, .goto (-30), 3, 22), (55, .iconst (-1), 1, 0), (56, .ireturn, 1, 0)], [])
def mX9_advance : MR := (11, 3, [(0, .aload_n 0, 1, 0), (1, .invokevirtual 94, 3, 0), (4, .iload_n 1, 1, 0), (5, .iconst 1, 1, 0), (6, .if_icmp .lt 10, 3, 16), (9, .iload_n 1, 1, 0), (10, .sipush 300, 3, 0), (13, .if_icmp .le 14, 3, 27), (16, .new 73, 3, 0), (19, .dup, 1, 0), (20, .ldc_w 275, 3, 0), (23, .invokespecial 77, 3, 0), (26, .athrow, 1, 0), (27, .aload_n 0, 1, 0), (28, .getfield 42, 3, 0), (31, .aload_n 0, 1, 0), (32, .getfield 23, 3, 0), (35, .invokevirtual 277, 3, 0), (38, .aload_n 0, 1, 0), (39, .getfield 23, 3, 0), (42, .getfield 157, 3, 0), (45, .getfield 175, 3, 0), (48, .istore_n 2, 1, 0), (49, .aload_n 0, 1, 0), (50, .getfield 23, 3, 0), (53, .iload_n 1, 1, 0), (54, .invokevirtual 245, 3, 0), (57, .aload_n 0, 1, 0), (58, .getfield 23, 3, 0), (61, .getfield 157, 3, 0), (64, .getfield 175, 3, 0), (67, .iload_n 2, 1, 0), (68, .isub, 1, 0), (69, .ireturn, 1, 0)], [])
def mX1_keep : MR := (4, 3, [(0, .aload_n 0, 1, 0), (1, .getfield 11, 3, 0), (4, .aload_n 0, 1, 0), (5, .getfield 25, 3, 0), (8, .invokestatic 29, 3, 0), (11, .astore_n 2, 1, 0), (12, .aload_n 2, 1, 0), (13, .ifnonnull 4, 3, 17), (16, .return_, 1, 0), (17, .aload_n 2, 1, 0), (18, .aload_n 1, 1, 0), (19, .invokevirtual 33, 3, 0), (22, .aload_n 0, 1, 0), (23, .aload_n 0, 1, 0), (24, .getfield 25, 3, 0), (27, .iconst 1, 1, 0), (28, .iadd, 1, 0), (29, .bipush 8, 2, 0), (31, .irem, 1, 0), (32, .putfield 25, 3, 0), (35, .aload_n 0, 1, 0), (36, .aload_n 0, 1, 0), (37, .getfield 37, 3, 0), (40, .iconst 1, 1, 0), (41, .iadd, 1, 0), (42, .bipush 8, 2, 0), (44, .invokestatic 40, 3, 0), (47, .putfield 37, 3, 0), (50, .return_, 1, 0)], [])
def mL_isPlaced : MR := (13, 1, [(0, .aload_n 0, 1, 0), (1, .invokevirtual 390, 3, 0), (4, .ifCond .eq 21, 3, 25), (7, .aload_n 0, 1, 0), (8, .invokevirtual 199, 3, 0), (11, .ifCond .lt 14, 3, 25), (14, .aload_n 0, 1, 0), (15, .aload_n 0, 1, 0), (16, .invokevirtual 199, 3, 0), (19, .invokevirtual 340, 3, 0), (22, .ifCond .eq 7, 3, 29), (25, .iconst 1, 1, 0), (26, .goto 4, 3, 30), (29, .iconst 0, 1, 0), (30, .ireturn, 1, 1)], [])
def mX9_moonShines : MR := (11, 1, [(0, .aload_n 0, 1, 0), (1, .invokevirtual 94, 3, 0), (4, .aload_n 0, 1, 0), (5, .getfield 23, 3, 0), (8, .invokevirtual 124, 3, 0), (11, .ireturn, 1, 1)], [])
def mX9_bestPace : MR := (11, 6, [(0, .aload_n 0, 1, 0), (1, .invokevirtual 94, 3, 0), (4, .aload_n 0, 1, 0), (5, .iload_n 1, 1, 0), (6, .invokevirtual 238, 3, 0), (9, .iconst (-1), 1, 0), (10, .istore_n 2, 1, 0), (11, .iconst (-1), 1, 0), (12, .istore_n 3, 1, 0), (13, .iconst 1, 1, 0), (14, .istore 4, 2, 0), (16, .iload 4, 2, 0), (18, .iconst 5, 1, 0), (19, .if_icmp .gt 30, 3, 49), (22, .aload_n 0, 1, 0), (23, .iload 4, 2, 0), (25, .iload_n 1, 1, 0), (26, .invokevirtual 241, 3, 0), (29, .istore 5, 2, 0), (31, .iload 5, 2, 0), (33, .iload_n 3, 1, 0), (34, .if_icmp .le 9, 3, 43), (37, .iload 5, 2, 0), (39, .istore_n 3, 1, 0), (40, .iload 4, 2, 0), (42, .istore_n 2, 1, 0), (43, .iinc 4 1, 3, 0), (46, .goto (-30), 3, 16), (49, .iload_n 2, 1, 0), (50, .ireturn, 1, 0)], [])
def mX9_stepsAtPace : MR := (11, 3, [(0, .aload_n 0, 1, 0), (1, .invokevirtual 94, 3, 0), (4, .aload_n 0, 1, 0), (5, .iload_n 1, 1, 0), (6, .invokevirtual 248, 3, 0), (9, .aload_n 0, 1, 0), (10, .iload_n 2, 1, 0), (11, .invokevirtual 238, 3, 0), (14, .aload_n 0, 1, 0), (15, .iload_n 1, 1, 0), (16, .iload_n 2, 1, 0), (17, .invokevirtual 241, 3, 0), (20, .ireturn, 1, 0)], [])
def mX9_requirePace : MR := (11, 2, [(0, .iload_n 1, 1, 0), (1, .iconst 1, 1, 0), (2, .if_icmp .lt 8, 3, 10), (5, .iload_n 1, 1, 0), (6, .iconst 5, 1, 0), (7, .if_icmp .le 14, 3, 21), (10, .new 73, 3, 0), (13, .dup, 1, 0), (14, .ldc_w 325, 3, 0), (17, .invokespecial 77, 3, 0), (20, .athrow, 1, 0), (21, .return_, 1, 0)], [])
def mX9_setPace : MR := (11, 3, [(0, .aload_n 0, 1, 0), (1, .invokevirtual 94, 3, 0), (4, .aload_n 0, 1, 0), (5, .iload_n 1, 1, 0), (6, .invokevirtual 248, 3, 0), (9, .aload_n 0, 1, 0), (10, .getfield 42, 3, 0), (13, .aload_n 0, 1, 0), (14, .getfield 23, 3, 0), (17, .invokevirtual 277, 3, 0), (20, .aload_n 0, 1, 0), (21, .getfield 23, 3, 0), (24, .getfield 151, 3, 0), (27, .istore_n 2, 1, 0), (28, .aload_n 0, 1, 0), (29, .getfield 23, 3, 0), (32, .iload_n 1, 1, 0), (33, .putfield 151, 3, 0), (36, .iload_n 2, 1, 0), (37, .ireturn, 1, 0)], [])
def mX9_bestCurtain : MR := (11, 5, [(0, .aload_n 0, 1, 0), (1, .invokevirtual 94, 3, 0), (4, .aload_n 0, 1, 0), (5, .iload_n 1, 1, 0), (6, .invokevirtual 238, 3, 0), (9, .iconst (-1), 1, 0), (10, .istore_n 2, 1, 0), (11, .iconst (-1), 1, 0), (12, .istore_n 3, 1, 0), (13, .iconst 0, 1, 0), (14, .istore 4, 2, 0), (16, .iload 4, 2, 0), (18, .aload_n 0, 1, 0), (19, .getfield 23, 3, 0), (22, .getfield 97, 3, 0), (25, .getfield 106, 3, 0), (28, .if_icmp .ge 87, 3, 115), (31, .aload_n 0, 1, 0), (32, .getfield 23, 3, 0), (35, .getfield 138, 3, 0), (38, .iload 4, 2, 0), (40, .invokestatic 141, 3, 0), (43, .ifCond .ne 6, 3, 49), (46, .goto 63, 3, 109), (49, .aload_n 0, 1, 0), (50, .getfield 27, 3, 0), (53, .aload_n 0, 1, 0), (54, .getfield 23, 3, 0), (57, .invokevirtual 78, 3, 0), (60, .aload_n 0, 1, 0), (61, .getfield 27, 3, 0), (64, .getfield 138, 3, 0), (67, .iload 4, 2, 0), (69, .iconst 0, 1, 0), (70, .invokestatic 58, 3, 0), (73, .aload_n 0, 1, 0), (74, .getfield 27, 3, 0), (77, .iload_n 1, 1, 0), (78, .invokevirtual 245, 3, 0), (81, .aload_n 0, 1, 0), (82, .getfield 27, 3, 0), (85, .getfield 157, 3, 0), (88, .getfield 175, 3, 0), (91, .iload_n 3, 1, 0), (92, .if_icmp .le 17, 3, 109), (95, .aload_n 0, 1, 0), (96, .getfield 27, 3, 0), (99, .getfield 157, 3, 0), (102, .getfield 175, 3, 0), (105, .istore_n 3, 1, 0), (106, .iload 4, 2, 0), (108, .istore_n 2, 1, 0), (109, .iinc 4 1, 3, 0), (112, .goto (-96), 3, 16), (115, .iload_n 2, 1, 0), (116, .ireturn, 1, 0)], [])
def mX9_setCurtain : MR := (11, 4, [(0, .aload_n 0, 1, 0), (1, .invokevirtual 94, 3, 0), (4, .aload_n 0, 1, 0), (5, .iload_n 1, 1, 0), (6, .invokevirtual 135, 3, 0), (9, .aload_n 0, 1, 0), (10, .getfield 42, 3, 0), (13, .aload_n 0, 1, 0), (14, .getfield 23, 3, 0), (17, .invokevirtual 277, 3, 0), (20, .aload_n 0, 1, 0), (21, .getfield 23, 3, 0), (24, .getfield 138, 3, 0), (27, .iload_n 1, 1, 0), (28, .invokestatic 141, 3, 0), (31, .ifCond .le 7, 3, 38), (34, .iconst 1, 1, 0), (35, .goto 4, 3, 39), (38, .iconst 0, 1, 0), (39, .istore_n 3, 1, 0), (40, .aload_n 0, 1, 0), (41, .getfield 23, 3, 0), (44, .getfield 138, 3, 0), (47, .iload_n 1, 1, 0), (48, .iload_n 2, 1, 0), (49, .ifCond .eq 7, 3, 56), (52, .iconst 1, 1, 0), (53, .goto 4, 3, 57), (56, .iconst 0, 1, 0), (57, .invokestatic 58, 3, 0), (60, .iload_n 3, 1, 0), (61, .ireturn, 1, 1)], [])
def mX9_placeBowl : MR := (11, 2, [(0, .aload_n 0, 1, 0), (1, .invokevirtual 94, 3, 0), (4, .aload_n 0, 1, 0), (5, .iload_n 1, 1, 0), (6, .invokevirtual 128, 3, 0), (9, .aload_n 0, 1, 0), (10, .getfield 23, 3, 0), (13, .iload_n 1, 1, 0), (14, .invokevirtual 280, 3, 0), (17, .ifCond .ne 14, 3, 31), (20, .new 73, 3, 0), (23, .dup, 1, 0), (24, .ldc_w 283, 3, 0), (27, .invokespecial 77, 3, 0), (30, .athrow, 1, 0), (31, .aload_n 0, 1, 0), (32, .getfield 42, 3, 0), (35, .aload_n 0, 1, 0), (36, .getfield 23, 3, 0), (39, .invokevirtual 277, 3, 0), (42, .aload_n 0, 1, 0), (43, .getfield 23, 3, 0), (46, .getfield 202, 3, 0), (49, .iload_n 1, 1, 0), (50, .iconst 1, 1, 0), (51, .invokestatic 58, 3, 0), (54, .aload_n 0, 1, 0), (55, .getfield 23, 3, 0), (58, .getfield 202, 3, 0), (61, .invokestatic 208, 3, 0), (64, .ireturn, 1, 0)], [])
def mX9_mop : MR := (11, 3, [(0, .aload_n 0, 1, 0), (1, .invokevirtual 94, 3, 0), (4, .aload_n 0, 1, 0), (5, .iload_n 1, 1, 0), (6, .invokevirtual 128, 3, 0), (9, .aload_n 0, 1, 0), (10, .getfield 23, 3, 0), (13, .getfield 205, 3, 0), (16, .iload_n 1, 1, 0), (17, .invokestatic 141, 3, 0), (20, .istore_n 2, 1, 0), (21, .iload_n 2, 1, 0), (22, .ifCond .ne 14, 3, 36), (25, .new 73, 3, 0), (28, .dup, 1, 0), (29, .ldc_w 285, 3, 0), (32, .invokespecial 77, 3, 0), (35, .athrow, 1, 0), (36, .aload_n 0, 1, 0), (37, .getfield 42, 3, 0), (40, .aload_n 0, 1, 0), (41, .getfield 23, 3, 0), (44, .invokevirtual 277, 3, 0), (47, .aload_n 0, 1, 0), (48, .getfield 23, 3, 0), (51, .getfield 205, 3, 0), (54, .iload_n 1, 1, 0), (55, .iconst 0, 1, 0), (56, .invokestatic 58, 3, 0), (59, .iload_n 2, 1, 0), (60, .ireturn, 1, 0)], [])
def mX9_turnWalker : MR := (11, 1, [(0, .aload_n 0, 1, 0), (1, .invokevirtual 94, 3, 0), (4, .aload_n 0, 1, 0), (5, .getfield 42, 3, 0), (8, .aload_n 0, 1, 0), (9, .getfield 23, 3, 0), (12, .invokevirtual 277, 3, 0), (15, .aload_n 0, 1, 0), (16, .getfield 23, 3, 0), (19, .getfield 157, 3, 0), (22, .aload_n 0, 1, 0), (23, .getfield 23, 3, 0), (26, .getfield 157, 3, 0), (29, .getfield 166, 3, 0), (32, .ifCond .ne 7, 3, 39), (35, .iconst 1, 1, 0), (36, .goto 4, 3, 40), (39, .iconst 0, 1, 0), (40, .putfield 166, 3, 0), (43, .aload_n 0, 1, 0), (44, .getfield 23, 3, 0), (47, .getfield 157, 3, 0), (50, .getfield 166, 3, 0), (53, .ireturn, 1, 1)], [])
def mX9_minutesUntilFall : MR := (11, 2, [(0, .aload_n 0, 1, 0), (1, .invokevirtual 94, 3, 0), (4, .aload_n 0, 1, 0), (5, .getfield 27, 3, 0), (8, .aload_n 0, 1, 0), (9, .getfield 23, 3, 0), (12, .invokevirtual 78, 3, 0), (15, .iconst 1, 1, 0), (16, .istore_n 1, 1, 0), (17, .iload_n 1, 1, 0), (18, .sipush 500, 3, 0), (21, .if_icmp .gt 41, 3, 62), (24, .aload_n 0, 1, 0), (25, .getfield 27, 3, 0), (28, .invokevirtual 148, 3, 0), (31, .aload_n 0, 1, 0), (32, .getfield 27, 3, 0), (35, .getfield 157, 3, 0), (38, .getfield 184, 3, 0), (41, .aload_n 0, 1, 0), (42, .getfield 23, 3, 0), (45, .getfield 157, 3, 0), (48, .getfield 184, 3, 0), (51, .if_icmp .le 5, 3, 56), (54, .iload_n 1, 1, 0), (55, .ireturn, 1, 0), (56, .iinc 1 1, 3, 0), (59, .goto (-42), 3, 17), (62, .iconst (-1), 1, 0), (63, .ireturn, 1, 0)], [])
def mX9_restoreState : MR := (11, 2, [(0, .aload_n 0, 1, 0), (1, .iload_n 1, 1, 0), (2, .invokevirtual 297, 3, 0), (5, .aload_n 0, 1, 0), (6, .getfield 42, 3, 0), (9, .iload_n 1, 1, 0), (10, .aload_n 0, 1, 0), (11, .getfield 23, 3, 0), (14, .invokevirtual 304, 3, 0), (17, .ifCond .ne 14, 3, 31), (20, .new 291, 3, 0), (23, .dup, 1, 0), (24, .ldc_w 308, 3, 0), (27, .invokespecial 295, 3, 0), (30, .athrow, 1, 0), (31, .aload_n 0, 1, 0), (32, .getfield 42, 3, 0), (35, .invokevirtual 310, 3, 0), (38, .aload_n 0, 1, 0), (39, .getfield 23, 3, 0), (42, .getfield 112, 3, 0), (45, .ireturn, 1, 0)], [])
def mX1_fetch : MR := (4, 4, [(0, .aload_n 0, 1, 0), (1, .getfield 17, 3, 0), (4, .iload_n 1, 1, 0), (5, .invokestatic 29, 3, 0), (8, .astore_n 3, 1, 0), (9, .aload_n 3, 1, 0), (10, .ifnull 14, 3, 24), (13, .aload_n 0, 1, 0), (14, .getfield 20, 3, 0), (17, .iload_n 1, 1, 0), (18, .invokestatic 50, 3, 0), (21, .ifCond .ne 5, 3, 26), (24, .iconst 0, 1, 0), (25, .ireturn, 1, 1), (26, .aload_n 2, 1, 0), (27, .aload_n 3, 1, 0), (28, .invokevirtual 33, 3, 0), (31, .iconst 1, 1, 0), (32, .ireturn, 1, 1)], [])
def mX9_undoCount : MR := (11, 1, [(0, .aload_n 0, 1, 0), (1, .getfield 42, 3, 0), (4, .getfield 296, 3, 0), (7, .ireturn, 1, 0)], [])
def mJ7_equals_331f6 : MR := (18, 3, [(0, .aload_n 0, 1, 0), (1, .aload_n 1, 1, 0), (2, .if_acmp .ne 5, 3, 7), (5, .iconst 1, 1, 0), (6, .ireturn, 1, 1), (7, .aload_n 0, 1, 0), (8, .ifnull 7, 3, 15), (11, .aload_n 1, 1, 0), (12, .ifnonnull 5, 3, 17), (15, .iconst 0, 1, 0), (16, .ireturn, 1, 1), (17, .aload_n 0, 1, 0), (18, .arraylength, 1, 0), (19, .istore_n 2, 1, 0), (20, .aload_n 1, 1, 0), (21, .arraylength, 1, 0), (22, .iload_n 2, 1, 0), (23, .if_icmp .eq 5, 3, 28), (26, .iconst 0, 1, 0), (27, .ireturn, 1, 1), (28, .aload_n 0, 1, 0), (29, .aload_n 1, 1, 0), (30, .iload_n 2, 1, 0), (31, .invokestatic 245, 3, 0), (34, .ifCond .ge 7, 3, 41), (37, .iconst 1, 1, 0), (38, .goto 4, 3, 42), (41, .iconst 0, 1, 0), (42, .ireturn, 1, 1)], [])
def mJ8_mismatch_974f6 : MR := (24, 4, [(0, .iload_n 2, 1, 0), (1, .ifCond .ne 5, 3, 6), (4, .iconst (-1), 1, 0), (5, .ireturn, 1, 0), (6, .aload_n 0, 1, 0), (7, .iconst 0, 1, 0), (8, .laload, 1, 0), (9, .aload_n 1, 1, 0), (10, .iconst 0, 1, 0), (11, .laload, 1, 0), (12, .lcmp, 1, 0), (13, .ifCond .eq 5, 3, 18), (16, .iconst 0, 1, 0), (17, .ireturn, 1, 0), (18, .aload_n 0, 1, 0), (19, .getstatic 170, 3, 0), (22, .i2l, 1, 0), (23, .aload_n 1, 1, 0), (24, .getstatic 170, 3, 0), (27, .i2l, 1, 0), (28, .iload_n 2, 1, 0), (29, .getstatic 20, 3, 0), (32, .invokestatic 122, 3, 0), (35, .istore_n 3, 1, 0), (36, .iload_n 3, 1, 0), (37, .ifCond .lt 7, 3, 44), (40, .iload_n 3, 1, 0), (41, .goto 4, 3, 45), (44, .iconst (-1), 1, 0), (45, .ireturn, 1, 0)], [])
set_option maxRecDepth 100000 in
def mJ8_vectorizedMismatch_456ae : MR := (24, 19, [(0, .getstatic 20, 3, 0), (3, .iload 7, 2, 0), (5, .isub, 1, 0), (6, .istore 8, 2, 0), (8, .iconst 0, 1, 0), (9, .istore 9, 2, 0), (11, .iload 9, 2, 0), (13, .iload 6, 2, 0), (15, .iload 8, 2, 0), (17, .ishr, 1, 0), (18, .if_icmp .ge 104, 3, 122), (21, .iload 9, 2, 0), (23, .i2l, 1, 0), (24, .getstatic 20, 3, 0), (27, .lshl, 1, 0), (28, .lstore 10, 2, 0), (30, .getstatic 26, 3, 0), (33, .aload_n 0, 1, 0), (34, .lload_n 1, 1, 0), (35, .lload 10, 2, 0), (37, .ladd, 1, 0), (38, .invokevirtual 30, 3, 0), (41, .lstore 12, 2, 0), (43, .getstatic 26, 3, 0), (46, .aload_n 3, 1, 0), (47, .lload 4, 2, 0), (49, .lload 10, 2, 0), (51, .ladd, 1, 0), (52, .invokevirtual 30, 3, 0), (55, .lstore 14, 2, 0), (57, .lload 12, 2, 0), (59, .lload 14, 2, 0), (61, .lcmp, 1, 0), (62, .ifCond .eq 54, 3, 116), (65, .lload 12, 2, 0), (67, .lload 14, 2, 0), (69, .lxor, 1, 0), (70, .lstore 16, 2, 0), (72, .getstatic 36, 3, 0), (75, .ifCond .eq 18, 3, 93), (78, .lload 16, 2, 0), (80, .invokestatic 40, 3, 0), (83, .getstatic 46, 3, 0), (86, .iload 7, 2, 0), (88, .iadd, 1, 0), (89, .ishr, 1, 0), (90, .goto 15, 3, 105), (93, .lload 16, 2, 0), (95, .invokestatic 49, 3, 0), (98, .getstatic 46, 3, 0), (101, .iload 7, 2, 0), (103, .iadd, 1, 0), (104, .ishr, 1, 0), (105, .istore 18, 2, 0), (107, .iload 9, 2, 0), (109, .iload 8, 2, 0), (111, .ishl, 1, 0), (112, .iload 18, 2, 0), (114, .iadd, 1, 0), (115, .ireturn, 1, 0), (116, .iinc 9 1, 3, 0), (119, .goto (-108), 3, 11), (122, .iload 6, 2, 0), (124, .iload 9, 2, 0), (126, .iload 8, 2, 0), (128, .ishl, 1, 0), (129, .isub, 1, 0), (130, .istore 10, 2, 0), (132, .iload 7, 2, 0), (134, .getstatic 51, 3, 0), (137, .if_icmp .ge 126, 3, 263), (140, .iconst 1, 1, 0), (141, .getstatic 51, 3, 0), (144, .iload 7, 2, 0), (146, .isub, 1, 0), (147, .ishl, 1, 0), (148, .istore 11, 2, 0), (150, .iload 10, 2, 0), (152, .iload 11, 2, 0), (154, .if_icmp .lt 104, 3, 258), (157, .iload 9, 2, 0), (159, .i2l, 1, 0), (160, .getstatic 20, 3, 0), (163, .lshl, 1, 0), (164, .lstore 12, 2, 0), (166, .getstatic 26, 3, 0), (169, .aload_n 0, 1, 0), (170, .lload_n 1, 1, 0), (171, .lload 12, 2, 0), (173, .ladd, 1, 0), (174, .invokevirtual 54, 3, 0), (177, .istore 14, 2, 0), (179, .getstatic 26, 3, 0), (182, .aload_n 3, 1, 0), (183, .lload 4, 2, 0), (185, .lload 12, 2, 0), (187, .ladd, 1, 0), (188, .invokevirtual 54, 3, 0), (191, .istore 15, 2, 0), (193, .iload 14, 2, 0), (195, .iload 15, 2, 0), (197, .if_icmp .eq 54, 3, 251), (200, .iload 14, 2, 0), (202, .iload 15, 2, 0), (204, .ixor, 1, 0), (205, .istore 16, 2, 0), (207, .getstatic 36, 3, 0), (210, .ifCond .eq 18, 3, 228), (213, .iload 16, 2, 0), (215, .invokestatic 58, 3, 0), (218, .getstatic 46, 3, 0), (221, .iload 7, 2, 0), (223, .iadd, 1, 0), (224, .ishr, 1, 0), (225, .goto 15, 3, 240), (228, .iload 16, 2, 0), (230, .invokestatic 11, 3, 0), (233, .getstatic 46, 3, 0), (236, .iload 7, 2, 0), (238, .iadd, 1, 0), (239, .ishr, 1, 0), (240, .istore 17, 2, 0), (242, .iload 9, 2, 0), (244, .iload 8, 2, 0), (246, .ishl, 1, 0), (247, .iload 17, 2, 0), (249, .iadd, 1, 0), (250, .ireturn, 1, 0), (251, .iload 10, 2, 0), (253, .iload 11, 2, 0), (255, .isub, 1, 0), (256, .istore 10, 2, 0), (258, .iload 10, 2, 0), (260, .iconst (-1), 1, 0), (261, .ixor, 1, 0), (262, .ireturn, 1, 0), (263, .iload 10, 2, 0), (265, .iconst (-1), 1, 0), (266, .ixor, 1, 0), (267, .ireturn, 1, 0)], [])
set_option maxRecDepth 100000 in
def mJx9a822_getLongUnaligned_f02c6 : MR := (25, 4, [(0, .lload_n 2, 1, 0), (1, .ldc2_w 696, 3, 0), (4, .land, 1, 0), (5, .lconst 0, 1, 0), (6, .lcmp, 1, 0), (7, .ifCond .ne 10, 3, 17), (10, .aload_n 0, 1, 0), (11, .aload_n 1, 1, 0), (12, .lload_n 2, 1, 0), (13, .invokevirtual 27, 3, 0), (16, .lreturn, 1, 0), (17, .lload_n 2, 1, 0), (18, .ldc2_w 349, 3, 0), (21, .land, 1, 0), (22, .lconst 0, 1, 0), (23, .lcmp, 1, 0), (24, .ifCond .ne 23, 3, 47), (27, .aload_n 0, 1, 0), (28, .aload_n 1, 1, 0), (29, .lload_n 2, 1, 0), (30, .invokevirtual 17, 3, 0), (33, .aload_n 0, 1, 0), (34, .aload_n 1, 1, 0), (35, .lload_n 2, 1, 0), (36, .ldc2_w 205, 3, 0), (39, .ladd, 1, 0), (40, .invokevirtual 17, 3, 0), (43, .invokestatic 698, 3, 0), (46, .lreturn, 1, 0), (47, .lload_n 2, 1, 0), (48, .lconst 1, 1, 0), (49, .land, 1, 0), (50, .lconst 0, 1, 0), (51, .lcmp, 1, 0), (52, .ifCond .ne 43, 3, 95), (55, .aload_n 0, 1, 0), (56, .aload_n 1, 1, 0), (57, .lload_n 2, 1, 0), (58, .invokevirtual 47, 3, 0), (61, .aload_n 0, 1, 0), (62, .aload_n 1, 1, 0), (63, .lload_n 2, 1, 0), (64, .ldc2_w 203, 3, 0), (67, .ladd, 1, 0), (68, .invokevirtual 47, 3, 0), (71, .aload_n 0, 1, 0), (72, .aload_n 1, 1, 0), (73, .lload_n 2, 1, 0), (74, .ldc2_w 205, 3, 0), (77, .ladd, 1, 0), (78, .invokevirtual 47, 3, 0), (81, .aload_n 0, 1, 0), (82, .aload_n 1, 1, 0), (83, .lload_n 2, 1, 0), (84, .ldc2_w 702, 3, 0), (87, .ladd, 1, 0), (88, .invokevirtual 47, 3, 0), (91, .invokestatic 704, 3, 0), (94, .lreturn, 1, 0), (95, .aload_n 0, 1, 0), (96, .aload_n 1, 1, 0), (97, .lload_n 2, 1, 0), (98, .invokevirtual 39, 3, 0), (101, .aload_n 0, 1, 0), (102, .aload_n 1, 1, 0), (103, .lload_n 2, 1, 0), (104, .lconst 1, 1, 0), (105, .ladd, 1, 0), (106, .invokevirtual 39, 3, 0), (109, .aload_n 0, 1, 0), (110, .aload_n 1, 1, 0), (111, .lload_n 2, 1, 0), (112, .ldc2_w 203, 3, 0), (115, .ladd, 1, 0), (116, .invokevirtual 39, 3, 0), (119, .aload_n 0, 1, 0), (120, .aload_n 1, 1, 0), (121, .lload_n 2, 1, 0), (122, .ldc2_w 349, 3, 0), (125, .ladd, 1, 0), (126, .invokevirtual 39, 3, 0), (129, .aload_n 0, 1, 0), (130, .aload_n 1, 1, 0), (131, .lload_n 2, 1, 0), (132, .ldc2_w 205, 3, 0), (135, .ladd, 1, 0), (136, .invokevirtual 39, 3, 0), (139, .aload_n 0, 1, 0), (140, .aload_n 1, 1, 0), (141, .lload_n 2, 1, 0), (142, .ldc2_w 707, 3, 0), (145, .ladd, 1, 0), (146, .invokevirtual 39, 3, 0), (149, .aload_n 0, 1, 0), (150, .aload_n 1, 1, 0), (151, .lload_n 2, 1, 0), (152, .ldc2_w 702, 3, 0), (155, .ladd, 1, 0), (156, .invokevirtual 39, 3, 0), (159, .aload_n 0, 1, 0), (160, .aload_n 1, 1, 0), (161, .lload_n 2, 1, 0), (162, .ldc2_w 696, 3, 0), (165, .ladd, 1, 0), (166, .invokevirtual 39, 3, 0), (169, .invokestatic 709, 3, 0), (172, .lreturn, 1, 0)], [])
end
section
/-! what the class files' entries name: fields, methods, classes, statics, constants -/
def am_no : MR := (99, 0, [], [])
def am_F_0 : List (Nat × Nat × Nat × Nat) := [(9, (0, 0, 1)), (15, (0, 1, 3)), (1048, (1, 2, 2))]
def am_F_2 : List (Nat × Nat × Nat × Nat) := [(9, (2, 1, 1)), (48, (2, 2, 0)), (63, (2, 0, 0))]
def am_F_4 : List (Nat × Nat × Nat × Nat) := [(11, (4, 0, 1)), (17, (4, 1, 1)), (20, (4, 2, 1)), (25, (4, 3, 0)), (37, (4, 4, 0))]
def am_F_5 : List (Nat × Nat × Nat × Nat) := [(9, (5, 0, 1)), (15, (5, 1, 1)), (18, (5, 2, 1)), (21, (5, 3, 1)), (30, (5, 4, 0)), (34, (5, 5, 0)), (37, (5, 6, 0)), (40, (5, 7, 0)), (43, (5, 8, 0)), (46, (5, 9, 0)), (49, (5, 10, 0)), (52, (5, 11, 0)), (55, (5, 12, 0))]
def am_F_6 : List (Nat × Nat × Nat × Nat) := [(9, (6, 0, 1)), (15, (6, 1, 1)), (18, (6, 2, 0))]
def am_F_7 : List (Nat × Nat × Nat × Nat) := [(12, (7, 0, 1)), (18, (7, 2, 1)), (22, (7, 3, 1)), (25, (7, 1, 1)), (29, (7, 9, 0)), (33, (7, 10, 0)), (47, (7, 8, 2)), (51, (7, 6, 2)), (77, (7, 4, 0)), (80, (7, 5, 0)), (83, (7, 7, 2)), (117, (10, 0, 1)), (121, (5, 4, 0)), (126, (5, 5, 0)), (158, (13, 2, 2)), (161, (13, 1, 2)), (167, (5, 11, 0)), (178, (5, 6, 0)), (181, (10, 8, 0)), (184, (5, 7, 0)), (187, (5, 8, 0)), (190, (5, 9, 0)), (193, (5, 10, 0)), (196, (10, 9, 0)), (224, (10, 1, 1)), (228, (9, 1, 0)), (233, (9, 2, 2)), (239, (10, 12, 0)), (242, (5, 12, 0)), (249, (5, 3, 1)), (252, (5, 0, 1)), (255, (5, 1, 1)), (258, (5, 2, 1)), (261, (10, 3, 1)), (280, (10, 7, 1)), (295, (10, 5, 1)), (301, (10, 6, 1)), (316, (10, 10, 0))]
def am_F_8 : List (Nat × Nat × Nat × Nat) := [(11, (8, 0, 1)), (17, (8, 1, 1)), (21, (8, 2, 1)), (24, (8, 3, 0)), (28, (8, 4, 0)), (70, (13, 0, 1))]
def am_F_9 : List (Nat × Nat × Nat × Nat) := [(9, (9, 0, 0)), (15, (9, 1, 0)), (18, (9, 2, 2)), (22, (9, 3, 0)), (25, (9, 4, 0)), (28, (9, 5, 0)), (31, (9, 6, 0)), (34, (9, 7, 0)), (37, (9, 8, 0))]
def am_F_10 : List (Nat × Nat × Nat × Nat) := [(12, (10, 0, 1)), (21, (10, 1, 1)), (28, (10, 2, 1)), (32, (10, 3, 1)), (36, (10, 4, 1)), (39, (10, 5, 1)), (42, (10, 6, 1)), (45, (10, 7, 1)), (59, (10, 8, 0)), (63, (10, 9, 0)), (66, (10, 10, 0)), (69, (10, 11, 0)), (72, (10, 12, 0)), (75, (10, 13, 0)), (92, (5, 4, 0)), (95, (5, 5, 0)), (98, (5, 6, 0)), (145, (9, 3, 0)), (148, (9, 0, 0)), (173, (5, 12, 0)), (176, (5, 3, 1)), (186, (5, 7, 0)), (189, (5, 8, 0)), (198, (5, 10, 0)), (204, (9, 1, 0)), (207, (9, 2, 2)), (227, (5, 9, 0)), (230, (9, 4, 0)), (248, (9, 6, 0)), (254, (5, 0, 1))]
def am_F_11 : List (Nat × Nat × Nat × Nat) := [(9, (11, 0, 1)), (16, (11, 1, 1)), (23, (11, 2, 1)), (27, (11, 3, 1)), (35, (11, 4, 1)), (42, (11, 5, 1)), (46, (11, 6, 0)), (50, (11, 7, 2)), (97, (10, 0, 1)), (106, (5, 5, 0)), (112, (10, 9, 0)), (115, (10, 10, 0)), (138, (10, 3, 1)), (151, (10, 8, 0)), (157, (10, 1, 1)), (161, (9, 0, 0)), (166, (9, 2, 2)), (169, (9, 3, 0)), (172, (9, 4, 0)), (175, (9, 5, 0)), (178, (9, 6, 0)), (181, (9, 7, 0)), (184, (9, 8, 0)), (190, (10, 4, 1)), (193, (10, 12, 0)), (196, (10, 7, 1)), (199, (10, 11, 0)), (202, (10, 6, 1)), (205, (10, 5, 1)), (212, (10, 2, 1)), (216, (6, 2, 0)), (224, (6, 0, 1)), (227, (6, 1, 1)), (296, (4, 4, 0))]
def am_F_12 : List (Nat × Nat × Nat × Nat) := [(7, (12, 10, 0)), (13, (12, 19, 0)), (16, (12, 22, 1)), (23, (12, 29, 1)), (27, (12, 30, 1)), (31, (12, 0, 0)), (34, (12, 1, 0)), (37, (12, 2, 0)), (40, (12, 3, 0)), (43, (12, 4, 0)), (46, (12, 5, 0)), (49, (12, 6, 0)), (52, (12, 7, 0)), (55, (12, 8, 0)), (58, (12, 9, 0)), (61, (12, 11, 0)), (64, (12, 12, 0)), (67, (12, 13, 0)), (70, (12, 14, 0)), (73, (12, 15, 0)), (76, (12, 16, 0)), (79, (12, 17, 0)), (82, (12, 18, 0)), (85, (12, 20, 0)), (88, (12, 21, 2)), (92, (12, 23, 1)), (101, (12, 24, 1)), (104, (12, 25, 1)), (107, (12, 26, 1)), (110, (12, 27, 1)), (115, (12, 28, 1))]
def am_F_13 : List (Nat × Nat × Nat × Nat) := [(32, (12, 0, 0)), (36, (12, 1, 0)), (39, (12, 2, 0)), (42, (12, 3, 0)), (45, (12, 4, 0)), (48, (12, 5, 0)), (51, (12, 6, 0)), (54, (12, 7, 0)), (57, (12, 8, 0)), (60, (12, 11, 0)), (63, (12, 21, 2)), (67, (12, 23, 1)), (71, (12, 26, 1)), (79, (12, 24, 1)), (82, (12, 25, 1)), (85, (12, 27, 1)), (88, (12, 28, 1)), (91, (12, 29, 1)), (101, (12, 19, 0)), (104, (12, 22, 1))]
def am_F_16 : List (Nat × Nat × Nat × Nat) := [(15, (1, 0, 1)), (22, (1, 1, 3)), (79, (1, 3, 0))]
def am_F_20 : List (Nat × Nat × Nat × Nat) := [(7, (13, 3, 0))]
def am_F_27 : List (Nat × Nat × Nat × Nat) := [(7, (2, 0, 0))]
def am_F (own idx : Nat) : Option (Nat × Nat × Nat) := match am_lk own [(0, am_F_0), (2, am_F_2), (4, am_F_4), (5, am_F_5), (6, am_F_6), (7, am_F_7), (8, am_F_8), (9, am_F_9), (10, am_F_10), (11, am_F_11), (12, am_F_12), (13, am_F_13), (16, am_F_16), (20, am_F_20), (27, am_F_27)] with | some l => am_lk idx l | none => none
def am_M_0 : List (Nat × Nat × Nat × Nat × MR) := [(1, (3, 0, 0, am_no)), (54, (1, 3, 0, mJ7_copyOfRange_39247)), (212, (10, 5, 1, am_no)), (335, (0, 0, 0, mJ0_coder_7d493)), (489, (2, 2, 0, mJ0_init_db425)), (492, (0, 0, 0, mJ0_isLatin1_aae02)), (495, (1, 2, 0, mJ1_charAt_3b067)), (549, (4, 0, 1, mJ4_length_8abf5)), (552, (0, 0, 1, mJ5_getValue_6d5f1)), (1047, (0, 0, 1, mJ5_isLatin1_aae02))]
def am_M_1 : List (Nat × Nat × Nat × Nat × MR) := [(1, (2, 1, 1, mJ5_init_d00df)), (7, (2, 1, 1, mJ5_init_a7421)), (23, (0, 1, 1, mJ4_append_15ec4)), (29, (6, 1, 1, mJ5_append_cf1ce)), (50, (6, 1, 1, mJ5_append_3fe6f)), (53, (6, 1, 1, mJ5_append_c97b9)), (137, (2, 1, 0, mJ0_init_81219)), (343, (6, 0, 1, mJ5_length_8abf5))]
def am_M_2 : List (Nat × Nat × Nat × Nat × MR) := [(1, (2, 0, 2, mJxc12de_init_da8c8)), (69, (0, 1, 2, mJx4a65c_grow_92f84)), (73, (1, 3, 0, mJ8_newLength_cabcc)), (79, (16, 2, 1, am_no)), (112, (10, 5, 1, am_no)), (118, (1, 2, 0, mJ15_checkIndex_7cf53)), (123, (0, 1, 2, mJx4a65c_elementData_915e3)), (129, (0, 0, 2, mJx4a65c_grow_d5877)), (131, (0, 3, 2, mJx4a65c_add_72be8)), (135, (0, 1, 2, mJx4a65c_rangeCheckForAdd_d00df))]
def am_M_4 : List (Nat × Nat × Nat × Nat × MR) := [(3, (3, 0, 0, am_no)), (24, (13, 0, 10, mX8_init)), (29, (1, 2, 4, mX1_worldAt)), (33, (0, 1, 10, mX8_copyFrom)), (40, (15, 2, 1, am_no)), (46, (12, 3, 11, mX9_put)), (50, (12, 2, 11, mX9_at)), (54, (0, 0, 4, mX1_forgetChanges)), (57, (1, 2, 0, mJ7_fill_53178))]
def am_M_5 : List (Nat × Nat × Nat × Nat × MR) := [(3, (3, 0, 0, am_no)), (24, (1, 2, 0, mJ7_fill_53178)), (58, (12, 2, 11, mX9_copy))]
def am_M_6 : List (Nat × Nat × Nat × Nat × MR) := [(3, (3, 0, 0, am_no)), (22, (12, 2, 11, mX9_copy)), (26, (0, 1, 6, mX3_rankFor)), (30, (15, 2, 1, am_no)), (36, (12, 2, 11, mX9_at)), (40, (12, 3, 11, mX9_put))]
def am_M_7 : List (Nat × Nat × Nat × Nat × MR) := [(3, (3, 0, 0, am_no)), (11, (13, 0, 8, mX6_init)), (36, (0, 0, 7, mX4_restart)), (39, (0, 2, 8, mX6_scan)), (43, (0, 0, 7, mX4_readFloor)), (54, (0, 0, 7, mX4_readSeparator)), (57, (0, 0, 7, mX4_startsEvent)), (61, (0, 0, 7, mX4_readEvent)), (65, (0, 1, 10, mX8_passMinutes)), (71, (0, 0, 7, mX4_readSetting)), (74, (0, 0, 10, mX8_reset)), (86, (0, 0, 8, mX6_start)), (89, (0, 0, 8, mX6_sign)), (99, (0, 1, 7, mX4_fail)), (102, (0, 0, 8, mX6_number)), (105, (0, 2, 7, mX4_number)), (108, (0, 0, 8, mX6_goOn)), (114, (0, 2, 7, mX4_takeNumber)), (135, (0, 0, 7, mX4_closeBracket)), (141, (0, 0, 7, mX4_finish)), (144, (12, 2, 11, mX9_at)), (148, (12, 3, 11, mX9_put)), (152, (0, 1, 8, mX6_goBackTo)), (155, (0, 0, 10, mX8_relocate)), (175, (4, 0, 13, mJx29ce0_ordinal_8abf5)), (199, (0, 0, 7, mX4_readWalker)), (202, (0, 0, 7, mX4_readCat)), (205, (0, 0, 7, mX4_readDraught)), (208, (0, 0, 7, mX4_readCloud)), (211, (0, 1, 7, mX4_readCurtains)), (214, (0, 1, 7, mX4_readTiles)), (236, (0, 0, 10, mX8_tileCount)), (245, (1, 1, 7, mX4_moveOf)), (270, (0, 1, 7, mX4_readItem)), (273, (0, 4, 7, mX4_countWanted)), (283, (12, 1, 11, mX9_countMarked)), (287, (0, 4, 7, mX4_handleLine)), (291, (0, 2, 7, mX4_isWanted)), (307, (0, 0, 7, mX4_startEvents)), (313, (0, 0, 10, mX8_nightLength)), (319, (0, 1, 7, mX4_takeMinutes)), (326, (0, 0, 7, mX4_readSpill)), (329, (0, 0, 7, mX4_readCarry)), (332, (0, 0, 7, mX4_readRepeat)), (335, (0, 1, 10, mX8_hasRoomForBowl)), (342, (0, 0, 8, mX6_mark))]
def am_M_8 : List (Nat × Nat × Nat × Nat × MR) := [(3, (3, 0, 0, am_no)), (31, (12, 2, 11, mX9_at)), (35, (1, 3, 8, mX6_tokenEnd)), (39, (1, 3, 8, mX6_signOf)), (43, (1, 3, 8, mX6_numberOf)), (46, (0, 3, 8, mX6_add)), (54, (1, 1, 8, mX6_isLetter)), (58, (1, 1, 8, mX6_isDigit)), (74, (0, 0, 0, mJ0_length_8abf5)), (80, (1, 3, 8, mX6_spells)), (84, (0, 1, 0, mJ0_charAt_5068e)), (88, (12, 3, 11, mX9_put))]
def am_M_9 : List (Nat × Nat × Nat × Nat × MR) := [(3, (3, 0, 0, am_no))]
def am_M_10 : List (Nat × Nat × Nat × Nat × MR) := [(3, (3, 0, 0, am_no)), (11, (13, 0, 5, mX2_init)), (20, (13, 0, 9, mX7_init)), (27, (13, 0, 6, mX3_init)), (48, (0, 0, 5, mX2_reset)), (51, (0, 0, 9, mX7_reset)), (52, (0, 0, 6, mX3_reset)), (53, (1, 2, 0, mJ7_fill_53178)), (78, (0, 1, 5, mX2_copyFrom)), (82, (0, 1, 9, mX7_copyFrom)), (85, (0, 1, 6, mX3_copyFrom)), (88, (12, 2, 11, mX9_copy)), (101, (0, 0, 10, mX8_moonlight)), (105, (0, 1, 5, mX2_isCloudy)), (109, (0, 0, 10, mX8_isMoonOut)), (113, (0, 1, 10, mX8_liesInMoonlight)), (116, (0, 1, 10, mX8_rowOf)), (120, (0, 0, 10, mX8_rowInMoonlight)), (123, (0, 1, 10, mX8_columnOf)), (126, (12, 2, 11, mX9_at)), (130, (15, 2, 1, am_no)), (136, (0, 0, 10, mX8_passMinute)), (139, (0, 0, 10, mX8_moveCat)), (142, (0, 0, 10, mX8_spillBowl)), (151, (0, 0, 10, mX8_triedSteps)), (154, (0, 1, 10, mX8_walk)), (158, (0, 0, 10, mX8_drySpills)), (161, (0, 0, 10, mX8_nightLength)), (164, (0, 0, 10, mX8_endNight)), (167, (0, 0, 10, mX8_stirCurtains)), (170, (0, 0, 10, mX8_relocate)), (179, (0, 2, 10, mX8_neighbor)), (182, (12, 3, 11, mX9_put)), (192, (0, 1, 9, mX7_fall)), (195, (0, 2, 10, mX8_distance)), (201, (0, 0, 10, mX8_startle)), (211, (17, 1, 1, am_no)), (214, (0, 1, 10, mX8_canEnter)), (217, (0, 0, 9, mX7_turnBack)), (220, (0, 2, 10, mX8_slideRug)), (224, (0, 1, 10, mX8_enter)), (233, (0, 0, 9, mX7_pause)), (236, (0, 1, 10, mX8_hasRoomForBowl)), (239, (0, 0, 9, mX7_countStep)), (242, (0, 0, 10, mX8_tileCount)), (245, (16, 2, 1, am_no)), (251, (0, 2, 6, mX3_add)), (257, (0, 1, 10, mX8_settle))]
def am_M_11 : List (Nat × Nat × Nat × Nat × MR) := [(1, (3, 0, 0, am_no)), (15, (2, 0, 1, mJ4_init_da8c8)), (22, (13, 0, 10, mX8_init)), (32, (2, 1, 7, mX4_init)), (41, (2, 0, 4, mX1_init)), (54, (0, 1, 11, mX9_appendWord)), (58, (1, 3, 11, mX9_put)), (66, (2, 1, 0, mJ5_init_a7421)), (69, (0, 2, 7, mX4_read)), (77, (2, 1, 0, mJ5_init_a7421)), (78, (0, 1, 10, mX8_copyFrom)), (81, (0, 0, 4, mX1_forgetAll)), (84, (0, 0, 10, mX8_tileCount)), (94, (0, 0, 11, mX9_requireSetup)), (121, (0, 0, 10, mX8_rowInMoonlight)), (124, (0, 0, 10, mX8_isMoonOut)), (128, (0, 1, 11, mX9_requireTile)), (131, (0, 1, 10, mX8_isTileLit)), (135, (0, 1, 11, mX9_requireColumn)), (141, (1, 2, 11, mX9_at)), (148, (0, 0, 10, mX8_passMinute)), (208, (1, 1, 11, mX9_countMarked)), (221, (0, 1, 11, mX9_requireRecord)), (235, (1, 1, 11, mX9_sum)), (238, (0, 1, 11, mX9_requireForetellable)), (241, (0, 2, 11, mX9_foretellSteps)), (245, (0, 1, 10, mX8_passMinutes)), (248, (0, 1, 11, mX9_requirePace)), (277, (0, 1, 4, mX1_keep)), (280, (0, 1, 10, mX8_hasRoomForBowl)), (295, (2, 1, 0, mJ5_init_a7421)), (297, (0, 1, 11, mX9_requireSlot)), (300, (0, 2, 4, mX1_store)), (304, (0, 2, 4, mX1_fetch)), (310, (0, 0, 4, mX1_forgetChanges)), (327, (15, 2, 1, am_no)), (332, (10, 5, 1, am_no))]
def am_M_12 : List (Nat × Nat × Nat × Nat × MR) := [(1, (3, 0, 0, am_no)), (22, (2, 0, 2, mJx4a65c_init_da8c8)), (118, (0, 0, 2, mJx4a65c_size_8abf5)), (122, (0, 1, 2, mJx4a65c_get_915e3)), (130, (17, 1, 1, am_no)), (136, (0, 0, 12, mX10_bright)), (139, (0, 0, 12, mX10_shines)), (143, (15, 2, 1, am_no)), (147, (0, 2, 12, mX10_beside)), (150, (0, 0, 12, mX10_ahead)), (153, (0, 0, 12, mX10_steps)), (156, (0, 0, 12, mX10_block)), (159, (0, 1, 12, mX10_rank)), (162, (0, 2, 2, mJx4a65c_add_7a177)), (168, (0, 1, 12, mX10_lit)), (172, (0, 0, 12, mX10_tiles)), (175, (0, 0, 12, mX10_prowl)), (178, (0, 0, 12, mX10_walk)), (181, (16, 2, 1, am_no)), (184, (0, 0, 12, mX10_dawn)), (187, (0, 0, 12, mX10_relocate))]
def am_M_13 : List (Nat × Nat × Nat × Nat × MR) := [(7, (1, 2, 0, mL_flush)), (13, (0, 5, 11, mX9_append)), (21, (1, 3, 0, mL_put)), (27, (13, 0, 12, mX10_init)), (28, (1, 2, 0, mL_cell)), (75, (0, 0, 12, mX10_tiles)), (95, (0, 1, 2, mJx4a65c_add_9ea2d)), (111, (2, 1, 1, mJ4_init_a7421)), (114, (0, 1, 1, mJ4_append_bf812)), (117, (0, 1, 1, mJ4_append_cf468)), (122, (0, 1, 1, mJ4_append_15ec4)), (155, (0, 0, 2, mJx4a65c_size_8abf5)), (160, (0, 1, 2, mJx4a65c_get_915e3)), (167, (0, 0, 12, mX10_relocate)), (178, (0, 1, 12, mX10_advance)), (182, (0, 0, 1, mJ4_toString_0e30d)), (186, (9, 0, 0, mJ0_length_8abf5)), (191, (9, 1, 0, mJ0_charAt_5068e)), (195, (1, 2, 0, mL_said)), (199, (0, 0, 11, mX9_walkerTile)), (205, (0, 0, 11, mX9_facesRight)), (209, (0, 0, 11, mX9_restRemaining)), (215, (0, 0, 11, mX9_stepsSincePause)), (221, (0, 0, 11, mX9_totalSteps)), (227, (0, 0, 11, mX9_stepsTonight)), (233, (0, 0, 11, mX9_turnCount)), (239, (0, 0, 11, mX9_fallCount)), (245, (0, 0, 11, mX9_slideCount)), (251, (0, 0, 11, mX9_pace)), (253, (0, 1, 11, mX9_hasBowl)), (257, (0, 1, 11, mX9_hasRug)), (260, (0, 1, 11, mX9_spillTime)), (263, (0, 1, 11, mX9_wear)), (265, (0, 1, 11, mX9_isCurtainClosed)), (271, (0, 1, 11, mX9_recordNight)), (274, (0, 1, 11, mX9_recordSteps)), (277, (0, 0, 11, mX9_night)), (279, (0, 0, 11, mX9_minute)), (284, (0, 0, 11, mX9_catTile)), (290, (0, 0, 11, mX9_recordCount)), (297, (0, 0, 11, mX9_imbalance)), (300, (2, 0, 11, mX9_init)), (301, (1, 1, 0, mL_floor)), (305, (1, 2, 0, mL_text)), (309, (1, 3, 0, mL_told)), (313, (0, 1, 11, mX9_parseSetup)), (316, (1, 3, 0, mL_sees)), (320, (0, 1, 11, mX9_saveState)), (323, (1, 2, 0, mL_isOneRow)), (326, (0, 1, 11, mX9_stepsAfter)), (329, (0, 1, 11, mX9_walkerTileAfter)), (332, (0, 2, 11, mX9_spillTimeAfter)), (336, (0, 1, 11, mX9_minutesUntilLit)), (339, (0, 1, 11, mX9_advance)), (340, (0, 1, 11, mX9_isLit)), (343, (1, 1, 0, mL_isPlaced)), (347, (0, 1, 11, mX9_bestPace)), (350, (0, 2, 11, mX9_stepsAtPace)), (353, (0, 1, 11, mX9_setPace)), (356, (0, 1, 11, mX9_bestCurtain)), (359, (0, 2, 11, mX9_setCurtain)), (363, (0, 1, 11, mX9_placeBowl)), (366, (0, 1, 11, mX9_mop)), (369, (0, 0, 11, mX9_turnWalker)), (372, (0, 0, 11, mX9_minutesUntilFall)), (375, (0, 1, 11, mX9_restoreState)), (378, (0, 0, 11, mX9_undoCount)), (381, (1, 2, 0, mJ7_equals_331f6)), (387, (0, 0, 11, mX9_moonRow)), (390, (0, 0, 11, mX9_moonShines)), (393, (1, 2, 0, mJ7_fill_d0a16))]
def am_M_16 : List (Nat × Nat × Nat × Nat × MR) := [(3, (3, 0, 0, am_no)), (32, (0, 0, 0, mJ0_length_8abf5)), (40, (0, 0, 0, mJ0_coder_7d493)), (43, (4, 1, 1, mJ4_append_cf1ce)), (83, (0, 0, 1, mJ5_isLatin1_aae02)), (100, (5, 1, 1, mJ5_ensureCapacityInternal_d00df)), (104, (5, 1, 1, mJ5_newCapacity_0f7a4)), (108, (1, 2, 0, mJ7_copyOf_9075b)), (114, (1, 3, 0, mJ8_newLength_cabcc)), (191, (1, 1, 0, mJ1_canEncode_fc78d)), (208, (5, 2, 1, mJ5_putStringAt_47b60)), (245, (1, 1, 0, mJ6_stringSize_0f7a4)), (248, (1, 3, 0, mJ6_getChars_ba4f3)), (397, (5, 1, 1, mJ5_inflateIfNeededFor_a7421)), (399, (0, 3, 0, mJ0_getBytes_840e7))]
def am_M_18 : List (Nat × Nat × Nat × Nat × MR) := [(150, (10, 5, 1, am_no)), (245, (1, 3, 0, mJ8_mismatch_974f6)), (304, (15, 2, 1, am_no)), (310, (7, 0, 1, am_no)), (339, (1, 3, 0, mJ7_copyOfRangeByte_39247)), (343, (1, 2, 0, mJ7_checkLength_df160))]
def am_M_21 : List (Nat × Nat × Nat × Nat × MR) := [(9, (11, 2, 1, am_no))]
def am_M_24 : List (Nat × Nat × Nat × Nat × MR) := [(30, (0, 2, 15, mJx9a822_getLongUnaligned_f02c6)), (122, (1, 6, 0, mJ8_vectorizedMismatch_456ae)), (194, (16, 2, 1, am_no))]
def am_M_25 : List (Nat × Nat × Nat × Nat × MR) := [(27, (8, 2, 1, am_no))]
def am_M_26 : List (Nat × Nat × Nat × Nat × MR) := [(105, (1, 3, 0, mJ3_checkIndex_8e157))]
def am_M_27 : List (Nat × Nat × Nat × Nat × MR) := [(1, (2, 0, 2, mJxa1e45_init_da8c8))]
def am_M_28 : List (Nat × Nat × Nat × Nat × MR) := [(1, (3, 0, 0, am_no))]
def am_M (own idx : Nat) : Option (Nat × Nat × Nat × MR) := match am_lk own [(0, am_M_0), (1, am_M_1), (2, am_M_2), (4, am_M_4), (5, am_M_5), (6, am_M_6), (7, am_M_7), (8, am_M_8), (9, am_M_9), (10, am_M_10), (11, am_M_11), (12, am_M_12), (13, am_M_13), (16, am_M_16), (18, am_M_18), (21, am_M_21), (24, am_M_24), (25, am_M_25), (26, am_M_26), (27, am_M_27), (28, am_M_28)] with | some l => am_lk idx l | none => none
def am_N_1 : List (Nat × Nat × Nat × Nat) := [(18, (0, 0, 0))]
def am_N_4 : List (Nat × Nat × Nat × Nat) := [(9, (0, 10, 0))]
def am_N_7 : List (Nat × Nat × Nat × Nat) := [(9, (0, 8, 0))]
def am_N_10 : List (Nat × Nat × Nat × Nat) := [(9, (0, 5, 0)), (18, (0, 9, 0)), (25, (0, 6, 0))]
def am_N_11 : List (Nat × Nat × Nat × Nat) := [(13, (0, 1, 0)), (20, (0, 10, 0)), (30, (0, 7, 0)), (39, (0, 4, 0)), (62, (1, 0, 1)), (73, (1, 0, 2)), (291, (1, 0, 0))]
def am_N_12 : List (Nat × Nat × Nat × Nat) := [(20, (0, 2, 0))]
def am_N_13 : List (Nat × Nat × Nat × Nat) := [(14, (0, 11, 0)), (25, (0, 12, 0)), (107, (0, 1, 0))]
def am_N (own idx : Nat) : Option (Nat × Nat × Nat) := match am_lk own [(1, am_N_1), (4, am_N_4), (7, am_N_7), (10, am_N_10), (11, am_N_11), (12, am_N_12), (13, am_N_13)] with | some l => am_lk idx l | none => none
def am_A_2 : List (Nat × Nat) := [(7, 104)]
def am_A_4 : List (Nat × Nat) := [(9, 105)]
def am_A_8 : List (Nat × Nat) := [(9, 106)]
def am_A (own idx : Nat) : Option (Nat) := match am_lk own [(2, am_A_2), (4, am_A_4), (8, am_A_8)] with | some l => am_lk idx l | none => none
def am_S_0 : List (Nat × AV) := [(38, vi 1)]
def am_S_2 : List (Nat × AV) := [(39, zr 3005)]
def am_S_7 : List (Nat × AV) := [(93, gr' 34), (111, gr' 0), (129, gr' 31), (132, gr' 33), (138, gr' 36), (164, gr' 12), (170, zr 3001), (218, gr' 29), (221, gr' 30), (264, gr' 24), (267, gr' 25), (277, gr' 13), (298, gr' 14), (304, gr' 23), (310, gr' 22), (323, gr' 21), (339, gr' 32)]
def am_S_8 : List (Nat × AV) := [(50, gr' 36), (61, gr' 34), (64, gr' 35), (67, zr 3000)]
def am_S_16 : List (Nat × AV) := [(18, vi 1)]
def am_S_17 : List (Nat × AV) := [(83, zr 3003), (87, zr 3002)]
def am_S_24 : List (Nat × AV) := [(20, vi 3), (26, zr 3007), (51, vi 2), (170, vi 16)]
def am_S (own idx : Nat) : Option (AV) := match am_lk own [(0, am_S_0), (2, am_S_2), (7, am_S_7), (8, am_S_8), (16, am_S_16), (17, am_S_17), (24, am_S_24)] with | some l => am_lk idx l | none => none
def am_C_7 : List (Nat × AV) := [(46, vi 1000000)]
def am_C_13 : List (Nat × AV) := [(109, zr 1037), (120, zr 1038), (125, zr 1039), (127, zr 1040), (129, zr 1041), (131, zr 1042), (133, zr 1043), (135, zr 1044), (137, zr 1045), (139, zr 1046), (141, zr 1047), (143, zr 1048), (145, zr 1049), (147, zr 1050), (149, zr 1051), (151, zr 1052), (153, zr 1053), (158, zr 1054), (165, zr 1055), (170, zr 1056), (172, zr 1057), (174, zr 1058), (176, zr 1059)]
def am_C_16 : List (Nat × AV) := [(38, vi 2147483631), (39, vi 2147483647)]
def am_C_24 : List (Nat × AV) := [(200, vi 2147483639)]
def am_C (own idx : Nat) : Option (AV) := match am_lk own [(7, am_C_7), (13, am_C_13), (16, am_C_16), (24, am_C_24)] with | some l => am_lk idx l | none => none
def am_K_12 : List (Nat × Nat) := [(114, 100)]
def am_K_13 : List (Nat × Nat) := [(164, 100)]
def am_K_18 : List (Nat × Nat) := [(311, 101)]
def am_K (own idx : Nat) : Option (Nat) := match am_lk own [(12, am_K_12), (13, am_K_13), (18, am_K_18)] with | some l => am_lk idx l | none => none
def am_D_13 : List (Nat × Int64) := [(397, 10000), (399, 1000), (401, 4), (403, 2)]
def am_D_25 : List (Nat × Int64) := [(203, 2), (205, 4), (349, 3), (696, 7), (702, 6), (707, 5)]
def am_D (own idx : Nat) : Option (Int64) := match am_lk own [(13, am_D_13), (25, am_D_25)] with | some l => am_lk idx l | none => none
def am_str : List (List Nat) := [[102, 108, 111, 111, 114], [108, 105, 103, 104, 116], [112, 97, 99, 101], [100, 114, 121, 105, 110, 103], [114, 101, 115, 116], [115, 116, 97, 109, 105, 110, 97], [110, 111, 105, 115, 101], [110, 105, 103, 104, 116], [119, 97, 108, 107, 101, 114], [99, 97, 116], [99, 117, 114, 116, 97, 105, 110], [100, 114, 97, 117, 103, 104, 116], [99, 108, 111, 117, 100], [114, 117, 103], [98, 111, 119, 108], [115, 112, 105, 108, 108], [109, 111, 112], [116, 117, 114, 110], [111, 112, 101, 110], [99, 108, 111, 115, 101], [99, 97, 114, 114, 121], [97, 100, 118, 97, 110, 99, 101], [115, 108, 101, 101, 112], [114, 101, 112, 101, 97, 116], [114, 111, 119], [99, 111, 108, 117, 109, 110], [115, 116, 97, 121], [117, 112], [100, 111, 119, 110], [108, 101, 102, 116], [114, 105, 103, 104, 116], [59], [40], [41], [], [], [], [102, 108, 111, 111, 114, 32], [59, 108, 105, 103, 104, 116, 32], [59, 112, 97, 99, 101, 32], [59, 100, 114, 121, 105, 110, 103, 32], [59, 114, 101, 115, 116, 32], [59, 115, 116, 97, 109, 105, 110, 97, 32], [59, 110, 111, 105, 115, 101, 32], [59, 110, 105, 103, 104, 116, 32], [59, 119, 97, 108, 107, 101, 114, 32], [32, 114, 105, 103, 104, 116], [32, 108, 101, 102, 116], [59, 99, 97, 116, 32], [32, 115, 116, 97, 121], [32, 117, 112], [32, 100, 111, 119, 110], [59, 99, 117, 114, 116, 97, 105, 110, 32], [59, 100, 114, 97, 117, 103, 104, 116, 32], [59, 99, 108, 111, 117, 100, 32], [59, 114, 117, 103, 32], [59, 115, 112, 105, 108, 108, 32], [32, 51, 59, 98, 111, 119, 108, 32, 114, 111, 119, 32], [59, 114, 101, 112, 101, 97, 116, 32], [32, 40, 116, 117, 114, 110, 59, 97, 100, 118, 97, 110, 99, 101, 32, 50, 41]]
def am_nstr : Nat := 60
def am_set : List Nat := [0, 1, 1, 1, 1, 1, 1, 1, 1, 1, 1, 1, 1, 1, 0, 0, 0, 0, 0, 0, 0, 0, 0, 0, 0, 0, 0, 0, 0, 0, 0, 0, 0, 0, 0, 0, 0]
def am_evt : List Nat := [0, 0, 1, 0, 0, 0, 0, 0, 0, 0, 0, 0, 0, 0, 1, 1, 1, 1, 1, 1, 1, 1, 1, 1, 0, 0, 0, 0, 0, 0, 0, 0, 0, 0, 0, 0, 0]
def am_swm : List Nat := [0, 1, 2, 3, 4, 5, 6, 7, 8, 9, 12, 10, 11, 0, 0, 18, 0, 19, 20, 21, 22, 0, 0, 23, 0, 0, 13, 14, 15, 16, 17, 0, 0, 0, 0, 0, 0]
end
section
/-! the abstract machine's step -/
/-- how many fields a class's objects have -/
def am_nf : List (Nat × Nat) := [(0, 4), (1, 4), (2, 3), (4, 5), (5, 13), (6, 3), (7, 11), (8, 5), (9, 9), (10, 14), (11, 8), (12, 31)]
def am_nfs (k : Nat) : Nat := match am_lk k am_nf with | some n => n | none => 0
/-- the kinds that cells have -/
def am_kok (k : Nat) : Bool := (am_lk k am_nf).isSome || (Nat.ble 100 k && Nat.ble k 106)
def am_strlen (j : Nat) : Nat := (am_str.getD j []).length
/-- kind and length of a cell -/
def am_ty (h : AH) : AA → Nat × Nat
  | Sum.inl (_, j) => match am_lk j am_tw with | some t => t | none => (999, 0)
  | Sum.inr (Sum.inl _) => (13, 4)
  | Sum.inr (Sum.inr (Sum.inr q)) => (q.1, bif Nat.blt q.1 100 then am_nfs q.1 else h.dl q.2)
  | Sum.inr (Sum.inr (Sum.inl n)) => bif Nat.ble 1000 n then (bif Nat.ble 3000 n then (bif Nat.beq n 3000 then (106, 37) else bif Nat.beq n 3001 then (100, 37) else bif Nat.beq n 3002 then (101, 100) else bif Nat.beq n 3003 then (101, 100) else bif Nat.beq n 3004 then (100, h.sl) else bif Nat.beq n 3005 then (104, 0) else bif Nat.beq n 3007 then (15, 0) else (999, 0)) else bif Nat.ble 2000 n then (bif Nat.blt n (2000 + am_nstr) then (101, am_strlen (n - 2000)) else (999, 0)) else bif Nat.blt n (1000 + am_nstr) then (0, 4) else (999, 0))
      else match am_lk n am_tz with | some t => t | none => (999, 0)
def am_ex (h : AH) (a : AA) : Bool := match h.nx with
  | none => true
  | some n => match a with
    | Sum.inr (Sum.inl _) => true
    | Sum.inr (Sum.inr (Sum.inl k)) => Nat.ble 1000 k || Nat.blt k n
    | Sum.inr (Sum.inr (Sum.inr _)) => false
    | Sum.inl _ => Nat.blt (am_ix a) n
/-- a number of a cell -/
def am_rI (h : AH) : AA → Nat → Int32
  | Sum.inl w, k => h.i (Sum.inl w) k
  | Sum.inr (Sum.inl x), k => bif Nat.beq k 1 then nI (am_set.getD x.val 0) else bif Nat.beq k 2 then nI (am_evt.getD x.val 0) else nI x.val
  | Sum.inr (Sum.inr (Sum.inr q)), k => h.i (Sum.inr (Sum.inr (Sum.inr q))) k
  | Sum.inr (Sum.inr (Sum.inl n)), k => bif Nat.ble 1000 n then (bif Nat.ble 3000 n then (bif Nat.beq n 3001 then nI (am_swm.getD k 0) else bif Nat.beq n 3002 then nI (48 + k / 10) else bif Nat.beq n 3003 then nI (48 + k % 10) else h.i (za n) k) else bif Nat.ble 2000 n then nI ((am_str.getD (n - 2000) []).getD k 0) else 0) else h.i (za n) k
/-- a reference of a cell -/
def am_rR (h : AH) : AA → Nat → AV
  | Sum.inl w, k => h.r (Sum.inl w) k
  | Sum.inr (Sum.inl x), _ => zr (1000 + x.val)
  | Sum.inr (Sum.inr (Sum.inr q)), k => h.r (Sum.inr (Sum.inr (Sum.inr q))) k
  | Sum.inr (Sum.inr (Sum.inl n)), k => bif Nat.ble 1000 n then (bif Nat.beq n 3000 then gr' (Fin.ofNat 37 k) else zr (n + 1000)) else h.r (za n) k
def am_cat2 : AV → Bool
  | Sum.inl (Value.long _) => true
  | Sum.inl (Value.double _) => true
  | _ => false
def am_get (ls : AL) (n : Nat) : Option AV := match ls[n]? with | some (some v) => some v | _ => none
/-- what a local's store overlaps -/
def am_clr (ls : AL) : Nat → AL
  | 0 => ls
  | k + 1 => match ls[k]? with | some (some w) => bif am_cat2 w then ls.set k none else ls | _ => ls
/-- a local is stored: what it overlaps goes -/
def am_put (ls : AL) (n : Nat) (v : AV) : AL := bif am_cat2 v then ((am_clr ls n).set n (some v)).set (n + 1) none else (am_clr ls n).set n (some v)
/-- (no use) -/
def am_noS (_ : AV) : Bool := true
def am_clean (_ : AL) (_ : List AV) : Bool := true
def am_args : List AV → AL
  | [] => []
  | v :: t => bif am_cat2 v then some v :: none :: am_args t else some v :: am_args t
def am_pad (n : Nat) (l : AL) : AL := l ++ List.replicate (n - l.length) none
def am_hand (pc E : Nat) : List (Nat × Nat × Nat × Nat × Nat) → Option (Nat × Nat)
  | [] => none
  | e :: r => bif Nat.ble e.1 pc && Nat.blt pc e.2.1 && Nat.beq e.2.2.2.2 E then some (e.2.2.1, e.2.2.2.1) else am_hand pc E r
abbrev AK : Type := MR → List CI → AL → List AV → AH → Nat → AR
def am_in (j : Int32) (n : Nat) : Prop := 0 ≤ j ∧ j.toNatClampNeg < n


/-- one step's parts: what a small type's return keeps (k: 1 boolean, 2 char, 3 byte) -/
def am_nr (k : Nat) (x : Int32) (r : AR) : AR := bif Nat.beq k 0 then r else bif Nat.beq k 1 then (if x = 0 ∨ x = 1 then r else none) else bif Nat.beq k 2 then (if x.toUInt32.toUInt16.toUInt32.toInt32 = x then r else none) else bif Nat.beq k 3 then (if x.toInt8.toInt32 = x then r else none) else none
def am_tsw (k : Nat → AR) (pc : Nat) (dflt lo hi : Int) (offs : Array Int) (x : Int32) : AR :=
  if x.toInt < lo ∨ hi < x.toInt then (if 0 ≤ (pc : Int) + dflt then k ((pc : Int) + dflt).toNat else none)
  else match offs.toList[(x.toInt - lo).toNat]? with | some o => (if 0 ≤ (pc : Int) + o then k ((pc : Int) + o).toNat else none) | none => none
def am_lsw (k : Nat → AR) (pc : Nat) (dflt : Int) (ps : Array (Int × Int)) (x : Int32) : AR :=
  if 0 ≤ (pc : Int) + Op.lookupswitch.offset ps.toList dflt x.toInt then k ((pc : Int) + Op.lookupswitch.offset ps.toList dflt x.toInt).toNat else none
/-- what may be written -/
def am_dyn : AA → Bool
  | Sum.inl _ => true
  | Sum.inr (Sum.inl _) => false
  | Sum.inr (Sum.inr (Sum.inl n)) => Nat.blt n 1000
  | Sum.inr (Sum.inr (Sum.inr _)) => true
def am_pf (k : AH → AR) (h : AH) (a : AA) (j kd : Nat) (v : AV) : AR := match v with
  | Sum.inl (Value.int x) => bif Nat.beq kd 0 then k (am_u h.1 a j x, h.2) else bif Nat.beq kd 2 then (if x = 0 ∨ x = 1 then k (am_u h.1 a j x, h.2) else none) else bif Nat.beq kd 3 then (if x.toInt8.toInt32 = x then k (am_u h.1 a j x, h.2) else none) else none
  | Sum.inr b => bif Nat.beq kd 1 then k (h.1, am_u h.2.1 a j (Sum.inr b), h.2.2) else none
  | _ => none
def am_sto (t u : Nat) : Bool := (Nat.beq t 104 && Nat.beq u 100) || (Nat.beq t 105 && Nat.beq u 10) || (Nat.beq t 106 && Nat.beq u 13)
/-- no handler covers the throw that begins here -/
def am_xt (hs : List (Nat × Nat × Nat × Nat × Nat)) (_pc : Nat) : Bool := match hs with | [] => true | _ => false
/-- a reference goes on the stack -/
def am_pr (k : AV → AR) (v : AV) : AR := match v with
  | Sum.inr b => k (Sum.inr b)
  | Sum.inl Value.null => k (Sum.inl Value.null)
  | _ => none
def am_sum (st : List AV) : Nat := (st.map (fun v => bif am_cat2 v then 2 else 1)).sum
def am_cnt (h : AH) (k n : Nat) : AH := (h.1, h.2.1, h.2.2.1, h.2.2.2.1, h.cp, h.nc + k, h.ns + n, h.sl, h.nx)
def am_at : ArrayType → Nat
  | .int => 100
  | .byte => 101
  | .boolean => 102
  | .long => 103
  | _ => 998
/-- how many cells are made in all -/
def am_all : Nat := 195
/-- a cell of the law's is made -/
def am_mkd (h : AH) (tg z : Nat) : AH := (h.1, h.2.1, h.2.2.1, (h.lg, h.nd + 1, (fun i => if i = h.nd then tg else h.dk i), (fun i => if i = h.nd then z else h.dl i)), h.cp, h.nc + 1, h.ns + z, h.sl, none)
/-- a cell is made: the next one, as it is known ahead; behind the class's the law's (len: of an array) -/
def am_mk (k : AA → AH → AR) (h : AH) (tg : Nat) (len : Option Nat) : AR := match h.nx with
  | none => match len with
    | some z => if am_kok tg = true ∧ z ≤ 65536 then k (da tg h.nd) (am_mkd h tg z) else none
    | none => bif am_kok tg then k (da tg h.nd) (am_mkd h tg (am_nfs tg)) else none
  | some n => if (am_ty h (am_lay n)).1 = tg ∧ (match len with | some z => Nat.beq (am_ty h (am_lay n)).2 z | none => true) = true then k (am_lay n) (h.1, h.2.1, h.2.2.1, h.2.2.2.1, h.cp, h.nc + 1, h.ns + (am_ty h (am_lay n)).2, h.sl, if n + 1 = am_all then none else some (n + 1)) else none
def am_thr (pc E : Nat) (mr : MR) (k : Nat → Nat → AR) (h : AH) : AR := match am_hand pc E mr.2.2.2 with
  | some (t, q) => k t q
  | none => some (Sum.inr E, h)
/-- numbers that are bytes -/
def am_by (f : Nat → Int32) (n : Nat) : Bool := (List.range n).all (fun j => decide ((f j).toInt8.toInt32 = f j))
/-- bytes, references are copied -/
def am_cps {α : Type} (g : Nat → α) (f : AA → Nat → α) (dst : AA) (sp dp n : Nat) : AA → Nat → α := fun b j => if b = dst ∧ dp ≤ j ∧ j < dp + n then g (sp + (j - dp)) else f b j
/-- two references are held against each other (the two ends: the same, another) -/
def am_aq (k1 k2 : AR) : AA → AA → AR
  | Sum.inr (Sum.inl x), Sum.inr (Sum.inl y) => if x = y then k1 else k2
  | Sum.inr (Sum.inr (Sum.inr p)), Sum.inr (Sum.inr (Sum.inr q)) => if p.2 = q.2 then k1 else k2
  | Sum.inr (Sum.inr (Sum.inl n)), Sum.inr (Sum.inr (Sum.inl m)) => if n = 3005 ∧ m = 3005 then k1 else none
  | Sum.inr (Sum.inr (Sum.inr _)), Sum.inr (Sum.inr (Sum.inl m)) => if m = 3005 then k2 else none
  | Sum.inr (Sum.inr (Sum.inl n)), Sum.inr (Sum.inr (Sum.inr _)) => if n = 3005 then k2 else none
  | _, _ => none
/-- a long is stored -/
def am_ls (h : AH) (i j : Nat) (x : Int64) : AH := (h.1, h.2.1, h.2.2.1, ((fun b k => if b = i ∧ k = j then x else h.lg b k), h.2.2.2.1.2), h.2.2.2.2)
/-- System.arraycopy: of ints, of bytes, of references -/
def am_acp (h : AH) (a b : AA) (sp dp n : Nat) : Option AH :=
  bif Nat.beq (am_ty h a).1 100 && Nat.beq (am_ty h b).1 100 then (if am_dyn a = true then some (am_cpy h.1 a b sp dp n, h.2) else none)
  else bif Nat.beq (am_ty h a).1 101 && Nat.beq (am_ty h b).1 101 then (if am_by (fun j => am_rI h a (sp + j)) n = true then some (am_cps (fun j => am_rI h a j) h.1 b sp dp n, h.2) else none)
  else bif Nat.beq (am_ty h a).1 104 && Nat.beq (am_ty h b).1 104 then (if am_dyn a = true ∧ (List.range n).all (fun j => match h.r a (sp + j) with | Sum.inr c => Nat.beq (am_ty h c).1 100 && am_dyn c | Sum.inl Value.null => true | _ => false) = true then some (h.1, am_cps (fun j => h.2.1 a j) h.2.1 b sp dp n, h.2.2) else none)
  else none
/-- the kinds of calls: 1 static (12 of a nest mate, 14 with handlers); what may throw: 0, 1, 14 -/
def am_stk (k : Nat) : Bool := Nat.beq k 1 || Nat.beq k 12 || Nat.ble 14 k
def am_xck (k : Nat) : Bool := Nat.beq k 0 || Nat.beq k 1 || Nat.beq k 14
/-- Math's min (15), max (16), abs (17) -/
def am_mth (k : Nat) : List AV → Option Int32
  | [Sum.inl (Value.int x), Sum.inl (Value.int y)] => bif Nat.beq k 15 then some (if y < x then y else x) else bif Nat.beq k 16 then some (if x < y then y else x) else none
  | [Sum.inl (Value.int x)] => bif Nat.beq k 17 then some (if 0 ≤ x then x else 0 - x) else none
  | _ => none
/-- the kinds of calls: 0 virtual, 1 static (12 of a nest mate), 2 constructors (13 of a nest mate), 3 Object's constructor, 4 ordinal, 5 private, through an abstract class, 6 super, 7 clone of bytes, 8 Unsafe.getLong, 9 through an interface, 10 arraycopy, 11 checkIndex -/
def am_cl (_ : Nat) (_ : AL) (_ : List AV) : Bool := true
theorem am_cl_of {k : Nat} {ls : AL} {t : List AV} (_ : Nat.beq k 11 = false) (_ : Nat.ble 15 k = false) : am_cl k ls t = am_clean ls t := rfl
def am_call (ih : AK) (mr : MR) (pc : Nat) (r : List CI) (ls : AL) (st : List AV) (h : AH) (d : Nat) (q : Nat × Nat × Nat × MR) : AR :=
  let kind := q.1
  let n := bif am_stk kind || Nat.beq kind 10 || Nat.beq kind 11 then q.2.1 else q.2.1 + 1
  let as := (st.take n).reverse
  let t := st.drop n
  bif !(Nat.beq as.length n && am_cl kind ls t && Nat.ble (am_sum t) 8) then none else
  bif Nat.beq kind 3 then (match as with | [Sum.inr _] => bif Nat.ble 1 d then ih mr r ls t h d else none | _ => none) else
  bif Nat.beq kind 7 then (match as with | [Sum.inr a] => (if (am_ty h a).1 = 101 ∧ am_ex h a = true ∧ h.nx = none ∧ 3 ≤ d ∧ (am_ty h a).2 ≤ 65536 ∧ am_by (am_rI h a) (am_ty h a).2 = true then ih mr r ls (dr 101 h.nd :: t) ((fun b j => if b = da 101 h.nd ∧ j < (am_ty h a).2 then am_rI h a j else h.1 b j), (am_mkd h 101 (am_ty h a).2).2) d else none) | _ => none) else
  bif Nat.beq kind 8 then (match as with | [Sum.inr (Sum.inr (Sum.inr (Sum.inl u))), Sum.inr (Sum.inr (Sum.inr (Sum.inr q))), Sum.inl (Value.long off)] => (if u = 3007 ∧ q.1 = 103 ∧ 3 ≤ d ∧ ¬ off < 0 ∧ off.toNatClampNeg = 16 + 8 * ((off.toNatClampNeg - 16) / 8) ∧ (off.toNatClampNeg - 16) / 8 < h.dl q.2 then ih mr r ls (Sum.inl (Value.long (h.lg q.2 ((off.toNatClampNeg - 16) / 8))) :: t) h d else none) | _ => none) else
  bif Nat.beq kind 10 then (match as with
    | [Sum.inr a, Sum.inl (Value.int sp), Sum.inr b, Sum.inl (Value.int dp), Sum.inl (Value.int len)] => (if am_ex h a = true ∧ am_ex h b = true ∧ am_dyn b = true ∧ h.nx = none ∧ 3 ≤ d ∧ 0 ≤ sp ∧ 0 ≤ dp ∧ 0 ≤ len ∧ sp.toNatClampNeg + len.toNatClampNeg ≤ (am_ty h a).2 ∧ dp.toNatClampNeg + len.toNatClampNeg ≤ (am_ty h b).2 then (match am_acp h a b sp.toNatClampNeg dp.toNatClampNeg len.toNatClampNeg with | some h2 => ih mr r ls t h2 d | none => none) else none)
    | _ => none) else
  bif Nat.beq kind 11 then (match as with | [Sum.inl (Value.int i), Sum.inl (Value.int len)] => (if 0 ≤ i ∧ i < len ∧ 3 ≤ d then ih mr r ls t h d else none) | _ => none) else
  bif Nat.ble 15 kind then (match am_mth kind as with | some v => bif Nat.ble 1 d then ih mr r ls (vi v :: t) h d else none | none => none) else
  bif Nat.ble (am_args as).length q.2.2.2.2.1 && (am_stk kind || (match as with | Sum.inr a :: _ => Nat.beq (am_ty h a).1 q.2.2.1 && am_ex h a | _ => false)) then
    (match d with
    | 0 => none
    | d0 + 1 => match ih q.2.2.2 q.2.2.2.2.2.1 (am_pad q.2.2.2.2.1 (am_args as)) [] h d0 with
      | none => none
      | some (Sum.inl none, h1) => ih mr r ls t h1 d
      | some (Sum.inl (some v), h1) => ih mr r ls (v :: t) h1 d
      | some (Sum.inr E, h1) => bif !am_xck kind then none else am_thr pc E mr (fun tgt k => ih mr (am_jmp tgt mr.2.2.1) ((am_clr ls k).set k none) [] h1 d) h1)
  else none
/-- one step -/
def am_step (ih : AK) : AK := fun mr rest ls st h d => match rest with
  | [] => none
  | e :: r => match e.2.1 with
    | .iconst n => ih mr r ls (vi (Int32.ofInt n) :: st) h d
    | .bipush n => ih mr r ls (vi (Int8.ofInt n).toInt32 :: st) h d
    | .sipush n => ih mr r ls (vi (Int16.ofInt n).toInt32 :: st) h d
    | .lconst n => ih mr r ls (Sum.inl (Value.long (Int64.ofNat n)) :: st) h d
    | .fconst n => bif Nat.beq n.val 0 then ih mr r ls (Sum.inl (Value.float FP.fconst0) :: st) h d else none
    | .dconst n => bif Nat.beq n.val 0 then ih mr r ls (Sum.inl (Value.double FP.dconst0) :: st) h d else none
    | .aconst_null => ih mr r ls (Sum.inl Value.null :: st) h d
    | .ldc k => match am_C mr.1 k with | some v => ih mr r ls (v :: st) h d | none => none
    | .ldc_w k => match am_C mr.1 k with | some v => ih mr r ls (v :: st) h d | none => none
    | .iload_n k => match am_get ls k.val with | some (Sum.inl (Value.int x)) => ih mr r ls (Sum.inl (Value.int x) :: st) h d | _ => none
    | .iload k => match am_get ls k with | some (Sum.inl (Value.int x)) => ih mr r ls (Sum.inl (Value.int x) :: st) h d | _ => none
    | .istore_n k => match st with | Sum.inl (Value.int x) :: t => (ih mr r (am_put ls k.val (Sum.inl (Value.int x))) (t) h d) | _ => none
    | .istore k => match st with | Sum.inl (Value.int x) :: t => (ih mr r (am_put ls k (Sum.inl (Value.int x))) (t) h d) | _ => none
    | .fload_n k => match am_get ls k.val with | some (Sum.inl (Value.float x)) => ih mr r ls (Sum.inl (Value.float x) :: st) h d | _ => none
    | .fload k => match am_get ls k with | some (Sum.inl (Value.float x)) => ih mr r ls (Sum.inl (Value.float x) :: st) h d | _ => none
    | .fstore_n k => match st with | Sum.inl (Value.float x) :: t => (ih mr r (am_put ls k.val (Sum.inl (Value.float x))) (t) h d) | _ => none
    | .fstore k => match st with | Sum.inl (Value.float x) :: t => (ih mr r (am_put ls k (Sum.inl (Value.float x))) (t) h d) | _ => none
    | .dload_n k => match am_get ls k.val with | some (Sum.inl (Value.double x)) => ih mr r ls (Sum.inl (Value.double x) :: st) h d | _ => none
    | .dload k => match am_get ls k with | some (Sum.inl (Value.double x)) => ih mr r ls (Sum.inl (Value.double x) :: st) h d | _ => none
    | .dstore_n k => match st with | Sum.inl (Value.double x) :: t => (ih mr r (am_put ls k.val (Sum.inl (Value.double x))) (t) h d) | _ => none
    | .dstore k => match st with | Sum.inl (Value.double x) :: t => (ih mr r (am_put ls k (Sum.inl (Value.double x))) (t) h d) | _ => none
    | .aload_n k => match am_get ls k.val with | some (Sum.inr a) => ih mr r ls (Sum.inr a :: st) h d | some (Sum.inl Value.null) => ih mr r ls (Sum.inl Value.null :: st) h d | _ => none
    | .aload k => match am_get ls k with | some (Sum.inr a) => ih mr r ls (Sum.inr a :: st) h d | some (Sum.inl Value.null) => ih mr r ls (Sum.inl Value.null :: st) h d | _ => none
    | .astore_n k => match st with | Sum.inr a :: t => ih mr r (am_put ls k.val (Sum.inr a)) (t) h d | Sum.inl Value.null :: t => ih mr r (am_put ls k.val (Sum.inl Value.null)) (t) h d | _ => none
    | .astore k => match st with | Sum.inr a :: t => ih mr r (am_put ls k (Sum.inr a)) (t) h d | Sum.inl Value.null :: t => ih mr r (am_put ls k (Sum.inl Value.null)) (t) h d | _ => none
    | .lload_n k => match am_get ls k.val with | some (Sum.inl (Value.long x)) => ih mr r ls (Sum.inl (Value.long x) :: st) h d | _ => none
    | .lload k => match am_get ls k with | some (Sum.inl (Value.long x)) => ih mr r ls (Sum.inl (Value.long x) :: st) h d | _ => none
    | .lstore_n k => match st with | Sum.inl (Value.long x) :: t => (ih mr r (am_put ls k.val (Sum.inl (Value.long x))) (t) h d) | _ => none
    | .lstore k => match st with | Sum.inl (Value.long x) :: t => (ih mr r (am_put ls k (Sum.inl (Value.long x))) (t) h d) | _ => none
    | .ldc2_w k => match am_D mr.1 k with | some v => ih mr r ls (Sum.inl (Value.long v) :: st) h d | none => none
    | .iinc k n => match am_get ls k with | some (Sum.inl (Value.int x)) => ih mr r (am_put ls k (vi (x + Int32.ofInt n))) (st) h d | _ => none
    | .dup => match st with | v :: t => bif am_cat2 v then none else ih mr r ls (v :: v :: t) h d | _ => none
    | .pop => match st with | v :: t => bif am_cat2 v then none else ih mr r ls (t) h d | _ => none
    | .dup_x1 => match st with | v :: w :: t => bif am_cat2 v || am_cat2 w then none else ih mr r ls (v :: w :: v :: t) h d | _ => none
    | .dup2 => match st with | v :: w :: t => bif am_cat2 v || am_cat2 w then none else ih mr r ls (v :: w :: v :: w :: t) h d | _ => none
    | .iadd => match st with | Sum.inl (Value.int y) :: Sum.inl (Value.int x) :: t => (ih mr r ls (vi (x + y) :: t) h d) | _ => none
    | .isub => match st with | Sum.inl (Value.int y) :: Sum.inl (Value.int x) :: t => (ih mr r ls (vi (x - y) :: t) h d) | _ => none
    | .imul => match st with | Sum.inl (Value.int y) :: Sum.inl (Value.int x) :: t => (ih mr r ls (vi (x * y) :: t) h d) | _ => none
    | .iand => match st with | Sum.inl (Value.int y) :: Sum.inl (Value.int x) :: t => (ih mr r ls (vi (x &&& y) :: t) h d) | _ => none
    | .ior => match st with | Sum.inl (Value.int y) :: Sum.inl (Value.int x) :: t => (ih mr r ls (vi (x ||| y) :: t) h d) | _ => none
    | .ishl => match st with | Sum.inl (Value.int y) :: Sum.inl (Value.int x) :: t => (ih mr r ls (vi (x <<< (y &&& 31)) :: t) h d) | _ => none
    | .ishr => match st with | Sum.inl (Value.int y) :: Sum.inl (Value.int x) :: t => (ih mr r ls (vi (x >>> (y &&& 31)) :: t) h d) | _ => none
    | .iushr => match st with | Sum.inl (Value.int y) :: Sum.inl (Value.int x) :: t => (ih mr r ls (vi ((x.toUInt32 >>> (y.toUInt32 &&& Int32.toUInt32 31)).toInt32) :: t) h d) | _ => none
    | .idiv => match st with | Sum.inl (Value.int y) :: Sum.inl (Value.int x) :: t => (if y = 0 then none else ih mr r ls (vi (x / y) :: t) h d) | _ => none
    | .irem => match st with | Sum.inl (Value.int y) :: Sum.inl (Value.int x) :: t => (if y = 0 then none else ih mr r ls (vi (x - x / y * y) :: t) h d) | _ => none
    | .ineg => match st with | Sum.inl (Value.int x) :: t => (ih mr r ls (vi (-x) :: t) h d) | _ => none
    | .i2b => match st with | Sum.inl (Value.int x) :: t => (ih mr r ls (vi x.toInt8.toInt32 :: t) h d) | _ => none
    | .i2c => match st with | Sum.inl (Value.int x) :: t => (ih mr r ls (vi (x.toUInt32 % 65536).toInt32 :: t) h d) | _ => none
    | .i2l => match st with | Sum.inl (Value.int x) :: t => (ih mr r ls (Sum.inl (Value.long x.toInt64) :: t) h d) | _ => none
    | .i2d => match st with | Sum.inl (Value.int x) :: t => (ih mr r ls (Sum.inl (Value.double (FP.i2d x)) :: t) h d) | _ => none
    | .i2f => match st with | Sum.inl (Value.int x) :: t => (ih mr r ls (Sum.inl (Value.float (FP.i2f x)) :: t) h d) | _ => none
    | .ladd => match st with | Sum.inl (Value.long y) :: Sum.inl (Value.long x) :: t => (ih mr r ls (Sum.inl (Value.long (x + y)) :: t) h d) | _ => none
    | .lsub => match st with | Sum.inl (Value.long y) :: Sum.inl (Value.long x) :: t => (ih mr r ls (Sum.inl (Value.long (x - y)) :: t) h d) | _ => none
    | .lmul => match st with | Sum.inl (Value.long y) :: Sum.inl (Value.long x) :: t => (ih mr r ls (Sum.inl (Value.long (x * y)) :: t) h d) | _ => none
    | .land => match st with | Sum.inl (Value.long y) :: Sum.inl (Value.long x) :: t => (ih mr r ls (Sum.inl (Value.long (x &&& y)) :: t) h d) | _ => none
    | .lshl => match st with | Sum.inl (Value.int y) :: Sum.inl (Value.long x) :: t => (ih mr r ls (Sum.inl (Value.long (x <<< (y.toInt64 &&& 63))) :: t) h d) | _ => none
    | .lcmp => match st with | Sum.inl (Value.long y) :: Sum.inl (Value.long x) :: t => (ih mr r ls (vi (lg_cmp x y) :: t) h d) | _ => none
    | .dcmp op => match st with | Sum.inl (Value.double y) :: Sum.inl (Value.double x) :: t => (ih mr r ls (vi (Op.cmpValue (FP.dcmp x y) op) :: t) h d) | _ => none
    | .fcmp op => match st with | Sum.inl (Value.float y) :: Sum.inl (Value.float x) :: t => (ih mr r ls (vi (Op.cmpValue (FP.fcmp x y) op) :: t) h d) | _ => none
    | .ddiv => match st with | Sum.inl (Value.double y) :: Sum.inl (Value.double x) :: t => (if FP.ddiv x y &&& 0x7fffffffffffffff ≤ 0x7ff0000000000000 then ih mr r ls (Sum.inl (Value.double (FP.ddiv x y)) :: t) h d else none) | _ => none
    | .fdiv => match st with | Sum.inl (Value.float y) :: Sum.inl (Value.float x) :: t => (if FP.fdiv x y &&& 0x7fffffff ≤ 0x7f800000 then ih mr r ls (Sum.inl (Value.float (FP.fdiv x y)) :: t) h d else none) | _ => none
    | .f2d => match st with | Sum.inl (Value.float x) :: t => (if FP.f2d x &&& 0x7fffffffffffffff ≤ 0x7ff0000000000000 then ih mr r ls (Sum.inl (Value.double (FP.f2d x)) :: t) h d else none) | _ => none
    | .ifCond .eq _ => match st with | Sum.inl (Value.int x) :: t => (if x = 0 then ih mr (am_jmp e.2.2.2 mr.2.2.1) ls t h d else ih mr r ls (t) h d) | _ => none
    | .if_icmp .eq _ => match st with | Sum.inl (Value.int y) :: Sum.inl (Value.int x) :: t => (if x = y then ih mr (am_jmp e.2.2.2 mr.2.2.1) ls t h d else ih mr r ls (t) h d) | _ => none
    | .ifCond .ne _ => match st with | Sum.inl (Value.int x) :: t => (if x ≠ 0 then ih mr (am_jmp e.2.2.2 mr.2.2.1) ls t h d else ih mr r ls (t) h d) | _ => none
    | .if_icmp .ne _ => match st with | Sum.inl (Value.int y) :: Sum.inl (Value.int x) :: t => (if x ≠ y then ih mr (am_jmp e.2.2.2 mr.2.2.1) ls t h d else ih mr r ls (t) h d) | _ => none
    | .ifCond .lt _ => match st with | Sum.inl (Value.int x) :: t => (if x < 0 then ih mr (am_jmp e.2.2.2 mr.2.2.1) ls t h d else ih mr r ls (t) h d) | _ => none
    | .if_icmp .lt _ => match st with | Sum.inl (Value.int y) :: Sum.inl (Value.int x) :: t => (if x < y then ih mr (am_jmp e.2.2.2 mr.2.2.1) ls t h d else ih mr r ls (t) h d) | _ => none
    | .ifCond .ge _ => match st with | Sum.inl (Value.int x) :: t => (if 0 ≤ x then ih mr (am_jmp e.2.2.2 mr.2.2.1) ls t h d else ih mr r ls (t) h d) | _ => none
    | .if_icmp .ge _ => match st with | Sum.inl (Value.int y) :: Sum.inl (Value.int x) :: t => (if y ≤ x then ih mr (am_jmp e.2.2.2 mr.2.2.1) ls t h d else ih mr r ls (t) h d) | _ => none
    | .ifCond .gt _ => match st with | Sum.inl (Value.int x) :: t => (if 0 < x then ih mr (am_jmp e.2.2.2 mr.2.2.1) ls t h d else ih mr r ls (t) h d) | _ => none
    | .if_icmp .gt _ => match st with | Sum.inl (Value.int y) :: Sum.inl (Value.int x) :: t => (if y < x then ih mr (am_jmp e.2.2.2 mr.2.2.1) ls t h d else ih mr r ls (t) h d) | _ => none
    | .ifCond .le _ => match st with | Sum.inl (Value.int x) :: t => (if x ≤ 0 then ih mr (am_jmp e.2.2.2 mr.2.2.1) ls t h d else ih mr r ls (t) h d) | _ => none
    | .if_icmp .le _ => match st with | Sum.inl (Value.int y) :: Sum.inl (Value.int x) :: t => (if x ≤ y then ih mr (am_jmp e.2.2.2 mr.2.2.1) ls t h d else ih mr r ls (t) h d) | _ => none
    | .if_acmp .eq _ => match st with | Sum.inr y :: Sum.inr x :: t => am_aq (ih mr (am_jmp e.2.2.2 mr.2.2.1) ls t h d) (ih mr r ls (t) h d) x y | _ => none
    | .if_acmp .ne _ => match st with | Sum.inr y :: Sum.inr x :: t => am_aq (ih mr r ls (t) h d) (ih mr (am_jmp e.2.2.2 mr.2.2.1) ls t h d) x y | _ => none
    | .ifnull _ => match st with | Sum.inr _ :: t => ih mr r ls (t) h d | Sum.inl Value.null :: t => ih mr (am_jmp e.2.2.2 mr.2.2.1) ls t h d | _ => none
    | .ifnonnull _ => match st with | Sum.inr _ :: t => ih mr (am_jmp e.2.2.2 mr.2.2.1) ls t h d | Sum.inl Value.null :: t => ih mr r ls (t) h d | _ => none
    | .goto _ => ih mr (am_jmp e.2.2.2 mr.2.2.1) ls st h d
    | .tableswitch dflt lo hi offs => match st with | Sum.inl (Value.int x) :: t => (am_tsw (fun tgt => ih mr (am_jmp tgt mr.2.2.1) ls t h d) e.1 dflt lo hi offs x) | _ => none
    | .lookupswitch dflt ps => match st with | Sum.inl (Value.int x) :: t => (am_lsw (fun tgt => ih mr (am_jmp tgt mr.2.2.1) ls t h d) e.1 dflt ps x) | _ => none
    | .getfield k => match st with | Sum.inr a :: t => (match am_F mr.1 k with | some (ci, j, kd) => bif Nat.beq (am_ty h a).1 ci && am_ex h a then (bif Nat.beq kd 1 then am_pr (fun v => ih mr r ls (v :: t) h d) (am_rR h a j) else ih mr r ls (vi (am_rI h a j) :: t) h d) else none | none => none) | _ => none
    | .putfield k => match am_F mr.1 k with | some (ci, j, kd) => (match st with | v :: Sum.inr a :: t => bif Nat.beq (am_ty h a).1 ci && am_ex h a && am_dyn a then am_pf (fun h1 => ih mr r ls (t) h1 d) h a j kd v else none | _ => none) | none => none
    | .getstatic k => match am_S mr.1 k with | some v => ih mr r ls (v :: st) h d | none => none
    | .iaload => match st with | Sum.inl (Value.int j) :: Sum.inr a :: t => (bif Nat.beq (am_ty h a).1 100 && am_ex h a then (if 0 ≤ j ∧ j.toNatClampNeg < (am_ty h a).2 then ih mr r ls (vi (am_rI h a j.toNatClampNeg) :: t) h d else none) else none) | _ => none
    | .baload => match st with | Sum.inl (Value.int j) :: Sum.inr a :: t => (bif (Nat.beq (am_ty h a).1 101 || Nat.beq (am_ty h a).1 102) && am_ex h a then (if 0 ≤ j ∧ j.toNatClampNeg < (am_ty h a).2 then ih mr r ls (vi (am_rI h a j.toNatClampNeg) :: t) h d else none) else none) | _ => none
    | .aaload => match st with | Sum.inl (Value.int j) :: Sum.inr a :: t => (bif (Nat.beq (am_ty h a).1 104 || Nat.beq (am_ty h a).1 105 || Nat.beq (am_ty h a).1 106) && am_ex h a then (if 0 ≤ j ∧ j.toNatClampNeg < (am_ty h a).2 then am_pr (fun v => ih mr r ls (v :: t) h d) (am_rR h a j.toNatClampNeg) else none) else none) | _ => none
    | .laload => match st with | Sum.inl (Value.int j) :: Sum.inr (Sum.inr (Sum.inr (Sum.inr q))) :: t => (if q.1 = 103 ∧ h.nx = none ∧ 0 ≤ j ∧ j.toNatClampNeg < h.dl q.2 then ih mr r ls (Sum.inl (Value.long (h.lg q.2 j.toNatClampNeg)) :: t) h d else none) | _ => none
    | .iastore => match st with | Sum.inl (Value.int x) :: Sum.inl (Value.int j) :: Sum.inr a :: t => (bif Nat.beq (am_ty h a).1 100 && am_ex h a && am_dyn a && h.nx.isNone then (if 0 ≤ j ∧ j.toNatClampNeg < (am_ty h a).2 then ih mr r ls (t) (am_u h.1 a j.toNatClampNeg x, h.2) d else none) else none) | _ => none
    | .bastore => match st with | Sum.inl (Value.int x) :: Sum.inl (Value.int j) :: Sum.inr a :: t => (bif (Nat.beq (am_ty h a).1 101 || Nat.beq (am_ty h a).1 102) && am_ex h a && am_dyn a && h.nx.isNone then (if 0 ≤ j ∧ j.toNatClampNeg < (am_ty h a).2 then ih mr r ls (t) (am_u h.1 a j.toNatClampNeg (vp_nar (bif Nat.beq (am_ty h a).1 101 then .byte else .boolean) x), h.2) d else none) else none) | _ => none
    | .lastore => match st with | Sum.inl (Value.long x) :: Sum.inl (Value.int j) :: Sum.inr (Sum.inr (Sum.inr (Sum.inr q))) :: t => (if q.1 = 103 ∧ h.nx = none ∧ 0 ≤ j ∧ j.toNatClampNeg < h.dl q.2 then ih mr r ls (t) (am_ls h q.2 j.toNatClampNeg x) d else none) | _ => none
    | .aastore => match st with | Sum.inr b :: Sum.inl (Value.int j) :: Sum.inr a :: t => (bif am_sto (am_ty h a).1 (am_ty h b).1 && am_ex h a && am_dyn a && am_ex h b then (if 0 ≤ j ∧ j.toNatClampNeg < (am_ty h a).2 then ih mr r ls (t) (h.1, am_u h.2.1 a j.toNatClampNeg (Sum.inr b), h.2.2) d else none) else none) | _ => none
    | .arraylength => match st with | Sum.inr a :: t => (bif Nat.ble 100 (am_ty h a).1 && Nat.ble (am_ty h a).1 106 && am_ex h a then ih mr r ls (vi (nI (am_ty h a).2) :: t) h d else none) | _ => none
    | .new k => match am_N mr.1 k with | some (m, tg, E) => bif Nat.beq m 0 then am_mk (fun a h1 => ih mr r ls (Sum.inr a :: st) h1 d) h tg none else (match st, h.nx with | [], none => bif Nat.ble 6 d && am_xt mr.2.2.2 e.1 then some (Sum.inr E, am_cnt h 1 6) else none | _, _ => none) | none => none
    | .newarray ty => match st with | Sum.inl (Value.int x) :: t => (if x < 0 then none else am_mk (fun a h1 => ih mr r ls (Sum.inr a :: t) h1 d) h (am_at ty) (some x.toNatClampNeg)) | _ => none
    | .anewarray k => match st with | Sum.inl (Value.int x) :: t => (match am_A mr.1 k with | some tg => if x < 0 then none else am_mk (fun a h1 => ih mr r ls (Sum.inr a :: t) h1 d) h tg (some x.toNatClampNeg) | none => none) | _ => none
    | .invokevirtual k => match am_M mr.1 k with | some q => am_call ih mr e.1 r ls st h d q | none => none
    | .invokestatic k => match am_M mr.1 k with | some q => am_call ih mr e.1 r ls st h d q | none => none
    | .invokespecial k => match am_M mr.1 k with | some q => am_call ih mr e.1 r ls st h d q | none => none
    | .invokeinterface k _ => match am_M mr.1 k with | some q => am_call ih mr e.1 r ls st h d q | none => none
    | .checkcast k => match am_K mr.1 k with | some tg => (match st with | Sum.inr a :: t => bif Nat.beq (am_ty h a).1 tg && am_dyn a && am_ex h a then ih mr r ls (Sum.inr a :: t) h d else none | _ => none) | none => none
    | .return_ => match st with | [] => some (Sum.inl none, h) | _ => none
    | .ireturn => match st with | [Sum.inl (Value.int x)] => (am_nr e.2.2.2 x (some (Sum.inl (some (vi x)), h))) | _ => none
    | .freturn => match st with | [Sum.inl (Value.float x)] => (some (Sum.inl (some (Sum.inl (Value.float x))), h)) | _ => none
    | .lreturn => match st with | [Sum.inl (Value.long x)] => (some (Sum.inl (some (Sum.inl (Value.long x))), h)) | _ => none
    | .dreturn => match st with | [Sum.inl (Value.double x)] => (some (Sum.inl (some (Sum.inl (Value.double x))), h)) | _ => none
    | .areturn => match st with | [Sum.inr a] => some (Sum.inl (some (Sum.inr a)), h) | [Sum.inl Value.null] => some (Sum.inl (some (Sum.inl Value.null)), h) | _ => none
    | _ => none
/-- the machine: f steps deep -/
def am_ev (f : Nat) : AK := Nat.rec (fun _ _ _ _ _ _ => none) (fun _ ih => am_step ih) f
theorem am_ev_s (f : Nat) (mr : MR) (rest : List CI) (ls : AL) (st : List AV) (h : AH) (d : Nat) : am_ev (f + 1) mr rest ls st h d = am_step (am_ev f) mr rest ls st h d := rfl
/-- a method, from its entry -/
def am_run (f d : Nat) (mr : MR) (as : List AV) (h : AH) : AR := am_ev f mr mr.2.2.1 (am_pad mr.2.1 (am_args as)) [] h d
end
section
/-! the heap when all is made -/
def am_RFz : List (Nat × List AV) := [(0, [zr 1, zr 2, wr 0, wr 1, zr 34, zr 41]), (2, [zr 3]), (34, [zr 35, wr 1, zr 39, zr 40]), (35, [zr 36, zr 37, zr 38]), (41, [zr 42, zr 43, zr 44])]
def am_RFw : List Nat := [1, 6, 7, 10, 11, 12, 13, 14]
/-- the references, all made; sg: the tokens' signs; rd: what the law's cells name -/
def am_RF (sg : Nat → AV) (rd : Nat → Nat → AV) : AA → Nat → AV
  | Sum.inl (i, j), k => bif Nat.beq j 0 then (match am_RFw[k]? with | some n => Sum.inr (wa i n) | none => Sum.inl .null) else bif Nat.beq j 1 then (bif Nat.blt k 4 then Sum.inr (wa i (k + 2)) else Sum.inl .null) else bif Nat.beq j 7 then (bif Nat.blt k 2 then Sum.inr (wa i (k + 8)) else Sum.inl .null) else Sum.inl .null
  | Sum.inr (Sum.inl _), _ => Sum.inl .null
  | Sum.inr (Sum.inr (Sum.inr q)), k => rd q.2 k
  | Sum.inr (Sum.inr (Sum.inl n)), k => bif Nat.beq n 36 then sg k else bif Nat.beq n 42 then (if k < 8 then wr (Fin.ofNat 12 (2 + k)) else Sum.inl .null) else bif Nat.beq n 43 then (if k < 2 then wr (Fin.ofNat 12 (10 + k)) else Sum.inl .null) else match am_lk n am_RFz with | some l => l.getD k (Sum.inl .null) | none => Sum.inl .null
/-- what else a heap holds: signs, a long, what the law's cells name and what they are, a number, cells, elements, the script's length -/
abbrev AX : Type := (Nat → AV) × Int64 × ((Nat → Nat → AV) × AD) × Nat × Nat × Nat × Nat
abbrev hp (hi : AA → Nat → Int32) (x : AX) : AH := (hi, am_RF x.1 x.2.2.1.1, x.2.1, x.2.2.1.2, x.2.2.2.1, x.2.2.2.2.1, x.2.2.2.2.2.1, x.2.2.2.2.2.2, none)
abbrev rt (v : AV) (h : AH) : AR := some (Sum.inl (some v), h)
abbrev rv0 (h : AH) : AR := some (Sum.inl none, h)
/-- words that go through calls by a way of their own -/
def am_nw : Cond → Bool
  | .castable .. => true
  | .methodLinkNest .. => true
  | .declares _ => true
  | .fieldLinkNest .. => true
  | _ => false
end
section
/-! THE MACHINE UNDER THE ABSTRACT ONE: what a real heap and a real frame have to do with an abstract one -/
/-- the launch's numbers: where the cells begin, classes and slots, the classes of arrays by kind, where the Signs and the other constants lie -/
abbrev AKx : Type := Nat × va_G × (Nat → ClassId) × (Fin 37 → Nat) × (Nat → Nat) × Nat × (Nat → Int32) × (Nat × (Nat → Nat) × (Nat → Nat))
/-- .. with what the law has made already: how many cells, where, of which kinds -/
abbrev kB (K : AKx) (B : Nat × (Nat → Nat) × (Nat → Nat)) : AKx := (K.1, K.2.1, K.2.2.1, K.2.2.2.1, K.2.2.2.2.1, K.2.2.2.2.2.1, K.2.2.2.2.2.2.1, B)
def am_ad (K : AKx) (va : Nat → Nat) : AA → Nat
  | Sum.inl w => K.1 + am_ix (Sum.inl w)
  | Sum.inr (Sum.inl x) => K.2.2.2.1 x
  | Sum.inr (Sum.inr (Sum.inl n)) => bif Nat.ble 1000 n then K.2.2.2.2.1 n else K.1 + n
  | Sum.inr (Sum.inr (Sum.inr q)) => va q.2
def am_rv (K : AKx) (va : Nat → Nat) : AV → Value
  | Sum.inl v => v
  | Sum.inr a => .ref (am_ad K va a)
def am_ro (K : AKx) (va : Nat → Nat) : AV → Option Nat
  | Sum.inr a => some (am_ad K va a)
  | Sum.inl _ => none
/-- which fields of a class hold references -/
def am_rt : List (Nat × List Nat) := [(0, [0]), (1, [0]), (2, [1]), (4, [0, 1, 2]), (5, [0, 1, 2, 3]), (6, [0, 1]), (7, [0, 1, 2, 3]), (8, [0, 1, 2]), (10, [0, 1, 2, 3, 4, 5, 6, 7]), (11, [0, 1, 2, 3, 4, 5]), (12, [22, 23, 24, 25, 26, 27, 28, 29, 30]), (13, [0])]
def am_isR (t k : Nat) : Bool := match am_lk t am_rt with | some l => l.any (Nat.beq k) | none => false
def am_fv (K : AKx) (va : Nat → Nat) (h : AH) (a : AA) (t k : Nat) : Value := bif am_isR t k then va_rf (am_ro K va (h.r a k)) else .int (h.i a k)
def am_li : AA → Nat
  | Sum.inr (Sum.inr (Sum.inr q)) => q.2
  | _ => 0
def am_ac (K : AKx) (va : Nat → Nat) (h : AH) (a : AA) (t : Nat) : (Nat → Int32) ⊕ (Nat → Int64) ⊕ (Nat → UInt32) ⊕ (Nat → UInt64) ⊕ (Nat → Option Nat) :=
  bif Nat.beq t 103 then .inr (.inl (fun j => h.lg (am_li a) j)) else bif Nat.ble 104 t then .inr (.inr (.inr (.inr (fun j => am_ro K va (h.r a j))))) else .inl (fun j => h.i a j)
/-- what a cell holds -/
def am_ct (K : AKx) (va : Nat → Nat) (h : AH) (a : AA) : va_E :=
  bif Nat.blt (am_ty h a).1 100 then .inr ((am_ty h a).1, (List.range (am_ty h a).2).map (am_fv K va h a (am_ty h a).1)) else .inl (K.2.2.1 (am_ty h a).1, (am_ty h a).2, am_ac K va h a (am_ty h a).1)
/-- what a cell holds when it is made -/
def am_df (K : AKx) (va : Nat → Nat) (h : AH) (a : AA) : va_E := am_ct K va ((fun _ _ => 0), (fun _ _ => Sum.inl .null), 0, ((fun _ _ => 0), h.2.2.2.1.2), h.2.2.2.2) a
def am_n (h : AH) : Nat := match h.nx with | none => am_all | some n => n
/-- the whole world, in the order of its making: the class's cells, the law's -/
def am_ws (K : AKx) (va : Nat → Nat) (h : AH) : va_W := (List.range (am_n h)).map (fun k => (am_ad K va (am_lay k), am_ct K va h (am_lay k))) ++ (List.range h.nd).map (fun i => (va i, am_ct K va h (da (h.dk i) i)))
def am_fr (K : AKx) : Nat → Prop := fun q => K.1 ≤ q
/-- a name that names what it says -/
def am_oka (h : AH) : AA → Prop
  | Sum.inr (Sum.inr (Sum.inr q)) => q.2 < h.nd ∧ h.dk q.2 = q.1 ∧ am_kok q.1 = true
  | _ => True
def am_okv (h : AH) : AV → Prop
  | Sum.inr a => am_oka h a
  | _ => True
/-- what cells name is there; what isn't made yet is empty -/
def am_NA (h : AH) : Prop := (∀ (a : AA) (j : Nat), am_okv h (h.2.1 a j)) ∧ (∀ i, h.nd ≤ i → (∀ k j, h.i (da k i) j = 0 ∧ h.r (da k i) j = Sum.inl .null) ∧ ∀ j, h.lg i j = 0) ∧ (∀ i, i < h.nd → am_kok (h.dk i) = true) ∧ ((∃ n, h.nx = some n) → h.nd = 0)
def am_Rel (K : AKx) (va : Nat → Nat) (h : AH) (H : Heap) : Prop := va_P K.2.1 vwCl (am_ws K va h) H ∧ va_D (am_fr K) (am_ws K va h) ∧ (match h.nx with | some n => H.size = K.1 + n ∧ n < am_all ∧ (∀ k, n ≤ k → k < am_all → am_ct K va h (am_lay k) = am_df K va h (am_lay k)) | none => True) ∧ h.sl = K.2.2.2.2.2.1 ∧ (∀ k, h.i (za 3004) k = K.2.2.2.2.2.2.1 k) ∧ am_NA h
/-- a cell of ours that is made -/
def am_val (h : AH) (a : AA) : Prop := am_dyn a = true ∧ am_ex h a = true ∧ (am_ty h a).1 ≠ 999 ∧ am_oka h a
theorem am_lk_mem {α : Type} {n : Nat} {v : α} : ∀ {l : List (Nat × α)}, am_lk n l = some v → (n, v) ∈ l
  | [], h => by cases h
  | e :: t, h => by
    unfold am_lk at h
    cases hb : Nat.beq n e.1 with
    | true =>
      rw [hb] at h
      have h2 : e.2 = v := Option.some.inj h
      have h3 : n = e.1 := Nat.eq_of_beq_eq_true hb
      rw [h3, ← h2]
      exact List.mem_cons_self
    | false =>
      rw [hb] at h
      exact List.mem_cons_of_mem _ (am_lk_mem h)
theorem am_tw_lt : ∀ q ∈ am_tw, q.1 < 15 := by decide
theorem am_tz_ok : ∀ q ∈ am_tz, (q.1 < 4 ∨ (34 ≤ q.1 ∧ q.1 < 45)) ∧ q.1 < 195 := by decide
theorem am_ix_w (i : Fin 12) (j : Nat) : am_ix (Sum.inl (i, j)) = if i.val < 2 then 4 + 15 * i.val + j else 45 + 15 * (i.val - 2) + j := rfl
theorem am_ty_w (h : AH) (i : Fin 12) (j : Nat) : am_ty h (Sum.inl (i, j)) = match am_lk j am_tw with | some t => t | none => (999, 0) := rfl
theorem am_ty_z (h : AH) (n : Nat) : am_ty h (za n) = bif Nat.ble 1000 n then (bif Nat.ble 3000 n then (bif Nat.beq n 3000 then (106, 37) else bif Nat.beq n 3001 then (100, 37) else bif Nat.beq n 3002 then (101, 100) else bif Nat.beq n 3003 then (101, 100) else bif Nat.beq n 3004 then (100, h.sl) else bif Nat.beq n 3005 then (104, 0) else bif Nat.beq n 3007 then (15, 0) else (999, 0)) else bif Nat.ble 2000 n then (bif Nat.blt n (2000 + am_nstr) then (101, am_strlen (n - 2000)) else (999, 0)) else bif Nat.blt n (1000 + am_nstr) then (0, 4) else (999, 0))
      else match am_lk n am_tz with | some t => t | none => (999, 0) := rfl
theorem am_ble_f {n m : Nat} (h : n < m) : Nat.ble m n = false := by
  cases hb : Nat.ble m n with
  | false => rfl
  | true => have := Nat.le_of_ble_eq_true hb; omega
/-- a cell's name is the class's (the place of its making is below 195), or the law's -/
theorem am_lay_ix {h : AH} {a : AA} (hd : am_dyn a = true) (ht : (am_ty h a).1 ≠ 999) : (am_lay (am_ix a) = a ∧ am_ix a < am_all) ∨ ∃ k i, a = da k i := by
  rcases a with ⟨i, j⟩ | x | n | ⟨k, i⟩
  · have hj : j < 15 := by
      rw [am_ty_w] at ht
      cases hl : am_lk j am_tw with
      | none => rw [hl] at ht; exact absurd rfl ht
      | some t => exact am_tw_lt _ (am_lk_mem hl)
    have hi := i.isLt
    rw [am_ix_w]
    refine Or.inl ?_
    by_cases h2 : i.val < 2
    · rw [if_pos h2]
      refine ⟨?_, by unfold am_all; omega⟩
      unfold am_lay
      rw [if_pos (by omega)]
      have e1 : (4 + 15 * i.val + j - 4) / 15 = i.val := by omega
      have e2 : (4 + 15 * i.val + j - 4) % 15 = j := by omega
      rw [e1, e2]
      exact congrArg (fun z => wa z j) (Fin.ext (Nat.mod_eq_of_lt hi))
    · rw [if_neg h2]
      refine ⟨?_, by unfold am_all; omega⟩
      unfold am_lay
      rw [if_neg (by omega), if_pos (by omega)]
      have e1 : 2 + (45 + 15 * (i.val - 2) + j - 45) / 15 = i.val := by omega
      have e2 : (45 + 15 * (i.val - 2) + j - 45) % 15 = j := by omega
      rw [e1, e2]
      exact congrArg (fun z => wa z j) (Fin.ext (Nat.mod_eq_of_lt hi))
  · cases hd
  · have hn : n < 1000 := by
      have h3 : Nat.blt n 1000 = true := hd
      exact Nat.blt_eq.mp h3
    have hk : (n < 4 ∨ (34 ≤ n ∧ n < 45)) ∧ n < 195 := by
      rw [am_ty_z, am_ble_f hn] at ht
      cases hl : am_lk n am_tz with
      | none => rw [hl] at ht; exact absurd rfl ht
      | some t => exact am_tz_ok _ (am_lk_mem hl)
    refine Or.inl ⟨?_, by show n < 195; omega⟩
    show am_lay n = za n
    unfold am_lay
    rw [if_neg (by omega), if_neg (by omega)]
  · exact Or.inr ⟨k, i, rfl⟩
theorem am_ex_lt {h : AH} {a : AA} (hl : am_lay (am_ix a) = a ∧ am_ix a < am_all) (hd : am_dyn a = true) (he : am_ex h a = true) : am_ix a < am_n h := by
  have h2 := hl.2
  unfold am_n
  unfold am_ex at he
  cases hn : h.nx with
  | none => exact h2
  | some n =>
    rw [hn] at he
    rcases a with w | x | k | q
    · exact Nat.blt_eq.mp he
    · cases hd
    · have hk : Nat.blt k 1000 = true := hd
      have hk2 := Nat.blt_eq.mp hk
      have he2 : (Nat.ble 1000 k || Nat.blt k n) = true := he
      rcases Bool.or_eq_true_iff.mp he2 with q | q
      · have := Nat.le_of_ble_eq_true q; omega
      · exact Nat.blt_eq.mp q
    · cases he
/-- where a cell stands in the world -/
def am_jx (h : AH) : AA → Nat
  | Sum.inr (Sum.inr (Sum.inr q)) => am_n h + q.2
  | a => am_ix a
theorem am_jx_s {h : AH} {a : AA} (hl : am_lay (am_ix a) = a ∧ am_ix a < am_all) : am_jx h a = am_ix a := by
  rcases a with w | x | k | q
  · rfl
  · rfl
  · rfl
  · exfalso
    have h2 : 195 + q.2 < 195 := hl.2
    omega
theorem am_wl {K : AKx} {va : Nat → Nat} {h : AH} : ((List.range (am_n h)).map (fun k => (am_ad K va (am_lay k), am_ct K va h (am_lay k)))).length = am_n h := by rw [List.length_map, List.length_range]
theorem am_here {K : AKx} {va : Nat → Nat} {h : AH} {a : AA} (hv : am_val h a) : (am_ws K va h)[am_jx h a]? = some (am_ad K va a, am_ct K va h a) := by
  obtain ⟨hd, he, ht, ho⟩ := hv
  rcases am_lay_ix hd ht with hl | ⟨k, i, rfl⟩
  · have h1 := am_ex_lt hl hd he
    rw [am_jx_s hl]
    unfold am_ws
    rw [List.getElem?_append_left (by rw [am_wl]; exact h1), List.getElem?_map, List.getElem?_range h1, Option.map_some, hl.1]
  · obtain ⟨h1, h2, -⟩ : i < h.nd ∧ h.dk i = k ∧ am_kok k = true := ho
    show (am_ws K va h)[am_n h + i]? = _
    unfold am_ws
    rw [List.getElem?_append_right (by rw [am_wl]; omega), am_wl, Nat.add_sub_cancel_left, List.getElem?_map, List.getElem?_range h1, Option.map_some, h2]
    rfl
theorem am_lay_at {k : Nat} (hk : k < am_all) : am_ix (am_lay k) = k := by
  unfold am_all at hk
  unfold am_lay
  by_cases h1 : 4 ≤ k ∧ k < 34
  · rw [if_pos h1]
    have h3 : (k - 4) / 15 < 12 := by omega
    rw [am_ix_w]
    have e : (Fin.ofNat 12 ((k - 4) / 15)).val = (k - 4) / 15 := Nat.mod_eq_of_lt h3
    rw [e]
    split <;> omega
  · rw [if_neg h1]
    by_cases h2 : 45 ≤ k ∧ k < 195
    · rw [if_pos h2]
      have h3 : 2 + (k - 45) / 15 < 12 := by omega
      rw [am_ix_w]
      have e : (Fin.ofNat 12 (2 + (k - 45) / 15)).val = 2 + (k - 45) / 15 := Nat.mod_eq_of_lt h3
      rw [e]
      split <;> omega
    · rw [if_neg h2]
      rfl
theorem am_lay_nd (k c i : Nat) : am_lay k ≠ da c i := by
  unfold am_lay
  intro q
  by_cases h1 : 4 ≤ k ∧ k < 34
  · rw [if_pos h1] at q; cases q
  · rw [if_neg h1] at q
    by_cases h2 : 45 ≤ k ∧ k < 195
    · rw [if_pos h2] at q; cases q
    · rw [if_neg h2] at q; cases q
theorem am_lay_ne {a : AA} (hl : am_lay (am_ix a) = a ∧ am_ix a < am_all) {k : Nat} (hk : k ≠ am_ix a) : am_lay k ≠ a := by
  intro q
  by_cases hka : k < am_all
  · exact hk (by rw [← q, am_lay_at hka])
  · have hz : am_lay k = za k := by
      unfold am_all at hka
      unfold am_lay
      rw [if_neg (by omega), if_neg (by omega)]
    rw [hz] at q
    exact hk (by rw [← q]; rfl)
theorem am_da_inj {k c i j : Nat} (h : da k i = da c j) : k = c ∧ i = j := by
  injection h with h
  injection h with h
  injection h with h
  injection h with h1 h2
  exact ⟨h1, h2⟩
/-- one cell is written -/
theorem am_wset {K : AKx} {va : Nat → Nat} {h h2 : AH} {a : AA} (hv : am_val h a) (hn : h2.nx = h.nx) (hnd : h2.nd = h.nd) (hdk : h2.dk = h.dk) (ho : ∀ b : AA, b ≠ a → am_ct K va h2 b = am_ct K va h b) : (am_ws K va h).set (am_jx h a) (am_ad K va a, am_ct K va h2 a) = am_ws K va h2 := by
  have hnn : am_n h2 = am_n h := by unfold am_n; rw [hn]
  obtain ⟨hd, he, ht, hoa⟩ := hv
  rcases am_lay_ix hd ht with hl | ⟨k, i, rfl⟩
  · have h1 := am_ex_lt hl hd he
    rw [am_jx_s hl]
    have e2 : (List.range h2.nd).map (fun i => (va i, am_ct K va h2 (da (h2.dk i) i))) = (List.range h.nd).map (fun i => (va i, am_ct K va h (da (h.dk i) i))) := by
      rw [hnd]
      refine List.map_congr_left fun i hi => ?_
      rw [hdk, ho (da (h.dk i) i) (fun q => am_lay_nd _ _ _ (hl.1.trans q.symm))]
    unfold am_ws
    rw [e2, List.set_append_left _ _ (by rw [am_wl]; exact h1)]
    congr 1
    apply List.ext_getElem?
    intro k
    rw [hnn]
    by_cases hk : k = am_ix a
    · subst hk
      rw [List.getElem?_set_self (by simpa using h1), List.getElem?_map, List.getElem?_range h1, Option.map_some, hl.1]
    · rw [List.getElem?_set_ne (Ne.symm hk), List.getElem?_map, List.getElem?_map]
      by_cases hkl : k < am_n h
      · rw [List.getElem?_range hkl, Option.map_some, Option.map_some, ho _ (am_lay_ne hl hk)]
      · have e : (List.range (am_n h))[k]? = none := by simp; omega
        rw [e]; rfl
  · obtain ⟨h1, h3, -⟩ : i < h.nd ∧ h.dk i = k ∧ am_kok k = true := hoa
    have e1 : (List.range (am_n h2)).map (fun k => (am_ad K va (am_lay k), am_ct K va h2 (am_lay k))) = (List.range (am_n h)).map (fun k => (am_ad K va (am_lay k), am_ct K va h (am_lay k))) := by
      rw [hnn]
      refine List.map_congr_left fun c hc => ?_
      rw [ho _ (am_lay_nd c k i)]
    show (am_ws K va h).set (am_n h + i) (va i, am_ct K va h2 (da k i)) = am_ws K va h2
    unfold am_ws
    rw [e1, List.set_append_right _ _ (by rw [am_wl]; omega), am_wl, Nat.add_sub_cancel_left]
    congr 1
    apply List.ext_getElem?
    intro c
    rw [hnd, hdk]
    by_cases hc : c = i
    · subst hc
      rw [List.getElem?_set_self (by simpa using h1), List.getElem?_map, List.getElem?_range h1, Option.map_some, h3]
    · rw [List.getElem?_set_ne (Ne.symm hc), List.getElem?_map, List.getElem?_map]
      by_cases hkl : c < h.nd
      · rw [List.getElem?_range hkl, Option.map_some, Option.map_some, ho _ (fun q => hc (am_da_inj q).2)]
      · have e : (List.range h.nd)[c]? = none := by simp; omega
        rw [e]; rfl
/-- the locals -/
def am_LR (K : AKx) (va : Nat → Nat) (nL : Nat) (lsr : Array Slot) (l : AL) : Prop := lsr.size = nL ∧ lv_wf lsr ∧ ∀ (i : Nat) (v : AV), l[i]? = some (some v) → lsr[i]? = some (.val (am_rv K va v))
def am_al (K : AKx) (va : Nat → Nat) (l : AL) : List (Nat × Value) := (List.range l.length).filterMap (fun i => match l[i]? with | some (some v) => some (i, am_rv K va v) | _ => none)
theorem am_al_mem {K : AKx} {va : Nat → Nat} {l : AL} {q : Nat × Value} (h : q ∈ am_al K va l) : ∃ v, l[q.1]? = some (some v) ∧ q.2 = am_rv K va v := by
  obtain ⟨i, -, hi⟩ := List.mem_filterMap.mp h
  split at hi
  · next v hv =>
    cases hi
    exact ⟨v, hv, rfl⟩
  · cases hi
theorem am_al_in {K : AKx} {va : Nat → Nat} {l : AL} {i : Nat} {v : AV} (h : l[i]? = some (some v)) : (i, am_rv K va v) ∈ am_al K va l := by
  refine List.mem_filterMap.mpr ⟨i, List.mem_range.mpr (List.getElem?_eq_some_iff.mp h).1, ?_⟩
  rw [h]
theorem am_LR.has {K : AKx} {va : Nat → Nat} {nL : Nat} {lsr : Array Slot} {l : AL} (h : am_LR K va nL lsr l) : lv_has lsr nL (am_al K va l) := ⟨h.1, h.2.1, fun q hq => by
  obtain ⟨v, h1, h2⟩ := am_al_mem hq
  rw [h2]
  exact h.2.2 _ _ h1⟩
theorem am_get_at {ls : AL} {n : Nat} {v : AV} (h : am_get ls n = some v) : ls[n]? = some (some v) := by
  unfold am_get at h
  split at h
  · next w hw => rw [hw, h]
  · cases h
theorem am_LR.at {K : AKx} {va : Nat → Nat} {nL : Nat} {lsr : Array Slot} {l : AL} (h : am_LR K va nL lsr l) {n : Nat} {v : AV} (hv : am_get l n = some v) : lsr[n]? = some (.val (am_rv K va v)) := h.2.2 n v (am_get_at hv)
theorem am_cat {K : AKx} {va : Nat → Nat} (v : AV) : (am_rv K va v).category = if am_cat2 v = true then 2 else 1 := by
  rcases v with v | a
  · cases v <;> rfl
  · rfl
theorem am_clr_at {l : AL} {n : Nat} {j : Nat} {w : AV} (h : (am_clr l n)[j]? = some (some w)) : l[j]? = some (some w) ∧ ¬ (j + 1 = n ∧ am_cat2 w = true) := by
  cases n with
  | zero => exact ⟨h, fun q => by omega⟩
  | succ k =>
    have e : am_clr l (k + 1) = match l[k]? with | some (some w) => bif am_cat2 w then l.set k none else l | _ => l := rfl
    rw [e] at h
    split at h
    · next u hk =>
      cases hu : am_cat2 u with
      | false =>
        rw [hu] at h
        have h9 : l[j]? = some (some w) := h
        refine ⟨h9, fun q => ?_⟩
        have : j = k := by omega
        subst this
        rw [hk] at h9
        cases h9
        rw [hu] at q
        exact absurd q.2 (by decide)
      | true =>
        rw [hu] at h
        have h : (l.set k none)[j]? = some (some w) := h
        by_cases hj : j = k
        · subst hj
          rw [List.getElem?_set] at h
          simp at h
        · rw [List.getElem?_set_ne (Ne.symm hj)] at h
          exact ⟨h, fun q => hj (by omega)⟩
    · next hk =>
      refine ⟨h, fun q => ?_⟩
      have : j = k := by omega
      subst this
      exact hk w h
theorem am_put_at {l : AL} {n : Nat} {v w : AV} {j : Nat} (h : (am_put l n v)[j]? = some (some w)) : (j = n ∧ w = v) ∨ (j ≠ n ∧ l[j]? = some (some w) ∧ (am_cat2 v = true → j ≠ n + 1) ∧ ¬ (j + 1 = n ∧ am_cat2 w = true)) := by
  unfold am_put at h
  have h3 : ((am_clr l n).set n (some v))[j]? = some (some w) ∧ (am_cat2 v = true → j ≠ n + 1) := by
    cases hc : am_cat2 v with
    | false => rw [hc] at h; exact ⟨h, fun q => absurd q (by decide)⟩
    | true =>
      rw [hc] at h
      have h4 : (((am_clr l n).set n (some v)).set (n + 1) none)[j]? = some (some w) := h
      by_cases hj : j = n + 1
      · subst hj
        rw [List.getElem?_set] at h4
        simp at h4
      · rw [List.getElem?_set_ne (Ne.symm hj)] at h4
        exact ⟨h4, fun _ => hj⟩
  obtain ⟨h3, h5⟩ := h3
  by_cases hj : j = n
  · subst hj
    rw [List.getElem?_set] at h3
    simp at h3
    exact Or.inl ⟨rfl, h3.2.symm⟩
  · rw [List.getElem?_set_ne (Ne.symm hj)] at h3
    obtain ⟨h6, h7⟩ := am_clr_at h3
    exact Or.inr ⟨hj, h6, h5, h7⟩
theorem am_LR.put1 {K : AKx} {va : Nat → Nat} {nL : Nat} {lsr' : Array Slot} {l : AL} {n : Nat} {v : AV} {x : Value} (hx : am_rv K va v = x) (h : lv_has lsr' nL ((n, x) :: (am_al K va l).filter (fun q => !(q.1 == n) && !(q.1 + 1 == n && q.2.category == 2)))) : am_LR K va nL lsr' (am_put l n v) := by
  refine ⟨h.1, h.2.1, fun j w hw => ?_⟩
  rcases am_put_at hw with ⟨rfl, rfl⟩ | ⟨h1, h2, -, h4⟩
  · rw [hx]; exact h.2.2 (j, x) List.mem_cons_self
  · refine h.2.2 (j, am_rv K va w) (List.mem_cons_of_mem _ (List.mem_filter.mpr ⟨am_al_in h2, ?_⟩))
    have hc := am_cat (K := K) (va := va) w
    simp only [Bool.and_eq_true, Bool.not_eq_true', beq_eq_false_iff_ne, ne_eq, Bool.and_eq_false_iff]
    refine ⟨h1, ?_⟩
    by_cases hj : j + 1 = n
    · refine Or.inr fun z => h4 ⟨hj, ?_⟩
      by_cases hw2 : am_cat2 w = true
      · exact hw2
      · rw [if_neg hw2] at hc; rw [hc] at z; cases z
    · exact Or.inl hj
theorem am_LR.put2 {K : AKx} {va : Nat → Nat} {nL : Nat} {lsr' : Array Slot} {l : AL} {n : Nat} {v : AV} {x : Value} (hx : am_rv K va v = x) (hc2 : am_cat2 v = true) (h : lv_has lsr' nL ((n, x) :: (am_al K va l).filter (fun q => !(q.1 == n) && (!(q.1 == n + 1) && !(q.1 + 1 == n && q.2.category == 2))))) : am_LR K va nL lsr' (am_put l n v) := by
  refine ⟨h.1, h.2.1, fun j w hw => ?_⟩
  rcases am_put_at hw with ⟨rfl, rfl⟩ | ⟨h1, h2, h3, h4⟩
  · rw [hx]; exact h.2.2 (j, x) List.mem_cons_self
  · refine h.2.2 (j, am_rv K va w) (List.mem_cons_of_mem _ (List.mem_filter.mpr ⟨am_al_in h2, ?_⟩))
    have hc := am_cat (K := K) (va := va) w
    simp only [Bool.and_eq_true, Bool.not_eq_true', beq_eq_false_iff_ne, ne_eq, Bool.and_eq_false_iff]
    refine ⟨h1, h3 hc2, ?_⟩
    by_cases hj : j + 1 = n
    · refine Or.inr fun z => h4 ⟨hj, ?_⟩
      by_cases hw2 : am_cat2 w = true
      · exact hw2
      · rw [if_neg hw2] at hc; rw [hc] at z; cases z
    · exact Or.inl hj
/-! names that name what they say -/
/-- what the law had made at the method's start is where it was, and what it was -/
def am_agr (K : AKx) (va : Nat → Nat) (h : AH) : Prop := K.2.2.2.2.2.2.2.1 ≤ h.nd ∧ ∀ i, i < K.2.2.2.2.2.2.2.1 → va i = K.2.2.2.2.2.2.2.2.1 i ∧ h.dk i = K.2.2.2.2.2.2.2.2.2 i
/-- a frame's names -/
def am_ok (K : AKx) (va : Nat → Nat) (h : AH) (ls : AL) (st : List AV) : Prop := am_agr K va h ∧ (∀ (i : Nat) (v : AV), ls[i]? = some (some v) → am_okv h v) ∧ ∀ v ∈ st, am_okv h v
section OK
variable {K : AKx} {va : Nat → Nat} {h : AH} {ls : AL} {st t : List AV} {v w : AV}
theorem am_ok.pop (o : am_ok K va h ls (v :: t)) : am_ok K va h ls t := ⟨o.1, o.2.1, fun w hw => o.2.2 w (List.mem_cons_of_mem _ hw)⟩
theorem am_ok.top (o : am_ok K va h ls (v :: t)) : am_okv h v := o.2.2 v List.mem_cons_self
theorem am_ok.push (o : am_ok K va h ls t) (hv : am_okv h v) : am_ok K va h ls (v :: t) := ⟨o.1, o.2.1, fun w hw => by
  rcases List.mem_cons.mp hw with rfl | hw
  · exact hv
  · exact o.2.2 w hw⟩
theorem am_ok.num {x : Value} (o : am_ok K va h ls t) : am_ok K va h ls (Sum.inl x :: t) := o.push trivial
theorem am_ok.ld {n : Nat} (o : am_ok K va h ls st) (hg : am_get ls n = some v) : am_ok K va h ls (v :: st) := o.push (o.2.1 n v (am_get_at hg))
theorem am_ok.put {n : Nat} (o : am_ok K va h ls t) (hv : am_okv h v) : am_ok K va h (am_put ls n v) t := ⟨o.1, fun i u hu => by
  rcases am_put_at hu with ⟨-, rfl⟩ | ⟨-, h2, -⟩
  · exact hv
  · exact o.2.1 i u h2, o.2.2⟩
theorem am_ok.clr {n : Nat} (o : am_ok K va h ls st) : am_ok K va h ((am_clr ls n).set n none) [] := ⟨o.1, fun i u hu => by
  by_cases hi : i = n
  · subst hi
    rw [List.getElem?_set] at hu
    simp at hu
  · rw [List.getElem?_set_ne (Ne.symm hi)] at hu
    exact o.2.1 i u (am_clr_at hu).1, fun v hv => by cases hv⟩
end OK
/-- a heap in which what was there is what it was -/
def am_xt' (h h2 : AH) : Prop := h.nd ≤ h2.nd ∧ ∀ i, i < h.nd → h2.dk i = h.dk i
theorem am_oka.ext {h h2 : AH} {a : AA} (e : am_xt' h h2) (o : am_oka h a) : am_oka h2 a := by
  rcases a with w | x | n | q
  · trivial
  · trivial
  · trivial
  · exact ⟨Nat.lt_of_lt_of_le o.1 e.1, (e.2 _ o.1).trans o.2.1, o.2.2⟩
theorem am_okv.ext {h h2 : AH} {v : AV} (e : am_xt' h h2) (o : am_okv h v) : am_okv h2 v := by
  rcases v with v | a
  · trivial
  · exact am_oka.ext e o
/-- .. where it was -/
theorem am_rv_eq {K : AKx} {va va1 : Nat → Nat} {h : AH} {v : AV} (e : ∀ i, i < h.nd → va1 i = va i) (o : am_okv h v) : am_rv K va1 v = am_rv K va v := by
  rcases v with v | a
  · rfl
  · rcases a with w | x | n | q
    · rfl
    · rfl
    · rfl
    · exact congrArg Value.ref (e _ o.1)
theorem am_LR.eq {K : AKx} {va va1 : Nat → Nat} {h : AH} {nL : Nat} {lsr : Array Slot} {l : AL} (e : ∀ i, i < h.nd → va1 i = va i) (o : ∀ (i : Nat) (v : AV), l[i]? = some (some v) → am_okv h v) (hL : am_LR K va nL lsr l) : am_LR K va1 nL lsr l := ⟨hL.1, hL.2.1, fun i v hv => by
  rw [am_rv_eq e (o i v hv)]
  exact hL.2.2 i v hv⟩
end
section
/-! THE SIMULATION, instruction by instruction: where the abstract machine comes to an end, the real one does -/
/-- what a method that ended so has at its end -/
def am_Post (K : AKx) (o : AO) (h1 : AH) : Array Value → State → Outcome → State → Prop := fun _ st oc t => ∃ (v : Option AV) (va1 : Nat → Nat), o = Sum.inl v ∧ oc = .returned (v.map (am_rv K va1)) ∧ am_Rel K va1 h1 t.heap ∧ va_F (am_fr K) st t ∧ am_agr K va1 h1 ∧ ∀ w, v = some w → am_okv h1 w
def am_PostX (K : AKx) (o : AO) (h1 : AH) : String → State → State → Prop := fun E st t => (∃ j : Nat, j < 3 ∧ o = Sum.inr j ∧ E = am_xs j) ∧ (∃ va1 : Nat → Nat, am_Rel K va1 h1 t.heap ∧ am_agr K va1 h1) ∧ va_F (am_fr K) st t
/-- the frame at pc comes to its method's end as the abstract one does -/
def am_G (K : AKx) (p : Program) (l : Launch) (e : Env) (R : Room) (s : State) (m : MethodId) (args : Array Value) (below : List Frame) (meth : Method) (c : Code) (mr : MR) (o : AO) (h1 : AH) (pc : Nat) (ls : AL) (st : List AV) (h : AH) : Prop :=
  ∀ (va : Nat → Nat) (H : Heap) (locs : List Loc) (cells slots : Nat) (lsr : Array Slot), am_Rel K va h H → va_S (am_fr K) s.heap H locs → cells + h1.nc ≤ R.cells + h.nc → slots + h1.ns ≤ R.slots + h.ns → am_LR K va mr.2.1 lsr ls → am_ok K va h ls st → W p l e R s m args below meth c H locs cells slots (vx_MQ below (am_Post K o h1) (am_PostX K o h1) args s R.cells R.slots (am_fr K)) (F0 m pc lsr (st.map (am_rv K va)))
/-- behind an instruction: the next one; a jump -/
def am_Nx (K : AKx) (p : Program) (l : Launch) (e : Env) (R : Room) (s : State) (m : MethodId) (args : Array Value) (below : List Frame) (meth : Method) (c : Code) (mr : MR) (o : AO) (h1 : AH) (nx : Nat) (d : Nat) (ih : AK) (r : List CI) : Prop := ∀ (ls2 : AL) (st2 : List AV) (h2 : AH), ih mr r ls2 st2 h2 d = some (o, h1) → am_G K p l e R s m args below meth c mr o h1 nx ls2 st2 h2
def am_Jm (K : AKx) (p : Program) (l : Launch) (e : Env) (R : Room) (s : State) (m : MethodId) (args : Array Value) (below : List Frame) (meth : Method) (c : Code) (mr : MR) (o : AO) (h1 : AH) (d : Nat) (ih : AK) : Prop := ∀ (t2 : Nat) (ls2 : AL) (st2 : List AV) (h2 : AH), ih mr (am_jmp t2 mr.2.2.1) ls2 st2 h2 d = some (o, h1) → am_G K p l e R s m args below meth c mr o h1 t2 ls2 st2 h2

theorem am_s_iconst {K : AKx} {p : Program} {l : Launch} {e : Env} {R : Room} {s : State} {m : MethodId} {args : Array Value} {below : List Frame} {meth : Method} {c : Code} {bytes : ByteArray} {mr : MR} {o : AO} {h1 : AH} {ih : AK} {pc len tgt d : Nat} {r : List CI} {ls : AL} {st : List AV} {h : AH} {n : Int} (hx : p.tables.exec = Jvm.exec) (hb : c.code = bytes)  (hdec : decode bytes pc = .ok (.iconst n, 1)) (nx : am_Nx K p l e R s m args below meth c mr o h1 (pc + 1) d ih r) (hrun : am_step ih mr ((pc, .iconst n, len, tgt) :: r) ls st h d = some (o, h1)) : am_G K p l e R s m args below meth c mr o h1 pc ls st h := by
  intro va H locs cells slots lsr hR hS hc hs hL hO
  exact lv_iconst hx hb hdec rfl (nx _ _ _ hrun va H locs cells slots lsr hR hS hc hs hL (hO.num))
theorem am_s_bipush {K : AKx} {p : Program} {l : Launch} {e : Env} {R : Room} {s : State} {m : MethodId} {args : Array Value} {below : List Frame} {meth : Method} {c : Code} {bytes : ByteArray} {mr : MR} {o : AO} {h1 : AH} {ih : AK} {pc len tgt d : Nat} {r : List CI} {ls : AL} {st : List AV} {h : AH} {n : Int} (hx : p.tables.exec = Jvm.exec) (hb : c.code = bytes)  (hdec : decode bytes pc = .ok (.bipush n, 2)) (nx : am_Nx K p l e R s m args below meth c mr o h1 (pc + 2) d ih r) (hrun : am_step ih mr ((pc, .bipush n, len, tgt) :: r) ls st h d = some (o, h1)) : am_G K p l e R s m args below meth c mr o h1 pc ls st h := by
  intro va H locs cells slots lsr hR hS hc hs hL hO
  exact lv_bipush hx hb hdec rfl (nx _ _ _ hrun va H locs cells slots lsr hR hS hc hs hL (hO.num))
theorem am_s_sipush {K : AKx} {p : Program} {l : Launch} {e : Env} {R : Room} {s : State} {m : MethodId} {args : Array Value} {below : List Frame} {meth : Method} {c : Code} {bytes : ByteArray} {mr : MR} {o : AO} {h1 : AH} {ih : AK} {pc len tgt d : Nat} {r : List CI} {ls : AL} {st : List AV} {h : AH} {n : Int} (hx : p.tables.exec = Jvm.exec) (hb : c.code = bytes)  (hdec : decode bytes pc = .ok (.sipush n, 3)) (nx : am_Nx K p l e R s m args below meth c mr o h1 (pc + 3) d ih r) (hrun : am_step ih mr ((pc, .sipush n, len, tgt) :: r) ls st h d = some (o, h1)) : am_G K p l e R s m args below meth c mr o h1 pc ls st h := by
  intro va H locs cells slots lsr hR hS hc hs hL hO
  exact lv_sipush hx hb hdec rfl (nx _ _ _ hrun va H locs cells slots lsr hR hS hc hs hL (hO.num))
theorem am_s_lconst {K : AKx} {p : Program} {l : Launch} {e : Env} {R : Room} {s : State} {m : MethodId} {args : Array Value} {below : List Frame} {meth : Method} {c : Code} {bytes : ByteArray} {mr : MR} {o : AO} {h1 : AH} {ih : AK} {pc len tgt d : Nat} {r : List CI} {ls : AL} {st : List AV} {h : AH} {n : Fin 2} (hx : p.tables.exec = Jvm.exec) (hb : c.code = bytes)  (hdec : decode bytes pc = .ok (.lconst n, 1)) (nx : am_Nx K p l e R s m args below meth c mr o h1 (pc + 1) d ih r) (hrun : am_step ih mr ((pc, .lconst n, len, tgt) :: r) ls st h d = some (o, h1)) : am_G K p l e R s m args below meth c mr o h1 pc ls st h := by
  intro va H locs cells slots lsr hR hS hc hs hL hO
  exact lv_lconst hx hb hdec rfl (nx _ _ _ hrun va H locs cells slots lsr hR hS hc hs hL (hO.num))
theorem am_s_aconst_null {K : AKx} {p : Program} {l : Launch} {e : Env} {R : Room} {s : State} {m : MethodId} {args : Array Value} {below : List Frame} {meth : Method} {c : Code} {bytes : ByteArray} {mr : MR} {o : AO} {h1 : AH} {ih : AK} {pc len tgt d : Nat} {r : List CI} {ls : AL} {st : List AV} {h : AH}  (hx : p.tables.exec = Jvm.exec) (hb : c.code = bytes)  (hdec : decode bytes pc = .ok (.aconst_null, 1)) (nx : am_Nx K p l e R s m args below meth c mr o h1 (pc + 1) d ih r) (hrun : am_step ih mr ((pc, .aconst_null, len, tgt) :: r) ls st h d = some (o, h1)) : am_G K p l e R s m args below meth c mr o h1 pc ls st h := by
  intro va H locs cells slots lsr hR hS hc hs hL hO
  exact lv_null hx hb hdec (nx _ _ _ hrun va H locs cells slots lsr hR hS hc hs hL (hO.num))
theorem am_s_fconst {K : AKx} {p : Program} {l : Launch} {e : Env} {R : Room} {s : State} {m : MethodId} {args : Array Value} {below : List Frame} {meth : Method} {c : Code} {bytes : ByteArray} {mr : MR} {o : AO} {h1 : AH} {ih : AK} {pc len tgt d : Nat} {r : List CI} {ls : AL} {st : List AV} {h : AH} {n : Fin 3} (hx : p.tables.exec = Jvm.exec) (hb : c.code = bytes)  (hdec : decode bytes pc = .ok (.fconst n, 1)) (nx : am_Nx K p l e R s m args below meth c mr o h1 (pc + 1) d ih r) (hrun : am_step ih mr ((pc, .fconst n, len, tgt) :: r) ls st h d = some (o, h1)) : am_G K p l e R s m args below meth c mr o h1 pc ls st h := by
  intro va H locs cells slots lsr hR hS hc hs hL hO
  have hz : n = 0 ∧ ih mr r ls (Sum.inl (Value.float FP.fconst0) :: st) h d = some (o, h1) := by
    have h9 : (bif Nat.beq n.val 0 then ih mr r ls (Sum.inl (Value.float FP.fconst0) :: st) h d else none) = some (o, h1) := hrun
    cases hb9 : Nat.beq n.val 0 with
    | true => rw [hb9] at h9; exact ⟨Fin.ext (Nat.eq_of_beq_eq_true hb9), h9⟩
    | false => rw [hb9] at h9; cases h9
  obtain ⟨rfl, hrun⟩ := hz
  exact lv_fconst0 hx hb hdec (nx _ _ _ hrun va H locs cells slots lsr hR hS hc hs hL (hO.num))
theorem am_s_dconst {K : AKx} {p : Program} {l : Launch} {e : Env} {R : Room} {s : State} {m : MethodId} {args : Array Value} {below : List Frame} {meth : Method} {c : Code} {bytes : ByteArray} {mr : MR} {o : AO} {h1 : AH} {ih : AK} {pc len tgt d : Nat} {r : List CI} {ls : AL} {st : List AV} {h : AH} {n : Fin 2} (hx : p.tables.exec = Jvm.exec) (hb : c.code = bytes)  (hdec : decode bytes pc = .ok (.dconst n, 1)) (nx : am_Nx K p l e R s m args below meth c mr o h1 (pc + 1) d ih r) (hrun : am_step ih mr ((pc, .dconst n, len, tgt) :: r) ls st h d = some (o, h1)) : am_G K p l e R s m args below meth c mr o h1 pc ls st h := by
  intro va H locs cells slots lsr hR hS hc hs hL hO
  have hz : n = 0 ∧ ih mr r ls (Sum.inl (Value.double FP.dconst0) :: st) h d = some (o, h1) := by
    have h9 : (bif Nat.beq n.val 0 then ih mr r ls (Sum.inl (Value.double FP.dconst0) :: st) h d else none) = some (o, h1) := hrun
    cases hb9 : Nat.beq n.val 0 with
    | true => rw [hb9] at h9; exact ⟨Fin.ext (Nat.eq_of_beq_eq_true hb9), h9⟩
    | false => rw [hb9] at h9; cases h9
  obtain ⟨rfl, hrun⟩ := hz
  exact lv_dconst0 hx hb hdec (nx _ _ _ hrun va H locs cells slots lsr hR hS hc hs hL (hO.num))
theorem am_s_iload_n {K : AKx} {p : Program} {l : Launch} {e : Env} {R : Room} {s : State} {m : MethodId} {args : Array Value} {below : List Frame} {meth : Method} {c : Code} {bytes : ByteArray} {mr : MR} {o : AO} {h1 : AH} {ih : AK} {pc len tgt d : Nat} {r : List CI} {ls : AL} {st : List AV} {h : AH} {k : Fin 4} (hx : p.tables.exec = Jvm.exec) (hb : c.code = bytes)  (hdec : decode bytes pc = .ok (.iload_n k, 1)) (nx : am_Nx K p l e R s m args below meth c mr o h1 (pc + 1) d ih r) (hrun : am_step ih mr ((pc, .iload_n k, len, tgt) :: r) ls st h d = some (o, h1)) : am_G K p l e R s m args below meth c mr o h1 pc ls st h := by
  intro va H locs cells slots lsr hR hS hc hs hL hO
  have h9 : (match am_get ls k.val with | some (Sum.inl (Value.int x)) => ih mr r ls (Sum.inl (Value.int x) :: st) h d | _ => none) = some (o, h1) := hrun
  split at h9
  · next x hg => exact lv_iload_n hx hb hdec rfl (hL.at hg) (nx _ _ _ h9 va H locs cells slots lsr hR hS hc hs hL (hO.num))
  · cases h9
theorem am_s_iload {K : AKx} {p : Program} {l : Launch} {e : Env} {R : Room} {s : State} {m : MethodId} {args : Array Value} {below : List Frame} {meth : Method} {c : Code} {bytes : ByteArray} {mr : MR} {o : AO} {h1 : AH} {ih : AK} {pc len tgt d : Nat} {r : List CI} {ls : AL} {st : List AV} {h : AH} {k : Nat} (hx : p.tables.exec = Jvm.exec) (hb : c.code = bytes)  (hdec : decode bytes pc = .ok (.iload k, 2)) (nx : am_Nx K p l e R s m args below meth c mr o h1 (pc + 2) d ih r) (hrun : am_step ih mr ((pc, .iload k, len, tgt) :: r) ls st h d = some (o, h1)) : am_G K p l e R s m args below meth c mr o h1 pc ls st h := by
  intro va H locs cells slots lsr hR hS hc hs hL hO
  have h9 : (match am_get ls k with | some (Sum.inl (Value.int x)) => ih mr r ls (Sum.inl (Value.int x) :: st) h d | _ => none) = some (o, h1) := hrun
  split at h9
  · next x hg => exact lv_iload hx hb hdec (hL.at hg) (nx _ _ _ h9 va H locs cells slots lsr hR hS hc hs hL (hO.num))
  · cases h9
theorem am_s_fload_n {K : AKx} {p : Program} {l : Launch} {e : Env} {R : Room} {s : State} {m : MethodId} {args : Array Value} {below : List Frame} {meth : Method} {c : Code} {bytes : ByteArray} {mr : MR} {o : AO} {h1 : AH} {ih : AK} {pc len tgt d : Nat} {r : List CI} {ls : AL} {st : List AV} {h : AH} {k : Fin 4} (hx : p.tables.exec = Jvm.exec) (hb : c.code = bytes)  (hdec : decode bytes pc = .ok (.fload_n k, 1)) (nx : am_Nx K p l e R s m args below meth c mr o h1 (pc + 1) d ih r) (hrun : am_step ih mr ((pc, .fload_n k, len, tgt) :: r) ls st h d = some (o, h1)) : am_G K p l e R s m args below meth c mr o h1 pc ls st h := by
  intro va H locs cells slots lsr hR hS hc hs hL hO
  have h9 : (match am_get ls k.val with | some (Sum.inl (Value.float x)) => ih mr r ls (Sum.inl (Value.float x) :: st) h d | _ => none) = some (o, h1) := hrun
  split at h9
  · next x hg => exact lv_fload_n hx hb hdec rfl (hL.at hg) (nx _ _ _ h9 va H locs cells slots lsr hR hS hc hs hL (hO.num))
  · cases h9
theorem am_s_fload {K : AKx} {p : Program} {l : Launch} {e : Env} {R : Room} {s : State} {m : MethodId} {args : Array Value} {below : List Frame} {meth : Method} {c : Code} {bytes : ByteArray} {mr : MR} {o : AO} {h1 : AH} {ih : AK} {pc len tgt d : Nat} {r : List CI} {ls : AL} {st : List AV} {h : AH} {k : Nat} (hx : p.tables.exec = Jvm.exec) (hb : c.code = bytes)  (hdec : decode bytes pc = .ok (.fload k, 2)) (nx : am_Nx K p l e R s m args below meth c mr o h1 (pc + 2) d ih r) (hrun : am_step ih mr ((pc, .fload k, len, tgt) :: r) ls st h d = some (o, h1)) : am_G K p l e R s m args below meth c mr o h1 pc ls st h := by
  intro va H locs cells slots lsr hR hS hc hs hL hO
  have h9 : (match am_get ls k with | some (Sum.inl (Value.float x)) => ih mr r ls (Sum.inl (Value.float x) :: st) h d | _ => none) = some (o, h1) := hrun
  split at h9
  · next x hg => exact lv_fload hx hb hdec (hL.at hg) (nx _ _ _ h9 va H locs cells slots lsr hR hS hc hs hL (hO.num))
  · cases h9
theorem am_s_dload_n {K : AKx} {p : Program} {l : Launch} {e : Env} {R : Room} {s : State} {m : MethodId} {args : Array Value} {below : List Frame} {meth : Method} {c : Code} {bytes : ByteArray} {mr : MR} {o : AO} {h1 : AH} {ih : AK} {pc len tgt d : Nat} {r : List CI} {ls : AL} {st : List AV} {h : AH} {k : Fin 4} (hx : p.tables.exec = Jvm.exec) (hb : c.code = bytes)  (hdec : decode bytes pc = .ok (.dload_n k, 1)) (nx : am_Nx K p l e R s m args below meth c mr o h1 (pc + 1) d ih r) (hrun : am_step ih mr ((pc, .dload_n k, len, tgt) :: r) ls st h d = some (o, h1)) : am_G K p l e R s m args below meth c mr o h1 pc ls st h := by
  intro va H locs cells slots lsr hR hS hc hs hL hO
  have h9 : (match am_get ls k.val with | some (Sum.inl (Value.double x)) => ih mr r ls (Sum.inl (Value.double x) :: st) h d | _ => none) = some (o, h1) := hrun
  split at h9
  · next x hg => exact lv_dload_n hx hb hdec rfl (hL.at hg) (nx _ _ _ h9 va H locs cells slots lsr hR hS hc hs hL (hO.num))
  · cases h9
theorem am_s_dload {K : AKx} {p : Program} {l : Launch} {e : Env} {R : Room} {s : State} {m : MethodId} {args : Array Value} {below : List Frame} {meth : Method} {c : Code} {bytes : ByteArray} {mr : MR} {o : AO} {h1 : AH} {ih : AK} {pc len tgt d : Nat} {r : List CI} {ls : AL} {st : List AV} {h : AH} {k : Nat} (hx : p.tables.exec = Jvm.exec) (hb : c.code = bytes)  (hdec : decode bytes pc = .ok (.dload k, 2)) (nx : am_Nx K p l e R s m args below meth c mr o h1 (pc + 2) d ih r) (hrun : am_step ih mr ((pc, .dload k, len, tgt) :: r) ls st h d = some (o, h1)) : am_G K p l e R s m args below meth c mr o h1 pc ls st h := by
  intro va H locs cells slots lsr hR hS hc hs hL hO
  have h9 : (match am_get ls k with | some (Sum.inl (Value.double x)) => ih mr r ls (Sum.inl (Value.double x) :: st) h d | _ => none) = some (o, h1) := hrun
  split at h9
  · next x hg => exact lv_dload hx hb hdec (hL.at hg) (nx _ _ _ h9 va H locs cells slots lsr hR hS hc hs hL (hO.num))
  · cases h9
theorem am_s_lload_n {K : AKx} {p : Program} {l : Launch} {e : Env} {R : Room} {s : State} {m : MethodId} {args : Array Value} {below : List Frame} {meth : Method} {c : Code} {bytes : ByteArray} {mr : MR} {o : AO} {h1 : AH} {ih : AK} {pc len tgt d : Nat} {r : List CI} {ls : AL} {st : List AV} {h : AH} {k : Fin 4} (hx : p.tables.exec = Jvm.exec) (hb : c.code = bytes)  (hdec : decode bytes pc = .ok (.lload_n k, 1)) (nx : am_Nx K p l e R s m args below meth c mr o h1 (pc + 1) d ih r) (hrun : am_step ih mr ((pc, .lload_n k, len, tgt) :: r) ls st h d = some (o, h1)) : am_G K p l e R s m args below meth c mr o h1 pc ls st h := by
  intro va H locs cells slots lsr hR hS hc hs hL hO
  have h9 : (match am_get ls k.val with | some (Sum.inl (Value.long x)) => ih mr r ls (Sum.inl (Value.long x) :: st) h d | _ => none) = some (o, h1) := hrun
  split at h9
  · next x hg => exact lv_lload_n hx hb hdec rfl (hL.at hg) (nx _ _ _ h9 va H locs cells slots lsr hR hS hc hs hL (hO.num))
  · cases h9
theorem am_s_lload {K : AKx} {p : Program} {l : Launch} {e : Env} {R : Room} {s : State} {m : MethodId} {args : Array Value} {below : List Frame} {meth : Method} {c : Code} {bytes : ByteArray} {mr : MR} {o : AO} {h1 : AH} {ih : AK} {pc len tgt d : Nat} {r : List CI} {ls : AL} {st : List AV} {h : AH} {k : Nat} (hx : p.tables.exec = Jvm.exec) (hb : c.code = bytes)  (hdec : decode bytes pc = .ok (.lload k, 2)) (nx : am_Nx K p l e R s m args below meth c mr o h1 (pc + 2) d ih r) (hrun : am_step ih mr ((pc, .lload k, len, tgt) :: r) ls st h d = some (o, h1)) : am_G K p l e R s m args below meth c mr o h1 pc ls st h := by
  intro va H locs cells slots lsr hR hS hc hs hL hO
  have h9 : (match am_get ls k with | some (Sum.inl (Value.long x)) => ih mr r ls (Sum.inl (Value.long x) :: st) h d | _ => none) = some (o, h1) := hrun
  split at h9
  · next x hg => exact lv_lload hx hb hdec (hL.at hg) (nx _ _ _ h9 va H locs cells slots lsr hR hS hc hs hL (hO.num))
  · cases h9
theorem am_s_aload_n {K : AKx} {p : Program} {l : Launch} {e : Env} {R : Room} {s : State} {m : MethodId} {args : Array Value} {below : List Frame} {meth : Method} {c : Code} {bytes : ByteArray} {mr : MR} {o : AO} {h1 : AH} {ih : AK} {pc len tgt d : Nat} {r : List CI} {ls : AL} {st : List AV} {h : AH} {k : Fin 4} (hx : p.tables.exec = Jvm.exec) (hb : c.code = bytes)  (hdec : decode bytes pc = .ok (.aload_n k, 1)) (nx : am_Nx K p l e R s m args below meth c mr o h1 (pc + 1) d ih r) (hrun : am_step ih mr ((pc, .aload_n k, len, tgt) :: r) ls st h d = some (o, h1)) : am_G K p l e R s m args below meth c mr o h1 pc ls st h := by
  intro va H locs cells slots lsr hR hS hc hs hL hO
  have h9 : (match am_get ls k.val with | some (Sum.inr a) => ih mr r ls (Sum.inr a :: st) h d | some (Sum.inl Value.null) => ih mr r ls (Sum.inl Value.null :: st) h d | _ => none) = some (o, h1) := hrun
  split at h9
  · next a hg => exact lv_aload_n hx hb hdec rfl (hL.at hg) (nx _ _ _ h9 va H locs cells slots lsr hR hS hc hs hL (hO.ld hg))
  · next hg => exact lv_aload_nN hx hb hdec rfl (hL.at hg) (nx _ _ _ h9 va H locs cells slots lsr hR hS hc hs hL (hO.num))
  · cases h9
theorem am_s_aload {K : AKx} {p : Program} {l : Launch} {e : Env} {R : Room} {s : State} {m : MethodId} {args : Array Value} {below : List Frame} {meth : Method} {c : Code} {bytes : ByteArray} {mr : MR} {o : AO} {h1 : AH} {ih : AK} {pc len tgt d : Nat} {r : List CI} {ls : AL} {st : List AV} {h : AH} {k : Nat} (hx : p.tables.exec = Jvm.exec) (hb : c.code = bytes)  (hdec : decode bytes pc = .ok (.aload k, 2)) (nx : am_Nx K p l e R s m args below meth c mr o h1 (pc + 2) d ih r) (hrun : am_step ih mr ((pc, .aload k, len, tgt) :: r) ls st h d = some (o, h1)) : am_G K p l e R s m args below meth c mr o h1 pc ls st h := by
  intro va H locs cells slots lsr hR hS hc hs hL hO
  have h9 : (match am_get ls k with | some (Sum.inr a) => ih mr r ls (Sum.inr a :: st) h d | some (Sum.inl Value.null) => ih mr r ls (Sum.inl Value.null :: st) h d | _ => none) = some (o, h1) := hrun
  split at h9
  · next a hg => exact lv_aload hx hb hdec (hL.at hg) (nx _ _ _ h9 va H locs cells slots lsr hR hS hc hs hL (hO.ld hg))
  · next hg => exact lv_aloadN hx hb hdec (hL.at hg) (nx _ _ _ h9 va H locs cells slots lsr hR hS hc hs hL (hO.num))
  · cases h9
theorem am_s_istore_n {K : AKx} {p : Program} {l : Launch} {e : Env} {R : Room} {s : State} {m : MethodId} {args : Array Value} {below : List Frame} {meth : Method} {c : Code} {bytes : ByteArray} {mr : MR} {o : AO} {h1 : AH} {ih : AK} {pc len tgt d : Nat} {r : List CI} {ls : AL} {st : List AV} {h : AH} {k : Fin 4} (hx : p.tables.exec = Jvm.exec) (hb : c.code = bytes) (hk : k.val < mr.2.1) (hdec : decode bytes pc = .ok (.istore_n k, 1)) (nx : am_Nx K p l e R s m args below meth c mr o h1 (pc + 1) d ih r) (hrun : am_step ih mr ((pc, .istore_n k, len, tgt) :: r) ls st h d = some (o, h1)) : am_G K p l e R s m args below meth c mr o h1 pc ls st h := by
  intro va H locs cells slots lsr hR hS hc hs hL hO
  have h9 : (match (generalizing := false) st with | Sum.inl (Value.int x) :: t => ih mr r (am_put ls k.val (Sum.inl (Value.int x))) t h d | _ => none) = some (o, h1) := hrun
  split at h9
  · next x t => exact lv_istore_n hx hb hdec rfl hL.has hk rfl (fun lsr' hl' => nx _ _ _ h9 va H locs cells slots lsr' hR hS hc hs (am_LR.put1 (v := Sum.inl (Value.int x)) rfl hl') (hO.pop.put trivial))
  · cases h9
theorem am_s_istore {K : AKx} {p : Program} {l : Launch} {e : Env} {R : Room} {s : State} {m : MethodId} {args : Array Value} {below : List Frame} {meth : Method} {c : Code} {bytes : ByteArray} {mr : MR} {o : AO} {h1 : AH} {ih : AK} {pc len tgt d : Nat} {r : List CI} {ls : AL} {st : List AV} {h : AH} {k : Nat} (hx : p.tables.exec = Jvm.exec) (hb : c.code = bytes) (hk : k < mr.2.1) (hdec : decode bytes pc = .ok (.istore k, 2)) (nx : am_Nx K p l e R s m args below meth c mr o h1 (pc + 2) d ih r) (hrun : am_step ih mr ((pc, .istore k, len, tgt) :: r) ls st h d = some (o, h1)) : am_G K p l e R s m args below meth c mr o h1 pc ls st h := by
  intro va H locs cells slots lsr hR hS hc hs hL hO
  have h9 : (match (generalizing := false) st with | Sum.inl (Value.int x) :: t => ih mr r (am_put ls k (Sum.inl (Value.int x))) t h d | _ => none) = some (o, h1) := hrun
  split at h9
  · next x t => exact lv_istore hx hb hdec hL.has hk rfl (fun lsr' hl' => nx _ _ _ h9 va H locs cells slots lsr' hR hS hc hs (am_LR.put1 (v := Sum.inl (Value.int x)) rfl hl') (hO.pop.put trivial))
  · cases h9
theorem am_s_fstore_n {K : AKx} {p : Program} {l : Launch} {e : Env} {R : Room} {s : State} {m : MethodId} {args : Array Value} {below : List Frame} {meth : Method} {c : Code} {bytes : ByteArray} {mr : MR} {o : AO} {h1 : AH} {ih : AK} {pc len tgt d : Nat} {r : List CI} {ls : AL} {st : List AV} {h : AH} {k : Fin 4} (hx : p.tables.exec = Jvm.exec) (hb : c.code = bytes) (hk : k.val < mr.2.1) (hdec : decode bytes pc = .ok (.fstore_n k, 1)) (nx : am_Nx K p l e R s m args below meth c mr o h1 (pc + 1) d ih r) (hrun : am_step ih mr ((pc, .fstore_n k, len, tgt) :: r) ls st h d = some (o, h1)) : am_G K p l e R s m args below meth c mr o h1 pc ls st h := by
  intro va H locs cells slots lsr hR hS hc hs hL hO
  have h9 : (match (generalizing := false) st with | Sum.inl (Value.float x) :: t => ih mr r (am_put ls k.val (Sum.inl (Value.float x))) t h d | _ => none) = some (o, h1) := hrun
  split at h9
  · next x t => exact lv_fstore_n hx hb hdec rfl hL.has hk rfl (fun lsr' hl' => nx _ _ _ h9 va H locs cells slots lsr' hR hS hc hs (am_LR.put1 (v := Sum.inl (Value.float x)) rfl hl') (hO.pop.put trivial))
  · cases h9
theorem am_s_fstore {K : AKx} {p : Program} {l : Launch} {e : Env} {R : Room} {s : State} {m : MethodId} {args : Array Value} {below : List Frame} {meth : Method} {c : Code} {bytes : ByteArray} {mr : MR} {o : AO} {h1 : AH} {ih : AK} {pc len tgt d : Nat} {r : List CI} {ls : AL} {st : List AV} {h : AH} {k : Nat} (hx : p.tables.exec = Jvm.exec) (hb : c.code = bytes) (hk : k < mr.2.1) (hdec : decode bytes pc = .ok (.fstore k, 2)) (nx : am_Nx K p l e R s m args below meth c mr o h1 (pc + 2) d ih r) (hrun : am_step ih mr ((pc, .fstore k, len, tgt) :: r) ls st h d = some (o, h1)) : am_G K p l e R s m args below meth c mr o h1 pc ls st h := by
  intro va H locs cells slots lsr hR hS hc hs hL hO
  have h9 : (match (generalizing := false) st with | Sum.inl (Value.float x) :: t => ih mr r (am_put ls k (Sum.inl (Value.float x))) t h d | _ => none) = some (o, h1) := hrun
  split at h9
  · next x t => exact lv_fstore hx hb hdec hL.has hk rfl (fun lsr' hl' => nx _ _ _ h9 va H locs cells slots lsr' hR hS hc hs (am_LR.put1 (v := Sum.inl (Value.float x)) rfl hl') (hO.pop.put trivial))
  · cases h9
theorem am_s_dstore_n {K : AKx} {p : Program} {l : Launch} {e : Env} {R : Room} {s : State} {m : MethodId} {args : Array Value} {below : List Frame} {meth : Method} {c : Code} {bytes : ByteArray} {mr : MR} {o : AO} {h1 : AH} {ih : AK} {pc len tgt d : Nat} {r : List CI} {ls : AL} {st : List AV} {h : AH} {k : Fin 4} (hx : p.tables.exec = Jvm.exec) (hb : c.code = bytes) (hk : k.val + 1 < mr.2.1) (hdec : decode bytes pc = .ok (.dstore_n k, 1)) (nx : am_Nx K p l e R s m args below meth c mr o h1 (pc + 1) d ih r) (hrun : am_step ih mr ((pc, .dstore_n k, len, tgt) :: r) ls st h d = some (o, h1)) : am_G K p l e R s m args below meth c mr o h1 pc ls st h := by
  intro va H locs cells slots lsr hR hS hc hs hL hO
  have h9 : (match (generalizing := false) st with | Sum.inl (Value.double x) :: t => ih mr r (am_put ls k.val (Sum.inl (Value.double x))) t h d | _ => none) = some (o, h1) := hrun
  split at h9
  · next x t => exact lv_dstore_n hx hb hdec rfl hL.has hk rfl (fun lsr' hl' => nx _ _ _ h9 va H locs cells slots lsr' hR hS hc hs (am_LR.put2 (v := Sum.inl (Value.double x)) rfl rfl hl') (hO.pop.put trivial))
  · cases h9
theorem am_s_dstore {K : AKx} {p : Program} {l : Launch} {e : Env} {R : Room} {s : State} {m : MethodId} {args : Array Value} {below : List Frame} {meth : Method} {c : Code} {bytes : ByteArray} {mr : MR} {o : AO} {h1 : AH} {ih : AK} {pc len tgt d : Nat} {r : List CI} {ls : AL} {st : List AV} {h : AH} {k : Nat} (hx : p.tables.exec = Jvm.exec) (hb : c.code = bytes) (hk : k + 1 < mr.2.1) (hdec : decode bytes pc = .ok (.dstore k, 2)) (nx : am_Nx K p l e R s m args below meth c mr o h1 (pc + 2) d ih r) (hrun : am_step ih mr ((pc, .dstore k, len, tgt) :: r) ls st h d = some (o, h1)) : am_G K p l e R s m args below meth c mr o h1 pc ls st h := by
  intro va H locs cells slots lsr hR hS hc hs hL hO
  have h9 : (match (generalizing := false) st with | Sum.inl (Value.double x) :: t => ih mr r (am_put ls k (Sum.inl (Value.double x))) t h d | _ => none) = some (o, h1) := hrun
  split at h9
  · next x t => exact lv_dstore hx hb hdec hL.has hk rfl (fun lsr' hl' => nx _ _ _ h9 va H locs cells slots lsr' hR hS hc hs (am_LR.put2 (v := Sum.inl (Value.double x)) rfl rfl hl') (hO.pop.put trivial))
  · cases h9
theorem am_s_lstore_n {K : AKx} {p : Program} {l : Launch} {e : Env} {R : Room} {s : State} {m : MethodId} {args : Array Value} {below : List Frame} {meth : Method} {c : Code} {bytes : ByteArray} {mr : MR} {o : AO} {h1 : AH} {ih : AK} {pc len tgt d : Nat} {r : List CI} {ls : AL} {st : List AV} {h : AH} {k : Fin 4} (hx : p.tables.exec = Jvm.exec) (hb : c.code = bytes) (hk : k.val + 1 < mr.2.1) (hdec : decode bytes pc = .ok (.lstore_n k, 1)) (nx : am_Nx K p l e R s m args below meth c mr o h1 (pc + 1) d ih r) (hrun : am_step ih mr ((pc, .lstore_n k, len, tgt) :: r) ls st h d = some (o, h1)) : am_G K p l e R s m args below meth c mr o h1 pc ls st h := by
  intro va H locs cells slots lsr hR hS hc hs hL hO
  have h9 : (match (generalizing := false) st with | Sum.inl (Value.long x) :: t => ih mr r (am_put ls k.val (Sum.inl (Value.long x))) t h d | _ => none) = some (o, h1) := hrun
  split at h9
  · next x t => exact lv_lstore_n hx hb hdec rfl hL.has hk rfl (fun lsr' hl' => nx _ _ _ h9 va H locs cells slots lsr' hR hS hc hs (am_LR.put2 (v := Sum.inl (Value.long x)) rfl rfl hl') (hO.pop.put trivial))
  · cases h9
theorem am_s_lstore {K : AKx} {p : Program} {l : Launch} {e : Env} {R : Room} {s : State} {m : MethodId} {args : Array Value} {below : List Frame} {meth : Method} {c : Code} {bytes : ByteArray} {mr : MR} {o : AO} {h1 : AH} {ih : AK} {pc len tgt d : Nat} {r : List CI} {ls : AL} {st : List AV} {h : AH} {k : Nat} (hx : p.tables.exec = Jvm.exec) (hb : c.code = bytes) (hk : k + 1 < mr.2.1) (hdec : decode bytes pc = .ok (.lstore k, 2)) (nx : am_Nx K p l e R s m args below meth c mr o h1 (pc + 2) d ih r) (hrun : am_step ih mr ((pc, .lstore k, len, tgt) :: r) ls st h d = some (o, h1)) : am_G K p l e R s m args below meth c mr o h1 pc ls st h := by
  intro va H locs cells slots lsr hR hS hc hs hL hO
  have h9 : (match (generalizing := false) st with | Sum.inl (Value.long x) :: t => ih mr r (am_put ls k (Sum.inl (Value.long x))) t h d | _ => none) = some (o, h1) := hrun
  split at h9
  · next x t => exact lv_lstore hx hb hdec hL.has hk rfl (fun lsr' hl' => nx _ _ _ h9 va H locs cells slots lsr' hR hS hc hs (am_LR.put2 (v := Sum.inl (Value.long x)) rfl rfl hl') (hO.pop.put trivial))
  · cases h9
theorem am_s_astore_n {K : AKx} {p : Program} {l : Launch} {e : Env} {R : Room} {s : State} {m : MethodId} {args : Array Value} {below : List Frame} {meth : Method} {c : Code} {bytes : ByteArray} {mr : MR} {o : AO} {h1 : AH} {ih : AK} {pc len tgt d : Nat} {r : List CI} {ls : AL} {st : List AV} {h : AH} {k : Fin 4} (hx : p.tables.exec = Jvm.exec) (hb : c.code = bytes) (hk : k.val < mr.2.1) (hdec : decode bytes pc = .ok (.astore_n k, 1)) (nx : am_Nx K p l e R s m args below meth c mr o h1 (pc + 1) d ih r) (hrun : am_step ih mr ((pc, .astore_n k, len, tgt) :: r) ls st h d = some (o, h1)) : am_G K p l e R s m args below meth c mr o h1 pc ls st h := by
  intro va H locs cells slots lsr hR hS hc hs hL hO
  have h9 : (match (generalizing := false) st with | Sum.inr a :: t => ih mr r (am_put ls k.val (Sum.inr a)) t h d | Sum.inl Value.null :: t => ih mr r (am_put ls k.val (Sum.inl Value.null)) t h d | _ => none) = some (o, h1) := hrun
  split at h9
  · next a t => exact lv_astore_n hx hb hdec rfl hL.has hk rfl (fun lsr' hl' => nx _ _ _ h9 va H locs cells slots lsr' hR hS hc hs (am_LR.put1 (v := Sum.inr a) rfl hl') (hO.pop.put hO.top))
  · next t => exact lv_astore_nN hx hb hdec rfl hL.has hk rfl (fun lsr' hl' => nx _ _ _ h9 va H locs cells slots lsr' hR hS hc hs (am_LR.put1 (v := Sum.inl Value.null) rfl hl') (hO.pop.put trivial))
  · cases h9
theorem am_s_astore {K : AKx} {p : Program} {l : Launch} {e : Env} {R : Room} {s : State} {m : MethodId} {args : Array Value} {below : List Frame} {meth : Method} {c : Code} {bytes : ByteArray} {mr : MR} {o : AO} {h1 : AH} {ih : AK} {pc len tgt d : Nat} {r : List CI} {ls : AL} {st : List AV} {h : AH} {k : Nat} (hx : p.tables.exec = Jvm.exec) (hb : c.code = bytes) (hk : k < mr.2.1) (hdec : decode bytes pc = .ok (.astore k, 2)) (nx : am_Nx K p l e R s m args below meth c mr o h1 (pc + 2) d ih r) (hrun : am_step ih mr ((pc, .astore k, len, tgt) :: r) ls st h d = some (o, h1)) : am_G K p l e R s m args below meth c mr o h1 pc ls st h := by
  intro va H locs cells slots lsr hR hS hc hs hL hO
  have h9 : (match (generalizing := false) st with | Sum.inr a :: t => ih mr r (am_put ls k (Sum.inr a)) t h d | Sum.inl Value.null :: t => ih mr r (am_put ls k (Sum.inl Value.null)) t h d | _ => none) = some (o, h1) := hrun
  split at h9
  · next a t => exact lv_astore hx hb hdec hL.has hk rfl (fun lsr' hl' => nx _ _ _ h9 va H locs cells slots lsr' hR hS hc hs (am_LR.put1 (v := Sum.inr a) rfl hl') (hO.pop.put hO.top))
  · next t => exact lv_astoreN hx hb hdec hL.has hk rfl (fun lsr' hl' => nx _ _ _ h9 va H locs cells slots lsr' hR hS hc hs (am_LR.put1 (v := Sum.inl Value.null) rfl hl') (hO.pop.put trivial))
  · cases h9
theorem am_s_iinc {K : AKx} {p : Program} {l : Launch} {e : Env} {R : Room} {s : State} {m : MethodId} {args : Array Value} {below : List Frame} {meth : Method} {c : Code} {bytes : ByteArray} {mr : MR} {o : AO} {h1 : AH} {ih : AK} {pc len tgt d : Nat} {r : List CI} {ls : AL} {st : List AV} {h : AH} {k : Nat} {n : Int} (hx : p.tables.exec = Jvm.exec) (hb : c.code = bytes) (hk : k < mr.2.1) (hdec : decode bytes pc = .ok (.iinc k n, 3)) (nx : am_Nx K p l e R s m args below meth c mr o h1 (pc + 3) d ih r) (hrun : am_step ih mr ((pc, .iinc k n, len, tgt) :: r) ls st h d = some (o, h1)) : am_G K p l e R s m args below meth c mr o h1 pc ls st h := by
  intro va H locs cells slots lsr hR hS hc hs hL hO
  have h9 : (match am_get ls k with | some (Sum.inl (Value.int x)) => ih mr r (am_put ls k (vi (x + Int32.ofInt n))) st h d | _ => none) = some (o, h1) := hrun
  split at h9
  · next x hg =>
    obtain ⟨j, hj⟩ := List.getElem?_of_mem (am_al_in (K := K) (va := va) (am_get_at hg))
    exact lv_iinc hx hb hdec hL.has hj rfl hk rfl (fun lsr' hl' => nx _ _ _ h9 va H locs cells slots lsr' hR hS hc hs (am_LR.put1 (v := vi (x + Int32.ofInt n)) rfl hl') (hO.put trivial))
  · cases h9
theorem am_cat1 {K : AKx} {va : Nat → Nat} {v : AV} (h : am_cat2 v = false) : (am_rv K va v).category = 1 := by
  rw [am_cat, h]; rfl
theorem am_s_dup {K : AKx} {p : Program} {l : Launch} {e : Env} {R : Room} {s : State} {m : MethodId} {args : Array Value} {below : List Frame} {meth : Method} {c : Code} {bytes : ByteArray} {mr : MR} {o : AO} {h1 : AH} {ih : AK} {pc len tgt d : Nat} {r : List CI} {ls : AL} {st : List AV} {h : AH}  (hx : p.tables.exec = Jvm.exec) (hb : c.code = bytes)  (hdec : decode bytes pc = .ok (.dup, 1)) (nx : am_Nx K p l e R s m args below meth c mr o h1 (pc + 1) d ih r) (hrun : am_step ih mr ((pc, .dup, len, tgt) :: r) ls st h d = some (o, h1)) : am_G K p l e R s m args below meth c mr o h1 pc ls st h := by
  intro va H locs cells slots lsr hR hS hc hs hL hO
  have h9 : (match (generalizing := false) st with | v :: t => bif am_cat2 v then none else ih mr r ls (v :: v :: t) h d | _ => none) = some (o, h1) := hrun
  split at h9
  · next v t =>
    cases hv : (am_cat2 v) with
    | true => rw [hv] at h9; cases h9
    | false =>
      rw [hv] at h9
      exact lv_dup hx hb hdec (am_cat1 hv) (nx _ _ _ h9 va H locs cells slots lsr hR hS hc hs hL (hO.push hO.top))
  · cases h9
theorem am_s_pop {K : AKx} {p : Program} {l : Launch} {e : Env} {R : Room} {s : State} {m : MethodId} {args : Array Value} {below : List Frame} {meth : Method} {c : Code} {bytes : ByteArray} {mr : MR} {o : AO} {h1 : AH} {ih : AK} {pc len tgt d : Nat} {r : List CI} {ls : AL} {st : List AV} {h : AH}  (hx : p.tables.exec = Jvm.exec) (hb : c.code = bytes)  (hdec : decode bytes pc = .ok (.pop, 1)) (nx : am_Nx K p l e R s m args below meth c mr o h1 (pc + 1) d ih r) (hrun : am_step ih mr ((pc, .pop, len, tgt) :: r) ls st h d = some (o, h1)) : am_G K p l e R s m args below meth c mr o h1 pc ls st h := by
  intro va H locs cells slots lsr hR hS hc hs hL hO
  have h9 : (match (generalizing := false) st with | v :: t => bif am_cat2 v then none else ih mr r ls (t) h d | _ => none) = some (o, h1) := hrun
  split at h9
  · next v t =>
    cases hv : (am_cat2 v) with
    | true => rw [hv] at h9; cases h9
    | false =>
      rw [hv] at h9
      exact lv_pop hx hb hdec (am_cat1 hv) (nx _ _ _ h9 va H locs cells slots lsr hR hS hc hs hL (hO.pop))
  · cases h9
theorem am_s_dup_x1 {K : AKx} {p : Program} {l : Launch} {e : Env} {R : Room} {s : State} {m : MethodId} {args : Array Value} {below : List Frame} {meth : Method} {c : Code} {bytes : ByteArray} {mr : MR} {o : AO} {h1 : AH} {ih : AK} {pc len tgt d : Nat} {r : List CI} {ls : AL} {st : List AV} {h : AH}  (hx : p.tables.exec = Jvm.exec) (hb : c.code = bytes)  (hdec : decode bytes pc = .ok (.dup_x1, 1)) (nx : am_Nx K p l e R s m args below meth c mr o h1 (pc + 1) d ih r) (hrun : am_step ih mr ((pc, .dup_x1, len, tgt) :: r) ls st h d = some (o, h1)) : am_G K p l e R s m args below meth c mr o h1 pc ls st h := by
  intro va H locs cells slots lsr hR hS hc hs hL hO
  have h9 : (match (generalizing := false) st with | v :: w :: t => bif am_cat2 v || am_cat2 w then none else ih mr r ls (v :: w :: v :: t) h d | _ => none) = some (o, h1) := hrun
  split at h9
  · next v w t =>
    cases hv : (am_cat2 v || am_cat2 w) with
    | true => rw [hv] at h9; cases h9
    | false =>
      rw [hv] at h9
      have hv := Bool.or_eq_false_iff.mp hv
      exact lv_dup_x1 hx hb hdec (am_cat1 hv.1) (am_cat1 hv.2) (nx _ _ _ h9 va H locs cells slots lsr hR hS hc hs hL (((hO.pop.pop.push hO.top).push hO.pop.top).push hO.top))
  · cases h9
theorem am_s_dup2 {K : AKx} {p : Program} {l : Launch} {e : Env} {R : Room} {s : State} {m : MethodId} {args : Array Value} {below : List Frame} {meth : Method} {c : Code} {bytes : ByteArray} {mr : MR} {o : AO} {h1 : AH} {ih : AK} {pc len tgt d : Nat} {r : List CI} {ls : AL} {st : List AV} {h : AH}  (hx : p.tables.exec = Jvm.exec) (hb : c.code = bytes)  (hdec : decode bytes pc = .ok (.dup2, 1)) (nx : am_Nx K p l e R s m args below meth c mr o h1 (pc + 1) d ih r) (hrun : am_step ih mr ((pc, .dup2, len, tgt) :: r) ls st h d = some (o, h1)) : am_G K p l e R s m args below meth c mr o h1 pc ls st h := by
  intro va H locs cells slots lsr hR hS hc hs hL hO
  have h9 : (match (generalizing := false) st with | v :: w :: t => bif am_cat2 v || am_cat2 w then none else ih mr r ls (v :: w :: v :: w :: t) h d | _ => none) = some (o, h1) := hrun
  split at h9
  · next v w t =>
    cases hv : (am_cat2 v || am_cat2 w) with
    | true => rw [hv] at h9; cases h9
    | false =>
      rw [hv] at h9
      have hv := Bool.or_eq_false_iff.mp hv
      exact lv_dup2_11 hx hb hdec (am_cat1 hv.1) (am_cat1 hv.2) (nx _ _ _ h9 va H locs cells slots lsr hR hS hc hs hL ((hO.push hO.pop.top).push hO.top))
  · cases h9
theorem am_s_iadd {K : AKx} {p : Program} {l : Launch} {e : Env} {R : Room} {s : State} {m : MethodId} {args : Array Value} {below : List Frame} {meth : Method} {c : Code} {bytes : ByteArray} {mr : MR} {o : AO} {h1 : AH} {ih : AK} {pc len tgt d : Nat} {r : List CI} {ls : AL} {st : List AV} {h : AH}  (hx : p.tables.exec = Jvm.exec) (hb : c.code = bytes)  (hdec : decode bytes pc = .ok (.iadd, 1)) (nx : am_Nx K p l e R s m args below meth c mr o h1 (pc + 1) d ih r) (hrun : am_step ih mr ((pc, .iadd, len, tgt) :: r) ls st h d = some (o, h1)) : am_G K p l e R s m args below meth c mr o h1 pc ls st h := by
  intro va H locs cells slots lsr hR hS hc hs hL hO
  have h9 : (match (generalizing := false) st with | Sum.inl (Value.int y) :: Sum.inl (Value.int x) :: t => ih mr r ls (vi (x + y) :: t) h d | _ => none) = some (o, h1) := hrun
  split at h9
  · exact lv_iadd hx hb hdec (nx _ _ _ h9 va H locs cells slots lsr hR hS hc hs hL (hO.pop.pop.num))
  · cases h9
theorem am_s_isub {K : AKx} {p : Program} {l : Launch} {e : Env} {R : Room} {s : State} {m : MethodId} {args : Array Value} {below : List Frame} {meth : Method} {c : Code} {bytes : ByteArray} {mr : MR} {o : AO} {h1 : AH} {ih : AK} {pc len tgt d : Nat} {r : List CI} {ls : AL} {st : List AV} {h : AH}  (hx : p.tables.exec = Jvm.exec) (hb : c.code = bytes)  (hdec : decode bytes pc = .ok (.isub, 1)) (nx : am_Nx K p l e R s m args below meth c mr o h1 (pc + 1) d ih r) (hrun : am_step ih mr ((pc, .isub, len, tgt) :: r) ls st h d = some (o, h1)) : am_G K p l e R s m args below meth c mr o h1 pc ls st h := by
  intro va H locs cells slots lsr hR hS hc hs hL hO
  have h9 : (match (generalizing := false) st with | Sum.inl (Value.int y) :: Sum.inl (Value.int x) :: t => ih mr r ls (vi (x - y) :: t) h d | _ => none) = some (o, h1) := hrun
  split at h9
  · exact lv_isub hx hb hdec (nx _ _ _ h9 va H locs cells slots lsr hR hS hc hs hL (hO.pop.pop.num))
  · cases h9
theorem am_s_imul {K : AKx} {p : Program} {l : Launch} {e : Env} {R : Room} {s : State} {m : MethodId} {args : Array Value} {below : List Frame} {meth : Method} {c : Code} {bytes : ByteArray} {mr : MR} {o : AO} {h1 : AH} {ih : AK} {pc len tgt d : Nat} {r : List CI} {ls : AL} {st : List AV} {h : AH}  (hx : p.tables.exec = Jvm.exec) (hb : c.code = bytes)  (hdec : decode bytes pc = .ok (.imul, 1)) (nx : am_Nx K p l e R s m args below meth c mr o h1 (pc + 1) d ih r) (hrun : am_step ih mr ((pc, .imul, len, tgt) :: r) ls st h d = some (o, h1)) : am_G K p l e R s m args below meth c mr o h1 pc ls st h := by
  intro va H locs cells slots lsr hR hS hc hs hL hO
  have h9 : (match (generalizing := false) st with | Sum.inl (Value.int y) :: Sum.inl (Value.int x) :: t => ih mr r ls (vi (x * y) :: t) h d | _ => none) = some (o, h1) := hrun
  split at h9
  · exact lv_imul hx hb hdec (nx _ _ _ h9 va H locs cells slots lsr hR hS hc hs hL (hO.pop.pop.num))
  · cases h9
theorem am_s_iand {K : AKx} {p : Program} {l : Launch} {e : Env} {R : Room} {s : State} {m : MethodId} {args : Array Value} {below : List Frame} {meth : Method} {c : Code} {bytes : ByteArray} {mr : MR} {o : AO} {h1 : AH} {ih : AK} {pc len tgt d : Nat} {r : List CI} {ls : AL} {st : List AV} {h : AH}  (hx : p.tables.exec = Jvm.exec) (hb : c.code = bytes)  (hdec : decode bytes pc = .ok (.iand, 1)) (nx : am_Nx K p l e R s m args below meth c mr o h1 (pc + 1) d ih r) (hrun : am_step ih mr ((pc, .iand, len, tgt) :: r) ls st h d = some (o, h1)) : am_G K p l e R s m args below meth c mr o h1 pc ls st h := by
  intro va H locs cells slots lsr hR hS hc hs hL hO
  have h9 : (match (generalizing := false) st with | Sum.inl (Value.int y) :: Sum.inl (Value.int x) :: t => ih mr r ls (vi (x &&& y) :: t) h d | _ => none) = some (o, h1) := hrun
  split at h9
  · exact lv_iand hx hb hdec (nx _ _ _ h9 va H locs cells slots lsr hR hS hc hs hL (hO.pop.pop.num))
  · cases h9
theorem am_s_ior {K : AKx} {p : Program} {l : Launch} {e : Env} {R : Room} {s : State} {m : MethodId} {args : Array Value} {below : List Frame} {meth : Method} {c : Code} {bytes : ByteArray} {mr : MR} {o : AO} {h1 : AH} {ih : AK} {pc len tgt d : Nat} {r : List CI} {ls : AL} {st : List AV} {h : AH}  (hx : p.tables.exec = Jvm.exec) (hb : c.code = bytes)  (hdec : decode bytes pc = .ok (.ior, 1)) (nx : am_Nx K p l e R s m args below meth c mr o h1 (pc + 1) d ih r) (hrun : am_step ih mr ((pc, .ior, len, tgt) :: r) ls st h d = some (o, h1)) : am_G K p l e R s m args below meth c mr o h1 pc ls st h := by
  intro va H locs cells slots lsr hR hS hc hs hL hO
  have h9 : (match (generalizing := false) st with | Sum.inl (Value.int y) :: Sum.inl (Value.int x) :: t => ih mr r ls (vi (x ||| y) :: t) h d | _ => none) = some (o, h1) := hrun
  split at h9
  · exact lv_ior hx hb hdec (nx _ _ _ h9 va H locs cells slots lsr hR hS hc hs hL (hO.pop.pop.num))
  · cases h9
theorem am_s_ishl {K : AKx} {p : Program} {l : Launch} {e : Env} {R : Room} {s : State} {m : MethodId} {args : Array Value} {below : List Frame} {meth : Method} {c : Code} {bytes : ByteArray} {mr : MR} {o : AO} {h1 : AH} {ih : AK} {pc len tgt d : Nat} {r : List CI} {ls : AL} {st : List AV} {h : AH}  (hx : p.tables.exec = Jvm.exec) (hb : c.code = bytes)  (hdec : decode bytes pc = .ok (.ishl, 1)) (nx : am_Nx K p l e R s m args below meth c mr o h1 (pc + 1) d ih r) (hrun : am_step ih mr ((pc, .ishl, len, tgt) :: r) ls st h d = some (o, h1)) : am_G K p l e R s m args below meth c mr o h1 pc ls st h := by
  intro va H locs cells slots lsr hR hS hc hs hL hO
  have h9 : (match (generalizing := false) st with | Sum.inl (Value.int y) :: Sum.inl (Value.int x) :: t => ih mr r ls (vi (x <<< (y &&& 31)) :: t) h d | _ => none) = some (o, h1) := hrun
  split at h9
  · exact lv_ishl hx hb hdec (nx _ _ _ h9 va H locs cells slots lsr hR hS hc hs hL (hO.pop.pop.num))
  · cases h9
theorem am_s_ishr {K : AKx} {p : Program} {l : Launch} {e : Env} {R : Room} {s : State} {m : MethodId} {args : Array Value} {below : List Frame} {meth : Method} {c : Code} {bytes : ByteArray} {mr : MR} {o : AO} {h1 : AH} {ih : AK} {pc len tgt d : Nat} {r : List CI} {ls : AL} {st : List AV} {h : AH}  (hx : p.tables.exec = Jvm.exec) (hb : c.code = bytes)  (hdec : decode bytes pc = .ok (.ishr, 1)) (nx : am_Nx K p l e R s m args below meth c mr o h1 (pc + 1) d ih r) (hrun : am_step ih mr ((pc, .ishr, len, tgt) :: r) ls st h d = some (o, h1)) : am_G K p l e R s m args below meth c mr o h1 pc ls st h := by
  intro va H locs cells slots lsr hR hS hc hs hL hO
  have h9 : (match (generalizing := false) st with | Sum.inl (Value.int y) :: Sum.inl (Value.int x) :: t => ih mr r ls (vi (x >>> (y &&& 31)) :: t) h d | _ => none) = some (o, h1) := hrun
  split at h9
  · exact lv_ishr hx hb hdec (nx _ _ _ h9 va H locs cells slots lsr hR hS hc hs hL (hO.pop.pop.num))
  · cases h9
theorem am_s_iushr {K : AKx} {p : Program} {l : Launch} {e : Env} {R : Room} {s : State} {m : MethodId} {args : Array Value} {below : List Frame} {meth : Method} {c : Code} {bytes : ByteArray} {mr : MR} {o : AO} {h1 : AH} {ih : AK} {pc len tgt d : Nat} {r : List CI} {ls : AL} {st : List AV} {h : AH}  (hx : p.tables.exec = Jvm.exec) (hb : c.code = bytes)  (hdec : decode bytes pc = .ok (.iushr, 1)) (nx : am_Nx K p l e R s m args below meth c mr o h1 (pc + 1) d ih r) (hrun : am_step ih mr ((pc, .iushr, len, tgt) :: r) ls st h d = some (o, h1)) : am_G K p l e R s m args below meth c mr o h1 pc ls st h := by
  intro va H locs cells slots lsr hR hS hc hs hL hO
  have h9 : (match (generalizing := false) st with | Sum.inl (Value.int y) :: Sum.inl (Value.int x) :: t => ih mr r ls (vi ((x.toUInt32 >>> (y.toUInt32 &&& Int32.toUInt32 31)).toInt32) :: t) h d | _ => none) = some (o, h1) := hrun
  split at h9
  · exact lv_iushr hx hb hdec rfl (nx _ _ _ h9 va H locs cells slots lsr hR hS hc hs hL (hO.pop.pop.num))
  · cases h9
theorem am_s_idiv {K : AKx} {p : Program} {l : Launch} {e : Env} {R : Room} {s : State} {m : MethodId} {args : Array Value} {below : List Frame} {meth : Method} {c : Code} {bytes : ByteArray} {mr : MR} {o : AO} {h1 : AH} {ih : AK} {pc len tgt d : Nat} {r : List CI} {ls : AL} {st : List AV} {h : AH}  (hx : p.tables.exec = Jvm.exec) (hb : c.code = bytes)  (hdec : decode bytes pc = .ok (.idiv, 1)) (nx : am_Nx K p l e R s m args below meth c mr o h1 (pc + 1) d ih r) (hrun : am_step ih mr ((pc, .idiv, len, tgt) :: r) ls st h d = some (o, h1)) : am_G K p l e R s m args below meth c mr o h1 pc ls st h := by
  intro va H locs cells slots lsr hR hS hc hs hL hO
  have h9 : (match (generalizing := false) st with | Sum.inl (Value.int y) :: Sum.inl (Value.int x) :: t => if y = 0 then none else ih mr r ls (vi (x / y) :: t) h d | _ => none) = some (o, h1) := hrun
  split at h9
  · split at h9
    · cases h9
    · next hy => exact lv_idiv hx hb hdec hy (nx _ _ _ h9 va H locs cells slots lsr hR hS hc hs hL (hO.pop.pop.num))
  · cases h9
theorem am_s_irem {K : AKx} {p : Program} {l : Launch} {e : Env} {R : Room} {s : State} {m : MethodId} {args : Array Value} {below : List Frame} {meth : Method} {c : Code} {bytes : ByteArray} {mr : MR} {o : AO} {h1 : AH} {ih : AK} {pc len tgt d : Nat} {r : List CI} {ls : AL} {st : List AV} {h : AH}  (hx : p.tables.exec = Jvm.exec) (hb : c.code = bytes)  (hdec : decode bytes pc = .ok (.irem, 1)) (nx : am_Nx K p l e R s m args below meth c mr o h1 (pc + 1) d ih r) (hrun : am_step ih mr ((pc, .irem, len, tgt) :: r) ls st h d = some (o, h1)) : am_G K p l e R s m args below meth c mr o h1 pc ls st h := by
  intro va H locs cells slots lsr hR hS hc hs hL hO
  have h9 : (match (generalizing := false) st with | Sum.inl (Value.int y) :: Sum.inl (Value.int x) :: t => if y = 0 then none else ih mr r ls (vi (x - x / y * y) :: t) h d | _ => none) = some (o, h1) := hrun
  split at h9
  · split at h9
    · cases h9
    · next hy => exact lv_irem hx hb hdec hy (nx _ _ _ h9 va H locs cells slots lsr hR hS hc hs hL (hO.pop.pop.num))
  · cases h9
theorem am_s_ineg {K : AKx} {p : Program} {l : Launch} {e : Env} {R : Room} {s : State} {m : MethodId} {args : Array Value} {below : List Frame} {meth : Method} {c : Code} {bytes : ByteArray} {mr : MR} {o : AO} {h1 : AH} {ih : AK} {pc len tgt d : Nat} {r : List CI} {ls : AL} {st : List AV} {h : AH}  (hx : p.tables.exec = Jvm.exec) (hb : c.code = bytes)  (hdec : decode bytes pc = .ok (.ineg, 1)) (nx : am_Nx K p l e R s m args below meth c mr o h1 (pc + 1) d ih r) (hrun : am_step ih mr ((pc, .ineg, len, tgt) :: r) ls st h d = some (o, h1)) : am_G K p l e R s m args below meth c mr o h1 pc ls st h := by
  intro va H locs cells slots lsr hR hS hc hs hL hO
  have h9 : (match (generalizing := false) st with | Sum.inl (Value.int x) :: t => ih mr r ls (vi (-x) :: t) h d | _ => none) = some (o, h1) := hrun
  split at h9
  · exact lv_ineg hx hb hdec (nx _ _ _ h9 va H locs cells slots lsr hR hS hc hs hL (hO.pop.num))
  · cases h9
theorem am_s_i2b {K : AKx} {p : Program} {l : Launch} {e : Env} {R : Room} {s : State} {m : MethodId} {args : Array Value} {below : List Frame} {meth : Method} {c : Code} {bytes : ByteArray} {mr : MR} {o : AO} {h1 : AH} {ih : AK} {pc len tgt d : Nat} {r : List CI} {ls : AL} {st : List AV} {h : AH}  (hx : p.tables.exec = Jvm.exec) (hb : c.code = bytes)  (hdec : decode bytes pc = .ok (.i2b, 1)) (nx : am_Nx K p l e R s m args below meth c mr o h1 (pc + 1) d ih r) (hrun : am_step ih mr ((pc, .i2b, len, tgt) :: r) ls st h d = some (o, h1)) : am_G K p l e R s m args below meth c mr o h1 pc ls st h := by
  intro va H locs cells slots lsr hR hS hc hs hL hO
  have h9 : (match (generalizing := false) st with | Sum.inl (Value.int x) :: t => ih mr r ls (vi x.toInt8.toInt32 :: t) h d | _ => none) = some (o, h1) := hrun
  split at h9
  · exact lv_i2b hx hb hdec rfl (nx _ _ _ h9 va H locs cells slots lsr hR hS hc hs hL (hO.pop.num))
  · cases h9
theorem am_s_i2c {K : AKx} {p : Program} {l : Launch} {e : Env} {R : Room} {s : State} {m : MethodId} {args : Array Value} {below : List Frame} {meth : Method} {c : Code} {bytes : ByteArray} {mr : MR} {o : AO} {h1 : AH} {ih : AK} {pc len tgt d : Nat} {r : List CI} {ls : AL} {st : List AV} {h : AH}  (hx : p.tables.exec = Jvm.exec) (hb : c.code = bytes)  (hdec : decode bytes pc = .ok (.i2c, 1)) (nx : am_Nx K p l e R s m args below meth c mr o h1 (pc + 1) d ih r) (hrun : am_step ih mr ((pc, .i2c, len, tgt) :: r) ls st h d = some (o, h1)) : am_G K p l e R s m args below meth c mr o h1 pc ls st h := by
  intro va H locs cells slots lsr hR hS hc hs hL hO
  have h9 : (match (generalizing := false) st with | Sum.inl (Value.int x) :: t => ih mr r ls (vi (x.toUInt32 % 65536).toInt32 :: t) h d | _ => none) = some (o, h1) := hrun
  split at h9
  · exact lv_i2c hx hb hdec rfl (nx _ _ _ h9 va H locs cells slots lsr hR hS hc hs hL (hO.pop.num))
  · cases h9
theorem am_s_i2l {K : AKx} {p : Program} {l : Launch} {e : Env} {R : Room} {s : State} {m : MethodId} {args : Array Value} {below : List Frame} {meth : Method} {c : Code} {bytes : ByteArray} {mr : MR} {o : AO} {h1 : AH} {ih : AK} {pc len tgt d : Nat} {r : List CI} {ls : AL} {st : List AV} {h : AH}  (hx : p.tables.exec = Jvm.exec) (hb : c.code = bytes)  (hdec : decode bytes pc = .ok (.i2l, 1)) (nx : am_Nx K p l e R s m args below meth c mr o h1 (pc + 1) d ih r) (hrun : am_step ih mr ((pc, .i2l, len, tgt) :: r) ls st h d = some (o, h1)) : am_G K p l e R s m args below meth c mr o h1 pc ls st h := by
  intro va H locs cells slots lsr hR hS hc hs hL hO
  have h9 : (match (generalizing := false) st with | Sum.inl (Value.int x) :: t => ih mr r ls (Sum.inl (Value.long x.toInt64) :: t) h d | _ => none) = some (o, h1) := hrun
  split at h9
  · exact lv_i2l hx hb hdec rfl (nx _ _ _ h9 va H locs cells slots lsr hR hS hc hs hL (hO.pop.num))
  · cases h9
theorem am_s_i2d {K : AKx} {p : Program} {l : Launch} {e : Env} {R : Room} {s : State} {m : MethodId} {args : Array Value} {below : List Frame} {meth : Method} {c : Code} {bytes : ByteArray} {mr : MR} {o : AO} {h1 : AH} {ih : AK} {pc len tgt d : Nat} {r : List CI} {ls : AL} {st : List AV} {h : AH}  (hx : p.tables.exec = Jvm.exec) (hb : c.code = bytes)  (hdec : decode bytes pc = .ok (.i2d, 1)) (nx : am_Nx K p l e R s m args below meth c mr o h1 (pc + 1) d ih r) (hrun : am_step ih mr ((pc, .i2d, len, tgt) :: r) ls st h d = some (o, h1)) : am_G K p l e R s m args below meth c mr o h1 pc ls st h := by
  intro va H locs cells slots lsr hR hS hc hs hL hO
  have h9 : (match (generalizing := false) st with | Sum.inl (Value.int x) :: t => ih mr r ls (Sum.inl (Value.double (FP.i2d x)) :: t) h d | _ => none) = some (o, h1) := hrun
  split at h9
  · exact lv_i2d hx hb hdec (nx _ _ _ h9 va H locs cells slots lsr hR hS hc hs hL (hO.pop.num))
  · cases h9
theorem am_s_i2f {K : AKx} {p : Program} {l : Launch} {e : Env} {R : Room} {s : State} {m : MethodId} {args : Array Value} {below : List Frame} {meth : Method} {c : Code} {bytes : ByteArray} {mr : MR} {o : AO} {h1 : AH} {ih : AK} {pc len tgt d : Nat} {r : List CI} {ls : AL} {st : List AV} {h : AH}  (hx : p.tables.exec = Jvm.exec) (hb : c.code = bytes)  (hdec : decode bytes pc = .ok (.i2f, 1)) (nx : am_Nx K p l e R s m args below meth c mr o h1 (pc + 1) d ih r) (hrun : am_step ih mr ((pc, .i2f, len, tgt) :: r) ls st h d = some (o, h1)) : am_G K p l e R s m args below meth c mr o h1 pc ls st h := by
  intro va H locs cells slots lsr hR hS hc hs hL hO
  have h9 : (match (generalizing := false) st with | Sum.inl (Value.int x) :: t => ih mr r ls (Sum.inl (Value.float (FP.i2f x)) :: t) h d | _ => none) = some (o, h1) := hrun
  split at h9
  · exact lv_i2f hx hb hdec (nx _ _ _ h9 va H locs cells slots lsr hR hS hc hs hL (hO.pop.num))
  · cases h9
theorem am_s_ladd {K : AKx} {p : Program} {l : Launch} {e : Env} {R : Room} {s : State} {m : MethodId} {args : Array Value} {below : List Frame} {meth : Method} {c : Code} {bytes : ByteArray} {mr : MR} {o : AO} {h1 : AH} {ih : AK} {pc len tgt d : Nat} {r : List CI} {ls : AL} {st : List AV} {h : AH}  (hx : p.tables.exec = Jvm.exec) (hb : c.code = bytes)  (hdec : decode bytes pc = .ok (.ladd, 1)) (nx : am_Nx K p l e R s m args below meth c mr o h1 (pc + 1) d ih r) (hrun : am_step ih mr ((pc, .ladd, len, tgt) :: r) ls st h d = some (o, h1)) : am_G K p l e R s m args below meth c mr o h1 pc ls st h := by
  intro va H locs cells slots lsr hR hS hc hs hL hO
  have h9 : (match (generalizing := false) st with | Sum.inl (Value.long y) :: Sum.inl (Value.long x) :: t => ih mr r ls (Sum.inl (Value.long (x + y)) :: t) h d | _ => none) = some (o, h1) := hrun
  split at h9
  · exact lv_ladd hx hb hdec (nx _ _ _ h9 va H locs cells slots lsr hR hS hc hs hL (hO.pop.pop.num))
  · cases h9
theorem am_s_lsub {K : AKx} {p : Program} {l : Launch} {e : Env} {R : Room} {s : State} {m : MethodId} {args : Array Value} {below : List Frame} {meth : Method} {c : Code} {bytes : ByteArray} {mr : MR} {o : AO} {h1 : AH} {ih : AK} {pc len tgt d : Nat} {r : List CI} {ls : AL} {st : List AV} {h : AH}  (hx : p.tables.exec = Jvm.exec) (hb : c.code = bytes)  (hdec : decode bytes pc = .ok (.lsub, 1)) (nx : am_Nx K p l e R s m args below meth c mr o h1 (pc + 1) d ih r) (hrun : am_step ih mr ((pc, .lsub, len, tgt) :: r) ls st h d = some (o, h1)) : am_G K p l e R s m args below meth c mr o h1 pc ls st h := by
  intro va H locs cells slots lsr hR hS hc hs hL hO
  have h9 : (match (generalizing := false) st with | Sum.inl (Value.long y) :: Sum.inl (Value.long x) :: t => ih mr r ls (Sum.inl (Value.long (x - y)) :: t) h d | _ => none) = some (o, h1) := hrun
  split at h9
  · exact lv_lsub hx hb hdec (nx _ _ _ h9 va H locs cells slots lsr hR hS hc hs hL (hO.pop.pop.num))
  · cases h9
theorem am_s_lmul {K : AKx} {p : Program} {l : Launch} {e : Env} {R : Room} {s : State} {m : MethodId} {args : Array Value} {below : List Frame} {meth : Method} {c : Code} {bytes : ByteArray} {mr : MR} {o : AO} {h1 : AH} {ih : AK} {pc len tgt d : Nat} {r : List CI} {ls : AL} {st : List AV} {h : AH}  (hx : p.tables.exec = Jvm.exec) (hb : c.code = bytes)  (hdec : decode bytes pc = .ok (.lmul, 1)) (nx : am_Nx K p l e R s m args below meth c mr o h1 (pc + 1) d ih r) (hrun : am_step ih mr ((pc, .lmul, len, tgt) :: r) ls st h d = some (o, h1)) : am_G K p l e R s m args below meth c mr o h1 pc ls st h := by
  intro va H locs cells slots lsr hR hS hc hs hL hO
  have h9 : (match (generalizing := false) st with | Sum.inl (Value.long y) :: Sum.inl (Value.long x) :: t => ih mr r ls (Sum.inl (Value.long (x * y)) :: t) h d | _ => none) = some (o, h1) := hrun
  split at h9
  · exact lv_lmul hx hb hdec (nx _ _ _ h9 va H locs cells slots lsr hR hS hc hs hL (hO.pop.pop.num))
  · cases h9
theorem am_s_land {K : AKx} {p : Program} {l : Launch} {e : Env} {R : Room} {s : State} {m : MethodId} {args : Array Value} {below : List Frame} {meth : Method} {c : Code} {bytes : ByteArray} {mr : MR} {o : AO} {h1 : AH} {ih : AK} {pc len tgt d : Nat} {r : List CI} {ls : AL} {st : List AV} {h : AH}  (hx : p.tables.exec = Jvm.exec) (hb : c.code = bytes)  (hdec : decode bytes pc = .ok (.land, 1)) (nx : am_Nx K p l e R s m args below meth c mr o h1 (pc + 1) d ih r) (hrun : am_step ih mr ((pc, .land, len, tgt) :: r) ls st h d = some (o, h1)) : am_G K p l e R s m args below meth c mr o h1 pc ls st h := by
  intro va H locs cells slots lsr hR hS hc hs hL hO
  have h9 : (match (generalizing := false) st with | Sum.inl (Value.long y) :: Sum.inl (Value.long x) :: t => ih mr r ls (Sum.inl (Value.long (x &&& y)) :: t) h d | _ => none) = some (o, h1) := hrun
  split at h9
  · exact lv_land hx hb hdec (nx _ _ _ h9 va H locs cells slots lsr hR hS hc hs hL (hO.pop.pop.num))
  · cases h9
theorem am_s_lshl {K : AKx} {p : Program} {l : Launch} {e : Env} {R : Room} {s : State} {m : MethodId} {args : Array Value} {below : List Frame} {meth : Method} {c : Code} {bytes : ByteArray} {mr : MR} {o : AO} {h1 : AH} {ih : AK} {pc len tgt d : Nat} {r : List CI} {ls : AL} {st : List AV} {h : AH}  (hx : p.tables.exec = Jvm.exec) (hb : c.code = bytes)  (hdec : decode bytes pc = .ok (.lshl, 1)) (nx : am_Nx K p l e R s m args below meth c mr o h1 (pc + 1) d ih r) (hrun : am_step ih mr ((pc, .lshl, len, tgt) :: r) ls st h d = some (o, h1)) : am_G K p l e R s m args below meth c mr o h1 pc ls st h := by
  intro va H locs cells slots lsr hR hS hc hs hL hO
  have h9 : (match (generalizing := false) st with | Sum.inl (Value.int y) :: Sum.inl (Value.long x) :: t => ih mr r ls (Sum.inl (Value.long (x <<< (y.toInt64 &&& 63))) :: t) h d | _ => none) = some (o, h1) := hrun
  split at h9
  · exact lv_lshl hx hb hdec rfl (nx _ _ _ h9 va H locs cells slots lsr hR hS hc hs hL (hO.pop.pop.num))
  · cases h9
theorem am_s_lcmp {K : AKx} {p : Program} {l : Launch} {e : Env} {R : Room} {s : State} {m : MethodId} {args : Array Value} {below : List Frame} {meth : Method} {c : Code} {bytes : ByteArray} {mr : MR} {o : AO} {h1 : AH} {ih : AK} {pc len tgt d : Nat} {r : List CI} {ls : AL} {st : List AV} {h : AH}  (hx : p.tables.exec = Jvm.exec) (hb : c.code = bytes)  (hdec : decode bytes pc = .ok (.lcmp, 1)) (nx : am_Nx K p l e R s m args below meth c mr o h1 (pc + 1) d ih r) (hrun : am_step ih mr ((pc, .lcmp, len, tgt) :: r) ls st h d = some (o, h1)) : am_G K p l e R s m args below meth c mr o h1 pc ls st h := by
  intro va H locs cells slots lsr hR hS hc hs hL hO
  have h9 : (match (generalizing := false) st with | Sum.inl (Value.long y) :: Sum.inl (Value.long x) :: t => ih mr r ls (vi (lg_cmp x y) :: t) h d | _ => none) = some (o, h1) := hrun
  split at h9
  · exact W.lcmp hx hb hdec (nx _ _ _ h9 va H locs cells slots lsr hR hS hc hs hL (hO.pop.pop.num))
  · cases h9
theorem am_s_dcmp {K : AKx} {p : Program} {l : Launch} {e : Env} {R : Room} {s : State} {m : MethodId} {args : Array Value} {below : List Frame} {meth : Method} {c : Code} {bytes : ByteArray} {mr : MR} {o : AO} {h1 : AH} {ih : AK} {pc len tgt d : Nat} {r : List CI} {ls : AL} {st : List AV} {h : AH} {op : CmpOp} (hx : p.tables.exec = Jvm.exec) (hb : c.code = bytes)  (hdec : decode bytes pc = .ok (.dcmp op, 1)) (nx : am_Nx K p l e R s m args below meth c mr o h1 (pc + 1) d ih r) (hrun : am_step ih mr ((pc, .dcmp op, len, tgt) :: r) ls st h d = some (o, h1)) : am_G K p l e R s m args below meth c mr o h1 pc ls st h := by
  intro va H locs cells slots lsr hR hS hc hs hL hO
  have h9 : (match (generalizing := false) st with | Sum.inl (Value.double y) :: Sum.inl (Value.double x) :: t => ih mr r ls (vi (Op.cmpValue (FP.dcmp x y) op) :: t) h d | _ => none) = some (o, h1) := hrun
  split at h9
  · exact lv_dcmp hx hb hdec (nx _ _ _ h9 va H locs cells slots lsr hR hS hc hs hL (hO.pop.pop.num))
  · cases h9
theorem am_s_fcmp {K : AKx} {p : Program} {l : Launch} {e : Env} {R : Room} {s : State} {m : MethodId} {args : Array Value} {below : List Frame} {meth : Method} {c : Code} {bytes : ByteArray} {mr : MR} {o : AO} {h1 : AH} {ih : AK} {pc len tgt d : Nat} {r : List CI} {ls : AL} {st : List AV} {h : AH} {op : CmpOp} (hx : p.tables.exec = Jvm.exec) (hb : c.code = bytes)  (hdec : decode bytes pc = .ok (.fcmp op, 1)) (nx : am_Nx K p l e R s m args below meth c mr o h1 (pc + 1) d ih r) (hrun : am_step ih mr ((pc, .fcmp op, len, tgt) :: r) ls st h d = some (o, h1)) : am_G K p l e R s m args below meth c mr o h1 pc ls st h := by
  intro va H locs cells slots lsr hR hS hc hs hL hO
  have h9 : (match (generalizing := false) st with | Sum.inl (Value.float y) :: Sum.inl (Value.float x) :: t => ih mr r ls (vi (Op.cmpValue (FP.fcmp x y) op) :: t) h d | _ => none) = some (o, h1) := hrun
  split at h9
  · exact lv_fcmp hx hb hdec (nx _ _ _ h9 va H locs cells slots lsr hR hS hc hs hL (hO.pop.pop.num))
  · cases h9
theorem am_s_ddiv {K : AKx} {p : Program} {l : Launch} {e : Env} {R : Room} {s : State} {m : MethodId} {args : Array Value} {below : List Frame} {meth : Method} {c : Code} {bytes : ByteArray} {mr : MR} {o : AO} {h1 : AH} {ih : AK} {pc len tgt d : Nat} {r : List CI} {ls : AL} {st : List AV} {h : AH}  (hx : p.tables.exec = Jvm.exec) (hb : c.code = bytes)  (hdec : decode bytes pc = .ok (.ddiv, 1)) (nx : am_Nx K p l e R s m args below meth c mr o h1 (pc + 1) d ih r) (hrun : am_step ih mr ((pc, .ddiv, len, tgt) :: r) ls st h d = some (o, h1)) : am_G K p l e R s m args below meth c mr o h1 pc ls st h := by
  intro va H locs cells slots lsr hR hS hc hs hL hO
  have h9 : (match (generalizing := false) st with | Sum.inl (Value.double y) :: Sum.inl (Value.double x) :: t => if FP.ddiv x y &&& 0x7fffffffffffffff ≤ 0x7ff0000000000000 then ih mr r ls (Sum.inl (Value.double (FP.ddiv x y)) :: t) h d else none | _ => none) = some (o, h1) := hrun
  split at h9
  · split at h9
    · next hn => exact lv_ddiv hx hb hdec hn (nx _ _ _ h9 va H locs cells slots lsr hR hS hc hs hL (hO.pop.pop.num))
    · cases h9
  · cases h9
theorem am_s_fdiv {K : AKx} {p : Program} {l : Launch} {e : Env} {R : Room} {s : State} {m : MethodId} {args : Array Value} {below : List Frame} {meth : Method} {c : Code} {bytes : ByteArray} {mr : MR} {o : AO} {h1 : AH} {ih : AK} {pc len tgt d : Nat} {r : List CI} {ls : AL} {st : List AV} {h : AH}  (hx : p.tables.exec = Jvm.exec) (hb : c.code = bytes)  (hdec : decode bytes pc = .ok (.fdiv, 1)) (nx : am_Nx K p l e R s m args below meth c mr o h1 (pc + 1) d ih r) (hrun : am_step ih mr ((pc, .fdiv, len, tgt) :: r) ls st h d = some (o, h1)) : am_G K p l e R s m args below meth c mr o h1 pc ls st h := by
  intro va H locs cells slots lsr hR hS hc hs hL hO
  have h9 : (match (generalizing := false) st with | Sum.inl (Value.float y) :: Sum.inl (Value.float x) :: t => if FP.fdiv x y &&& 0x7fffffff ≤ 0x7f800000 then ih mr r ls (Sum.inl (Value.float (FP.fdiv x y)) :: t) h d else none | _ => none) = some (o, h1) := hrun
  split at h9
  · split at h9
    · next hn => exact lv_fdiv hx hb hdec hn (nx _ _ _ h9 va H locs cells slots lsr hR hS hc hs hL (hO.pop.pop.num))
    · cases h9
  · cases h9
theorem am_s_f2d {K : AKx} {p : Program} {l : Launch} {e : Env} {R : Room} {s : State} {m : MethodId} {args : Array Value} {below : List Frame} {meth : Method} {c : Code} {bytes : ByteArray} {mr : MR} {o : AO} {h1 : AH} {ih : AK} {pc len tgt d : Nat} {r : List CI} {ls : AL} {st : List AV} {h : AH}  (hx : p.tables.exec = Jvm.exec) (hb : c.code = bytes)  (hdec : decode bytes pc = .ok (.f2d, 1)) (nx : am_Nx K p l e R s m args below meth c mr o h1 (pc + 1) d ih r) (hrun : am_step ih mr ((pc, .f2d, len, tgt) :: r) ls st h d = some (o, h1)) : am_G K p l e R s m args below meth c mr o h1 pc ls st h := by
  intro va H locs cells slots lsr hR hS hc hs hL hO
  have h9 : (match (generalizing := false) st with | Sum.inl (Value.float x) :: t => if FP.f2d x &&& 0x7fffffffffffffff ≤ 0x7ff0000000000000 then ih mr r ls (Sum.inl (Value.double (FP.f2d x)) :: t) h d else none | _ => none) = some (o, h1) := hrun
  split at h9
  · split at h9
    · next hn => exact lv_f2d hx hb hdec hn (nx _ _ _ h9 va H locs cells slots lsr hR hS hc hs hL (hO.pop.num))
    · cases h9
  · cases h9
theorem am_s_if_eq {K : AKx} {p : Program} {l : Launch} {e : Env} {R : Room} {s : State} {m : MethodId} {args : Array Value} {below : List Frame} {meth : Method} {c : Code} {bytes : ByteArray} {mr : MR} {o : AO} {h1 : AH} {ih : AK} {pc len tgt d : Nat} {r : List CI} {ls : AL} {st : List AV} {h : AH} {off : Int} (hx : p.tables.exec = Jvm.exec) (hb : c.code = bytes) (ht : (pc : Int) + off = (tgt : Int)) (hdec : decode bytes pc = .ok (.ifCond .eq off, 3)) (nx : am_Nx K p l e R s m args below meth c mr o h1 (pc + 3) d ih r) (jm : am_Jm K p l e R s m args below meth c mr o h1 d ih) (hrun : am_step ih mr ((pc, .ifCond .eq off, len, tgt) :: r) ls st h d = some (o, h1)) : am_G K p l e R s m args below meth c mr o h1 pc ls st h := by
  intro va H locs cells slots lsr hR hS hc hs hL hO
  have h9 : (match (generalizing := false) st with | Sum.inl (Value.int x) :: t => if x = 0 then ih mr (am_jmp tgt mr.2.2.1) ls t h d else ih mr r ls t h d | _ => none) = some (o, h1) := hrun
  split at h9
  · refine lv_if_eq hx hb hdec ht (fun hq => ?_) (fun hq => ?_)
    · rw [if_pos hq] at h9
      exact jm _ _ _ _ h9 va H locs cells slots lsr hR hS hc hs hL hO.pop
    · rw [if_neg hq] at h9
      exact nx _ _ _ h9 va H locs cells slots lsr hR hS hc hs hL (hO.pop)
  · cases h9
theorem am_s_icmp_eq {K : AKx} {p : Program} {l : Launch} {e : Env} {R : Room} {s : State} {m : MethodId} {args : Array Value} {below : List Frame} {meth : Method} {c : Code} {bytes : ByteArray} {mr : MR} {o : AO} {h1 : AH} {ih : AK} {pc len tgt d : Nat} {r : List CI} {ls : AL} {st : List AV} {h : AH} {off : Int} (hx : p.tables.exec = Jvm.exec) (hb : c.code = bytes) (ht : (pc : Int) + off = (tgt : Int)) (hdec : decode bytes pc = .ok (.if_icmp .eq off, 3)) (nx : am_Nx K p l e R s m args below meth c mr o h1 (pc + 3) d ih r) (jm : am_Jm K p l e R s m args below meth c mr o h1 d ih) (hrun : am_step ih mr ((pc, .if_icmp .eq off, len, tgt) :: r) ls st h d = some (o, h1)) : am_G K p l e R s m args below meth c mr o h1 pc ls st h := by
  intro va H locs cells slots lsr hR hS hc hs hL hO
  have h9 : (match (generalizing := false) st with | Sum.inl (Value.int y) :: Sum.inl (Value.int x) :: t => if x = y then ih mr (am_jmp tgt mr.2.2.1) ls t h d else ih mr r ls t h d | _ => none) = some (o, h1) := hrun
  split at h9
  · refine lv_icmp_eq hx hb hdec ht (fun hq => ?_) (fun hq => ?_)
    · rw [if_pos hq] at h9
      exact jm _ _ _ _ h9 va H locs cells slots lsr hR hS hc hs hL hO.pop.pop
    · rw [if_neg hq] at h9
      exact nx _ _ _ h9 va H locs cells slots lsr hR hS hc hs hL (hO.pop.pop)
  · cases h9
theorem am_s_if_ne {K : AKx} {p : Program} {l : Launch} {e : Env} {R : Room} {s : State} {m : MethodId} {args : Array Value} {below : List Frame} {meth : Method} {c : Code} {bytes : ByteArray} {mr : MR} {o : AO} {h1 : AH} {ih : AK} {pc len tgt d : Nat} {r : List CI} {ls : AL} {st : List AV} {h : AH} {off : Int} (hx : p.tables.exec = Jvm.exec) (hb : c.code = bytes) (ht : (pc : Int) + off = (tgt : Int)) (hdec : decode bytes pc = .ok (.ifCond .ne off, 3)) (nx : am_Nx K p l e R s m args below meth c mr o h1 (pc + 3) d ih r) (jm : am_Jm K p l e R s m args below meth c mr o h1 d ih) (hrun : am_step ih mr ((pc, .ifCond .ne off, len, tgt) :: r) ls st h d = some (o, h1)) : am_G K p l e R s m args below meth c mr o h1 pc ls st h := by
  intro va H locs cells slots lsr hR hS hc hs hL hO
  have h9 : (match (generalizing := false) st with | Sum.inl (Value.int x) :: t => if x ≠ 0 then ih mr (am_jmp tgt mr.2.2.1) ls t h d else ih mr r ls t h d | _ => none) = some (o, h1) := hrun
  split at h9
  · refine lv_if_ne hx hb hdec ht (fun hq => ?_) (fun hq => ?_)
    · rw [if_pos hq] at h9
      exact jm _ _ _ _ h9 va H locs cells slots lsr hR hS hc hs hL hO.pop
    · rw [if_neg (not_not_intro hq)] at h9
      exact nx _ _ _ h9 va H locs cells slots lsr hR hS hc hs hL (hO.pop)
  · cases h9
theorem am_s_icmp_ne {K : AKx} {p : Program} {l : Launch} {e : Env} {R : Room} {s : State} {m : MethodId} {args : Array Value} {below : List Frame} {meth : Method} {c : Code} {bytes : ByteArray} {mr : MR} {o : AO} {h1 : AH} {ih : AK} {pc len tgt d : Nat} {r : List CI} {ls : AL} {st : List AV} {h : AH} {off : Int} (hx : p.tables.exec = Jvm.exec) (hb : c.code = bytes) (ht : (pc : Int) + off = (tgt : Int)) (hdec : decode bytes pc = .ok (.if_icmp .ne off, 3)) (nx : am_Nx K p l e R s m args below meth c mr o h1 (pc + 3) d ih r) (jm : am_Jm K p l e R s m args below meth c mr o h1 d ih) (hrun : am_step ih mr ((pc, .if_icmp .ne off, len, tgt) :: r) ls st h d = some (o, h1)) : am_G K p l e R s m args below meth c mr o h1 pc ls st h := by
  intro va H locs cells slots lsr hR hS hc hs hL hO
  have h9 : (match (generalizing := false) st with | Sum.inl (Value.int y) :: Sum.inl (Value.int x) :: t => if x ≠ y then ih mr (am_jmp tgt mr.2.2.1) ls t h d else ih mr r ls t h d | _ => none) = some (o, h1) := hrun
  split at h9
  · refine lv_icmp_ne hx hb hdec ht (fun hq => ?_) (fun hq => ?_)
    · rw [if_pos hq] at h9
      exact jm _ _ _ _ h9 va H locs cells slots lsr hR hS hc hs hL hO.pop.pop
    · rw [if_neg (not_not_intro hq)] at h9
      exact nx _ _ _ h9 va H locs cells slots lsr hR hS hc hs hL (hO.pop.pop)
  · cases h9
theorem am_s_if_lt {K : AKx} {p : Program} {l : Launch} {e : Env} {R : Room} {s : State} {m : MethodId} {args : Array Value} {below : List Frame} {meth : Method} {c : Code} {bytes : ByteArray} {mr : MR} {o : AO} {h1 : AH} {ih : AK} {pc len tgt d : Nat} {r : List CI} {ls : AL} {st : List AV} {h : AH} {off : Int} (hx : p.tables.exec = Jvm.exec) (hb : c.code = bytes) (ht : (pc : Int) + off = (tgt : Int)) (hdec : decode bytes pc = .ok (.ifCond .lt off, 3)) (nx : am_Nx K p l e R s m args below meth c mr o h1 (pc + 3) d ih r) (jm : am_Jm K p l e R s m args below meth c mr o h1 d ih) (hrun : am_step ih mr ((pc, .ifCond .lt off, len, tgt) :: r) ls st h d = some (o, h1)) : am_G K p l e R s m args below meth c mr o h1 pc ls st h := by
  intro va H locs cells slots lsr hR hS hc hs hL hO
  have h9 : (match (generalizing := false) st with | Sum.inl (Value.int x) :: t => if x < 0 then ih mr (am_jmp tgt mr.2.2.1) ls t h d else ih mr r ls t h d | _ => none) = some (o, h1) := hrun
  split at h9
  · refine lv_if_lt hx hb hdec ht (fun hq => ?_) (fun hq => ?_)
    · rw [if_pos hq] at h9
      exact jm _ _ _ _ h9 va H locs cells slots lsr hR hS hc hs hL hO.pop
    · rw [if_neg hq] at h9
      exact nx _ _ _ h9 va H locs cells slots lsr hR hS hc hs hL (hO.pop)
  · cases h9
theorem am_s_icmp_lt {K : AKx} {p : Program} {l : Launch} {e : Env} {R : Room} {s : State} {m : MethodId} {args : Array Value} {below : List Frame} {meth : Method} {c : Code} {bytes : ByteArray} {mr : MR} {o : AO} {h1 : AH} {ih : AK} {pc len tgt d : Nat} {r : List CI} {ls : AL} {st : List AV} {h : AH} {off : Int} (hx : p.tables.exec = Jvm.exec) (hb : c.code = bytes) (ht : (pc : Int) + off = (tgt : Int)) (hdec : decode bytes pc = .ok (.if_icmp .lt off, 3)) (nx : am_Nx K p l e R s m args below meth c mr o h1 (pc + 3) d ih r) (jm : am_Jm K p l e R s m args below meth c mr o h1 d ih) (hrun : am_step ih mr ((pc, .if_icmp .lt off, len, tgt) :: r) ls st h d = some (o, h1)) : am_G K p l e R s m args below meth c mr o h1 pc ls st h := by
  intro va H locs cells slots lsr hR hS hc hs hL hO
  have h9 : (match (generalizing := false) st with | Sum.inl (Value.int y) :: Sum.inl (Value.int x) :: t => if x < y then ih mr (am_jmp tgt mr.2.2.1) ls t h d else ih mr r ls t h d | _ => none) = some (o, h1) := hrun
  split at h9
  · refine lv_icmp_lt hx hb hdec ht (fun hq => ?_) (fun hq => ?_)
    · rw [if_pos hq] at h9
      exact jm _ _ _ _ h9 va H locs cells slots lsr hR hS hc hs hL hO.pop.pop
    · rw [if_neg hq] at h9
      exact nx _ _ _ h9 va H locs cells slots lsr hR hS hc hs hL (hO.pop.pop)
  · cases h9
theorem am_s_if_ge {K : AKx} {p : Program} {l : Launch} {e : Env} {R : Room} {s : State} {m : MethodId} {args : Array Value} {below : List Frame} {meth : Method} {c : Code} {bytes : ByteArray} {mr : MR} {o : AO} {h1 : AH} {ih : AK} {pc len tgt d : Nat} {r : List CI} {ls : AL} {st : List AV} {h : AH} {off : Int} (hx : p.tables.exec = Jvm.exec) (hb : c.code = bytes) (ht : (pc : Int) + off = (tgt : Int)) (hdec : decode bytes pc = .ok (.ifCond .ge off, 3)) (nx : am_Nx K p l e R s m args below meth c mr o h1 (pc + 3) d ih r) (jm : am_Jm K p l e R s m args below meth c mr o h1 d ih) (hrun : am_step ih mr ((pc, .ifCond .ge off, len, tgt) :: r) ls st h d = some (o, h1)) : am_G K p l e R s m args below meth c mr o h1 pc ls st h := by
  intro va H locs cells slots lsr hR hS hc hs hL hO
  have h9 : (match (generalizing := false) st with | Sum.inl (Value.int x) :: t => if 0 ≤ x then ih mr (am_jmp tgt mr.2.2.1) ls t h d else ih mr r ls t h d | _ => none) = some (o, h1) := hrun
  split at h9
  · refine lv_if_ge hx hb hdec ht (fun hq => ?_) (fun hq => ?_)
    · rw [if_pos hq] at h9
      exact jm _ _ _ _ h9 va H locs cells slots lsr hR hS hc hs hL hO.pop
    · rw [if_neg hq] at h9
      exact nx _ _ _ h9 va H locs cells slots lsr hR hS hc hs hL (hO.pop)
  · cases h9
theorem am_s_icmp_ge {K : AKx} {p : Program} {l : Launch} {e : Env} {R : Room} {s : State} {m : MethodId} {args : Array Value} {below : List Frame} {meth : Method} {c : Code} {bytes : ByteArray} {mr : MR} {o : AO} {h1 : AH} {ih : AK} {pc len tgt d : Nat} {r : List CI} {ls : AL} {st : List AV} {h : AH} {off : Int} (hx : p.tables.exec = Jvm.exec) (hb : c.code = bytes) (ht : (pc : Int) + off = (tgt : Int)) (hdec : decode bytes pc = .ok (.if_icmp .ge off, 3)) (nx : am_Nx K p l e R s m args below meth c mr o h1 (pc + 3) d ih r) (jm : am_Jm K p l e R s m args below meth c mr o h1 d ih) (hrun : am_step ih mr ((pc, .if_icmp .ge off, len, tgt) :: r) ls st h d = some (o, h1)) : am_G K p l e R s m args below meth c mr o h1 pc ls st h := by
  intro va H locs cells slots lsr hR hS hc hs hL hO
  have h9 : (match (generalizing := false) st with | Sum.inl (Value.int y) :: Sum.inl (Value.int x) :: t => if y ≤ x then ih mr (am_jmp tgt mr.2.2.1) ls t h d else ih mr r ls t h d | _ => none) = some (o, h1) := hrun
  split at h9
  · refine lv_icmp_ge hx hb hdec ht (fun hq => ?_) (fun hq => ?_)
    · rw [if_pos hq] at h9
      exact jm _ _ _ _ h9 va H locs cells slots lsr hR hS hc hs hL hO.pop.pop
    · rw [if_neg hq] at h9
      exact nx _ _ _ h9 va H locs cells slots lsr hR hS hc hs hL (hO.pop.pop)
  · cases h9
theorem am_s_if_gt {K : AKx} {p : Program} {l : Launch} {e : Env} {R : Room} {s : State} {m : MethodId} {args : Array Value} {below : List Frame} {meth : Method} {c : Code} {bytes : ByteArray} {mr : MR} {o : AO} {h1 : AH} {ih : AK} {pc len tgt d : Nat} {r : List CI} {ls : AL} {st : List AV} {h : AH} {off : Int} (hx : p.tables.exec = Jvm.exec) (hb : c.code = bytes) (ht : (pc : Int) + off = (tgt : Int)) (hdec : decode bytes pc = .ok (.ifCond .gt off, 3)) (nx : am_Nx K p l e R s m args below meth c mr o h1 (pc + 3) d ih r) (jm : am_Jm K p l e R s m args below meth c mr o h1 d ih) (hrun : am_step ih mr ((pc, .ifCond .gt off, len, tgt) :: r) ls st h d = some (o, h1)) : am_G K p l e R s m args below meth c mr o h1 pc ls st h := by
  intro va H locs cells slots lsr hR hS hc hs hL hO
  have h9 : (match (generalizing := false) st with | Sum.inl (Value.int x) :: t => if 0 < x then ih mr (am_jmp tgt mr.2.2.1) ls t h d else ih mr r ls t h d | _ => none) = some (o, h1) := hrun
  split at h9
  · refine lv_if_gt hx hb hdec ht (fun hq => ?_) (fun hq => ?_)
    · rw [if_pos hq] at h9
      exact jm _ _ _ _ h9 va H locs cells slots lsr hR hS hc hs hL hO.pop
    · rw [if_neg hq] at h9
      exact nx _ _ _ h9 va H locs cells slots lsr hR hS hc hs hL (hO.pop)
  · cases h9
theorem am_s_icmp_gt {K : AKx} {p : Program} {l : Launch} {e : Env} {R : Room} {s : State} {m : MethodId} {args : Array Value} {below : List Frame} {meth : Method} {c : Code} {bytes : ByteArray} {mr : MR} {o : AO} {h1 : AH} {ih : AK} {pc len tgt d : Nat} {r : List CI} {ls : AL} {st : List AV} {h : AH} {off : Int} (hx : p.tables.exec = Jvm.exec) (hb : c.code = bytes) (ht : (pc : Int) + off = (tgt : Int)) (hdec : decode bytes pc = .ok (.if_icmp .gt off, 3)) (nx : am_Nx K p l e R s m args below meth c mr o h1 (pc + 3) d ih r) (jm : am_Jm K p l e R s m args below meth c mr o h1 d ih) (hrun : am_step ih mr ((pc, .if_icmp .gt off, len, tgt) :: r) ls st h d = some (o, h1)) : am_G K p l e R s m args below meth c mr o h1 pc ls st h := by
  intro va H locs cells slots lsr hR hS hc hs hL hO
  have h9 : (match (generalizing := false) st with | Sum.inl (Value.int y) :: Sum.inl (Value.int x) :: t => if y < x then ih mr (am_jmp tgt mr.2.2.1) ls t h d else ih mr r ls t h d | _ => none) = some (o, h1) := hrun
  split at h9
  · refine lv_icmp_gt hx hb hdec ht (fun hq => ?_) (fun hq => ?_)
    · rw [if_pos hq] at h9
      exact jm _ _ _ _ h9 va H locs cells slots lsr hR hS hc hs hL hO.pop.pop
    · rw [if_neg hq] at h9
      exact nx _ _ _ h9 va H locs cells slots lsr hR hS hc hs hL (hO.pop.pop)
  · cases h9
theorem am_s_if_le {K : AKx} {p : Program} {l : Launch} {e : Env} {R : Room} {s : State} {m : MethodId} {args : Array Value} {below : List Frame} {meth : Method} {c : Code} {bytes : ByteArray} {mr : MR} {o : AO} {h1 : AH} {ih : AK} {pc len tgt d : Nat} {r : List CI} {ls : AL} {st : List AV} {h : AH} {off : Int} (hx : p.tables.exec = Jvm.exec) (hb : c.code = bytes) (ht : (pc : Int) + off = (tgt : Int)) (hdec : decode bytes pc = .ok (.ifCond .le off, 3)) (nx : am_Nx K p l e R s m args below meth c mr o h1 (pc + 3) d ih r) (jm : am_Jm K p l e R s m args below meth c mr o h1 d ih) (hrun : am_step ih mr ((pc, .ifCond .le off, len, tgt) :: r) ls st h d = some (o, h1)) : am_G K p l e R s m args below meth c mr o h1 pc ls st h := by
  intro va H locs cells slots lsr hR hS hc hs hL hO
  have h9 : (match (generalizing := false) st with | Sum.inl (Value.int x) :: t => if x ≤ 0 then ih mr (am_jmp tgt mr.2.2.1) ls t h d else ih mr r ls t h d | _ => none) = some (o, h1) := hrun
  split at h9
  · refine lv_if_le hx hb hdec ht (fun hq => ?_) (fun hq => ?_)
    · rw [if_pos hq] at h9
      exact jm _ _ _ _ h9 va H locs cells slots lsr hR hS hc hs hL hO.pop
    · rw [if_neg hq] at h9
      exact nx _ _ _ h9 va H locs cells slots lsr hR hS hc hs hL (hO.pop)
  · cases h9
theorem am_s_icmp_le {K : AKx} {p : Program} {l : Launch} {e : Env} {R : Room} {s : State} {m : MethodId} {args : Array Value} {below : List Frame} {meth : Method} {c : Code} {bytes : ByteArray} {mr : MR} {o : AO} {h1 : AH} {ih : AK} {pc len tgt d : Nat} {r : List CI} {ls : AL} {st : List AV} {h : AH} {off : Int} (hx : p.tables.exec = Jvm.exec) (hb : c.code = bytes) (ht : (pc : Int) + off = (tgt : Int)) (hdec : decode bytes pc = .ok (.if_icmp .le off, 3)) (nx : am_Nx K p l e R s m args below meth c mr o h1 (pc + 3) d ih r) (jm : am_Jm K p l e R s m args below meth c mr o h1 d ih) (hrun : am_step ih mr ((pc, .if_icmp .le off, len, tgt) :: r) ls st h d = some (o, h1)) : am_G K p l e R s m args below meth c mr o h1 pc ls st h := by
  intro va H locs cells slots lsr hR hS hc hs hL hO
  have h9 : (match (generalizing := false) st with | Sum.inl (Value.int y) :: Sum.inl (Value.int x) :: t => if x ≤ y then ih mr (am_jmp tgt mr.2.2.1) ls t h d else ih mr r ls t h d | _ => none) = some (o, h1) := hrun
  split at h9
  · refine lv_icmp_le hx hb hdec ht (fun hq => ?_) (fun hq => ?_)
    · rw [if_pos hq] at h9
      exact jm _ _ _ _ h9 va H locs cells slots lsr hR hS hc hs hL hO.pop.pop
    · rw [if_neg hq] at h9
      exact nx _ _ _ h9 va H locs cells slots lsr hR hS hc hs hL (hO.pop.pop)
  · cases h9
theorem am_s_goto {K : AKx} {p : Program} {l : Launch} {e : Env} {R : Room} {s : State} {m : MethodId} {args : Array Value} {below : List Frame} {meth : Method} {c : Code} {bytes : ByteArray} {mr : MR} {o : AO} {h1 : AH} {ih : AK} {pc len tgt d : Nat} {r : List CI} {ls : AL} {st : List AV} {h : AH} {off : Int} (hx : p.tables.exec = Jvm.exec) (hb : c.code = bytes) (ht : (pc : Int) + off = (tgt : Int)) (hdec : decode bytes pc = .ok (.goto off, 3)) (nx : am_Nx K p l e R s m args below meth c mr o h1 (pc + 3) d ih r) (jm : am_Jm K p l e R s m args below meth c mr o h1 d ih) (hrun : am_step ih mr ((pc, .goto off, len, tgt) :: r) ls st h d = some (o, h1)) : am_G K p l e R s m args below meth c mr o h1 pc ls st h := by
  intro va H locs cells slots lsr hR hS hc hs hL hO
  exact lv_goto hx hb hdec ht (jm _ _ _ _ hrun va H locs cells slots lsr hR hS hc hs hL hO)
theorem am_s_ifnull {K : AKx} {p : Program} {l : Launch} {e : Env} {R : Room} {s : State} {m : MethodId} {args : Array Value} {below : List Frame} {meth : Method} {c : Code} {bytes : ByteArray} {mr : MR} {o : AO} {h1 : AH} {ih : AK} {pc len tgt d : Nat} {r : List CI} {ls : AL} {st : List AV} {h : AH} {off : Int} (hx : p.tables.exec = Jvm.exec) (hb : c.code = bytes) (ht : (pc : Int) + off = (tgt : Int)) (hdec : decode bytes pc = .ok (.ifnull off, 3)) (nx : am_Nx K p l e R s m args below meth c mr o h1 (pc + 3) d ih r) (jm : am_Jm K p l e R s m args below meth c mr o h1 d ih) (hrun : am_step ih mr ((pc, .ifnull off, len, tgt) :: r) ls st h d = some (o, h1)) : am_G K p l e R s m args below meth c mr o h1 pc ls st h := by
  intro va H locs cells slots lsr hR hS hc hs hL hO
  have h9 : (match (generalizing := false) st with | Sum.inr _ :: t => ih mr r ls t h d | Sum.inl Value.null :: t => ih mr (am_jmp tgt mr.2.2.1) ls t h d | _ => none) = some (o, h1) := hrun
  split at h9
  · exact lv_ifnull hx hb hdec (nx _ _ _ h9 va H locs cells slots lsr hR hS hc hs hL (hO.pop))
  · exact lv_ifnullN hx hb hdec ht (jm _ _ _ _ h9 va H locs cells slots lsr hR hS hc hs hL hO.pop)
  · cases h9
theorem am_s_ifnonnull {K : AKx} {p : Program} {l : Launch} {e : Env} {R : Room} {s : State} {m : MethodId} {args : Array Value} {below : List Frame} {meth : Method} {c : Code} {bytes : ByteArray} {mr : MR} {o : AO} {h1 : AH} {ih : AK} {pc len tgt d : Nat} {r : List CI} {ls : AL} {st : List AV} {h : AH} {off : Int} (hx : p.tables.exec = Jvm.exec) (hb : c.code = bytes) (ht : (pc : Int) + off = (tgt : Int)) (hdec : decode bytes pc = .ok (.ifnonnull off, 3)) (nx : am_Nx K p l e R s m args below meth c mr o h1 (pc + 3) d ih r) (jm : am_Jm K p l e R s m args below meth c mr o h1 d ih) (hrun : am_step ih mr ((pc, .ifnonnull off, len, tgt) :: r) ls st h d = some (o, h1)) : am_G K p l e R s m args below meth c mr o h1 pc ls st h := by
  intro va H locs cells slots lsr hR hS hc hs hL hO
  have h9 : (match (generalizing := false) st with | Sum.inr _ :: t => ih mr (am_jmp tgt mr.2.2.1) ls t h d | Sum.inl Value.null :: t => ih mr r ls t h d | _ => none) = some (o, h1) := hrun
  split at h9
  · exact lv_ifnonnull hx hb hdec ht (jm _ _ _ _ h9 va H locs cells slots lsr hR hS hc hs hL hO.pop)
  · exact lv_ifnonnullN hx hb hdec (nx _ _ _ h9 va H locs cells slots lsr hR hS hc hs hL (hO.pop))
  · cases h9
end
section
/-! the heap's instructions -/
def am_kd : FieldType → Nat
  | .int => 0
  | .boolean => 2
  | .byte => 3
  | .object _ => 1
  | .array _ => 1
  | _ => 9
/-- the constants' fields -/
def am_cf : Nat → Nat → String × String × String
  | 13, 0 => ("MoonlitFloor$Sign", "text", "Ljava/lang/String;")
  | 13, 1 => ("MoonlitFloor$Sign", "setting", "Z")
  | 13, 2 => ("MoonlitFloor$Sign", "event", "Z")
  | 13, _ => ("java/lang/Enum", "ordinal", "I")
  | _, 0 => ("java/lang/String", "value", "[B")
  | _, _ => ("java/lang/String", "coder", "B")
/-- the names of the classes -/
def am_cn : Nat → String
  | 0 => RJ0 | 1 => RJ4 | 2 => RJx4a65c | 4 => RX1 | 5 => RX2 | 6 => RX3 | 7 => RX4 | 8 => RX6 | 9 => RX7 | 10 => RX8 | 11 => RX9 | 12 => RX10 | 13 => RL | 16 => RJ5 | 17 => RJ6 | 18 => RJ7 | 19 => RJ9 | 20 => RJx29ce0 | 21 => RJ1 | 22 => RJ2 | 23 => RJ3 | 24 => RJ8 | 25 => RJx9a822 | 26 => RJ15 | 27 => RJxc12de | 28 => RJxa1e45
  | _ => ""
/-- how a class file names a field: by itself, or as a nest mate's -/
def am_fk (own k : Nat) (o n ds : String) : Prop := Cond.fieldLink (am_cn own) k o n ds ∈ sg_T ∨ am_cn own ≠ o ∧ ∃ host, Cond.fieldLinkNest (am_cn own) k o n ds host ∈ lw_tbl
/-- a field that a class file names: of an object of ours (own: by the number of its class), or of a constant -/
def am_FO (own k : Nat) (v : Nat × Nat × Nat) : Prop :=
  (v.1 ≠ 13 → ∃ (q : vw_C) (ty0 : Nat → FieldType), vwCl[v.1]? = some q ∧ v.2.1 < q.2.2 ∧ am_lk v.1 am_nf = some q.2.2 ∧ am_fk own k (q.2.1 v.2.1).1 (q.2.1 v.2.1).2.1 (q.2.1 v.2.1).2.2.1 ∧ (∀ w ∈ u_ws q.1 q.2.1 q.2.2, w ∈ sg_T) ∧ (∀ j, j < q.2.2 → parseFieldDescriptor (q.2.1 j).2.2.1 = some (ty0 j)) ∧ am_kd (ty0 v.2.1) = v.2.2 ∧ (∀ a, a < q.2.2 → ∀ b, b < q.2.2 → a ≠ b → (q.2.1 a).2.1 ≠ (q.2.1 b).2.1) ∧ am_isR v.1 v.2.1 = Nat.beq v.2.2 1)
  ∧ (v.1 = 13 ∨ v.1 = 0 → (v.1 = 13 ∧ v.2.1 < 4 ∧ Nat.beq v.2.2 1 = Nat.beq v.2.1 0 ∨ v.1 = 0 ∧ v.2.1 < 2 ∧ Nat.beq v.2.2 1 = Nat.beq v.2.1 0) ∧ Cond.fieldLink (am_cn own) k (am_cf v.1 v.2.1).1 (am_cf v.1 v.2.1).2.1 (am_cf v.1 v.2.1).2.2 ∈ sg_T)
def am_tys (K : AKx) : List (ClassId × FieldType) := [(K.2.2.1 100, .int), (K.2.2.1 101, .byte), (K.2.2.1 102, .boolean), (K.2.2.1 103, .long), (K.2.2.1 104, .object "java/lang/Object"), (K.2.2.1 105, .object "MoonlitFloor$World"), (K.2.2.1 106, .object "MoonlitFloor$Sign")]
/-- an array that is constant -/
def am_CA (K : AKx) (n : Nat) (ty : FieldType) (len : Nat) (f : Nat → Value) (s : State) (H : Heap) : Prop := ∃ cell : Cell, H[K.2.2.2.2.1 n]? = some cell ∧ s.isArrayOf cell ty ∧ cell.vm ≠ .unknown ∧ (len ≤ cell.slots.size ∧ cell.slots.size.toInt32 = Int32.ofNat len) ∧ ∀ j, j < len → cell.slots[j]? = some (f j)
/-- the texts of the exceptions -/
def am_tx : List Nat := [64, 75, 275, 283, 285, 308, 313, 315, 317, 319, 321, 323, 325]
/-- private methods that are called through an abstract class -/
def am_pv : List MethodName := [yJ5_ensureCapacityInternal_d00df, yJ5_newCapacity_0f7a4, yJ5_putStringAt_47b60, yJ5_inflateIfNeededFor_a7421]
def yF_length : MethodName := ⟨RJx9f9b0, "length", "()I"⟩
def yF_charAt : MethodName := ⟨RJx9f9b0, "charAt", "(I)C"⟩
def am_Kn (K : AKx) (s : State) (H : Heap) : Prop :=
  va_K K.2.1 vwCl (am_tys K) s ∧ (∀ w ∈ lw_tbl, am_nw w = true → va_Nw w s) ∧
  (∀ (x : Fin 37) (j : Nat), j < 4 → va_OF (am_cf 13 j).1 (am_cf 13 j).2.1 (am_cf 13 j).2.2 (bif Nat.beq j 0 then .ref (K.2.2.2.2.1 (1000 + x.val)) else .int (bif Nat.beq j 1 then nI (am_set.getD x.val 0) else bif Nat.beq j 2 then nI (am_evt.getD x.val 0) else nI x.val)) (K.2.2.2.1 x) (am_fr K) s H) ∧
  (∀ n : Nat, n < am_nstr → ∀ j, j < 2 → va_OF (am_cf 0 j).1 (am_cf 0 j).2.1 (am_cf 0 j).2.2 (bif Nat.beq j 0 then .ref (K.2.2.2.2.1 (2000 + n)) else .int 0) (K.2.2.2.2.1 (1000 + n)) (am_fr K) s H) ∧
  (∀ x : Fin 37, va_O "MoonlitFloor$Sign" (K.2.2.2.1 x) (am_fr K) s H) ∧ (∀ n : Nat, n < am_nstr → va_O "java/lang/String" (K.2.2.2.2.1 (1000 + n)) (am_fr K) s H) ∧
  (∀ n : Nat, n < am_nstr → am_CA K (2000 + n) .byte (am_strlen n) (fun j => .int (nI ((am_str.getD n []).getD j 0))) s H) ∧
  am_CA K 3000 (.object "MoonlitFloor$Sign") 37 (fun j => .ref (K.2.2.2.1 (Fin.ofNat 37 j))) s H ∧ am_CA K 3001 .int 37 (fun j => .int (nI (am_swm.getD j 0))) s H ∧ am_CA K 3002 .byte 100 (fun j => .int (nI (48 + j / 10))) s H ∧ am_CA K 3003 .byte 100 (fun j => .int (nI (48 + j % 10))) s H ∧
  am_CA K 3004 .int K.2.2.2.2.2.1 (fun j => .int (K.2.2.2.2.2.2.1 j)) s H ∧ (∀ n, 1000 ≤ n → n < 4000 → ¬ am_fr K (K.2.2.2.2.1 n)) ∧ (∀ x y : Fin 37, K.2.2.2.1 x = K.2.2.2.1 y → x = y) ∧
  (∀ (own k : Nat) (v : AV), am_S own k = some v → am_noS v = true ∧ ∃ C n ds, (∀ va, va_Z C n ds (am_rv K va v) (am_fr K) s H) ∧ Cond.fieldLink (am_cn own) k C n ds ∈ sg_T) ∧
  (∀ (own k : Nat) (v : AV), am_C own k = some v → (∃ x, v = vi x ∧ Cond.constant (am_cn own) k x ∈ sg_T) ∨ ∃ n text, v = zr n ∧ 1000 ≤ n ∧ vk_R (am_cn own) k text (K.2.2.2.2.1 n) s) ∧
  vx_Zq Bundle.tN "UNASSIGNED_STACK" Bundle.steD (am_fr K) s H ∧ vx_Zq Bundle.tN "SUPPRESSED_SENTINEL" Bundle.listD (am_fr K) s H ∧
  (∀ k ∈ am_tx, ∃ text sa, vk_R RX9 k text sa s) ∧ va_AO "MoonlitFloor$World" s ∧ va_AO "MoonlitFloor$Sign" s ∧ (∀ i j : Nat, i < 3 → j < 3 → i ≠ j → va_Nc (am_xs i) (am_xs j) s) ∧ va_Zq "jdk/internal/util/Preconditions" "SIOOBE_FORMATTER" "Ljava/util/function/BiFunction;" (am_fr K) s H ∧ (∀ y ∈ am_pv, va_Nw (.selects "java/lang/StringBuilder" y y) s) ∧ am_CA K 3005 (.object "java/lang/Object") 0 (fun _ => .null) s H ∧ va_O "jdk/internal/misc/Unsafe" (K.2.2.2.2.1 3007) (am_fr K) s H ∧ va_Fw "java/lang/String" yF_length yJ0_length_8abf5 s ∧ va_Fw "java/lang/String" yF_charAt yJ0_charAt_5068e s ∧ va_AO "java/lang/Object" s
theorem am_lt {n m : Nat} (h : n < m) : Nat.blt n m = true := Nat.blt_eq.mpr h
theorem am_nlt {n m : Nat} (h : ¬ n < m) : Nat.blt n m = false := by
  cases hb : Nat.blt n m with
  | false => rfl
  | true => exact absurd (Nat.blt_eq.mp hb) h
theorem am_beq {n m : Nat} (h : n = m) : Nat.beq n m = true := by subst h; exact Nat.beq_refl n
theorem am_bne {n m : Nat} (h : n ≠ m) : Nat.beq n m = false := by
  cases hb : Nat.beq n m with
  | false => rfl
  | true => exact absurd (Nat.eq_of_beq_eq_true hb) h
theorem am_tw_nf : ∀ q ∈ am_tw, q.2.1 < 100 → am_lk q.2.1 am_nf = some q.2.2 := by decide
theorem am_tz_nf : ∀ q ∈ am_tz, q.2.1 < 100 → am_lk q.2.1 am_nf = some q.2.2 := by decide
theorem am_kok_nf {k : Nat} (h : am_kok k = true) (hk : k < 100) : am_lk k am_nf = some (am_nfs k) := by
  unfold am_kok at h
  rcases Bool.or_eq_true_iff.mp h with z | z
  · unfold am_nfs
    cases hl : am_lk k am_nf with
    | none => rw [hl] at z; cases z
    | some n => rfl
  · have := Nat.le_of_ble_eq_true (Bool.and_eq_true_iff.mp z).1
    omega
theorem am_ty_nf {h : AH} {a : AA} (hd : am_dyn a = true) (hoa : am_oka h a) (ht : (am_ty h a).1 < 100) : am_lk (am_ty h a).1 am_nf = some (am_ty h a).2 := by
  rcases a with ⟨i, j⟩ | x | n | ⟨k, i⟩
  · rw [am_ty_w] at ht ⊢
    cases hl : am_lk j am_tw with
    | none => rw [hl] at ht; exact absurd ht (by decide)
    | some t => rw [hl] at ht; exact am_tw_nf _ (am_lk_mem hl) ht
  · cases hd
  · have hn : Nat.ble 1000 n = false := am_ble_f (Nat.blt_eq.mp hd)
    have e : am_ty h (Sum.inr (Sum.inr (Sum.inl n))) = am_ty h (za n) := rfl
    rw [e, am_ty_z, hn] at ht ⊢
    cases hl : am_lk n am_tz with
    | none => rw [hl] at ht; exact absurd ht (by show ¬ (999 < 100); decide)
    | some t => rw [hl] at ht; exact am_tz_nf _ (am_lk_mem hl) ht
  · have hk : k < 100 := ht
    show am_lk k am_nf = some (bif Nat.blt k 100 then am_nfs k else h.dl i)
    rw [am_lt hk]
    exact am_kok_nf hoa.2.2 hk
theorem am_ty_eq {h h2 : AH} (h1 : h2.dl = h.dl) (h3 : h2.sl = h.sl) (a : AA) : am_ty h2 a = am_ty h a := by
  rcases a with ⟨i, j⟩ | x | n | ⟨k, i⟩
  · rfl
  · rfl
  · have e : ∀ g : AH, am_ty g (Sum.inr (Sum.inr (Sum.inl n))) = am_ty g (za n) := fun _ => rfl
    rw [e, e, am_ty_z, am_ty_z, h3]
  · show (k, bif Nat.blt k 100 then am_nfs k else h2.dl i) = (k, bif Nat.blt k 100 then am_nfs k else h.dl i)
    rw [h1]
theorem am_ct_obj {K : AKx} {va : Nat → Nat} {h : AH} {a : AA} (ht : (am_ty h a).1 < 100) : am_ct K va h a = .inr ((am_ty h a).1, (List.range (am_ty h a).2).map (am_fv K va h a (am_ty h a).1)) := by
  unfold am_ct
  rw [am_lt ht]; rfl
theorem am_ct_arr {K : AKx} {va : Nat → Nat} {h : AH} {a : AA} (ht : 100 ≤ (am_ty h a).1) : am_ct K va h a = .inl (K.2.2.1 (am_ty h a).1, (am_ty h a).2, am_ac K va h a (am_ty h a).1) := by
  unfold am_ct
  rw [am_nlt (by omega)]; rfl
theorem am_ct_int {K : AKx} {va : Nat → Nat} {h : AH} {a : AA} {t : Nat} (ht : (am_ty h a).1 = t) (h1 : 100 ≤ t) (h2 : t < 103) : am_ct K va h a = .inl (K.2.2.1 t, (am_ty h a).2, .inl (fun j => h.i a j)) := by
  rw [am_ct_arr (by omega), ht]
  unfold am_ac
  rw [am_bne (show t ≠ 103 by omega), am_ble_f (show t < 104 by omega)]; rfl
theorem am_ct_ref {K : AKx} {va : Nat → Nat} {h : AH} {a : AA} {t : Nat} (ht : (am_ty h a).1 = t) (h1 : 104 ≤ t) : am_ct K va h a = .inl (K.2.2.1 t, (am_ty h a).2, .inr (.inr (.inr (.inr (fun j => am_ro K va (h.r a j)))))) := by
  rw [am_ct_arr (by omega), ht]
  unfold am_ac
  rw [am_bne (show t ≠ 103 by omega), Nat.ble_eq_true_of_le h1]; rfl
theorem am_ct_long {K : AKx} {va : Nat → Nat} {h : AH} {a : AA} (ht : (am_ty h a).1 = 103) : am_ct K va h a = .inl (K.2.2.1 103, (am_ty h a).2, .inr (.inl (fun j => h.lg (am_li a) j))) := by
  rw [am_ct_arr (by omega), ht]; rfl
theorem am_u_ne {α : Type} {f : AA → Nat → α} {a b : AA} {k : Nat} {v : α} (h : b ≠ a) : am_u f a k v b = f b := by
  funext j
  unfold am_u
  by_cases hj : j = k
  · rw [if_pos hj, if_neg h]
  · rw [if_neg hj]
theorem am_u_nk {α : Type} {f : AA → Nat → α} {a b : AA} {k j : Nat} {v : α} (h : j ≠ k) : am_u f a k v b j = f b j := by
  unfold am_u
  rw [if_neg h]
theorem am_u_at {α : Type} {f : AA → Nat → α} {a : AA} {k : Nat} {v : α} : am_u f a k v a k = v := by
  unfold am_u
  rw [if_pos rfl, if_pos rfl]
theorem am_ct_eq {K : AKx} {va : Nat → Nat} {h h2 : AH} {b : AA} (ht : am_ty h2 b = am_ty h b) (hi : h2.i b = h.i b) (hr : h2.r b = h.r b) (hl : (am_ty h b).1 = 103 → h2.lg (am_li b) = h.lg (am_li b)) : am_ct K va h2 b = am_ct K va h b := by
  by_cases h1 : (am_ty h b).1 < 100
  · rw [am_ct_obj (h := h) h1, am_ct_obj (h := h2) (by rw [ht]; exact h1), ht]
    have e : am_fv K va h2 b (am_ty h b).1 = am_fv K va h b (am_ty h b).1 := by
      funext k
      unfold am_fv
      rw [hi, hr]
    rw [e]
  · rw [am_ct_arr (h := h2) (by rw [ht]; omega), am_ct_arr (h := h) (by omega), ht]
    have e : am_ac K va h2 b (am_ty h b).1 = am_ac K va h b (am_ty h b).1 := by
      by_cases h3 : (am_ty h b).1 = 103
      · rw [h3]
        show Sum.inr (Sum.inl (fun (j : Nat) => h2.lg (am_li b) j)) = Sum.inr (Sum.inl (fun (j : Nat) => h.lg (am_li b) j))
        rw [hl h3]
      · unfold am_ac
        rw [hi, hr, am_bne h3]
        rfl
    rw [e]
theorem am_setf {n j : Nat} {F G : Nat → Value} {v : Value} (hv : G j = v) (ho : ∀ k, k ≠ j → G k = F k) : ((List.range n).map F).set j v = (List.range n).map G := by
  apply List.ext_getElem?
  intro k
  by_cases hk : k < n
  · by_cases hj : k = j
    · subst hj
      rw [List.getElem?_set_self (by simpa using hk), List.getElem?_map, List.getElem?_range hk, Option.map_some, hv]
    · rw [List.getElem?_set_ne (Ne.symm hj), List.getElem?_map, List.getElem?_map, List.getElem?_range hk, Option.map_some, Option.map_some, ho k hj]
  · have e : (List.range n)[k]? = none := by simp; omega
    by_cases hj : k = j
    · subst hj
      rw [List.getElem?_set]
      simp [hk, e]
    · rw [List.getElem?_set_ne (Ne.symm hj), List.getElem?_map, List.getElem?_map, e]; rfl
theorem am_ty_c {h : AH} {n : Nat} (hn : 1000 ≤ n) : (n = 3000 ∧ am_ty h (za n) = (106, 37)) ∨ (n = 3001 ∧ am_ty h (za n) = (100, 37)) ∨ (n = 3002 ∧ am_ty h (za n) = (101, 100)) ∨ (n = 3003 ∧ am_ty h (za n) = (101, 100)) ∨ (n = 3004 ∧ am_ty h (za n) = (100, h.sl)) ∨ (∃ k, n = 2000 + k ∧ k < am_nstr ∧ am_ty h (za n) = (101, am_strlen k)) ∨ (∃ k, n = 1000 + k ∧ k < am_nstr ∧ am_ty h (za n) = (0, 4)) ∨ (n = 3005 ∧ am_ty h (za n) = (104, 0)) ∨ (n = 3007 ∧ am_ty h (za n) = (15, 0)) ∨ am_ty h (za n) = (999, 0) := by
  by_cases e0 : n = 3000
  · subst e0; exact Or.inl ⟨rfl, rfl⟩
  by_cases e1 : n = 3001
  · subst e1; exact Or.inr (Or.inl ⟨rfl, rfl⟩)
  by_cases e2 : n = 3002
  · subst e2; exact Or.inr (Or.inr (Or.inl ⟨rfl, rfl⟩))
  by_cases e3 : n = 3003
  · subst e3; exact Or.inr (Or.inr (Or.inr (Or.inl ⟨rfl, rfl⟩)))
  by_cases e4 : n = 3004
  · subst e4; exact Or.inr (Or.inr (Or.inr (Or.inr (Or.inl ⟨rfl, rfl⟩))))
  by_cases e5 : n = 3005
  · subst e5; exact Or.inr (Or.inr (Or.inr (Or.inr (Or.inr (Or.inr (Or.inr (Or.inl ⟨rfl, rfl⟩)))))))
  by_cases e7 : n = 3007
  · subst e7; exact Or.inr (Or.inr (Or.inr (Or.inr (Or.inr (Or.inr (Or.inr (Or.inr (Or.inl ⟨rfl, rfl⟩))))))))
  refine Or.inr (Or.inr (Or.inr (Or.inr (Or.inr ?_))))
  rw [am_ty_z, Nat.ble_eq_true_of_le hn]
  cases h30 : Nat.ble 3000 n with
  | true =>
    rw [am_bne e0, am_bne e1, am_bne e2, am_bne e3, am_bne e4, am_bne e5, am_bne e7]
    exact Or.inr (Or.inr (Or.inr (Or.inr rfl)))
  | false =>
    have hb30 : ¬ 3000 ≤ n := fun z => by rw [Nat.ble_eq_true_of_le z] at h30; cases h30
    cases h20 : Nat.ble 2000 n with
    | true =>
      have hb20 := Nat.le_of_ble_eq_true h20
      by_cases hk : n < 2000 + am_nstr
      · rw [am_lt hk]
        exact Or.inl ⟨n - 2000, by omega, by omega, rfl⟩
      · rw [am_nlt hk]
        exact Or.inr (Or.inr (Or.inr (Or.inr rfl)))
    | false =>
      have hb20 : ¬ 2000 ≤ n := fun z => by rw [Nat.ble_eq_true_of_le z] at h20; cases h20
      by_cases hk : n < 1000 + am_nstr
      · rw [am_lt hk]
        exact Or.inr (Or.inl ⟨n - 1000, by omega, by omega, rfl⟩)
      · rw [am_nlt hk]
        exact Or.inr (Or.inr (Or.inr (Or.inr rfl)))
theorem am_tw_t : ∀ q ∈ am_tw, q.2.1 ≠ 0 ∧ q.2.1 ≠ 13 ∧ q.2.1 ≠ 15 ∧ q.2.1 ≠ 103 ∧ q.2.1 ≠ 104 ∧ am_kok q.2.1 = true := by decide
theorem am_tz_t : ∀ q ∈ am_tz, q.2.1 ≠ 0 ∧ q.2.1 ≠ 13 ∧ q.2.1 ≠ 15 ∧ q.2.1 ≠ 103 ∧ q.2.1 ≠ 104 ∧ am_kok q.2.1 = true := by decide
theorem am_kok_n {k : Nat} (h : am_kok k = true) : k ≠ 13 ∧ k ≠ 15 ∧ k ≠ 999 ∧ k ≠ 998 := by
  unfold am_kok at h
  rcases Bool.or_eq_true_iff.mp h with z | z
  · cases hl : am_lk k am_nf with
    | none => rw [hl] at z; cases z
    | some n =>
      have key : ∀ q ∈ am_nf, q.1 ≠ 13 ∧ q.1 ≠ 15 ∧ q.1 ≠ 999 ∧ q.1 ≠ 998 := by decide
      exact key _ (am_lk_mem hl)
  · obtain ⟨z1, z2⟩ := Bool.and_eq_true_iff.mp z
    have := Nat.le_of_ble_eq_true z1
    have := Nat.le_of_ble_eq_true z2
    omega
/-- which kinds our own cells have -/
theorem am_ty_d {h : AH} {a : AA} (hd : am_dyn a = true) (hoa : am_oka h a) : (am_ty h a).1 ≠ 13 ∧ (am_ty h a).1 ≠ 15 ∧ (((am_ty h a).1 = 103 ∨ (am_ty h a).1 = 104 ∨ (am_ty h a).1 = 0) → ∃ i, a = da (am_ty h a).1 i) ∧ ((am_ty h a).1 ≠ 999 → am_kok (am_ty h a).1 = true) := by
  rcases a with ⟨i, j⟩ | x | n | ⟨k, i⟩
  · rw [am_ty_w]
    cases hl : am_lk j am_tw with
    | none => exact ⟨by decide, by decide, fun z => absurd z (by decide), fun z => absurd rfl z⟩
    | some t =>
      have h1 := am_tw_t _ (am_lk_mem hl)
      dsimp only at h1 ⊢
      exact ⟨h1.2.1, h1.2.2.1, fun z => by omega, fun _ => h1.2.2.2.2.2⟩
  · cases hd
  · have hn : Nat.ble 1000 n = false := am_ble_f (Nat.blt_eq.mp hd)
    have e : am_ty h (Sum.inr (Sum.inr (Sum.inl n))) = am_ty h (za n) := rfl
    rw [e, am_ty_z, hn]
    cases hl : am_lk n am_tz with
    | none => exact ⟨(by decide : (999 : Nat) ≠ 13), (by decide : (999 : Nat) ≠ 15), fun z => absurd z (by decide : ¬ ((999 : Nat) = 103 ∨ (999 : Nat) = 104 ∨ (999 : Nat) = 0)), fun z => absurd rfl z⟩
    | some t =>
      have h1 := am_tz_t _ (am_lk_mem hl)
      dsimp only at h1
      exact ⟨h1.2.1, h1.2.2.1, fun z => absurd z (by show ¬ (t.1 = 103 ∨ t.1 = 104 ∨ t.1 = 0); omega), fun _ => h1.2.2.2.2.2⟩
  · have h1 := am_kok_n hoa.2.2
    exact ⟨h1.1, h1.2.1, fun _ => ⟨i, rfl⟩, fun _ => hoa.2.2⟩
/-- a cell with a kind is ours, a Sign, or one of the other constants -/
theorem am_dyn_or (h : AH) (a : AA) : am_dyn a = true ∨ (∃ x, a = ga x) ∨ ∃ n, a = za n ∧ 1000 ≤ n := by
  rcases a with w | x | n | q
  · exact Or.inl rfl
  · exact Or.inr (Or.inl ⟨x, rfl⟩)
  · rcases Nat.lt_or_ge n 1000 with z | z
    · exact Or.inl (am_lt z)
    · exact Or.inr (Or.inr ⟨n, rfl, z⟩)
  · exact Or.inl rfl
section HEAP
variable {K : AKx} {p : Program} {l : Launch} {e : Env} {R : Room} {s : State} {m : MethodId} {args : Array Value} {below : List Frame} {meth : Method} {c : Code} {bytes : ByteArray} {mr : MR} {o : AO} {h1 : AH} {ih : AK} {pc len tgt d : Nat} {r : List CI} {ls : AL} {st : List AV} {h : AH}
/-- behind a write of one cell -/
theorem am_Rel.wr {va : Nat → Nat} {h2 : AH} {H H1 : Heap} {a : AA} {e2 : va_E} (hR : am_Rel K va h H) (hv : am_val h a) (he : am_ct K va h2 a = e2) (ho : ∀ b : AA, b ≠ a → am_ct K va h2 b = am_ct K va h b) (hdy : h2.2.2.2.1.2 = h.2.2.2.1.2) (htl : h2.2.2.2.2 = h.2.2.2.2) (hx : ∀ k, h2.i (za 3004) k = h.i (za 3004) k) (hz : match h.nx with | some _ => H1.size = H.size | none => True) (hP : va_P K.2.1 vwCl ((am_ws K va h).set (am_jx h a) (am_ad K va a, e2)) H1) (hD : va_D (am_fr K) ((am_ws K va h).set (am_jx h a) (am_ad K va a, e2))) (hna : am_NA h2) : am_Rel K va h2 H1 := by
  have hn : h2.nx = h.nx := by
    show h2.2.2.2.2.2.2.2.2 = h.2.2.2.2.2.2.2.2
    rw [htl]
  have hsl : h2.sl = h.sl := by
    show h2.2.2.2.2.2.2.2.1 = h.2.2.2.2.2.2.2.1
    rw [htl]
  have hnd : h2.nd = h.nd := congrArg (fun z => z.1) hdy
  have hdk : h2.dk = h.dk := congrArg (fun z => z.2.1) hdy
  rw [← he, am_wset hv hn hnd hdk ho] at hP hD
  refine ⟨hP, hD, ?_, by rw [hsl]; exact hR.2.2.2.1, fun k => by rw [hx]; exact hR.2.2.2.2.1 k, hna⟩
  rw [hn]
  have h3 := hR.2.2.1
  cases hnx : h.nx with
  | none => trivial
  | some n =>
    rw [hnx] at h3 hz
    refine ⟨by rw [hz]; exact h3.1, h3.2.1, fun k hk1 hk2 => ?_⟩
    have hne : am_lay k ≠ a := by
      intro q
      rcases am_lay_ix hv.1 hv.2.2.1 with hl | ⟨c, i, rfl⟩
      · have hlt := am_ex_lt hl hv.1 hv.2.1
        rw [← q, am_lay_at hk2] at hlt
        unfold am_n at hlt
        rw [hnx] at hlt
        have hlt : k < n := hlt
        omega
      · exact am_lay_nd _ _ _ q
    rw [ho _ hne, h3.2.2 k hk1 hk2]
    unfold am_df
    rw [htl, hdy]
theorem am_val_of {a : AA} {t : Nat} (hd : am_dyn a = true) (he : am_ex h a = true) (ht : (am_ty h a).1 = t) (hne : t ≠ 999) (ho : am_oka h a) : am_val h a := ⟨hd, he, by rw [ht]; exact hne, ho⟩
theorem am_val.lt {k i : Nat} (hv : am_val h (da k i)) : i < h.nd := hv.2.2.2.1
theorem am_okv_dy {h2 : AH} {v : AV} (e : h2.2.2.2.1.2 = h.2.2.2.1.2) (q : am_okv h v) : am_okv h2 v := by
  refine q.ext ⟨?_, fun i _ => ?_⟩
  · show h.2.2.2.1.2.1 ≤ h2.2.2.2.1.2.1
    rw [e]; exact Nat.le_refl _
  · show h2.2.2.2.1.2.2.1 i = h.2.2.2.1.2.2.1 i
    rw [e]
/-- what isn't made yet is empty still: numbers are written, references, a long -/
theorem am_NA.ii {a : AA} {f : AA → Nat → Int32} (hv : am_val h a) (hf : ∀ b, b ≠ a → f b = h.1 b) (z : am_NA h) : am_NA (f, h.2) := by
  refine ⟨fun b j => ?_, fun i hi => ⟨fun k j => ?_, fun j => (z.2.1 i hi).2 j⟩, z.2.2.1, z.2.2.2⟩
  · exact am_okv_dy (h := h) rfl (z.1 b j)
  · refine ⟨?_, ((z.2.1 i hi).1 k j).2⟩
    show f (da k i) j = 0
    rw [hf (da k i) (fun q => by
      have hlt := am_val.lt (q ▸ hv)
      have hi : h.nd ≤ i := hi
      omega)]
    exact ((z.2.1 i hi).1 k j).1
theorem am_NA.rr {a : AA} {f : AA → Nat → AV} (hv : am_val h a) (hf : ∀ b, b ≠ a → f b = h.2.1 b) (ha : ∀ j, am_okv h (f a j)) (z : am_NA h) : am_NA (h.1, f, h.2.2) := by
  refine ⟨fun b j => ?_, fun i hi => ⟨fun k j => ?_, fun j => (z.2.1 i hi).2 j⟩, z.2.2.1, z.2.2.2⟩
  · show am_okv (h.1, f, h.2.2) (f b j)
    refine am_okv_dy (h := h) rfl ?_
    by_cases hb : b = a
    · rw [hb]; exact ha j
    · rw [hf b hb]; exact z.1 b j
  · refine ⟨((z.2.1 i hi).1 k j).1, ?_⟩
    show f (da k i) j = Sum.inl .null
    rw [hf (da k i) (fun q => by
      have hlt := am_val.lt (q ▸ hv)
      have hi : h.nd ≤ i := hi
      omega)]
    exact ((z.2.1 i hi).1 k j).2
theorem am_NA.ll {i0 j0 : Nat} {x : Int64} (hi0 : i0 < h.nd) (z : am_NA h) : am_NA (am_ls h i0 j0 x) := by
  refine ⟨fun b j => am_okv_dy (h := h) rfl (z.1 b j), fun i hi => ⟨fun k j => (z.2.1 i hi).1 k j, fun j => ?_⟩, z.2.2.1, z.2.2.2⟩
  show (if i = i0 ∧ j = j0 then x else h.lg i j) = 0
  have hi : h.nd ≤ i := hi
  rw [if_neg (fun q => by omega)]
  exact (z.2.1 i hi).2 j
/-- a frame's names, over a heap of the same cells -/
theorem am_ok.dy {va : Nat → Nat} {h2 : AH} (e : h2.2.2.2.1.2 = h.2.2.2.1.2) (q : am_ok K va h ls st) : am_ok K va h2 ls st := by
  refine ⟨?_, fun i v hv => am_okv_dy e (q.2.1 i v hv), fun v hv => am_okv_dy e (q.2.2 v hv)⟩
  have q1 := q.1
  unfold am_agr at q1 ⊢
  have e1 : h2.nd = h.nd := congrArg (fun z => z.1) e
  have e2 : h2.dk = h.dk := congrArg (fun z => z.2.1) e
  rw [e1, e2]
  exact q1
theorem am_rf {va : Nat → Nat} {v : AV} (hv : (∃ b, v = Sum.inr b) ∨ v = Sum.inl .null) : va_rf (am_ro K va v) = am_rv K va v := by
  rcases hv with ⟨b, rfl⟩ | rfl <;> rfl
theorem am_pr_of {k : AV → AR} {v : AV} {q : AO × AH} (h : am_pr k v = some q) : ((∃ b, v = Sum.inr b) ∨ v = Sum.inl .null) ∧ k v = some q := by
  unfold am_pr at h
  split at h
  · exact ⟨Or.inl ⟨_, rfl⟩, h⟩
  · exact ⟨Or.inr rfl, h⟩
  · cases h
/-- what the rows want of the frame -/
def am_Cx (K : AKx) (p : Program) (s : State) (m : MethodId) (args : Array Value) (c : Code) (bytes : ByteArray) (mr : MR) : Prop := p.tables.exec = Jvm.exec ∧ c.code = bytes ∧ c.maxLocals = mr.2.1 ∧ s.vm.findClass (am_cn mr.1) = some m.cls ∧ (∀ w ∈ sg_T, w.before args s = true) ∧ am_Kn K s s.heap
theorem am_rI_d {a : AA} (hd : am_dyn a = true) (k : Nat) : am_rI h a k = h.i a k ∧ am_rR h a k = h.r a k := by
  rcases a with w | x | n | q
  · exact ⟨rfl, rfl⟩
  · cases hd
  · have hn : Nat.ble 1000 n = false := am_ble_f (Nat.blt_eq.mp hd)
    have e1 : am_rR h (za n) k = bif Nat.ble 1000 n then (bif Nat.beq n 3000 then gr' (Fin.ofNat 37 k) else zr (n + 1000)) else h.r (za n) k := rfl
    have e2 : am_rI h (za n) k = bif Nat.ble 1000 n then (bif Nat.ble 3000 n then (bif Nat.beq n 3001 then nI (am_swm.getD k 0) else bif Nat.beq n 3002 then nI (48 + k / 10) else bif Nat.beq n 3003 then nI (48 + k % 10) else h.i (za n) k) else bif Nat.ble 2000 n then nI ((am_str.getD (n - 2000) []).getD k 0) else 0) else h.i (za n) k := rfl
    show am_rI h (za n) k = h.i (za n) k ∧ am_rR h (za n) k = h.r (za n) k
    rw [e1, e2, hn]
    exact ⟨rfl, rfl⟩
  · exact ⟨rfl, rfl⟩
/-- what a cell names is there -/
theorem am_okR {va : Nat → Nat} {H : Heap} (hR : am_Rel K va h H) (a : AA) (j : Nat) : am_okv h (am_rR h a j) := by
  cases hd : am_dyn a with
  | true => rw [(am_rI_d hd j).2]; exact hR.2.2.2.2.2.1 a j
  | false =>
    rcases a with w | x | n | q
    · cases hd
    · trivial
    · have e1 : am_rR h (Sum.inr (Sum.inr (Sum.inl n))) j = bif Nat.ble 1000 n then (bif Nat.beq n 3000 then gr' (Fin.ofNat 37 j) else zr (n + 1000)) else h.r (za n) j := rfl
      have hn : 1000 ≤ n := by
        rcases Nat.lt_or_ge n 1000 with z | z
        · have h3 : Nat.blt n 1000 = false := hd
          rw [am_lt z] at h3; cases h3
        · exact z
      rw [e1, Nat.ble_eq_true_of_le hn, cond_true]
      cases Nat.beq n 3000 <;> exact trivial
    · cases hd
theorem am_ad_c {va : Nat → Nat} {n : Nat} (h : 1000 ≤ n) : am_ad K va (za n) = K.2.2.2.2.1 n := by
  show (bif Nat.ble 1000 n then K.2.2.2.2.1 n else K.1 + n) = _
  rw [Nat.ble_eq_true_of_le h]; rfl
theorem am_fkN (hKn : am_Kn K s s.heap) {w : Cond} (hw : w ∈ lw_tbl) (hn : am_nw w = true) (ht : w.onTables = true) : w.before args s = true := va_Nw.use ht (hKn.2.1 _ hw hn)
theorem am_s_getfield {k : Nat} (hC : am_Cx K p s m args c bytes mr) (hF : ∀ v, am_F mr.1 k = some v → am_FO mr.1 k v) (hdec : decode bytes pc = .ok (.getfield k, 3)) (nx : am_Nx K p l e R s m args below meth c mr o h1 (pc + 3) d ih r) (hrun : am_step ih mr ((pc, .getfield k, len, tgt) :: r) ls st h d = some (o, h1)) : am_G K p l e R s m args below meth c mr o h1 pc ls st h := by
  intro va H locs cells slots lsr hR hS hc hs hL hO
  obtain ⟨hx, hb, hml, hown, hts, hKn⟩ := hC
  have h9 : (match (generalizing := false) st with | Sum.inr a :: t => (match am_F mr.1 k with | some (ci, j, kd) => bif Nat.beq (am_ty h a).1 ci && am_ex h a then (bif Nat.beq kd 1 then am_pr (fun v => ih mr r ls (v :: t) h d) (am_rR h a j) else ih mr r ls (vi (am_rI h a j) :: t) h d) else none | none => none) | _ => none) = some (o, h1) := hrun
  split at h9
  · next a t =>
    cases hf : am_F mr.1 k with
    | none => rw [hf] at h9; cases h9
    | some q =>
      obtain ⟨ci, j, kd⟩ := q
      rw [hf] at h9
      dsimp only at h9
      cases hbb : (Nat.beq (am_ty h a).1 ci && am_ex h a) with
      | false => rw [hbb] at h9; cases h9
      | true =>
        rw [hbb, cond_true] at h9
        obtain ⟨hb1, hex⟩ := Bool.and_eq_true_iff.mp hbb
        have hty : (am_ty h a).1 = ci := Nat.eq_of_beq_eq_true hb1
        have hoa : am_oka h a := hO.top
        have key : ∀ v : Value, (Nat.beq kd 1 = true → am_rv K va (am_rR h a j) = v ∧ ((∃ b, am_rR h a j = Sum.inr b) ∨ am_rR h a j = Sum.inl .null)) → (Nat.beq kd 1 = false → .int (am_rI h a j) = v) → W p l e R s m args below meth c H locs cells slots (vx_MQ below (am_Post K o h1) (am_PostX K o h1) args s R.cells R.slots (am_fr K)) (F0 m (pc + 3) lsr (v :: t.map (am_rv K va))) := by
          intro v h3 h4
          cases hk1 : Nat.beq kd 1 with
          | true =>
            rw [hk1, cond_true] at h9
            obtain ⟨-, h10⟩ := am_pr_of h9
            rw [← (h3 hk1).1]
            exact nx _ _ _ h10 va H locs cells slots lsr hR hS hc hs hL (hO.pop.push (am_okR hR a j))
          | false =>
            rw [hk1, cond_false] at h9
            rw [← h4 hk1]
            exact nx _ _ _ h9 va H locs cells slots lsr hR hS hc hs hL hO.pop.num
        have hpr : Nat.beq kd 1 = true → ((∃ b, am_rR h a j = Sum.inr b) ∨ am_rR h a j = Sum.inl .null) := by
          intro hk1
          rw [hk1, cond_true] at h9
          exact (am_pr_of h9).1
        obtain ⟨hF1, hF2⟩ := hF _ hf
        cases hdyn : am_dyn a with
        | true =>
          have htd := am_ty_d (h := h) hdyn hoa
          obtain ⟨q, ty0, hq, hj, hnf, hlink, hin, hpd, hkd, hnm, hisr⟩ := hF1 (by rw [← hty]; exact htd.1)
          have hlt : ci < 100 := by
            have hl := (List.getElem?_eq_some_iff.mp hq).1
            exact Nat.lt_of_lt_of_le hl (by decide)
          have hv := am_val_of hdyn hex hty (by omega) hoa
          have hat := am_here (K := K) (va := va) hv
          rw [am_ct_obj (by rw [hty]; exact hlt)] at hat
          have hnf2 := am_ty_nf hdyn hoa (by rw [hty]; exact hlt)
          rw [hty, hnf] at hnf2
          have hN : q.2.2 = (am_ty h a).2 := Option.some.inj hnf2
          rw [hty] at hat
          have hrr := am_rI_d (h := h) hdyn j
          have hfs : ((List.range (am_ty h a).2).map (am_fv K va h a ci))[j]? = some (am_fv K va h a ci j) := by
            rw [List.getElem?_map, List.getElem?_range (by rw [← hN]; exact hj)]; rfl
          have fin : W p l e R s m args below meth c H locs cells slots (vx_MQ below (am_Post K o h1) (am_PostX K o h1) args s R.cells R.slots (am_fr K)) (F0 m (pc + 3) lsr (am_fv K va h a ci j :: t.map (am_rv K va))) := by
            refine key _ (fun hk1 => ⟨?_, hpr hk1⟩) (fun hk1 => ?_)
            · unfold am_fv
              rw [hisr, hk1]
              show _ = va_rf (am_ro K va (h.r a j))
              have h5 := hpr hk1
              rw [hrr.2] at h5 ⊢
              exact (am_rf h5).symm
            · unfold am_fv
              rw [hisr, hk1, hrr.1]; rfl
          rcases hlink with hlink | ⟨-, host, hlink⟩
          · exact va_get (ci := ci) (C := q.1) (T := q.2.1) (N := q.2.2) hx hb hts hin hown hKn.1 hR.1 (am_jx h a) hat hq j hj (hts _ hlink) (fun _ h => h) (v := am_fv K va h a ci j) hfs hdec fin
          · exact va_getN (ci := ci) (C := q.1) (T := q.2.1) (N := q.2.2) hx hb hts hin hown hKn.1 hR.1 (am_jx h a) hat hq j hj (am_fkN hKn hlink rfl rfl) (fun _ h => h) (v := am_fv K va h a ci j) hfs hdec fin
        | false =>
          rcases a with w | x | n | q
          · cases hdyn
          · have hci : ci = 13 := hty.symm
            subst hci
            obtain ⟨hci, hlink⟩ := hF2 (Or.inl rfl)
            rcases hci with ⟨-, hj4, hkd⟩ | ⟨z, -⟩
            · refine vk_getf hx hb (hKn.2.2.1 x j hj4) hS hown (hts _ hlink) (fun _ h => h) hdec (key _ (fun hk1 => ⟨?_, hpr hk1⟩) (fun hk1 => ?_))
              · rw [hk1] at hkd
                rw [← hkd]
                show Value.ref (am_ad K va (za (1000 + x.val))) = _
                rw [am_ad_c (by omega)]; rfl
              · rw [hk1] at hkd
                rw [← hkd]
                rfl
            · cases z
          · have hn : 1000 ≤ n := by
              rcases Nat.lt_or_ge n 1000 with z | z
              · have h3 : Nat.blt n 1000 = false := hdyn
                rw [am_lt z] at h3; cases h3
              · exact z
            have hn9 : ∀ (tt : Nat × Nat), am_ty h (za n) = tt → tt.1 = ci := fun tt e9 => by rw [← e9]; exact hty
            have no : ci ≠ 0 → ci ≠ 13 → ci < 100 → ci ≠ 15 → False := fun z0 z1 z2 z3 => by
              rcases am_ty_c (h := h) hn with ⟨-, e9⟩ | ⟨-, e9⟩ | ⟨-, e9⟩ | ⟨-, e9⟩ | ⟨-, e9⟩ | ⟨_, -, -, e9⟩ | ⟨_, -, -, e9⟩ | ⟨-, e9⟩ | ⟨-, e9⟩ | e9 <;> have := hn9 _ e9 <;> dsimp only at this <;> omega
            have hcl : ci ≠ 13 → ci < 12 + 1 := fun z => by
              obtain ⟨q, ty0, hq, -⟩ := hF1 z
              exact Nat.lt_of_lt_of_le (List.getElem?_eq_some_iff.mp hq).1 (by decide)
            by_cases h0 : ci = 0
            · subst h0
              obtain ⟨hci, hlink⟩ := hF2 (Or.inr rfl)
              rcases hci with ⟨z, -⟩ | ⟨-, hj2, hkd⟩
              · cases z
              · rcases am_ty_c (h := h) hn with ⟨-, e9⟩ | ⟨-, e9⟩ | ⟨-, e9⟩ | ⟨-, e9⟩ | ⟨-, e9⟩ | ⟨_, -, -, e9⟩ | ⟨n2, rfl, hn2, e9⟩ | ⟨-, e9⟩ | ⟨-, e9⟩ | e9
                rotate_left 6
                · show W p l e R s m args below meth c H locs cells slots _ (F0 m pc lsr (.ref (am_ad K va (za (1000 + n2))) :: t.map (am_rv K va)))
                  rw [am_ad_c (by omega)]
                  have hn83 : n2 < 1000 := Nat.lt_of_lt_of_le hn2 (by decide)
                  refine vk_getf hx hb (hKn.2.2.2.1 n2 hn2 j hj2) hS hown (hts _ hlink) (fun _ h => h) hdec (key _ (fun hk1 => ⟨?_, hpr hk1⟩) (fun hk1 => ?_))
                  · rw [hk1] at hkd
                    rw [← hkd]
                    have e1 : am_rR h (za (1000 + n2)) j = bif Nat.ble 1000 (1000 + n2) then (bif Nat.beq (1000 + n2) 3000 then gr' (Fin.ofNat 37 j) else zr (1000 + n2 + 1000)) else h.r (za (1000 + n2)) j := rfl
                    show am_rv K va (am_rR h (za (1000 + n2)) j) = _
                    rw [e1, Nat.ble_eq_true_of_le (by omega), am_bne (by omega)]
                    show Value.ref (am_ad K va (za (1000 + n2 + 1000))) = Value.ref (K.2.2.2.2.1 (2000 + n2))
                    rw [am_ad_c (by omega), show 1000 + n2 + 1000 = 2000 + n2 by omega]
                  · rw [hk1] at hkd
                    rw [← hkd]
                    have e2 : am_rI h (za (1000 + n2)) j = bif Nat.ble 1000 (1000 + n2) then (bif Nat.ble 3000 (1000 + n2) then (bif Nat.beq (1000 + n2) 3001 then nI (am_swm.getD j 0) else bif Nat.beq (1000 + n2) 3002 then nI (48 + j / 10) else bif Nat.beq (1000 + n2) 3003 then nI (48 + j % 10) else h.i (za (1000 + n2)) j) else bif Nat.ble 2000 (1000 + n2) then nI ((am_str.getD (1000 + n2 - 2000) []).getD j 0) else 0) else h.i (za (1000 + n2)) j := rfl
                    show Value.int (am_rI h (za (1000 + n2)) j) = _
                    rw [e2, Nat.ble_eq_true_of_le (by omega), am_ble_f (by omega), am_ble_f (by omega)]
                    rfl
                all_goals (exfalso; have := hn9 _ e9; dsimp only at this; omega)
            · exfalso
              by_cases h13 : ci = 13
              · rcases am_ty_c (h := h) hn with ⟨-, e9⟩ | ⟨-, e9⟩ | ⟨-, e9⟩ | ⟨-, e9⟩ | ⟨-, e9⟩ | ⟨_, -, -, e9⟩ | ⟨_, -, -, e9⟩ | ⟨-, e9⟩ | ⟨-, e9⟩ | e9 <;> have := hn9 _ e9 <;> dsimp only at this <;> omega
              · have := hcl h13
                exact no h0 h13 (by omega) (by omega)
          · cases hdyn
  · cases h9
end HEAP
end
section
section HEAP2
variable {K : AKx} {p : Program} {l : Launch} {e : Env} {R : Room} {s : State} {m : MethodId} {args : Array Value} {below : List Frame} {meth : Method} {c : Code} {bytes : ByteArray} {mr : MR} {o : AO} {h1 : AH} {ih : AK} {pc len tgt d : Nat} {r : List CI} {ls : AL} {st : List AV} {h : AH}
/-- a field is written, the heap's size is known -/
theorem am_vput {H : Heap} {locs : List Loc} {cells slots : Nat} {Q : State → Prop} {lsr : Array Slot} {rest : List Value} {D : va_G} {cl : List vw_C} {tys : List (ClassId × FieldType)} {ws : va_W} {A : Nat → Prop} {H0 : Heap} {a : Nat} (hexec : p.tables.exec = Jvm.exec) (hb : c.code = bytes) {own C : String} {T : u_T} {N ci index : Nat} {Ts : List Cond} (hts : ∀ w ∈ Ts, w.before args s = true) (hin : ∀ w ∈ u_ws C T N, w ∈ Ts) (ty0 : Nat → FieldType) (hty : ∀ k, k < N → parseFieldDescriptor (T k).2.2.1 = some (ty0 k)) (hnm : ∀ a, a < N → ∀ b, b < N → a ≠ b → (T a).2.1 ≠ (T b).2.1) (hown : s.vm.findClass own = some m.cls) (hK : va_K D cl tys s) (hP : va_P D cl ws H) (hD : va_D A ws) (hS0 : va_S A H0 H locs) (q0 : Nat) {fs : List Value} (he : ws[q0]? = some (a, .inr (ci, fs))) (hc : cl[ci]? = some (C, T, N)) (k : Nat) (hk : k < N) (hlink : (Cond.fieldLink own index (T k).1 (T k).2.1 (T k).2.2.1).before args s = true) (hfin : (T k).2.2.2 = false ∨ (meth.name = "<init>" ∧ (T k).1 = own)) {ty : FieldType} {v : Value} (hd : parseFieldDescriptor (T k).2.2.1 = some ty) (hn : narrow ty v = v) (hfit : fits ty v = true) (hl : k < fs.length)
    (hdg : decode bytes pc = .ok (.putfield index, 3)) (kk : ∀ (H1 : Heap) (locs1 : List Loc), H1.size = H.size → va_P D cl (ws.set q0 (a, .inr (ci, fs.set k v))) H1 → va_D A (ws.set q0 (a, .inr (ci, fs.set k v))) → va_S A H0 H1 locs1 → W p l e R s m args below meth c H1 locs1 cells slots Q (F0 m (pc + 3) lsr rest)) : W p l e R s m args below meth c H locs cells slots Q (F0 m pc lsr (v :: .ref a :: rest)) := by
  have hap := va_apart (own := own) hts hin ty0 hty hnm hK hc
  obtain ⟨r, h1, cell, q1, q2, q3, q4⟩ := hP q0 _ he
  have hr : r = (C, T, N) := Option.some.inj (h1.symm.trans hc)
  subst hr
  obtain ⟨hS, hfc, kC, hkC, hkind⟩ := hK.1 ci _ hc
  obtain ⟨cf, kf, fi, f, hi, hsl⟩ := hS k hk
  have hlay := hts _ (hin _ (u_in_lay hk))
  have hst := (u_facts hfc hkC (u_lays hts hin hk) hi).1
  rcases hfx : (T k).2.2.2 with _ | _
  · unfold u_lay at hlay
    rw [if_neg (by rw [hfx]; decide)] at hlay
    have h6 := u_store hfc hkC hkind hlay hi hd hn hfit
    refine W.putK hexec hb (f := f) ⟨hown, hlink, ⟨_, _, _, hi⟩, hst⟩ (by rw [q2]; exact h6) q1 q3 (by rw [hsl]; exact k2_hasslot (q4 k hk)) rfl rfl hdg fun H' e1 e2 e3 => ?_
    rw [hsl] at e1 ⊢
    exact kk H' _ e2 (hP.set hD he ⟨_, hc, t_OB.to (V := updV (vp_V fs) k v) ⟨_, e1, q2, q3, t_set q4 hap hk v⟩ (fun j _ => vp_updV_set hl v j)⟩ e3) (hD.set he) (hS0.put e2 e3 (hD.2 q0 _ he))
  · obtain ⟨hin2, hdecl⟩ := hfin.resolve_left (by rw [hfx]; decide)
    unfold u_lay at hlay
    rw [if_pos hfx] at hlay
    have hcf : m.cls = cf := by
      obtain ⟨_, _, c', _, _, _, -, -, hf', -, -, -, hown2, -⟩ := Cond.laysFinal_spec hlay
      have e1 : c' = cf := by have := hi.symm.trans hf'; simp at this; exact this.1.symm
      rw [hdecl] at hown2
      rw [← e1]; exact Option.some.inj (hown.symm.trans hown2)
    have h6 := u_fits hfc hkC hkind (Or.inr hlay) hi hd hn hfit
    refine W.putFinK hexec hb hown hlink hi hst hcf hin2 (by rw [q2]; exact h6) q1 q3 (by rw [hsl]; exact k2_hasslot (q4 k hk)) rfl rfl hdg fun H' e1 e2 e3 => ?_
    rw [hsl] at e1 ⊢
    exact kk H' _ e2 (hP.set hD he ⟨_, hc, t_OB.to (V := updV (vp_V fs) k v) ⟨_, e1, q2, q3, t_set q4 hap hk v⟩ (fun j _ => vp_updV_set hl v j)⟩ e3) (hD.set he) (hS0.put e2 e3 (hD.2 q0 _ he))
/-- .. a nest mate's -/
theorem am_vputN {H : Heap} {locs : List Loc} {cells slots : Nat} {Q : State → Prop} {lsr : Array Slot} {rest : List Value} {D : va_G} {cl : List vw_C} {tys : List (ClassId × FieldType)} {ws : va_W} {A : Nat → Prop} {H0 : Heap} {a : Nat} (hexec : p.tables.exec = Jvm.exec) (hb : c.code = bytes) {own C host : String} {T : u_T} {N ci index : Nat} {Ts : List Cond} (hts : ∀ w ∈ Ts, w.before args s = true) (hin : ∀ w ∈ u_ws C T N, w ∈ Ts) (ty0 : Nat → FieldType) (hty : ∀ k, k < N → parseFieldDescriptor (T k).2.2.1 = some (ty0 k)) (hnm : ∀ a, a < N → ∀ b, b < N → a ≠ b → (T a).2.1 ≠ (T b).2.1) (hown : s.vm.findClass own = some m.cls) (hK : va_K D cl tys s) (hP : va_P D cl ws H) (hD : va_D A ws) (hS0 : va_S A H0 H locs) (q0 : Nat) {fs : List Value} (he : ws[q0]? = some (a, .inr (ci, fs))) (hc : cl[ci]? = some (C, T, N)) (k : Nat) (hk : k < N) (hlink : (Cond.fieldLinkNest own index (T k).1 (T k).2.1 (T k).2.2.1 host).before args s = true) (hfin : (T k).2.2.2 = false) {ty : FieldType} {v : Value} (hd : parseFieldDescriptor (T k).2.2.1 = some ty) (hn : narrow ty v = v) (hfit : fits ty v = true) (hl : k < fs.length)
    (hdg : decode bytes pc = .ok (.putfield index, 3)) (kk : ∀ (H1 : Heap) (locs1 : List Loc), H1.size = H.size → va_P D cl (ws.set q0 (a, .inr (ci, fs.set k v))) H1 → va_D A (ws.set q0 (a, .inr (ci, fs.set k v))) → va_S A H0 H1 locs1 → W p l e R s m args below meth c H1 locs1 cells slots Q (F0 m (pc + 3) lsr rest)) : W p l e R s m args below meth c H locs cells slots Q (F0 m pc lsr (v :: .ref a :: rest)) := by
  have hap := va_apart (own := own) hts hin ty0 hty hnm hK hc
  obtain ⟨r, h1, cell, q1, q2, q3, q4⟩ := hP q0 _ he
  have hr : r = (C, T, N) := Option.some.inj (h1.symm.trans hc)
  subst hr
  obtain ⟨hS, hfc, kC, hkC, hkind⟩ := hK.1 ci _ hc
  obtain ⟨cf, kf, fi, f, hi, hsl⟩ := hS k hk
  have hlay := hts _ (hin _ (u_in_lay hk))
  unfold u_lay at hlay
  rw [if_neg (by rw [hfin]; decide)] at hlay
  have hst := (u_facts hfc hkC (u_lays hts hin hk) hi).1
  have h6 := u_store hfc hkC hkind hlay hi hd hn hfit
  refine va_WputK hexec hb (f := f) hown hlink hi hst (by rw [q2]; exact h6) q1 q3 (by rw [hsl]; exact k2_hasslot (q4 k hk)) rfl rfl hdg fun H' e1 e2 e3 => ?_
  rw [hsl] at e1 ⊢
  exact kk H' _ e2 (hP.set hD he ⟨_, hc, t_OB.to (V := updV (vp_V fs) k v) ⟨_, e1, q2, q3, t_set q4 hap hk v⟩ (fun j _ => vp_updV_set hl v j)⟩ e3) (hD.set he) (hS0.put e2 e3 (hD.2 q0 _ he))
theorem am_pf_of {k : AH → AR} {a : AA} {j kd : Nat} {v : AV} {q : AO × AH} (h9 : am_pf k h a j kd v = some q) : (∃ x, v = vi x ∧ k (am_u h.1 a j x, h.2) = some q ∧ (kd = 0 ∨ (kd = 2 ∧ (x = 0 ∨ x = 1)) ∨ (kd = 3 ∧ x.toInt8.toInt32 = x))) ∨ ∃ b, v = Sum.inr b ∧ kd = 1 ∧ k (h.1, am_u h.2.1 a j (Sum.inr b), h.2.2) = some q := by
  unfold am_pf at h9
  split at h9
  · next x =>
    cases h0 : Nat.beq kd 0 with
    | true => rw [h0] at h9; exact Or.inl ⟨x, rfl, h9, Or.inl (Nat.eq_of_beq_eq_true h0)⟩
    | false =>
      cases h2 : Nat.beq kd 2 with
      | true =>
        rw [h0, h2, cond_false, cond_true] at h9
        split at h9
        · next hx => exact Or.inl ⟨x, rfl, h9, Or.inr (Or.inl ⟨Nat.eq_of_beq_eq_true h2, hx⟩)⟩
        · cases h9
      | false =>
        cases h3 : Nat.beq kd 3 with
        | true =>
          rw [h0, h2, h3, cond_false, cond_false, cond_true] at h9
          split at h9
          · next hx => exact Or.inl ⟨x, rfl, h9, Or.inr (Or.inr ⟨Nat.eq_of_beq_eq_true h3, hx⟩)⟩
          · cases h9
        | false => rw [h0, h2, h3] at h9; cases h9
  · next b =>
    cases h1 : Nat.beq kd 1 with
    | true =>
      rw [h1] at h9
      exact Or.inr ⟨b, rfl, Nat.eq_of_beq_eq_true h1, h9⟩
    | false => rw [h1] at h9; cases h9
  · cases h9
theorem am_uokv {a : AA} {j : Nat} {b : AV} (hb : am_okv h b) (z : am_NA h) : ∀ i, am_okv h (am_u h.2.1 a j b a i) := fun i => by
  unfold am_u
  by_cases hi : i = j
  · rw [if_pos hi, if_pos rfl]; exact hb
  · rw [if_neg hi]; exact z.1 a i
theorem am_s_putfield {k : Nat} (hC : am_Cx K p s m args c bytes mr) (hF : ∀ v, am_F mr.1 k = some v → am_FO mr.1 k v) (hfin : ∀ v q, am_F mr.1 k = some v → vwCl[v.1]? = some q → (q.2.1 v.2.1).2.2.2 = false ∨ (meth.name = "<init>" ∧ (q.2.1 v.2.1).1 = am_cn mr.1)) (hdec : decode bytes pc = .ok (.putfield k, 3)) (nx : am_Nx K p l e R s m args below meth c mr o h1 (pc + 3) d ih r) (hrun : am_step ih mr ((pc, .putfield k, len, tgt) :: r) ls st h d = some (o, h1)) : am_G K p l e R s m args below meth c mr o h1 pc ls st h := by
  intro va H locs cells slots lsr hR hS hc hs hL hO
  obtain ⟨hx, hb, hml, hown, hts, hKn⟩ := hC
  have h9 : (match am_F mr.1 k with | some (ci, j, kd) => (match (generalizing := false) st with | v :: Sum.inr a :: t => bif Nat.beq (am_ty h a).1 ci && am_ex h a && am_dyn a then am_pf (fun h1 => ih mr r ls t h1 d) h a j kd v else none | _ => none) | none => none) = some (o, h1) := hrun
  cases hf : am_F mr.1 k with
  | none => rw [hf] at h9; cases h9
  | some q0 =>
    obtain ⟨ci, j, kd⟩ := q0
    rw [hf] at h9
    dsimp only at h9
    split at h9
    · next v a t =>
      cases hbb : (Nat.beq (am_ty h a).1 ci && am_ex h a && am_dyn a) with
      | false => rw [hbb] at h9; cases h9
      | true =>
        rw [hbb, cond_true] at h9
        obtain ⟨hbb, hdyn⟩ := Bool.and_eq_true_iff.mp hbb
        obtain ⟨hb1, hex⟩ := Bool.and_eq_true_iff.mp hbb
        have hty : (am_ty h a).1 = ci := Nat.eq_of_beq_eq_true hb1
        have hoa : am_oka h a := hO.pop.top
        obtain ⟨q, ty0, hq, hj, hnf, hlink, hin, hpd, hkd, hnm, hisr⟩ := (hF _ hf).1 (by rw [← hty]; exact (am_ty_d hdyn hoa).1)
        · have hlt : ci < 100 := by
            have hl := (List.getElem?_eq_some_iff.mp hq).1
            exact Nat.lt_of_lt_of_le hl (by decide)
          have hv := am_val_of hdyn hex hty (by omega) hoa
          have hat := am_here (K := K) (va := va) hv
          rw [am_ct_obj (by rw [hty]; exact hlt)] at hat
          have hnf2 := am_ty_nf hdyn hoa (by rw [hty]; exact hlt)
          rw [hty, hnf] at hnf2
          have hN : q.2.2 = (am_ty h a).2 := Option.some.inj hnf2
          rw [hty] at hat
          have hsz : ∀ (H1 : Heap), H1.size = H.size → (match h.nx with | some _ => H1.size = H.size | none => True) := by
            intro H1 hz
            cases h.nx with
            | none => trivial
            | some n => exact hz
          have hne4 : a ≠ za 3004 := by
            intro z
            subst z
            cases hdyn
          have put : ∀ (v : Value), narrow (ty0 j) v = v → fits (ty0 j) v = true → (∀ (H1 : Heap) (locs1 : List Loc), H1.size = H.size → va_P K.2.1 vwCl ((am_ws K va h).set (am_jx h a) (am_ad K va a, .inr (ci, ((List.range (am_ty h a).2).map (am_fv K va h a ci)).set j v))) H1 → va_D (am_fr K) ((am_ws K va h).set (am_jx h a) (am_ad K va a, .inr (ci, ((List.range (am_ty h a).2).map (am_fv K va h a ci)).set j v))) → va_S (am_fr K) s.heap H1 locs1 → W p l e R s m args below meth c H1 locs1 cells slots (vx_MQ below (am_Post K o h1) (am_PostX K o h1) args s R.cells R.slots (am_fr K)) (F0 m (pc + 3) lsr (t.map (am_rv K va)))) → W p l e R s m args below meth c H locs cells slots (vx_MQ below (am_Post K o h1) (am_PostX K o h1) args s R.cells R.slots (am_fr K)) (F0 m pc lsr (v :: .ref (am_ad K va a) :: t.map (am_rv K va))) := by
            intro v hn1 hn2 kk
            have hl9 : j < ((List.range (am_ty h a).2).map (am_fv K va h a ci)).length := by simp; rw [← hN]; exact hj
            rcases hlink with hlink | ⟨hne, host, hlink⟩
            · exact am_vput (v := v) hx hb hts hin ty0 hpd hnm hown hKn.1 hR.1 hR.2.1 hS (am_jx h a) hat hq j hj (hts _ hlink) (hfin _ q hf hq) (hpd j hj) hn1 hn2 hl9 hdec kk
            · refine am_vputN (v := v) hx hb hts hin ty0 hpd hnm hown hKn.1 hR.1 hR.2.1 hS (am_jx h a) hat hq j hj (am_fkN hKn hlink rfl rfl) ?_ (hpd j hj) hn1 hn2 hl9 hdec kk
              rcases hfin _ q hf hq with z | ⟨-, z⟩
              · exact z
              · exact absurd z.symm hne
          rcases am_pf_of h9 with ⟨x, rfl, h10, hk3⟩ | ⟨b, rfl, rfl, h10⟩
          · have hir : am_isR ci j = false := by
              rw [hisr]
              exact am_bne (by rcases hk3 with z | ⟨z, -⟩ | ⟨z, -⟩ <;> (dsimp only at z ⊢; omega))
            have hty9 : narrow (ty0 j) (.int x) = .int x ∧ fits (ty0 j) (.int x) = true := by
              dsimp only at hkd
              rcases hk3 with z | ⟨z, hx2⟩ | ⟨z, hx3⟩ <;> rw [z] at hkd
              · cases hq9 : ty0 j <;> rw [hq9] at hkd <;> first | (exact absurd hkd (by decide)) | (exfalso; revert hkd; simp [am_kd]; done) | exact ⟨rfl, rfl⟩
              · cases hq9 : ty0 j <;> rw [hq9] at hkd <;> first | (exact absurd hkd (by decide)) | (exfalso; revert hkd; simp [am_kd]; done) | (rcases hx2 with rfl | rfl <;> exact ⟨by decide, by decide⟩)
              · cases hq9 : ty0 j <;> rw [hq9] at hkd <;> first | (exact absurd hkd (by decide)) | (exfalso; revert hkd; simp [am_kd]; done) | (refine ⟨by show Value.int x.toInt8.toInt32 = _; rw [hx3], ?_⟩; rw [← hx3]; exact pk_fb x)
            refine put (.int x) hty9.1 hty9.2 (fun H2 locs2 hz hP2 hD2 hS2 => ?_)
            refine nx _ _ _ h10 va H2 locs2 cells slots lsr (hR.wr hv ?_ ?_ rfl rfl ?_ (hsz H2 hz) hP2 hD2 (hR.2.2.2.2.2.ii hv (fun b hb9 => am_u_ne hb9))) hS2 hc hs hL hO.pop.pop
            · have ht2 : am_ty (am_u h.1 a j x, h.2) a = am_ty h a := am_ty_eq rfl rfl a
              rw [am_ct_obj (by rw [ht2, hty]; exact hlt), ht2, hty]
              refine congrArg (fun z => Sum.inr (ci, z)) (am_setf ?_ ?_).symm
              · unfold am_fv
                rw [hir]
                exact congrArg Value.int am_u_at
              · intro k2 hk2
                unfold am_fv
                show (bif am_isR ci k2 then va_rf (am_ro K va (h.r a k2)) else Value.int (am_u h.1 a j x a k2)) = _
                rw [am_u_nk hk2]
            · intro b hb9
              exact am_ct_eq (am_ty_eq rfl rfl b) (am_u_ne hb9) rfl (fun _ => rfl)
            · intro k2
              show am_u h.1 a j x (za 3004) k2 = _
              rw [am_u_ne (Ne.symm hne4)]
          · have hir : am_isR ci j = true := by rw [hisr]; rfl
            have hty9 : narrow (ty0 j) (.ref (am_ad K va b)) = .ref (am_ad K va b) ∧ fits (ty0 j) (.ref (am_ad K va b)) = true := by
              dsimp only at hkd
              cases hq9 : ty0 j <;> rw [hq9] at hkd <;> first | (exact absurd hkd (by decide)) | (exfalso; revert hkd; simp [am_kd]; done) | exact ⟨rfl, rfl⟩
            refine put (.ref (am_ad K va b)) hty9.1 hty9.2 (fun H2 locs2 hz hP2 hD2 hS2 => ?_)
            refine nx _ _ _ h10 va H2 locs2 cells slots lsr (hR.wr hv ?_ ?_ rfl rfl (fun _ => rfl) (hsz H2 hz) hP2 hD2 (hR.2.2.2.2.2.rr hv (fun b hb9 => am_u_ne hb9) (am_uokv hO.top hR.2.2.2.2.2))) hS2 hc hs hL hO.pop.pop
            · have ht2 : am_ty (h.1, am_u h.2.1 a j (Sum.inr b), h.2.2) a = am_ty h a := am_ty_eq rfl rfl a
              rw [am_ct_obj (by rw [ht2, hty]; exact hlt), ht2, hty]
              refine congrArg (fun z => Sum.inr (ci, z)) (am_setf ?_ ?_).symm
              · unfold am_fv
                rw [hir]
                show va_rf (am_ro K va (am_u h.2.1 a j (Sum.inr b) a j)) = _
                rw [am_u_at]; rfl
              · intro k2 hk2
                unfold am_fv
                show (bif am_isR ci k2 then va_rf (am_ro K va (am_u h.2.1 a j (Sum.inr b) a k2)) else Value.int (h.i a k2)) = _
                rw [am_u_nk hk2]
            · intro b2 hb9
              exact am_ct_eq (am_ty_eq rfl rfl b2) rfl (am_u_ne hb9) (fun _ => rfl)
    · cases h9
end HEAP2
end
section
section HEAP3
variable {K : AKx} {p : Program} {l : Launch} {e : Env} {R : Room} {s : State} {m : MethodId} {args : Array Value} {below : List Frame} {meth : Method} {c : Code} {bytes : ByteArray} {mr : MR} {o : AO} {h1 : AH} {ih : AK} {pc len tgt d : Nat} {r : List CI} {ls : AL} {st : List AV} {h : AH}
theorem am_CA.keep {n len : Nat} {ty : FieldType} {f : Nat → Value} {H : Heap} {locs : List Loc} (hA : am_CA K n ty len f s s.heap) (hn : ¬ am_fr K (K.2.2.2.2.1 n)) (hS : va_S (am_fr K) s.heap H locs) : am_CA K n ty len f s H := by
  obtain ⟨cell, h1, h2⟩ := hA
  exact ⟨cell, by rw [hS.2.1 _ (Array.getElem?_eq_some_iff.mp h1).1 hn]; exact h1, h2⟩
theorem am_vin {j : Int32} {n : Nat} (h : 0 ≤ j ∧ j.toNatClampNeg < n) : vp_in j n := by
  rintro (z | z)
  · exact absurd h.1 (Int32.not_le.mpr z)
  · omega
theorem am_rI_s {k n2 : Nat} (hn : n2 < am_nstr) : am_rI h (za (2000 + n2)) k = nI ((am_str.getD n2 []).getD k 0) := by
  have hn83 : n2 < 1000 := Nat.lt_of_lt_of_le hn (by decide)
  have e2 : am_rI h (za (2000 + n2)) k = bif Nat.ble 1000 (2000 + n2) then (bif Nat.ble 3000 (2000 + n2) then (bif Nat.beq (2000 + n2) 3001 then nI (am_swm.getD k 0) else bif Nat.beq (2000 + n2) 3002 then nI (48 + k / 10) else bif Nat.beq (2000 + n2) 3003 then nI (48 + k % 10) else h.i (za (2000 + n2)) k) else bif Nat.ble 2000 (2000 + n2) then nI ((am_str.getD (2000 + n2 - 2000) []).getD k 0) else 0) else h.i (za (2000 + n2)) k := rfl
  have f1 : Nat.ble 3000 (2000 + n2) = false := by
    cases hb : Nat.ble 3000 (2000 + n2) with
    | false => rfl
    | true => have := Nat.le_of_ble_eq_true hb; omega
  rw [e2, Nat.ble_eq_true_of_le (by omega), f1, Nat.ble_eq_true_of_le (by omega), cond_true, cond_false, cond_true]
  rw [show 2000 + n2 - 2000 = n2 by omega]
theorem am_s_iaload (hC : am_Cx K p s m args c bytes mr) (hdec : decode bytes pc = .ok (.iaload, 1)) (nx : am_Nx K p l e R s m args below meth c mr o h1 (pc + 1) d ih r) (hrun : am_step ih mr ((pc, .iaload, len, tgt) :: r) ls st h d = some (o, h1)) : am_G K p l e R s m args below meth c mr o h1 pc ls st h := by
  intro va H locs cells slots lsr hR hS hc hs hL hO
  obtain ⟨hx, hb, hml, hown, hts, hKn⟩ := hC
  have h9 : (match (generalizing := false) st with | Sum.inl (Value.int j) :: Sum.inr a :: t => bif Nat.beq (am_ty h a).1 100 && am_ex h a then (if 0 ≤ j ∧ j.toNatClampNeg < (am_ty h a).2 then ih mr r ls (vi (am_rI h a j.toNatClampNeg) :: t) h d else none) else none | _ => none) = some (o, h1) := hrun
  split at h9
  · next j a t =>
    cases hbb : (Nat.beq (am_ty h a).1 100 && am_ex h a) with
    | false => rw [hbb] at h9; cases h9
    | true =>
      rw [hbb, cond_true] at h9
      obtain ⟨hb1, hex⟩ := Bool.and_eq_true_iff.mp hbb
      have hty : (am_ty h a).1 = 100 := Nat.eq_of_beq_eq_true hb1
      split at h9
      · next hj =>
        have hk := nx _ _ _ h9 va H locs cells slots lsr hR hS hc hs hL hO.pop.pop.num
        have hoa : am_oka h a := hO.pop.top
        rcases am_dyn_or h a with hd | ⟨x, rfl⟩ | ⟨n, rfl, hn⟩
        · have hat := am_here (K := K) (va := va) (am_val_of hd hex hty (by decide) hoa)
          rw [am_ct_int hty (by decide) (by decide)] at hat
          refine va_iald hx hb hKn.1 hR.1 (am_jx h a) 0 hat rfl (am_vin hj) hdec ?_
          rw [(am_rI_d hd _).1] at hk
          exact hk
        · exact absurd hty (by show ¬ (13 = 100); decide)
        · have go : ∀ (f : Nat → Value) (ln : Nat), am_CA K n .int ln f s s.heap → n < 4000 → (am_ty h (za n)).2 = ln → f j.toNatClampNeg = .int (am_rI h (za n) j.toNatClampNeg) → W p l e R s m args below meth c H locs cells slots (vx_MQ below (am_Post K o h1) (am_PostX K o h1) args s R.cells R.slots (am_fr K)) (F0 m pc lsr ((Sum.inl (Value.int j) :: Sum.inr (za n) :: t).map (am_rv K va))) := by
            intro f ln hA hn4 hln hf
            obtain ⟨cell, g1, g2, g3, g4, g5⟩ := hA.keep (hKn.2.2.2.2.2.2.2.2.2.2.2.2.1 n hn hn4) hS
            show W p l e R s m args below meth c H locs cells slots _ (F0 m pc lsr (.int j :: .ref (am_ad K va (za n)) :: t.map (am_rv K va)))
            rw [am_ad_c hn]
            rw [hln] at hj
            exact W.iald hx hb g1 g2 g3 (am_vin ⟨hj.1, Nat.lt_of_lt_of_le hj.2 g4.1⟩) (g5 _ hj.2) rfl rfl hdec (by rw [hf]; exact hk)
          rcases am_ty_c (h := h) hn with ⟨-, e9⟩ | ⟨rfl, e9⟩ | ⟨-, e9⟩ | ⟨-, e9⟩ | ⟨rfl, e9⟩ | ⟨_, -, -, e9⟩ | ⟨_, -, -, e9⟩ | ⟨-, e9⟩ | ⟨-, e9⟩ | e9
          · rw [e9] at hty; exact absurd hty (by decide)
          · exact go _ _ hKn.2.2.2.2.2.2.2.2.1 (by decide) (by rw [e9]) rfl
          · rw [e9] at hty; exact absurd hty (by decide)
          · rw [e9] at hty; exact absurd hty (by decide)
          · refine go _ _ hKn.2.2.2.2.2.2.2.2.2.2.2.1 (by decide) (by rw [e9]; exact hR.2.2.2.1) ?_
            exact congrArg Value.int (hR.2.2.2.2.1 _).symm
          · rw [e9] at hty; exact absurd hty (by show ¬ (101 = 100); decide)
          all_goals (rw [e9] at hty; exact absurd hty (by decide))
      · cases h9
  · cases h9
theorem am_s_baload (hC : am_Cx K p s m args c bytes mr) (hdec : decode bytes pc = .ok (.baload, 1)) (nx : am_Nx K p l e R s m args below meth c mr o h1 (pc + 1) d ih r) (hrun : am_step ih mr ((pc, .baload, len, tgt) :: r) ls st h d = some (o, h1)) : am_G K p l e R s m args below meth c mr o h1 pc ls st h := by
  intro va H locs cells slots lsr hR hS hc hs hL hO
  obtain ⟨hx, hb, hml, hown, hts, hKn⟩ := hC
  have h9 : (match (generalizing := false) st with | Sum.inl (Value.int j) :: Sum.inr a :: t => bif (Nat.beq (am_ty h a).1 101 || Nat.beq (am_ty h a).1 102) && am_ex h a then (if 0 ≤ j ∧ j.toNatClampNeg < (am_ty h a).2 then ih mr r ls (vi (am_rI h a j.toNatClampNeg) :: t) h d else none) else none | _ => none) = some (o, h1) := hrun
  split at h9
  · next j a t =>
    cases hbb : ((Nat.beq (am_ty h a).1 101 || Nat.beq (am_ty h a).1 102) && am_ex h a) with
    | false => rw [hbb] at h9; cases h9
    | true =>
      rw [hbb, cond_true] at h9
      obtain ⟨hb1, hex⟩ := Bool.and_eq_true_iff.mp hbb
      have hty : (am_ty h a).1 = 101 ∨ (am_ty h a).1 = 102 := by
        rcases Bool.or_eq_true_iff.mp hb1 with z | z
        · exact Or.inl (Nat.eq_of_beq_eq_true z)
        · exact Or.inr (Nat.eq_of_beq_eq_true z)
      split at h9
      · next hj =>
        have hk := nx _ _ _ h9 va H locs cells slots lsr hR hS hc hs hL hO.pop.pop.num
        have hoa : am_oka h a := hO.pop.top
        rcases am_dyn_or h a with hd | ⟨x, rfl⟩ | ⟨n, rfl, hn⟩
        · rw [(am_rI_d hd _).1] at hk
          rcases hty with hty | hty
          · have hat := am_here (K := K) (va := va) (am_val_of hd hex hty (by decide) hoa)
            rw [am_ct_int hty (by decide) (by decide)] at hat
            exact va_bald hx hb hKn.1 hR.1 (am_jx h a) 1 hat rfl (am_vin hj) hdec hk
          · have hat := am_here (K := K) (va := va) (am_val_of hd hex hty (by decide) hoa)
            rw [am_ct_int hty (by decide) (by decide)] at hat
            exact va_zald hx hb hKn.1 hR.1 (am_jx h a) 2 hat rfl (am_vin hj) hdec hk
        · rcases hty with hty | hty
          · exact absurd hty (by show ¬ (13 = 101); decide)
          · exact absurd hty (by show ¬ (13 = 102); decide)
        · have go : ∀ (f : Nat → Value) (ln : Nat), am_CA K n .byte ln f s s.heap → n < 4000 → (am_ty h (za n)).2 = ln → f j.toNatClampNeg = .int (am_rI h (za n) j.toNatClampNeg) → W p l e R s m args below meth c H locs cells slots (vx_MQ below (am_Post K o h1) (am_PostX K o h1) args s R.cells R.slots (am_fr K)) (F0 m pc lsr ((Sum.inl (Value.int j) :: Sum.inr (za n) :: t).map (am_rv K va))) := by
            intro f ln hA hn4 hln hf
            obtain ⟨cell, g1, g2, g3, g4, g5⟩ := hA.keep (hKn.2.2.2.2.2.2.2.2.2.2.2.2.1 n hn hn4) hS
            show W p l e R s m args below meth c H locs cells slots _ (F0 m pc lsr (.int j :: .ref (am_ad K va (za n)) :: t.map (am_rv K va)))
            rw [am_ad_c hn]
            rw [hln] at hj
            exact W.bald hx hb g1 g2 g3 (am_vin ⟨hj.1, Nat.lt_of_lt_of_le hj.2 g4.1⟩) (g5 _ hj.2) rfl rfl hdec (by rw [hf]; exact hk)
          rcases am_ty_c (h := h) hn with ⟨-, e9⟩ | ⟨-, e9⟩ | ⟨rfl, e9⟩ | ⟨rfl, e9⟩ | ⟨-, e9⟩ | ⟨n2, rfl, hn2, e9⟩ | ⟨_, -, -, e9⟩ | ⟨-, e9⟩ | ⟨-, e9⟩ | e9
          · rw [e9] at hty; exact absurd hty (by decide)
          · rw [e9] at hty; exact absurd hty (by decide)
          · exact go _ _ hKn.2.2.2.2.2.2.2.2.2.1 (by decide) (by rw [e9]) rfl
          · exact go _ _ hKn.2.2.2.2.2.2.2.2.2.2.1 (by decide) (by rw [e9]) rfl
          · rw [e9] at hty; rcases hty with z | z <;> exact absurd z (by dsimp only; decide)
          · refine go _ _ (hKn.2.2.2.2.2.2.1 n2 hn2) (by have : n2 < 1000 := Nat.lt_of_lt_of_le hn2 (by decide)
                                                         omega) (by rw [e9]) ?_
            rw [am_rI_s hn2]
          all_goals (rw [e9] at hty; exact absurd hty (by decide))
      · cases h9
  · cases h9
theorem am_s_laload (hC : am_Cx K p s m args c bytes mr) (hdec : decode bytes pc = .ok (.laload, 1)) (nx : am_Nx K p l e R s m args below meth c mr o h1 (pc + 1) d ih r) (hrun : am_step ih mr ((pc, .laload, len, tgt) :: r) ls st h d = some (o, h1)) : am_G K p l e R s m args below meth c mr o h1 pc ls st h := by
  intro va H locs cells slots lsr hR hS hc hs hL hO
  obtain ⟨hx, hb, hml, hown, hts, hKn⟩ := hC
  have h9 : (match (generalizing := false) st with | Sum.inl (Value.int j) :: Sum.inr (Sum.inr (Sum.inr (Sum.inr q))) :: t => (if q.1 = 103 ∧ h.nx = none ∧ 0 ≤ j ∧ j.toNatClampNeg < h.dl q.2 then ih mr r ls (Sum.inl (Value.long (h.lg q.2 j.toNatClampNeg)) :: t) h d else none) | _ => none) = some (o, h1) := hrun
  split at h9
  · next j q t =>
    split at h9
    · next hq =>
      obtain ⟨q1, q2⟩ := q
      obtain ⟨e1, hnx, hj⟩ := hq
      have e1 : q1 = 103 := e1
      subst e1
      have hk := nx _ _ _ h9 va H locs cells slots lsr hR hS hc hs hL hO.pop.pop.num
      have hoa : am_oka h (da 103 q2) := hO.pop.top
      have hty : (am_ty h (da 103 q2)).1 = 103 := rfl
      have hat := am_here (K := K) (va := va) (am_val_of (t := 103) (a := da 103 q2) rfl (by unfold am_ex; rw [hnx]) hty (by decide) hoa)
      rw [am_ct_long hty] at hat
      exact va_lald hx hb hKn.1 hR.1 (am_jx h (da 103 q2)) 3 hat rfl (am_vin hj) hdec hk
    · cases h9
  · cases h9
theorem am_s_aaload (hC : am_Cx K p s m args c bytes mr) (hdec : decode bytes pc = .ok (.aaload, 1)) (nx : am_Nx K p l e R s m args below meth c mr o h1 (pc + 1) d ih r) (hrun : am_step ih mr ((pc, .aaload, len, tgt) :: r) ls st h d = some (o, h1)) : am_G K p l e R s m args below meth c mr o h1 pc ls st h := by
  intro va H locs cells slots lsr hR hS hc hs hL hO
  obtain ⟨hx, hb, hml, hown, hts, hKn⟩ := hC
  have h9 : (match (generalizing := false) st with | Sum.inl (Value.int j) :: Sum.inr a :: t => bif (Nat.beq (am_ty h a).1 104 || Nat.beq (am_ty h a).1 105 || Nat.beq (am_ty h a).1 106) && am_ex h a then (if 0 ≤ j ∧ j.toNatClampNeg < (am_ty h a).2 then am_pr (fun v => ih mr r ls (v :: t) h d) (am_rR h a j.toNatClampNeg) else none) else none | _ => none) = some (o, h1) := hrun
  split at h9
  · next j a t =>
    cases hbb : ((Nat.beq (am_ty h a).1 104 || Nat.beq (am_ty h a).1 105 || Nat.beq (am_ty h a).1 106) && am_ex h a) with
    | false => rw [hbb] at h9; cases h9
    | true =>
      rw [hbb, cond_true] at h9
      obtain ⟨hb1, hex⟩ := Bool.and_eq_true_iff.mp hbb
      have hty : (am_ty h a).1 = 104 ∨ (am_ty h a).1 = 105 ∨ (am_ty h a).1 = 106 := by
        rcases Bool.or_eq_true_iff.mp hb1 with z | z
        · rcases Bool.or_eq_true_iff.mp z with z | z
          · exact Or.inl (Nat.eq_of_beq_eq_true z)
          · exact Or.inr (Or.inl (Nat.eq_of_beq_eq_true z))
        · exact Or.inr (Or.inr (Nat.eq_of_beq_eq_true z))
      split at h9
      · next hj =>
        obtain ⟨hpr, h10⟩ := am_pr_of h9
        have hk := nx _ _ _ h10 va H locs cells slots lsr hR hS hc hs hL (hO.pop.pop.push (am_okR hR a _))
        have hoa : am_oka h a := hO.pop.top
        rcases am_dyn_or h a with hd | ⟨x, rfl⟩ | ⟨n, rfl, hn⟩
        · rw [(am_rI_d hd _).2] at hk hpr
          have hk2 : W p l e R s m args below meth c H locs cells slots (vx_MQ below (am_Post K o h1) (am_PostX K o h1) args s R.cells R.slots (am_fr K)) (F0 m (pc + 1) lsr (va_rf (am_ro K va (h.r a j.toNatClampNeg)) :: t.map (am_rv K va))) := by
            rw [am_rf hpr]
            exact hk
          rcases hty with hty | hty | hty
          · have hat := am_here (K := K) (va := va) (am_val_of hd hex hty (by decide) hoa)
            rw [am_ct_ref hty (by decide)] at hat
            exact va_aldq hx hb hKn.1 hR.1 (am_jx h a) 4 hat rfl (am_vin hj) hdec hk2
          · have hat := am_here (K := K) (va := va) (am_val_of hd hex hty (by decide) hoa)
            rw [am_ct_ref hty (by decide)] at hat
            exact va_aldq hx hb hKn.1 hR.1 (am_jx h a) 5 hat rfl (am_vin hj) hdec hk2
          · have hat := am_here (K := K) (va := va) (am_val_of hd hex hty (by decide) hoa)
            rw [am_ct_ref hty (by decide)] at hat
            exact va_aldq hx hb hKn.1 hR.1 (am_jx h a) 6 hat rfl (am_vin hj) hdec hk2
        · rcases hty with hty | hty | hty
          · exact absurd hty (by show ¬ (13 = 104); decide)
          · exact absurd hty (by show ¬ (13 = 105); decide)
          · exact absurd hty (by show ¬ (13 = 106); decide)
        · rcases am_ty_c (h := h) hn with ⟨rfl, e9⟩ | ⟨-, e9⟩ | ⟨-, e9⟩ | ⟨-, e9⟩ | ⟨-, e9⟩ | ⟨_, -, -, e9⟩ | ⟨_, -, -, e9⟩ | ⟨rfl, e9⟩ | ⟨-, e9⟩ | e9
          · obtain ⟨cell, g1, g2, g3, g4, g5⟩ := (hKn.2.2.2.2.2.2.2.1).keep (hKn.2.2.2.2.2.2.2.2.2.2.2.2.1 3000 hn (by decide)) hS
            show W p l e R s m args below meth c H locs cells slots _ (F0 m pc lsr (.int j :: .ref (am_ad K va (za 3000)) :: t.map (am_rv K va)))
            rw [am_ad_c hn]
            have hj37 : 0 ≤ j ∧ j.toNatClampNeg < 37 := hj
            exact W.aald (ty := .object "MoonlitFloor$Sign") hx hb g1 g2 rfl g3 (am_vin ⟨hj37.1, Nat.lt_of_lt_of_le hj37.2 g4.1⟩) (g5 _ hj37.2) rfl rfl hdec hk
          rotate_left 6
          · exfalso
            rw [e9] at hj
            have := hj.2
            dsimp only at this
            omega
          all_goals (exfalso; rw [e9] at hty; dsimp only at hty; omega)
      · cases h9
  · cases h9
theorem am_s_arraylength (hC : am_Cx K p s m args c bytes mr) (hdec : decode bytes pc = .ok (.arraylength, 1)) (nx : am_Nx K p l e R s m args below meth c mr o h1 (pc + 1) d ih r) (hrun : am_step ih mr ((pc, .arraylength, len, tgt) :: r) ls st h d = some (o, h1)) : am_G K p l e R s m args below meth c mr o h1 pc ls st h := by
  intro va H locs cells slots lsr hR hS hc hs hL hO
  obtain ⟨hx, hb, hml, hown, hts, hKn⟩ := hC
  have h9 : (match (generalizing := false) st with | Sum.inr a :: t => bif Nat.ble 100 (am_ty h a).1 && Nat.ble (am_ty h a).1 106 && am_ex h a then ih mr r ls (vi (nI (am_ty h a).2) :: t) h d else none | _ => none) = some (o, h1) := hrun
  split at h9
  · next a t =>
    cases hbb : (Nat.ble 100 (am_ty h a).1 && Nat.ble (am_ty h a).1 106 && am_ex h a) with
    | false => rw [hbb] at h9; cases h9
    | true =>
      rw [hbb, cond_true] at h9
      obtain ⟨hb1, hex⟩ := Bool.and_eq_true_iff.mp hbb
      obtain ⟨hb1, hb2⟩ := Bool.and_eq_true_iff.mp hb1
      have ht1 := Nat.le_of_ble_eq_true hb1
      have ht2 := Nat.le_of_ble_eq_true hb2
      have hk := nx _ _ _ h9 va H locs cells slots lsr hR hS hc hs hL hO.pop.num
      have hoa : am_oka h a := hO.top
      rcases am_dyn_or h a with hd | ⟨x, rfl⟩ | ⟨n, rfl, hn⟩
      · have hat := am_here (K := K) (va := va) (am_val_of hd hex rfl (by omega) hoa)
        rw [am_ct_arr ht1] at hat
        have hq : ∃ ty, (am_tys K)[(am_ty h a).1 - 100]? = some (K.2.2.1 (am_ty h a).1, ty) := by
          generalize (am_ty h a).1 = z at ht1 ht2 ⊢
          have h3 : z = 100 ∨ z = 101 ∨ z = 102 ∨ z = 103 ∨ z = 104 ∨ z = 105 ∨ z = 106 := by omega
          rcases h3 with rfl | rfl | rfl | rfl | rfl | rfl | rfl <;> exact ⟨_, rfl⟩
        obtain ⟨ty, hq⟩ := hq
        exact va_alen hx hb hKn.1 hR.1 (am_jx h a) _ hat hq rfl hdec hk
      · exact absurd ht1 (by show ¬ (100 ≤ 13); decide)
      · have go : ∀ (f : Nat → Value) (ln : Nat) (ty : FieldType), am_CA K n ty ln f s s.heap → n < 4000 → (am_ty h (za n)).2 = ln → W p l e R s m args below meth c H locs cells slots (vx_MQ below (am_Post K o h1) (am_PostX K o h1) args s R.cells R.slots (am_fr K)) (F0 m pc lsr ((Sum.inr (za n) :: t).map (am_rv K va))) := by
          intro f ln ty hA hn4 hln
          obtain ⟨cell, g1, g2, g3, g4, g5⟩ := hA.keep (hKn.2.2.2.2.2.2.2.2.2.2.2.2.1 n hn hn4) hS
          show W p l e R s m args below meth c H locs cells slots _ (F0 m pc lsr (.ref (am_ad K va (za n)) :: t.map (am_rv K va)))
          rw [am_ad_c hn]
          exact W.alen (n := nI (am_ty h (za n)).2) hx hb g1 g2 (by rw [g4.2, hln]; rfl) rfl rfl hdec hk
        rcases am_ty_c (h := h) hn with ⟨rfl, e9⟩ | ⟨rfl, e9⟩ | ⟨rfl, e9⟩ | ⟨rfl, e9⟩ | ⟨rfl, e9⟩ | ⟨n2, rfl, hn2, e9⟩ | ⟨_, -, -, e9⟩ | ⟨rfl, e9⟩ | ⟨-, e9⟩ | e9
        · exact go _ _ _ hKn.2.2.2.2.2.2.2.1 (by decide) (by rw [e9])
        · exact go _ _ _ hKn.2.2.2.2.2.2.2.2.1 (by decide) (by rw [e9])
        · exact go _ _ _ hKn.2.2.2.2.2.2.2.2.2.1 (by decide) (by rw [e9])
        · exact go _ _ _ hKn.2.2.2.2.2.2.2.2.2.2.1 (by decide) (by rw [e9])
        · exact go _ _ _ hKn.2.2.2.2.2.2.2.2.2.2.2.1 (by decide) (by rw [e9]; exact hR.2.2.2.1)
        · exact go _ _ _ (hKn.2.2.2.2.2.2.1 n2 hn2) (by have : n2 < 1000 := Nat.lt_of_lt_of_le hn2 (by decide)
                                                        omega) (by rw [e9])
        · rw [e9] at ht1; exact absurd ht1 (by decide)
        · exact go _ _ _ hKn.2.2.2.2.2.2.2.2.2.2.2.2.2.2.2.2.2.2.2.2.2.2.2.2.1 (by decide) (by rw [e9])
        · rw [e9] at ht1; exact absurd ht1 (by decide)
        · rw [e9] at ht2; exact absurd ht2 (by decide)
  · cases h9
end HEAP3
end
