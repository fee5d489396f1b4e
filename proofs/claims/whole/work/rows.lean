section
-- ===== PART A: goes FIRST, ahead of the names: the tables' words, and 'selects' of the private methods out of them =====
/-- a private method of a class that the tables say can be made, by its rows of tables_1 -/
def lw_okq (q : MethodName × Nat) : Prop := (q.1.cls ≠ "java/lang/invoke/MethodHandle" ∧ q.1.cls ≠ "java/lang/invoke/VarHandle") ∧ Cond.instantiable q.1.cls q.2 ∈ tables_1 ∧ Cond.privateMethod q.1 ∈ tables_1 ∧ Cond.instanceMethod q.1 ∈ tables_1
theorem lw_p0 : lw_okq (⟨"VaultDevices", "takeReply", "(II)V"⟩, 6) := ⟨⟨by decide +kernel, by decide +kernel⟩, List.mem_of_getElem? (i := 18) (by decide +kernel), List.mem_of_getElem? (i := 198) (by decide +kernel), List.mem_of_getElem? (i := 199) (by decide +kernel)⟩
theorem lw_p1 : lw_okq (⟨"VaultDevices$State", "mergeVector", "(LVaultDevices$State;)V"⟩, 7) := ⟨⟨by decide +kernel, by decide +kernel⟩, List.mem_of_getElem? (i := 110) (by decide +kernel), List.mem_of_getElem? (i := 296) (by decide +kernel), List.mem_of_getElem? (i := 297) (by decide +kernel)⟩
theorem lw_p2 : lw_okq (⟨"VaultDevices$State", "mergeHeader", "(LVaultDevices$State;)V"⟩, 7) := ⟨⟨by decide +kernel, by decide +kernel⟩, List.mem_of_getElem? (i := 110) (by decide +kernel), List.mem_of_getElem? (i := 303) (by decide +kernel), List.mem_of_getElem? (i := 304) (by decide +kernel)⟩
theorem lw_p3 : lw_okq (⟨"VaultDevices", "sendHeld", "(I)V"⟩, 6) := ⟨⟨by decide +kernel, by decide +kernel⟩, List.mem_of_getElem? (i := 18) (by decide +kernel), List.mem_of_getElem? (i := 309) (by decide +kernel), List.mem_of_getElem? (i := 310) (by decide +kernel)⟩
theorem lw_p4 : lw_okq (⟨"VaultDevices$Terms", "spread", "()V"⟩, 7) := ⟨⟨by decide +kernel, by decide +kernel⟩, List.mem_of_getElem? (i := 26) (by decide +kernel), List.mem_of_getElem? (i := 317) (by decide +kernel), List.mem_of_getElem? (i := 318) (by decide +kernel)⟩
theorem lw_p5 : lw_okq (⟨"VaultDevices$Terms", "takeApart", "(I)Z"⟩, 7) := ⟨⟨by decide +kernel, by decide +kernel⟩, List.mem_of_getElem? (i := 26) (by decide +kernel), List.mem_of_getElem? (i := 321) (by decide +kernel), List.mem_of_getElem? (i := 322) (by decide +kernel)⟩
theorem lw_p6 : lw_okq (⟨"VaultDevices$Seals", "writeHeader", "(LVaultDevices$Terms;LVaultDevices$State;)V"⟩, 3) := ⟨⟨by decide +kernel, by decide +kernel⟩, List.mem_of_getElem? (i := 60) (by decide +kernel), List.mem_of_getElem? (i := 377) (by decide +kernel), List.mem_of_getElem? (i := 378) (by decide +kernel)⟩
theorem lw_p7 : lw_okq (⟨"VaultDevices$Seals", "writeEntries", "(LVaultDevices$Terms;LVaultDevices$State;)I"⟩, 3) := ⟨⟨by decide +kernel, by decide +kernel⟩, List.mem_of_getElem? (i := 60) (by decide +kernel), List.mem_of_getElem? (i := 382) (by decide +kernel), List.mem_of_getElem? (i := 383) (by decide +kernel)⟩
theorem lw_p8 : lw_okq (⟨"VaultDevices$Seals", "writeEntry", "(LVaultDevices$Terms;I)I"⟩, 3) := ⟨⟨by decide +kernel, by decide +kernel⟩, List.mem_of_getElem? (i := 60) (by decide +kernel), List.mem_of_getElem? (i := 386) (by decide +kernel), List.mem_of_getElem? (i := 387) (by decide +kernel)⟩
theorem lw_p9 : lw_okq (⟨"java/lang/Throwable", "fillInStackTrace", "(I)Ljava/lang/Throwable;"⟩, 6) := ⟨⟨by decide +kernel, by decide +kernel⟩, List.mem_of_getElem? (i := 479) (by decide +kernel), List.mem_of_getElem? (i := 477) (by decide +kernel), List.mem_of_getElem? (i := 478) (by decide +kernel)⟩
theorem lw_p10 : lw_okq (⟨"VaultDevicesModel", "may", "(ZI)Z"⟩, 28) := ⟨⟨by decide +kernel, by decide +kernel⟩, List.mem_of_getElem? (i := 595) (by decide +kernel), List.mem_of_getElem? (i := 705) (by decide +kernel), List.mem_of_getElem? (i := 706) (by decide +kernel)⟩
theorem lw_p11 : lw_okq (⟨"VaultDevicesModel", "count", "(IIZ)I"⟩, 28) := ⟨⟨by decide +kernel, by decide +kernel⟩, List.mem_of_getElem? (i := 595) (by decide +kernel), List.mem_of_getElem? (i := 709) (by decide +kernel), List.mem_of_getElem? (i := 710) (by decide +kernel)⟩
theorem lw_p12 : lw_okq (⟨"VaultDevicesModel", "copy", "(II)V"⟩, 28) := ⟨⟨by decide +kernel, by decide +kernel⟩, List.mem_of_getElem? (i := 595) (by decide +kernel), List.mem_of_getElem? (i := 713) (by decide +kernel), List.mem_of_getElem? (i := 714) (by decide +kernel)⟩
theorem lw_p13 : lw_okq (⟨"VaultDevicesModel", "set", "(IIIII)V"⟩, 28) := ⟨⟨by decide +kernel, by decide +kernel⟩, List.mem_of_getElem? (i := 595) (by decide +kernel), List.mem_of_getElem? (i := 717) (by decide +kernel), List.mem_of_getElem? (i := 718) (by decide +kernel)⟩
theorem lw_p14 : lw_okq (⟨"VaultDevicesModel", "sink", "(I)V"⟩, 28) := ⟨⟨by decide +kernel, by decide +kernel⟩, List.mem_of_getElem? (i := 595) (by decide +kernel), List.mem_of_getElem? (i := 721) (by decide +kernel), List.mem_of_getElem? (i := 722) (by decide +kernel)⟩
theorem lw_p15 : lw_okq (⟨"VaultDevicesModel", "before", "(II)Z"⟩, 28) := ⟨⟨by decide +kernel, by decide +kernel⟩, List.mem_of_getElem? (i := 595) (by decide +kernel), List.mem_of_getElem? (i := 725) (by decide +kernel), List.mem_of_getElem? (i := 726) (by decide +kernel)⟩
def lw_privs_1 : List (MethodName × Nat) := [(⟨"VaultDevices", "takeReply", "(II)V"⟩, 6), (⟨"VaultDevices$State", "mergeVector", "(LVaultDevices$State;)V"⟩, 7), (⟨"VaultDevices$State", "mergeHeader", "(LVaultDevices$State;)V"⟩, 7), (⟨"VaultDevices", "sendHeld", "(I)V"⟩, 6), (⟨"VaultDevices$Terms", "spread", "()V"⟩, 7), (⟨"VaultDevices$Terms", "takeApart", "(I)Z"⟩, 7), (⟨"VaultDevices$Seals", "writeHeader", "(LVaultDevices$Terms;LVaultDevices$State;)V"⟩, 3), (⟨"VaultDevices$Seals", "writeEntries", "(LVaultDevices$Terms;LVaultDevices$State;)I"⟩, 3), (⟨"VaultDevices$Seals", "writeEntry", "(LVaultDevices$Terms;I)I"⟩, 3), (⟨"java/lang/Throwable", "fillInStackTrace", "(I)Ljava/lang/Throwable;"⟩, 6), (⟨"VaultDevicesModel", "may", "(ZI)Z"⟩, 28), (⟨"VaultDevicesModel", "count", "(IIZ)I"⟩, 28), (⟨"VaultDevicesModel", "copy", "(II)V"⟩, 28), (⟨"VaultDevicesModel", "set", "(IIIII)V"⟩, 28), (⟨"VaultDevicesModel", "sink", "(I)V"⟩, 28), (⟨"VaultDevicesModel", "before", "(II)Z"⟩, 28)]
theorem lw_r1 : ∀ q ∈ lw_privs_1, lw_okq q := List.forall_mem_cons.mpr ⟨lw_p0, List.forall_mem_cons.mpr ⟨lw_p1, List.forall_mem_cons.mpr ⟨lw_p2, List.forall_mem_cons.mpr ⟨lw_p3, List.forall_mem_cons.mpr ⟨lw_p4, List.forall_mem_cons.mpr ⟨lw_p5, List.forall_mem_cons.mpr ⟨lw_p6, List.forall_mem_cons.mpr ⟨lw_p7, List.forall_mem_cons.mpr ⟨lw_p8, List.forall_mem_cons.mpr ⟨lw_p9, List.forall_mem_cons.mpr ⟨lw_p10, List.forall_mem_cons.mpr ⟨lw_p11, List.forall_mem_cons.mpr ⟨lw_p12, List.forall_mem_cons.mpr ⟨lw_p13, List.forall_mem_cons.mpr ⟨lw_p14, List.forall_mem_cons.mpr ⟨lw_p15, fun _ h => absurd h List.not_mem_nil⟩⟩⟩⟩⟩⟩⟩⟩⟩⟩⟩⟩⟩⟩⟩⟩
theorem lw_p16 : lw_okq (⟨"VaultDevicesModel", "send", "(IIII)Z"⟩, 28) := ⟨⟨by decide +kernel, by decide +kernel⟩, List.mem_of_getElem? (i := 595) (by decide +kernel), List.mem_of_getElem? (i := 745) (by decide +kernel), List.mem_of_getElem? (i := 746) (by decide +kernel)⟩
theorem lw_p17 : lw_okq (⟨"VaultDevicesModel", "seal", "(I)I"⟩, 28) := ⟨⟨by decide +kernel, by decide +kernel⟩, List.mem_of_getElem? (i := 595) (by decide +kernel), List.mem_of_getElem? (i := 753) (by decide +kernel), List.mem_of_getElem? (i := 754) (by decide +kernel)⟩
theorem lw_p18 : lw_okq (⟨"VaultDevicesModel", "makeSeal", "(I)I"⟩, 28) := ⟨⟨by decide +kernel, by decide +kernel⟩, List.mem_of_getElem? (i := 595) (by decide +kernel), List.mem_of_getElem? (i := 757) (by decide +kernel), List.mem_of_getElem? (i := 758) (by decide +kernel)⟩
theorem lw_p19 : lw_okq (⟨"VaultDevicesModel", "make", "(III)I"⟩, 28) := ⟨⟨by decide +kernel, by decide +kernel⟩, List.mem_of_getElem? (i := 595) (by decide +kernel), List.mem_of_getElem? (i := 761) (by decide +kernel), List.mem_of_getElem? (i := 762) (by decide +kernel)⟩
theorem lw_p20 : lw_okq (⟨"VaultDevicesModel", "look", "(III)I"⟩, 28) := ⟨⟨by decide +kernel, by decide +kernel⟩, List.mem_of_getElem? (i := 595) (by decide +kernel), List.mem_of_getElem? (i := 765) (by decide +kernel), List.mem_of_getElem? (i := 766) (by decide +kernel)⟩
theorem lw_p21 : lw_okq (⟨"VaultDevicesModel", "makeEntry", "(I)I"⟩, 28) := ⟨⟨by decide +kernel, by decide +kernel⟩, List.mem_of_getElem? (i := 595) (by decide +kernel), List.mem_of_getElem? (i := 769) (by decide +kernel), List.mem_of_getElem? (i := 770) (by decide +kernel)⟩
theorem lw_p22 : lw_okq (⟨"VaultDevicesModel", "settle", "(II)I"⟩, 28) := ⟨⟨by decide +kernel, by decide +kernel⟩, List.mem_of_getElem? (i := 595) (by decide +kernel), List.mem_of_getElem? (i := 773) (by decide +kernel), List.mem_of_getElem? (i := 774) (by decide +kernel)⟩
theorem lw_p23 : lw_okq (⟨"VaultDevicesModel", "remove", "(I)V"⟩, 28) := ⟨⟨by decide +kernel, by decide +kernel⟩, List.mem_of_getElem? (i := 595) (by decide +kernel), List.mem_of_getElem? (i := 781) (by decide +kernel), List.mem_of_getElem? (i := 782) (by decide +kernel)⟩
theorem lw_p24 : lw_okq (⟨"VaultDevicesModel", "reply", "(II)V"⟩, 28) := ⟨⟨by decide +kernel, by decide +kernel⟩, List.mem_of_getElem? (i := 595) (by decide +kernel), List.mem_of_getElem? (i := 785) (by decide +kernel), List.mem_of_getElem? (i := 786) (by decide +kernel)⟩
theorem lw_p25 : lw_okq (⟨"VaultDevicesModel", "isSeal", "(I)Z"⟩, 28) := ⟨⟨by decide +kernel, by decide +kernel⟩, List.mem_of_getElem? (i := 595) (by decide +kernel), List.mem_of_getElem? (i := 789) (by decide +kernel), List.mem_of_getElem? (i := 790) (by decide +kernel)⟩
theorem lw_p26 : lw_okq (⟨"VaultDevicesModel", "is", "(II)Z"⟩, 28) := ⟨⟨by decide +kernel, by decide +kernel⟩, List.mem_of_getElem? (i := 595) (by decide +kernel), List.mem_of_getElem? (i := 793) (by decide +kernel), List.mem_of_getElem? (i := 794) (by decide +kernel)⟩
theorem lw_p27 : lw_okq (⟨"VaultDevicesModel", "figure", "(II)I"⟩, 28) := ⟨⟨by decide +kernel, by decide +kernel⟩, List.mem_of_getElem? (i := 595) (by decide +kernel), List.mem_of_getElem? (i := 797) (by decide +kernel), List.mem_of_getElem? (i := 798) (by decide +kernel)⟩
theorem lw_p28 : lw_okq (⟨"VaultDevicesModel", "part", "()I"⟩, 28) := ⟨⟨by decide +kernel, by decide +kernel⟩, List.mem_of_getElem? (i := 595) (by decide +kernel), List.mem_of_getElem? (i := 801) (by decide +kernel), List.mem_of_getElem? (i := 802) (by decide +kernel)⟩
theorem lw_p29 : lw_okq (⟨"VaultDevicesModel", "boxed", "(I)I"⟩, 28) := ⟨⟨by decide +kernel, by decide +kernel⟩, List.mem_of_getElem? (i := 595) (by decide +kernel), List.mem_of_getElem? (i := 805) (by decide +kernel), List.mem_of_getElem? (i := 806) (by decide +kernel)⟩
theorem lw_p30 : lw_okq (⟨"VaultDevicesModel", "readEntry", "(I)V"⟩, 28) := ⟨⟨by decide +kernel, by decide +kernel⟩, List.mem_of_getElem? (i := 595) (by decide +kernel), List.mem_of_getElem? (i := 809) (by decide +kernel), List.mem_of_getElem? (i := 810) (by decide +kernel)⟩
theorem lw_p31 : lw_okq (⟨"VaultDevicesModel", "knows", "(III)Z"⟩, 28) := ⟨⟨by decide +kernel, by decide +kernel⟩, List.mem_of_getElem? (i := 595) (by decide +kernel), List.mem_of_getElem? (i := 813) (by decide +kernel), List.mem_of_getElem? (i := 814) (by decide +kernel)⟩
def lw_privs_2 : List (MethodName × Nat) := [(⟨"VaultDevicesModel", "send", "(IIII)Z"⟩, 28), (⟨"VaultDevicesModel", "seal", "(I)I"⟩, 28), (⟨"VaultDevicesModel", "makeSeal", "(I)I"⟩, 28), (⟨"VaultDevicesModel", "make", "(III)I"⟩, 28), (⟨"VaultDevicesModel", "look", "(III)I"⟩, 28), (⟨"VaultDevicesModel", "makeEntry", "(I)I"⟩, 28), (⟨"VaultDevicesModel", "settle", "(II)I"⟩, 28), (⟨"VaultDevicesModel", "remove", "(I)V"⟩, 28), (⟨"VaultDevicesModel", "reply", "(II)V"⟩, 28), (⟨"VaultDevicesModel", "isSeal", "(I)Z"⟩, 28), (⟨"VaultDevicesModel", "is", "(II)Z"⟩, 28), (⟨"VaultDevicesModel", "figure", "(II)I"⟩, 28), (⟨"VaultDevicesModel", "part", "()I"⟩, 28), (⟨"VaultDevicesModel", "boxed", "(I)I"⟩, 28), (⟨"VaultDevicesModel", "readEntry", "(I)V"⟩, 28), (⟨"VaultDevicesModel", "knows", "(III)Z"⟩, 28)]
theorem lw_r2 : ∀ q ∈ lw_privs_2, lw_okq q := List.forall_mem_cons.mpr ⟨lw_p16, List.forall_mem_cons.mpr ⟨lw_p17, List.forall_mem_cons.mpr ⟨lw_p18, List.forall_mem_cons.mpr ⟨lw_p19, List.forall_mem_cons.mpr ⟨lw_p20, List.forall_mem_cons.mpr ⟨lw_p21, List.forall_mem_cons.mpr ⟨lw_p22, List.forall_mem_cons.mpr ⟨lw_p23, List.forall_mem_cons.mpr ⟨lw_p24, List.forall_mem_cons.mpr ⟨lw_p25, List.forall_mem_cons.mpr ⟨lw_p26, List.forall_mem_cons.mpr ⟨lw_p27, List.forall_mem_cons.mpr ⟨lw_p28, List.forall_mem_cons.mpr ⟨lw_p29, List.forall_mem_cons.mpr ⟨lw_p30, List.forall_mem_cons.mpr ⟨lw_p31, fun _ h => absurd h List.not_mem_nil⟩⟩⟩⟩⟩⟩⟩⟩⟩⟩⟩⟩⟩⟩⟩⟩
theorem lw_p32 : lw_okq (⟨"VaultDevicesModel", "merge", "(I)Z"⟩, 28) := ⟨⟨by decide +kernel, by decide +kernel⟩, List.mem_of_getElem? (i := 595) (by decide +kernel), List.mem_of_getElem? (i := 817) (by decide +kernel), List.mem_of_getElem? (i := 818) (by decide +kernel)⟩
theorem lw_p33 : lw_okq (⟨"VaultDevicesModel", "holds", "(II)Z"⟩, 28) := ⟨⟨by decide +kernel, by decide +kernel⟩, List.mem_of_getElem? (i := 595) (by decide +kernel), List.mem_of_getElem? (i := 821) (by decide +kernel), List.mem_of_getElem? (i := 822) (by decide +kernel)⟩
theorem lw_p34 : lw_okq (⟨"VaultDevicesModel", "adopt", "(I)V"⟩, 28) := ⟨⟨by decide +kernel, by decide +kernel⟩, List.mem_of_getElem? (i := 595) (by decide +kernel), List.mem_of_getElem? (i := 825) (by decide +kernel), List.mem_of_getElem? (i := 826) (by decide +kernel)⟩
theorem lw_p35 : lw_okq (⟨"VaultDevicesModel", "isKnown", "(I)Z"⟩, 28) := ⟨⟨by decide +kernel, by decide +kernel⟩, List.mem_of_getElem? (i := 595) (by decide +kernel), List.mem_of_getElem? (i := 845) (by decide +kernel), List.mem_of_getElem? (i := 846) (by decide +kernel)⟩
theorem lw_p36 : lw_okq (⟨"VaultDevicesModel", "isTerm", "(I)Z"⟩, 28) := ⟨⟨by decide +kernel, by decide +kernel⟩, List.mem_of_getElem? (i := 595) (by decide +kernel), List.mem_of_getElem? (i := 849) (by decide +kernel), List.mem_of_getElem? (i := 850) (by decide +kernel)⟩
theorem lw_p37 : lw_okq (⟨"VaultDevicesModel", "spread", "()V"⟩, 28) := ⟨⟨by decide +kernel, by decide +kernel⟩, List.mem_of_getElem? (i := 595) (by decide +kernel), List.mem_of_getElem? (i := 853) (by decide +kernel), List.mem_of_getElem? (i := 854) (by decide +kernel)⟩
def lw_privs_3 : List (MethodName × Nat) := [(⟨"VaultDevicesModel", "merge", "(I)Z"⟩, 28), (⟨"VaultDevicesModel", "holds", "(II)Z"⟩, 28), (⟨"VaultDevicesModel", "adopt", "(I)V"⟩, 28), (⟨"VaultDevicesModel", "isKnown", "(I)Z"⟩, 28), (⟨"VaultDevicesModel", "isTerm", "(I)Z"⟩, 28), (⟨"VaultDevicesModel", "spread", "()V"⟩, 28)]
theorem lw_r3 : ∀ q ∈ lw_privs_3, lw_okq q := List.forall_mem_cons.mpr ⟨lw_p32, List.forall_mem_cons.mpr ⟨lw_p33, List.forall_mem_cons.mpr ⟨lw_p34, List.forall_mem_cons.mpr ⟨lw_p35, List.forall_mem_cons.mpr ⟨lw_p36, List.forall_mem_cons.mpr ⟨lw_p37, fun _ h => absurd h List.not_mem_nil⟩⟩⟩⟩⟩⟩
def lw_privs : List (MethodName × Nat) := lw_privs_1 ++ (lw_privs_2 ++ (lw_privs_3))
def lw_tbl : List Cond := k2_sels lw_privs ++ tables_1
theorem lw_privs_ok : ∀ q ∈ lw_privs, lw_okq q := by
  show ∀ q ∈ lw_privs_1 ++ (lw_privs_2 ++ (lw_privs_3)), lw_okq q
  exact List.forall_mem_append.mpr ⟨lw_r1, List.forall_mem_append.mpr ⟨lw_r2, lw_r3⟩⟩
end
section
/-! ===== the small machine: the code's own steps over numbers =====
A cell's shape: an object (class number, its fields: none an int that stands in the memory, some r a reference r), an array of ints or booleans (type number, length), an array of longs (length), an array of references (type number, what they are). References are places in the list of shapes. -/
abbrev sm_S : Type := (Nat × List (Option (Option Nat))) ⊕ ((Nat × Nat) ⊕ (Nat ⊕ (Nat × List (Option Nat))))
abbrev sm_M : Type := Nat → Nat → Int32
abbrev sm_J : Type := Nat → Nat → Int64
/-- shapes, ints, longs, how many cells and slots are left -/
abbrev sm_H : Type := List sm_S × sm_M × sm_J × Nat × Nat
abbrev sm_L : Type := List (Option Value)
/-- where a method stands: pc, locals, operands, memory -/
abbrev sm_P : Type := Nat × sm_L × List Value × sm_H
/-- an answer, or the number of what is thrown -/
abbrev sm_O : Type := Option Value ⊕ Nat
def sm_up (M : sm_M) (k i : Nat) (v : Int32) : sm_M := fun a => if a = k then upd (M k) i v else M a
def sm_uf (M : sm_M) (k : Nat) (f : Nat → Int32) : sm_M := fun a => if a = k then f else M a
def sm_uj (J : sm_J) (k i : Nat) (v : Int64) : sm_J := fun a => if a = k then vp_updL (J k) i v else J a
/-- what the class files say, by a method's number and a pc or an entry: the instruction; a field (class number, place, 0 int 1 boolean 2 reference); a class to make (class number, its fields); a class of references (type number); a callee (kind, method, how many values it takes); whether a method throws at once, by its arguments and the memory (what, cells, slots); where a throwing call is caught (what, then the pc behind the store, the local) -/
abbrev sm_T : Type := (Nat → Nat → Option Instr) × (Nat → Nat → Option (Nat × Nat × Nat)) × (Nat → Nat → Option (Nat × List (Option (Option Nat)))) × (Nat → Nat → Option Nat) × (Nat → Nat → Option (Nat × Nat × Nat)) × (Nat → List Value → sm_H → Option (Nat × Nat × Nat)) × (Nat → Nat → Nat → Option (Option (Nat × Nat))) × (Nat → Nat × Nat × Nat)
abbrev sm_ins (T : sm_T) := T.1
abbrev sm_fld (T : sm_T) := T.2.1
abbrev sm_cls (T : sm_T) := T.2.2.1
abbrev sm_arr (T : sm_T) := T.2.2.2.1
abbrev sm_cal (T : sm_T) := T.2.2.2.2.1
abbrev sm_thr (T : sm_T) := T.2.2.2.2.2.1
abbrev sm_cat (T : sm_T) := T.2.2.2.2.2.2.1
abbrev sm_nL (T : sm_T) := T.2.2.2.2.2.2.2
def sm_len : Instr → Nat
  | .bipush _ => 2
  | .sipush _ => 3
  | .iload _ => 2
  | .aload _ => 2
  | .istore _ => 2
  | .astore _ => 2
  | .iinc _ _ => 3
  | .ifCond _ _ => 3
  | .if_icmp _ _ => 3
  | .goto _ => 3
  | .getfield _ => 3
  | .putfield _ => 3
  | .newarray _ => 2
  | .anewarray _ => 3
  | .new _ => 3
  | .invokespecial _ => 3
  | .invokestatic _ => 3
  | .invokevirtual _ => 3
  | _ => 1
def sm_jmp (pc : Nat) (off : Int) (L : sm_L) (S : List Value) (h : sm_H) : Option sm_P := if 0 ≤ (pc : Int) + off then some (((pc : Int) + off).toNat, L, S, h) else none
def sm_lint (pc : Nat) (L : sm_L) (S : List Value) (h : sm_H) (i : Nat) : Option sm_P := match L[i]? with
  | some (some (.int x)) => some (pc, L, .int x :: S, h)
  | _ => none
def sm_lref (pc : Nat) (L : sm_L) (S : List Value) (h : sm_H) (i : Nat) : Option sm_P := match L[i]? with
  | some (some (.ref x)) => some (pc, L, .ref x :: S, h)
  | some (some (.retAddr x)) => some (pc, L, .retAddr x :: S, h)
  | _ => none
def sm_sint (pc : Nat) (L : sm_L) (S : List Value) (h : sm_H) (i : Nat) : Option sm_P := match S with
  | .int x :: r => some (pc, L.set i (some (.int x)), r, h)
  | _ => none
def sm_sref (pc : Nat) (L : sm_L) (S : List Value) (h : sm_H) (i : Nat) : Option sm_P := match S with
  | .ref x :: r => some (pc, L.set i (some (.ref x)), r, h)
  | _ => none
def sm_inc (pc : Nat) (L : sm_L) (S : List Value) (h : sm_H) (i : Nat) (n : Int) : Option sm_P := match L[i]? with
  | some (some (.int x)) => some (pc, L.set i (some (.int (x + Int32.ofInt n))), S, h)
  | _ => none
def sm_bin (pc : Nat) (L : sm_L) (S : List Value) (h : sm_H) (f : Int32 → Int32 → Int32) : Option sm_P := match S with
  | .int y :: .int x :: r => some (pc, L, .int (f x y) :: r, h)
  | _ => none
def sm_cnd (c : ClassFile.Cond) (x y : Int32) : Prop := match c with
  | .eq => x = y
  | .ne => ¬ x = y
  | .lt => x < y
  | .ge => y ≤ x
  | .gt => y < x
  | .le => x ≤ y
def sm_dec (c : ClassFile.Cond) (x y : Int32) : Decidable (sm_cnd c x y) := match c with
  | .eq => inferInstanceAs (Decidable (x = y))
  | .ne => inferInstanceAs (Decidable (¬ x = y))
  | .lt => inferInstanceAs (Decidable (x < y))
  | .ge => inferInstanceAs (Decidable (y ≤ x))
  | .gt => inferInstanceAs (Decidable (y < x))
  | .le => inferInstanceAs (Decidable (x ≤ y))
def sm_sel (c : ClassFile.Cond) (x y : Int32) (a b : Nat) : Nat := @ite _ (sm_cnd c x y) (sm_dec c x y) a b
def sm_tgt (pc : Nat) (off : Int) : Nat := ((pc : Int) + off).toNat
def sm_br (pc : Nat) (off : Int) (L : sm_L) (S : List Value) (h : sm_H) (c : ClassFile.Cond) : Option sm_P := match S with
  | .int x :: r => if 0 ≤ (pc : Int) + off then some (sm_sel c x 0 (sm_tgt pc off) (pc + 3), L, r, h) else none
  | _ => none
def sm_br2 (pc : Nat) (off : Int) (L : sm_L) (S : List Value) (h : sm_H) (c : ClassFile.Cond) : Option sm_P := match S with
  | .int y :: .int x :: r => if 0 ≤ (pc : Int) + off then some (sm_sel c x y (sm_tgt pc off) (pc + 3), L, r, h) else none
  | _ => none
def sm_get (pc : Nat) (L : sm_L) (S : List Value) (h : sm_H) (f : Option (Nat × Nat × Nat)) : Option sm_P := match f, S with
  | some (ci, k, _), .ref q :: r => match h.1[q]? with
    | some (.inl (cj, fs)) => if ci = cj then match fs[k]? with
      | some none => some (pc, L, .int (h.2.1 q k) :: r, h)
      | some (some (some z)) => some (pc, L, .ref z :: r, h)
      | _ => none else none
    | _ => none
  | _, _ => none
def sm_put (pc : Nat) (L : sm_L) (S : List Value) (h : sm_H) (f : Option (Nat × Nat × Nat)) : Option sm_P := match f, S with
  | some (ci, k, b), .int x :: .ref q :: r => match h.1[q]? with
    | some (.inl (cj, fs)) => if ci = cj ∧ fs[k]? = some none ∧ (b = 0 ∨ b = 1 ∧ (x = 0 ∨ x = 1)) then some (pc, L, r, h.1, sm_up h.2.1 q k x, h.2.2) else none
    | _ => none
  | some (ci, k, b), .ref z :: .ref q :: r => match h.1[q]? with
    | some (.inl (cj, fs)) => if ci = cj ∧ b = 2 ∧ fs[k]?.map Option.isSome = some true then some (pc, L, r, h.1.set q (.inl (cj, fs.set k (some (some z)))), h.2) else none
    | _ => none
  | _, _ => none
/-- ints (type number 0) and booleans (1) by their own instructions; 2 is long -/
def sm_ald (pc : Nat) (L : sm_L) (S : List Value) (h : sm_H) (t : Nat) (X : Nat × (Nat → Int32)) : Option sm_P := match S with
  | .int i :: .ref q :: r => match h.1[q]? with
    | some (.inr (.inl (u, n))) => if u = t ∧ 0 ≤ i.toInt ∧ i.toInt < n then some (pc, L, .int (h.2.1 q i.toNatClampNeg) :: r, h) else none
    | _ => none
  | .int i :: .retAddr _ :: r => if t = 0 ∧ 0 ≤ i.toInt ∧ i.toInt < X.1 then some (pc, L, .int (X.2 i.toNatClampNeg) :: r, h) else none
  | _ => none
def sm_ast (pc : Nat) (L : sm_L) (S : List Value) (h : sm_H) (t : Nat) : Option sm_P := match S with
  | .int x :: .int i :: .ref q :: r => match h.1[q]? with
    | some (.inr (.inl (u, n))) => if u = t ∧ 0 ≤ i.toInt ∧ i.toInt < n ∧ (t = 0 ∨ x = 0 ∨ x = 1) then some (pc, L, r, h.1, sm_up h.2.1 q i.toNatClampNeg x, h.2.2) else none
    | _ => none
  | _ => none
def sm_lald (pc : Nat) (L : sm_L) (S : List Value) (h : sm_H) : Option sm_P := match S with
  | .int i :: .ref q :: r => match h.1[q]? with
    | some (.inr (.inr (.inl n))) => if 0 ≤ i.toInt ∧ i.toInt < n then some (pc, L, .long (h.2.2.1 q i.toNatClampNeg) :: r, h) else none
    | _ => none
  | _ => none
def sm_last (pc : Nat) (L : sm_L) (S : List Value) (h : sm_H) : Option sm_P := match S with
  | .long x :: .int i :: .ref q :: r => match h.1[q]? with
    | some (.inr (.inr (.inl n))) => if 0 ≤ i.toInt ∧ i.toInt < n then some (pc, L, r, h.1, h.2.1, sm_uj h.2.2.1 q i.toNatClampNeg x, h.2.2.2) else none
    | _ => none
  | _ => none
def sm_aald (pc : Nat) (L : sm_L) (S : List Value) (h : sm_H) : Option sm_P := match S with
  | .int i :: .ref q :: r => match h.1[q]? with
    | some (.inr (.inr (.inr (t, rs)))) => if 0 ≤ i.toInt ∧ i.toInt < rs.length ∧ 3 ≤ t ∧ t < 6 then match rs[i.toNatClampNeg]? with
      | some (some z) => some (pc, L, .ref z :: r, h)
      | _ => none else none
    | _ => none
  | _ => none
def sm_aast (pc : Nat) (L : sm_L) (S : List Value) (h : sm_H) (ok : Nat → Nat → Bool) : Option sm_P := match S with
  | .ref z :: .int i :: .ref q :: r => match h.1[q]?, h.1[z]? with
    | some (.inr (.inr (.inr (t, rs)))), some (.inl (ci, _)) => if 0 ≤ i.toInt ∧ i.toInt < rs.length ∧ ok t ci = true then some (pc, L, r, h.1.set q (.inr (.inr (.inr (t, rs.set i.toNatClampNeg (some z))))), h.2) else none
    | _, _ => none
  | _ => none
def sm_alen (pc : Nat) (L : sm_L) (S : List Value) (h : sm_H) (X : Nat × (Nat → Int32)) : Option sm_P := match S with
  | .ref q :: r => match h.1[q]? with
    | some (.inr (.inl (t, n))) => if t < 6 then some (pc, L, .int (Int32.ofNat n) :: r, h) else none
    | some (.inr (.inr (.inl n))) => some (pc, L, .int (Int32.ofNat n) :: r, h)
    | some (.inr (.inr (.inr (t, rs)))) => if t < 6 then some (pc, L, .int (Int32.ofNat rs.length) :: r, h) else none
    | _ => none
  | .retAddr _ :: r => some (pc, L, .int (Int32.ofNat X.1) :: r, h)
  | _ => none
/-- references that are there -/
def sm_wfv (n : Nat) : Value → Bool
  | .ref k => decide (k < n)
  | _ => true
def sm_wfL (n : Nat) (L : sm_L) (S : List Value) : Bool := L.all (fun o => match o with
  | some v => sm_wfv n v
  | none => true) && S.all (sm_wfv n)
def sm_wfr (n : Nat) : Option Nat → Bool
  | some k => decide (k < n)
  | none => true
def sm_wfs (n : Nat) : sm_S → Bool
  | .inl (_, fs) => fs.all (fun f => match f with
    | some r => sm_wfr n r
    | none => true)
  | .inr (.inr (.inr (_, rs))) => rs.all (sm_wfr n)
  | _ => true
/-- a new cell, if there is room -/
def sm_mk (pc : Nat) (L : sm_L) (S : List Value) (h : sm_H) (z : sm_S) (n : Nat) : Option sm_P :=
  if 1 ≤ h.2.2.2.1 ∧ n ≤ h.2.2.2.2 ∧ sm_wfL h.1.length L S = true ∧ h.1.all (sm_wfs h.1.length) = true ∧ sm_wfs h.1.length z = true then
    some (pc, L, .ref h.1.length :: S, h.1 ++ [z], sm_uf h.2.1 h.1.length (fun _ => 0), (fun a => if a = h.1.length then (fun _ => 0) else h.2.2.1 a), h.2.2.2.1 - 1, h.2.2.2.2 - n) else none
def sm_newa (pc : Nat) (L : sm_L) (S : List Value) (h : sm_H) (t : ArrayType) : Option sm_P := match S with
  | .int n :: r => if 0 ≤ n.toInt ∧ n.toInt ≤ 1000000 then match t with
    | .int => sm_mk pc L r h (.inr (.inl (0, n.toNatClampNeg))) n.toNatClampNeg
    | .boolean => sm_mk pc L r h (.inr (.inl (1, n.toNatClampNeg))) n.toNatClampNeg
    | .long => sm_mk pc L r h (.inr (.inr (.inl n.toNatClampNeg))) n.toNatClampNeg
    | _ => none else none
  | _ => none
def sm_newq (pc : Nat) (L : sm_L) (S : List Value) (h : sm_H) (t : Option Nat) : Option sm_P := match t, S with
  | some t, .int n :: r => if 0 ≤ n.toInt ∧ n.toInt ≤ 1000000 then sm_mk pc L r h (.inr (.inr (.inr (t, List.replicate n.toNatClampNeg none)))) n.toNatClampNeg else none
  | _, _ => none
def sm_new (pc : Nat) (L : sm_L) (S : List Value) (h : sm_H) (f : Option (Nat × List (Option (Option Nat)))) : Option sm_P := match f with
  | some (ci, fs) => sm_mk pc L S h (.inl (ci, fs)) fs.length
  | none => none
def sm_tab (pc : Nat) (L : sm_L) (S : List Value) (h : sm_H) (d lo hi : Int) (offs : Array Int) : Option sm_P := match S with
  | .int x :: r => if x.toInt < lo ∨ hi < x.toInt then sm_jmp pc d L r h else match offs[(x.toInt - lo).toNat]? with
    | some off => sm_jmp pc off L r h
    | none => none
  | _ => none
def sm_pop (pc : Nat) (L : sm_L) (S : List Value) (h : sm_H) : Option sm_P := match S with
  | .int _ :: r => some (pc, L, r, h)
  | .ref _ :: r => some (pc, L, r, h)
  | _ => none
def sm_dup (pc : Nat) (L : sm_L) (S : List Value) (h : sm_H) : Option sm_P := match S with
  | .int x :: r => some (pc, L, .int x :: .int x :: r, h)
  | .ref x :: r => some (pc, L, .ref x :: .ref x :: r, h)
  | _ => none
def sm_dup_x1 (pc : Nat) (L : sm_L) (S : List Value) (h : sm_H) : Option sm_P := match S with
  | .int x :: .ref y :: r => some (pc, L, .int x :: .ref y :: .int x :: r, h)
  | .int x :: .int y :: r => some (pc, L, .int x :: .int y :: .int x :: r, h)
  | _ => none
def sm_dup_x2 (pc : Nat) (L : sm_L) (S : List Value) (h : sm_H) : Option sm_P := match S with
  | .int x :: .int y :: .ref z :: r => some (pc, L, .int x :: .int y :: .ref z :: .int x :: r, h)
  | _ => none
def sm_dup2 (pc : Nat) (L : sm_L) (S : List Value) (h : sm_H) : Option sm_P := match S with
  | .int x :: .ref y :: r => some (pc, L, .int x :: .ref y :: .int x :: .ref y :: r, h)
  | .int x :: .int y :: r => some (pc, L, .int x :: .int y :: .int x :: .int y :: r, h)
  | _ => none
def sm_i2l (pc : Nat) (L : sm_L) (S : List Value) (h : sm_H) : Option sm_P := match S with
  | .int x :: r => some (pc, L, .long x.toInt64 :: r, h)
  | _ => none
def sm_lcmp (pc : Nat) (L : sm_L) (S : List Value) (h : sm_H) : Option sm_P := match S with
  | .long y :: .long x :: r => some (pc, L, .int (lg_cmp x y) :: r, h)
  | _ => none
/-- one instruction that neither calls nor leaves -/
def sm_i (T : sm_T) (X : Nat × (Nat → Int32)) (ok : Nat → Nat → Bool) (y : Nat) (i : Instr) (pc : Nat) (L : sm_L) (S : List Value) (h : sm_H) : Option sm_P := match i with
  | .iconst n => some (pc + 1, L, .int (Int32.ofInt n) :: S, h)
  | .bipush n => some (pc + 2, L, .int (Int8.ofInt n).toInt32 :: S, h)
  | .sipush n => some (pc + 3, L, .int (Int16.ofInt n).toInt32 :: S, h)
  | .lconst n => some (pc + 1, L, .long (Int64.ofNat n.val) :: S, h)
  | .iload i => sm_lint (pc + 2) L S h i
  | .iload_n i => sm_lint (pc + 1) L S h i.val
  | .aload i => sm_lref (pc + 2) L S h i
  | .aload_n i => sm_lref (pc + 1) L S h i.val
  | .istore i => sm_sint (pc + 2) L S h i
  | .istore_n i => sm_sint (pc + 1) L S h i.val
  | .astore i => sm_sref (pc + 2) L S h i
  | .astore_n i => sm_sref (pc + 1) L S h i.val
  | .iinc i n => sm_inc (pc + 3) L S h i n
  | .iadd => sm_bin (pc + 1) L S h (fun x y => x + y)
  | .isub => sm_bin (pc + 1) L S h (fun x y => x - y)
  | .imul => sm_bin (pc + 1) L S h (fun x y => x * y)
  | .iand => sm_bin (pc + 1) L S h (fun x y => x &&& y)
  | .ior => sm_bin (pc + 1) L S h (fun x y => x ||| y)
  | .ixor => sm_bin (pc + 1) L S h (fun x y => x ^^^ y)
  | .ishl => sm_bin (pc + 1) L S h (fun x y => x <<< (y &&& 31))
  | .ishr => sm_bin (pc + 1) L S h (fun x y => x >>> (y &&& 31))
  | .ifCond c off => sm_br pc off L S h c
  | .if_icmp c off => sm_br2 pc off L S h c
  | .goto off => sm_jmp pc off L S h
  | .tableswitch d lo hi offs => sm_tab pc L S h d lo hi offs
  | .getfield k => sm_get (pc + 3) L S h (sm_fld T y k)
  | .putfield k => sm_put (pc + 3) L S h (sm_fld T y k)
  | .iaload => sm_ald (pc + 1) L S h 0 X
  | .baload => sm_ald (pc + 1) L S h 1 X
  | .iastore => sm_ast (pc + 1) L S h 0
  | .bastore => sm_ast (pc + 1) L S h 1
  | .laload => sm_lald (pc + 1) L S h
  | .lastore => sm_last (pc + 1) L S h
  | .aaload => sm_aald (pc + 1) L S h
  | .aastore => sm_aast (pc + 1) L S h ok
  | .arraylength => sm_alen (pc + 1) L S h X
  | .newarray t => sm_newa (pc + 2) L S h t
  | .anewarray k => sm_newq (pc + 3) L S h (sm_arr T y k)
  | .new k => sm_new (pc + 3) L S h (sm_cls T y k)
  | .pop => sm_pop (pc + 1) L S h
  | .dup => sm_dup (pc + 1) L S h
  | .dup_x1 => sm_dup_x1 (pc + 1) L S h
  | .dup_x2 => sm_dup_x2 (pc + 1) L S h
  | .dup2 => sm_dup2 (pc + 1) L S h
  | .i2l => sm_i2l (pc + 1) L S h
  | .lcmp => sm_lcmp (pc + 1) L S h
  | _ => none
/-- how a method begins -/
def sm_ent (n : Nat) (vs : List Value) : sm_L := vs.map some ++ List.replicate (n - vs.length) none
def sm_inv (T : sm_T) (y : Nat) : Instr → Option (Nat × Nat × Nat)
  | .invokestatic j => match sm_cal T y j with
    | some (k, z, w) => if k = 1 ∨ k = 2 ∨ k = 3 then some (k, z, w) else none
    | none => none
  | .invokevirtual j => match sm_cal T y j with
    | some (k, z, w) => if k = 4 then some (k, z, w) else none
    | none => none
  | .invokespecial j => match sm_cal T y j with
    | some (k, z, w) => if k = 0 ∨ k = 5 then some (k, z, w) else none
    | none => none
  | _ => none
def sm_sum (S : List Value) : Nat := (S.map (fun v => v.category)).sum
/-- the JDK's own: 0 Object's constructor, 1 Math.max, 2 System.arraycopy of ints -/
def sm_lib (k pc : Nat) (L : sm_L) (S : List Value) (h : sm_H) : Option sm_P := match k, S with
  | 0, .ref _ :: r => if sm_sum r ≤ 8 then some (pc, L, r, h) else none
  | 1, .int y :: .int x :: r => if sm_sum r ≤ 8 then some (pc, L, .int (if x < y then y else x) :: r, h) else none
  | 2, .int n :: .int dp :: .ref q1 :: .int sp :: .ref q0 :: r => match h.1[q0]?, h.1[q1]? with
    | some (.inr (.inl (0, n0))), some (.inr (.inl (0, n1))) => if sm_sum r ≤ 8 ∧ 0 ≤ n.toInt ∧ 0 ≤ sp.toInt ∧ 0 ≤ dp.toInt ∧ sp.toInt + n.toInt ≤ n0 ∧ dp.toInt + n.toInt ≤ n1 then
        some (pc, L, r, h.1, sm_uf h.2.1 q1 (va_cpy (h.2.1 q0) (h.2.1 q1) sp.toNatClampNeg dp.toNatClampNeg n.toNatClampNeg), h.2.2) else none
    | _, _ => none
  | _, _ => none
/-- the answer on the stack, by the method's kind: 0 none, 1 an int, 2 a boolean -/
def sm_ret (k : Nat) (i : Instr) (S : List Value) : Option (Option Value) := match k, i, S with
  | 0, .return_, [] => some none
  | 1, .ireturn, [.int x] => some (some (.int x))
  | 2, .ireturn, [.int x] => if x = 0 ∨ x = 1 then some (some (.int x)) else none
  | _, _, _ => none
def sm_isret : Instr → Bool
  | .return_ => true
  | .ireturn => true
  | _ => false
/-- behind a call -/
def sm_ok2 (L : sm_L) (S : List Value) (h h' : sm_H) : Bool := decide (h'.1.length = h.1.length) || sm_wfL h.1.length L S
def sm_c1 : Value → Bool
  | .int _ => true
  | .ref _ => true
  | .retAddr _ => true
  | _ => false
/-- the receiver of a call of kind 4 is an object of the callee's class -/
def sm_rcv (k ci : Nat) (vs : List Value) (h : sm_H) : Bool := match k, vs with
  | 3, _ => true
  | 5, .ref _ :: _ => true
  | 4, .ref q :: _ => match h.1[q]? with
    | some (.inl (cj, _)) => decide (ci = cj)
    | _ => false
  | _, _ => false
/-- a callee that throws at once, or its run -/
def sm_or (x : Option (Nat × Nat × Nat)) (d lw : Nat) (h : sm_H) (r : Option (sm_O × sm_H)) : Option (sm_O × sm_H) := match x with
  | some (x, kc, ks) => if kc ≤ h.2.2.2.1 ∧ ks ≤ h.2.2.2.2 ∧ 6 ≤ d ∧ 100 ≤ lw then some (.inr x, h.1, h.2.1, h.2.2.1, h.2.2.2.1 - kc, h.2.2.2.2 - ks) else none
  | none => r
/-- the whole run of a method from a pc: fuel, frames, words of the stack, method -/
def sm_run (T : sm_T) (X : Nat × (Nat → Int32)) (ok : Nat → Nat → Bool) : Nat → Nat → Nat → Nat → Nat → sm_L → List Value → sm_H → Option (sm_O × sm_H)
  | 0, _, _, _, _, _, _, _ => none
  | n + 1, d, lw, y, pc, L, S, h =>
      match sm_ins T y pc with
      | none => none
      | some i =>
        if sm_isret i = true then (sm_ret (sm_nL T y).2.1 i S).map (fun v => (.inl v, h))
        else match sm_inv T y i with
        | none => match sm_i T X ok y i pc L S h with
          | some (pc', L', S', h') => sm_run T X ok n d lw y pc' L' S' h'
          | none => none
        | some (k, z, w) =>
          match d with
          | 0 => none
          | d + 1 =>
            if k < 3 then (if 100 ≤ lw then match sm_lib k (pc + 3) L S h with
              | some (pc', L', S', h') => sm_run T X ok n (d + 1) lw y pc' L' S' h'
              | none => none else none)
            else if w ≤ S.length ∧ sm_sum (S.drop w) ≤ 8 ∧ sm_rcv k (sm_nL T z).2.2 (S.take w).reverse h = true ∧ (S.take w).all sm_c1 = true ∧ w ≤ (sm_nL T z).1 ∧ 19 + (sm_nL T z).1 ≤ lw then
              match sm_or (sm_thr T z (S.take w).reverse h) d (lw - (19 + (sm_nL T z).1)) h (sm_run T X ok n d (lw - (19 + (sm_nL T z).1)) z 0 (sm_ent (sm_nL T z).1 (S.take w).reverse) [] h) with
              | some (.inl v, h') => if sm_ok2 L (S.drop w) h h' = true then sm_run T X ok n (d + 1) lw y (pc + 3) L (v.toList ++ S.drop w) h' else none
              | some (.inr x, h') => if k = 5 then none else match sm_cat T y pc x with
                | none => none
                | some none => some (.inr x, h')
                | some (some (pc', q)) => if sm_ok2 L [] h h' = true then sm_run T X ok n (d + 1) lw y pc' (L.set q none) [] h' else none
              | none => none
            else none
end
section
/-! ===== the small machine's memory as a world of the kit ===== -/
def sm_v (b : Nat) (ad : Nat → Nat) : Value → Value
  | .ref k => .ref (ad k)
  | .retAddr _ => .ref b
  | v => v
def sm_f (ad : Nat → Nat) (f : Nat → Int32) (i : Nat) : Option (Option Nat) → Value
  | none => .int (f i)
  | some none => .null
  | some (some q) => .ref (ad q)
def sm_e (cA : Nat → ClassId) (ad : Nat → Nat) (M : sm_M) (J : sm_J) (k : Nat) : sm_S → va_E
  | .inl (ci, fs) => .inr (ci, fs.mapIdx (sm_f ad (M k)))
  | .inr (.inl (t, n)) => .inl (cA t, n, .inl (M k))
  | .inr (.inr (.inl n)) => .inl (cA 2, n, .inr (.inl (J k)))
  | .inr (.inr (.inr (t, rs))) => .inl (cA t, rs.length, .inr (.inr (.inr (.inr (fun i => (rs[i]?.join).map ad)))))
def sm_w (cA : Nat → ClassId) (ad : Nat → Nat) (h : sm_H) : va_W := h.1.mapIdx (fun k z => (ad k, sm_e cA ad h.2.1 h.2.2.1 k z))
theorem sm_w_get {cA : Nat → ClassId} {ad : Nat → Nat} {h : sm_H} {k : Nat} {z : sm_S} (hk : h.1[k]? = some z) : (sm_w cA ad h)[k]? = some (ad k, sm_e cA ad h.2.1 h.2.2.1 k z) := by
  unfold sm_w
  rw [List.getElem?_mapIdx, hk]
  rfl
theorem sm_w_any {cA : Nat → ClassId} {ad : Nat → Nat} {h : sm_H} {k : Nat} {q : Nat × va_E} (hk : (sm_w cA ad h)[k]? = some q) : ∃ z, h.1[k]? = some z ∧ q = (ad k, sm_e cA ad h.2.1 h.2.2.1 k z) := by
  unfold sm_w at hk
  rw [List.getElem?_mapIdx] at hk
  cases hz : h.1[k]? with
  | none => rw [hz] at hk; cases hk
  | some z => rw [hz] at hk; exact ⟨z, rfl, (Option.some.inj hk).symm⟩
/-- the same list of shapes, another memory, that differs in one cell alone -/
theorem sm_w_mem {cA : Nat → ClassId} {ad : Nat → Nat} {sh : List sm_S} {M M' : sm_M} {J J' : sm_J} {r r' : Nat × Nat} {k : Nat} {z : sm_S} (hk : sh[k]? = some z) (hM : ∀ a, a ≠ k → M' a = M a) (hJ : ∀ a, a ≠ k → J' a = J a) :
    sm_w cA ad (sh, M', J', r') = (sm_w cA ad (sh, M, J, r)).set k (ad k, sm_e cA ad M' J' k z) := by
  apply List.ext_getElem?
  intro j
  by_cases hj : j = k
  · subst hj
    have hl : j < (sm_w cA ad (sh, M, J, r)).length := by
      unfold sm_w
      rw [List.length_mapIdx]
      exact (List.getElem?_eq_some_iff.mp hk).1
    rw [List.getElem?_set_self hl]
    exact sm_w_get hk
  · rw [List.getElem?_set_ne (Ne.symm hj)]
    unfold sm_w
    rw [List.getElem?_mapIdx, List.getElem?_mapIdx]
    show Option.map _ sh[j]? = Option.map _ sh[j]?
    cases sh[j]? with
    | none => rfl
    | some z' =>
      show some _ = some _
      congr 2
      match z' with
      | .inl (ci, fs) => simp only [sm_e, hM j hj]
      | .inr (.inl (t, n)) => simp only [sm_e, hM j hj]
      | .inr (.inr (.inl n)) => simp only [sm_e, hJ j hj]
      | .inr (.inr (.inr (t, rs))) => rfl
/-- one shape is another, the memory is the same -/
theorem sm_w_shp {cA : Nat → ClassId} {ad : Nat → Nat} {sh : List sm_S} {M : sm_M} {J : sm_J} {r r' : Nat × Nat} {k : Nat} {z' : sm_S} :
    sm_w cA ad (sh.set k z', M, J, r') = (sm_w cA ad (sh, M, J, r)).set k (ad k, sm_e cA ad M J k z') := by
  unfold sm_w
  exact List.mapIdx_set
/-- the locals: what is listed is held -/
def sm_l (b : Nat) (ad : Nat → Nat) (ls : Array Slot) (nL : Nat) (L : sm_L) : Prop := L.length = nL ∧ ls.size = nL ∧ lv_wf ls ∧ ∀ (i : Nat) (v : Value), L[i]? = some (some v) → ls[i]? = some (.val (sm_v b ad v)) ∧ (sm_v b ad v).category = 1
def sm_lv (b : Nat) (ad : Nat → Nat) (L : sm_L) : List (Nat × Value) := (List.range L.length).filterMap (fun i => match L[i]? with
  | some (some v) => some (i, sm_v b ad v)
  | _ => none)
theorem sm_lv_mem {b : Nat} {ad : Nat → Nat} {L : sm_L} {q : Nat × Value} : q ∈ sm_lv b ad L ↔ ∃ v, L[q.1]? = some (some v) ∧ q.2 = sm_v b ad v := by
  unfold sm_lv
  rw [List.mem_filterMap]
  constructor
  · rintro ⟨i, -, hi⟩
    split at hi
    · next v hv => cases hi; exact ⟨v, hv, rfl⟩
    · cases hi
  · rintro ⟨v, h1, h2⟩
    refine ⟨q.1, List.mem_range.mpr (List.getElem?_eq_some_iff.mp h1).1, ?_⟩
    rw [h1]
    show some (q.1, sm_v b ad v) = some q
    rw [← h2]
theorem sm_l_has {b : Nat} {ad : Nat → Nat} {ls : Array Slot} {nL : Nat} {L : sm_L} (h : sm_l b ad ls nL L) : lv_has ls nL (sm_lv b ad L) := by
  refine ⟨h.2.1, h.2.2.1, fun q hq => ?_⟩
  obtain ⟨v, h1, h2⟩ := sm_lv_mem.mp hq
  rw [h2]
  exact (h.2.2.2 q.1 v h1).1
theorem sm_l_st {b : Nat} {ad : Nat → Nat} {ls ls' : Array Slot} {nL i : Nat} {L : sm_L} {v : Value} (h : sm_l b ad ls nL L) (hc : (sm_v b ad v).category = 1) (h' : lv_has ls' nL ((i, sm_v b ad v) :: (sm_lv b ad L).filter (fun q => !(q.1 == i) && !(q.1 + 1 == i && q.2.category == 2)))) : sm_l b ad ls' nL (L.set i (some v)) := by
  refine ⟨by rw [List.length_set]; exact h.1, h'.1, h'.2.1, fun j w hj => ?_⟩
  by_cases e : j = i
  · subst e
    have hl : j < L.length := by
      have := (List.getElem?_eq_some_iff.mp hj).1
      rwa [List.length_set] at this
    rw [List.getElem?_set_self hl] at hj
    cases hj
    exact ⟨h'.2.2 (j, sm_v b ad v) List.mem_cons_self, hc⟩
  · rw [List.getElem?_set_ne (Ne.symm e)] at hj
    have hw := h.2.2.2 j w hj
    refine ⟨h'.2.2 (j, sm_v b ad w) (List.mem_cons_of_mem _ (List.mem_filter.mpr ⟨sm_lv_mem.mpr ⟨w, hj, rfl⟩, ?_⟩)), hw.2⟩
    simp [e, hw.2]
theorem sm_l_un {b : Nat} {ad : Nat → Nat} {ls ls' : Array Slot} {nL i : Nat} {L : sm_L} {x : Value} (h : sm_l b ad ls nL L) (h' : lv_has ls' nL ((i, x) :: (sm_lv b ad L).filter (fun q => !(q.1 == i) && !(q.1 + 1 == i && q.2.category == 2)))) : sm_l b ad ls' nL (L.set i none) := by
  refine ⟨by rw [List.length_set]; exact h.1, h'.1, h'.2.1, fun j w hj => ?_⟩
  by_cases e : j = i
  · subst e
    have hl : j < L.length := by
      have := (List.getElem?_eq_some_iff.mp hj).1
      rwa [List.length_set] at this
    rw [List.getElem?_set_self hl] at hj
    cases hj
  · rw [List.getElem?_set_ne (Ne.symm e)] at hj
    have hw := h.2.2.2 j w hj
    refine ⟨h'.2.2 (j, sm_v b ad w) (List.mem_cons_of_mem _ (List.mem_filter.mpr ⟨sm_lv_mem.mpr ⟨w, hj, rfl⟩, ?_⟩)), hw.2⟩
    simp [e, hw.2]
end
section
/-! ===== each instruction of the small machine is one of the machine ===== -/
def sm_W (p : Program) (l : Launch) (e : Env) (R : Room) (s : State) (m : MethodId) (args : Array Value) (below : List Frame) (meth : Method) (c : Code) (Q : State → Prop) (D : va_G) (cl : List vw_C) (A : Nat → Prop) (H0 : Heap) (nL : Nat) (cA : Nat → ClassId) (b : Nat) (ad0 : Nat → Nat) (n0 C1 S1 : Nat) (pc : Nat) (L : sm_L) (S : List Value) (h : sm_H) : Prop :=
  ∀ (ad : Nat → Nat) (H : Heap) (locs : List Loc) (ls : Array Slot), (∀ k, ¬ (n0 ≤ k ∧ k < h.1.length) → ad k = ad0 k) → va_P D cl (sm_w cA ad h) H → va_D A (sm_w cA ad h) → va_S A H0 H locs → sm_l b ad ls nL L →
    W p l e R s m args below meth c H locs (C1 - h.2.2.2.1) (S1 - h.2.2.2.2) Q (F0 m pc ls (S.map (sm_v b ad)))
theorem sm_inI {i : Int32} {n : Nat} (h1 : 0 ≤ i.toInt) (h2 : i.toInt < n) : vp_in i n := vp_in_iff.mpr ⟨h1, h2⟩
theorem sm_up_ne {M : sm_M} {k i : Nat} {v : Int32} : ∀ a, a ≠ k → sm_up M k i v a = M a := fun _ h => if_neg h
theorem sm_up_eq {M : sm_M} {k i : Nat} {v : Int32} : sm_up M k i v k = upd (M k) i v := if_pos rfl
theorem sm_uf_ne {M : sm_M} {k : Nat} {f : Nat → Int32} : ∀ a, a ≠ k → sm_uf M k f a = M a := fun _ h => if_neg h
theorem sm_uf_eq {M : sm_M} {k : Nat} {f : Nat → Int32} : sm_uf M k f k = f := if_pos rfl
theorem sm_uj_ne {J : sm_J} {k i : Nat} {v : Int64} : ∀ a, a ≠ k → sm_uj J k i v a = J a := fun _ h => if_neg h
theorem sm_uj_eq {J : sm_J} {k i : Nat} {v : Int64} : sm_uj J k i v k = vp_updL (J k) i v := if_pos rfl
section SMS
variable {p : Program} {l : Launch} {e : Env} {R : Room} {s : State} {m : MethodId} {args : Array Value} {below : List Frame} {meth : Method} {c : Code} {Q : State → Prop} {cc : ByteArray} {D : va_G} {cl : List vw_C} {tys : List (ClassId × FieldType)} {A : Nat → Prop} {H0 : Heap} {nL : Nat} {cA : Nat → ClassId} {b : Nat} {ad0 : Nat → Nat} {n0 C1 S1 : Nat} {pc : Nat} {L : sm_L} {S : List Value} {h : sm_H} {r : sm_P}
theorem sm_s_iconst (hx : p.tables.exec = Jvm.exec) (hb : c.code = cc) {n : Int} (hd : decode cc pc = .ok (.iconst n, 1)) (hi : some (pc + 1, L, .int (Int32.ofInt n) :: S, h) = some r) (k : sm_W p l e R s m args below meth c Q D cl A H0 nL cA b ad0 n0 C1 S1 r.1 r.2.1 r.2.2.1 r.2.2.2) : sm_W p l e R s m args below meth c Q D cl A H0 nL cA b ad0 n0 C1 S1 pc L S h := by
  cases hi
  intro ad H locs ls e1 hP hD hS hl
  exact lv_iconst hx hb hd rfl (k ad H locs ls e1 hP hD hS hl)
theorem sm_s_bipush (hx : p.tables.exec = Jvm.exec) (hb : c.code = cc) {n : Int} (hd : decode cc pc = .ok (.bipush n, 2)) (hi : some (pc + 2, L, .int (Int8.ofInt n).toInt32 :: S, h) = some r) (k : sm_W p l e R s m args below meth c Q D cl A H0 nL cA b ad0 n0 C1 S1 r.1 r.2.1 r.2.2.1 r.2.2.2) : sm_W p l e R s m args below meth c Q D cl A H0 nL cA b ad0 n0 C1 S1 pc L S h := by
  cases hi
  intro ad H locs ls e1 hP hD hS hl
  exact lv_bipush hx hb hd rfl (k ad H locs ls e1 hP hD hS hl)
theorem sm_s_sipush (hx : p.tables.exec = Jvm.exec) (hb : c.code = cc) {n : Int} (hd : decode cc pc = .ok (.sipush n, 3)) (hi : some (pc + 3, L, .int (Int16.ofInt n).toInt32 :: S, h) = some r) (k : sm_W p l e R s m args below meth c Q D cl A H0 nL cA b ad0 n0 C1 S1 r.1 r.2.1 r.2.2.1 r.2.2.2) : sm_W p l e R s m args below meth c Q D cl A H0 nL cA b ad0 n0 C1 S1 pc L S h := by
  cases hi
  intro ad H locs ls e1 hP hD hS hl
  exact lv_sipush hx hb hd rfl (k ad H locs ls e1 hP hD hS hl)
theorem sm_s_lconst (hx : p.tables.exec = Jvm.exec) (hb : c.code = cc) {n : Fin 2} (hd : decode cc pc = .ok (.lconst n, 1)) (hi : some (pc + 1, L, .long (Int64.ofNat n.val) :: S, h) = some r) (k : sm_W p l e R s m args below meth c Q D cl A H0 nL cA b ad0 n0 C1 S1 r.1 r.2.1 r.2.2.1 r.2.2.2) : sm_W p l e R s m args below meth c Q D cl A H0 nL cA b ad0 n0 C1 S1 pc L S h := by
  cases hi
  intro ad H locs ls e1 hP hD hS hl
  exact lv_lconst hx hb hd rfl (k ad H locs ls e1 hP hD hS hl)
theorem sm_s_iload (hx : p.tables.exec = Jvm.exec) (hb : c.code = cc) {i : Nat} (hd : decode cc pc = .ok (.iload i, 2)) (hi : sm_lint (pc + 2) L S h i = some r) (k : sm_W p l e R s m args below meth c Q D cl A H0 nL cA b ad0 n0 C1 S1 r.1 r.2.1 r.2.2.1 r.2.2.2) : sm_W p l e R s m args below meth c Q D cl A H0 nL cA b ad0 n0 C1 S1 pc L S h := by
  unfold sm_lint at hi
  split at hi
  · next x hL =>
    cases hi
    intro ad H locs ls e1 hP hD hS hl
    exact lv_iload hx hb hd (hl.2.2.2 _ _ hL).1 (k ad H locs ls e1 hP hD hS hl)
  · cases hi
theorem sm_s_iload_n (hx : p.tables.exec = Jvm.exec) (hb : c.code = cc) {i : Fin 4} (hd : decode cc pc = .ok (.iload_n i, 1)) (hi : sm_lint (pc + 1) L S h i.val = some r) (k : sm_W p l e R s m args below meth c Q D cl A H0 nL cA b ad0 n0 C1 S1 r.1 r.2.1 r.2.2.1 r.2.2.2) : sm_W p l e R s m args below meth c Q D cl A H0 nL cA b ad0 n0 C1 S1 pc L S h := by
  unfold sm_lint at hi
  split at hi
  · next x hL =>
    cases hi
    intro ad H locs ls e1 hP hD hS hl
    exact lv_iload_n hx hb hd rfl (hl.2.2.2 _ _ hL).1 (k ad H locs ls e1 hP hD hS hl)
  · cases hi
theorem sm_s_aload (hx : p.tables.exec = Jvm.exec) (hb : c.code = cc) {i : Nat} (hd : decode cc pc = .ok (.aload i, 2)) (hi : sm_lref (pc + 2) L S h i = some r) (k : sm_W p l e R s m args below meth c Q D cl A H0 nL cA b ad0 n0 C1 S1 r.1 r.2.1 r.2.2.1 r.2.2.2) : sm_W p l e R s m args below meth c Q D cl A H0 nL cA b ad0 n0 C1 S1 pc L S h := by
  unfold sm_lref at hi
  split at hi
  · next x hL =>
    cases hi
    intro ad H locs ls e1 hP hD hS hl
    exact lv_aload hx hb hd (hl.2.2.2 _ _ hL).1 (k ad H locs ls e1 hP hD hS hl)
  · next x hL =>
    cases hi
    intro ad H locs ls e1 hP hD hS hl
    exact lv_aload hx hb hd (hl.2.2.2 _ _ hL).1 (k ad H locs ls e1 hP hD hS hl)
  · cases hi
theorem sm_s_aload_n (hx : p.tables.exec = Jvm.exec) (hb : c.code = cc) {i : Fin 4} (hd : decode cc pc = .ok (.aload_n i, 1)) (hi : sm_lref (pc + 1) L S h i.val = some r) (k : sm_W p l e R s m args below meth c Q D cl A H0 nL cA b ad0 n0 C1 S1 r.1 r.2.1 r.2.2.1 r.2.2.2) : sm_W p l e R s m args below meth c Q D cl A H0 nL cA b ad0 n0 C1 S1 pc L S h := by
  unfold sm_lref at hi
  split at hi
  · next x hL =>
    cases hi
    intro ad H locs ls e1 hP hD hS hl
    exact lv_aload_n hx hb hd rfl (hl.2.2.2 _ _ hL).1 (k ad H locs ls e1 hP hD hS hl)
  · next x hL =>
    cases hi
    intro ad H locs ls e1 hP hD hS hl
    exact lv_aload_n hx hb hd rfl (hl.2.2.2 _ _ hL).1 (k ad H locs ls e1 hP hD hS hl)
  · cases hi
theorem sm_s_istore (hx : p.tables.exec = Jvm.exec) (hb : c.code = cc) {i : Nat} (hi0 : i < nL) (hd : decode cc pc = .ok (.istore i, 2)) (hi : sm_sint (pc + 2) L S h i = some r) (k : sm_W p l e R s m args below meth c Q D cl A H0 nL cA b ad0 n0 C1 S1 r.1 r.2.1 r.2.2.1 r.2.2.2) : sm_W p l e R s m args below meth c Q D cl A H0 nL cA b ad0 n0 C1 S1 pc L S h := by
  unfold sm_sint at hi
  split at hi
  · cases hi
    intro ad H locs ls e1 hP hD hS hl
    exact lv_istore hx hb hd (sm_l_has hl) hi0 rfl (fun ls' hl' => k ad H locs ls' e1 hP hD hS (sm_l_st hl rfl hl'))
  · cases hi
theorem sm_s_istore_n (hx : p.tables.exec = Jvm.exec) (hb : c.code = cc) {i : Fin 4} (hi0 : i.val < nL) (hd : decode cc pc = .ok (.istore_n i, 1)) (hi : sm_sint (pc + 1) L S h i.val = some r) (k : sm_W p l e R s m args below meth c Q D cl A H0 nL cA b ad0 n0 C1 S1 r.1 r.2.1 r.2.2.1 r.2.2.2) : sm_W p l e R s m args below meth c Q D cl A H0 nL cA b ad0 n0 C1 S1 pc L S h := by
  unfold sm_sint at hi
  split at hi
  · cases hi
    intro ad H locs ls e1 hP hD hS hl
    exact lv_istore_n hx hb hd rfl (sm_l_has hl) hi0 rfl (fun ls' hl' => k ad H locs ls' e1 hP hD hS (sm_l_st hl rfl hl'))
  · cases hi
theorem sm_s_astore (hx : p.tables.exec = Jvm.exec) (hb : c.code = cc) {i : Nat} (hi0 : i < nL) (hd : decode cc pc = .ok (.astore i, 2)) (hi : sm_sref (pc + 2) L S h i = some r) (k : sm_W p l e R s m args below meth c Q D cl A H0 nL cA b ad0 n0 C1 S1 r.1 r.2.1 r.2.2.1 r.2.2.2) : sm_W p l e R s m args below meth c Q D cl A H0 nL cA b ad0 n0 C1 S1 pc L S h := by
  unfold sm_sref at hi
  split at hi
  · cases hi
    intro ad H locs ls e1 hP hD hS hl
    exact lv_astore hx hb hd (sm_l_has hl) hi0 rfl (fun ls' hl' => k ad H locs ls' e1 hP hD hS (sm_l_st hl rfl hl'))
  · cases hi
theorem sm_s_astore_n (hx : p.tables.exec = Jvm.exec) (hb : c.code = cc) {i : Fin 4} (hi0 : i.val < nL) (hd : decode cc pc = .ok (.astore_n i, 1)) (hi : sm_sref (pc + 1) L S h i.val = some r) (k : sm_W p l e R s m args below meth c Q D cl A H0 nL cA b ad0 n0 C1 S1 r.1 r.2.1 r.2.2.1 r.2.2.2) : sm_W p l e R s m args below meth c Q D cl A H0 nL cA b ad0 n0 C1 S1 pc L S h := by
  unfold sm_sref at hi
  split at hi
  · cases hi
    intro ad H locs ls e1 hP hD hS hl
    exact lv_astore_n hx hb hd rfl (sm_l_has hl) hi0 rfl (fun ls' hl' => k ad H locs ls' e1 hP hD hS (sm_l_st hl rfl hl'))
  · cases hi
theorem sm_s_iinc (hx : p.tables.exec = Jvm.exec) (hb : c.code = cc) {i : Nat} {n : Int} (hi0 : i < nL) (hd : decode cc pc = .ok (.iinc i n, 3)) (hi : sm_inc (pc + 3) L S h i n = some r) (k : sm_W p l e R s m args below meth c Q D cl A H0 nL cA b ad0 n0 C1 S1 r.1 r.2.1 r.2.2.1 r.2.2.2) : sm_W p l e R s m args below meth c Q D cl A H0 nL cA b ad0 n0 C1 S1 pc L S h := by
  unfold sm_inc at hi
  split at hi
  · next x hL =>
    cases hi
    intro ad H locs ls e1 hP hD hS hl
    obtain ⟨j, hj⟩ := List.getElem?_of_mem (sm_lv_mem (b := b) (ad := ad) (q := (i, .int x)).mpr ⟨_, hL, rfl⟩)
    exact lv_iinc hx hb hd (sm_l_has hl) hj rfl hi0 rfl (fun ls' hl' => k ad H locs ls' e1 hP hD hS (sm_l_st (v := .int _) hl rfl hl'))
  · cases hi
theorem sm_s_iadd (hx : p.tables.exec = Jvm.exec) (hb : c.code = cc) (hd : decode cc pc = .ok (.iadd, 1)) (hi : sm_bin (pc + 1) L S h (fun x y => x + y) = some r) (k : sm_W p l e R s m args below meth c Q D cl A H0 nL cA b ad0 n0 C1 S1 r.1 r.2.1 r.2.2.1 r.2.2.2) : sm_W p l e R s m args below meth c Q D cl A H0 nL cA b ad0 n0 C1 S1 pc L S h := by
  unfold sm_bin at hi
  split at hi
  · cases hi
    intro ad H locs ls e1 hP hD hS hl
    exact lv_iadd hx hb hd (k ad H locs ls e1 hP hD hS hl)
  · cases hi
theorem sm_s_isub (hx : p.tables.exec = Jvm.exec) (hb : c.code = cc) (hd : decode cc pc = .ok (.isub, 1)) (hi : sm_bin (pc + 1) L S h (fun x y => x - y) = some r) (k : sm_W p l e R s m args below meth c Q D cl A H0 nL cA b ad0 n0 C1 S1 r.1 r.2.1 r.2.2.1 r.2.2.2) : sm_W p l e R s m args below meth c Q D cl A H0 nL cA b ad0 n0 C1 S1 pc L S h := by
  unfold sm_bin at hi
  split at hi
  · cases hi
    intro ad H locs ls e1 hP hD hS hl
    exact lv_isub hx hb hd (k ad H locs ls e1 hP hD hS hl)
  · cases hi
theorem sm_s_imul (hx : p.tables.exec = Jvm.exec) (hb : c.code = cc) (hd : decode cc pc = .ok (.imul, 1)) (hi : sm_bin (pc + 1) L S h (fun x y => x * y) = some r) (k : sm_W p l e R s m args below meth c Q D cl A H0 nL cA b ad0 n0 C1 S1 r.1 r.2.1 r.2.2.1 r.2.2.2) : sm_W p l e R s m args below meth c Q D cl A H0 nL cA b ad0 n0 C1 S1 pc L S h := by
  unfold sm_bin at hi
  split at hi
  · cases hi
    intro ad H locs ls e1 hP hD hS hl
    exact lv_imul hx hb hd (k ad H locs ls e1 hP hD hS hl)
  · cases hi
theorem sm_s_iand (hx : p.tables.exec = Jvm.exec) (hb : c.code = cc) (hd : decode cc pc = .ok (.iand, 1)) (hi : sm_bin (pc + 1) L S h (fun x y => x &&& y) = some r) (k : sm_W p l e R s m args below meth c Q D cl A H0 nL cA b ad0 n0 C1 S1 r.1 r.2.1 r.2.2.1 r.2.2.2) : sm_W p l e R s m args below meth c Q D cl A H0 nL cA b ad0 n0 C1 S1 pc L S h := by
  unfold sm_bin at hi
  split at hi
  · cases hi
    intro ad H locs ls e1 hP hD hS hl
    exact lv_iand hx hb hd (k ad H locs ls e1 hP hD hS hl)
  · cases hi
theorem sm_s_ior (hx : p.tables.exec = Jvm.exec) (hb : c.code = cc) (hd : decode cc pc = .ok (.ior, 1)) (hi : sm_bin (pc + 1) L S h (fun x y => x ||| y) = some r) (k : sm_W p l e R s m args below meth c Q D cl A H0 nL cA b ad0 n0 C1 S1 r.1 r.2.1 r.2.2.1 r.2.2.2) : sm_W p l e R s m args below meth c Q D cl A H0 nL cA b ad0 n0 C1 S1 pc L S h := by
  unfold sm_bin at hi
  split at hi
  · cases hi
    intro ad H locs ls e1 hP hD hS hl
    exact lv_ior hx hb hd (k ad H locs ls e1 hP hD hS hl)
  · cases hi
theorem sm_s_ixor (hx : p.tables.exec = Jvm.exec) (hb : c.code = cc) (hd : decode cc pc = .ok (.ixor, 1)) (hi : sm_bin (pc + 1) L S h (fun x y => x ^^^ y) = some r) (k : sm_W p l e R s m args below meth c Q D cl A H0 nL cA b ad0 n0 C1 S1 r.1 r.2.1 r.2.2.1 r.2.2.2) : sm_W p l e R s m args below meth c Q D cl A H0 nL cA b ad0 n0 C1 S1 pc L S h := by
  unfold sm_bin at hi
  split at hi
  · cases hi
    intro ad H locs ls e1 hP hD hS hl
    exact lv_ixor hx hb hd (k ad H locs ls e1 hP hD hS hl)
  · cases hi
theorem sm_s_ishl (hx : p.tables.exec = Jvm.exec) (hb : c.code = cc) (hd : decode cc pc = .ok (.ishl, 1)) (hi : sm_bin (pc + 1) L S h (fun x y => x <<< (y &&& 31)) = some r) (k : sm_W p l e R s m args below meth c Q D cl A H0 nL cA b ad0 n0 C1 S1 r.1 r.2.1 r.2.2.1 r.2.2.2) : sm_W p l e R s m args below meth c Q D cl A H0 nL cA b ad0 n0 C1 S1 pc L S h := by
  unfold sm_bin at hi
  split at hi
  · cases hi
    intro ad H locs ls e1 hP hD hS hl
    exact lv_ishl hx hb hd (k ad H locs ls e1 hP hD hS hl)
  · cases hi
theorem sm_s_ishr (hx : p.tables.exec = Jvm.exec) (hb : c.code = cc) (hd : decode cc pc = .ok (.ishr, 1)) (hi : sm_bin (pc + 1) L S h (fun x y => x >>> (y &&& 31)) = some r) (k : sm_W p l e R s m args below meth c Q D cl A H0 nL cA b ad0 n0 C1 S1 r.1 r.2.1 r.2.2.1 r.2.2.2) : sm_W p l e R s m args below meth c Q D cl A H0 nL cA b ad0 n0 C1 S1 pc L S h := by
  unfold sm_bin at hi
  split at hi
  · cases hi
    intro ad H locs ls e1 hP hD hS hl
    exact lv_ishr hx hb hd (k ad H locs ls e1 hP hD hS hl)
  · cases hi
theorem sm_tgt_eq {pc : Nat} {off : Int} (h : 0 ≤ (pc : Int) + off) : (pc : Int) + off = (sm_tgt pc off : Int) := (Int.toNat_of_nonneg h).symm
theorem sm_sel_t {c : ClassFile.Cond} {x y : Int32} {a b : Nat} (h : sm_cnd c x y) : sm_sel c x y a b = a := @if_pos _ (sm_dec c x y) h _ _ _
theorem sm_sel_f {c : ClassFile.Cond} {x y : Int32} {a b : Nat} (h : ¬ sm_cnd c x y) : sm_sel c x y a b = b := @if_neg _ (sm_dec c x y) h _ _ _
theorem sm_s_if (hx : p.tables.exec = Jvm.exec) (hb : c.code = cc) {q : ClassFile.Cond} {off : Int} (hd : decode cc pc = .ok (.ifCond q off, 3)) (hi : sm_br pc off L S h q = some r) (k : sm_W p l e R s m args below meth c Q D cl A H0 nL cA b ad0 n0 C1 S1 r.1 r.2.1 r.2.2.1 r.2.2.2) : sm_W p l e R s m args below meth c Q D cl A H0 nL cA b ad0 n0 C1 S1 pc L S h := by
  unfold sm_br at hi
  split at hi
  · split at hi
    · next ht =>
      cases hi
      intro ad H locs ls e1 hP hD hS hl
      have hp := sm_tgt_eq ht
      cases q
      · refine lv_if_eq hx hb hd hp (fun hc => ?_) (fun hc => ?_)
        · have k := k ad H locs ls e1 hP hD hS hl
          rw [sm_sel_t (c := .eq) hc] at k
          exact k
        · have k := k ad H locs ls e1 hP hD hS hl
          rw [sm_sel_f (c := .eq) (hc)] at k
          exact k
      · refine lv_if_ne hx hb hd hp (fun hc => ?_) (fun hc => ?_)
        · have k := k ad H locs ls e1 hP hD hS hl
          rw [sm_sel_t (c := .ne) hc] at k
          exact k
        · have k := k ad H locs ls e1 hP hD hS hl
          rw [sm_sel_f (c := .ne) (fun z => z hc)] at k
          exact k
      · refine lv_if_lt hx hb hd hp (fun hc => ?_) (fun hc => ?_)
        · have k := k ad H locs ls e1 hP hD hS hl
          rw [sm_sel_t (c := .lt) hc] at k
          exact k
        · have k := k ad H locs ls e1 hP hD hS hl
          rw [sm_sel_f (c := .lt) (hc)] at k
          exact k
      · refine lv_if_ge hx hb hd hp (fun hc => ?_) (fun hc => ?_)
        · have k := k ad H locs ls e1 hP hD hS hl
          rw [sm_sel_t (c := .ge) hc] at k
          exact k
        · have k := k ad H locs ls e1 hP hD hS hl
          rw [sm_sel_f (c := .ge) (hc)] at k
          exact k
      · refine lv_if_gt hx hb hd hp (fun hc => ?_) (fun hc => ?_)
        · have k := k ad H locs ls e1 hP hD hS hl
          rw [sm_sel_t (c := .gt) hc] at k
          exact k
        · have k := k ad H locs ls e1 hP hD hS hl
          rw [sm_sel_f (c := .gt) (hc)] at k
          exact k
      · refine lv_if_le hx hb hd hp (fun hc => ?_) (fun hc => ?_)
        · have k := k ad H locs ls e1 hP hD hS hl
          rw [sm_sel_t (c := .le) hc] at k
          exact k
        · have k := k ad H locs ls e1 hP hD hS hl
          rw [sm_sel_f (c := .le) (hc)] at k
          exact k
    · cases hi
  · cases hi
theorem sm_s_icmp (hx : p.tables.exec = Jvm.exec) (hb : c.code = cc) {q : ClassFile.Cond} {off : Int} (hd : decode cc pc = .ok (.if_icmp q off, 3)) (hi : sm_br2 pc off L S h q = some r) (k : sm_W p l e R s m args below meth c Q D cl A H0 nL cA b ad0 n0 C1 S1 r.1 r.2.1 r.2.2.1 r.2.2.2) : sm_W p l e R s m args below meth c Q D cl A H0 nL cA b ad0 n0 C1 S1 pc L S h := by
  unfold sm_br2 at hi
  split at hi
  · split at hi
    · next ht =>
      cases hi
      intro ad H locs ls e1 hP hD hS hl
      have hp := sm_tgt_eq ht
      cases q
      · refine lv_icmp_eq hx hb hd hp (fun hc => ?_) (fun hc => ?_)
        · have k := k ad H locs ls e1 hP hD hS hl
          rw [sm_sel_t (c := .eq) hc] at k
          exact k
        · have k := k ad H locs ls e1 hP hD hS hl
          rw [sm_sel_f (c := .eq) (hc)] at k
          exact k
      · refine lv_icmp_ne hx hb hd hp (fun hc => ?_) (fun hc => ?_)
        · have k := k ad H locs ls e1 hP hD hS hl
          rw [sm_sel_t (c := .ne) hc] at k
          exact k
        · have k := k ad H locs ls e1 hP hD hS hl
          rw [sm_sel_f (c := .ne) (fun z => z hc)] at k
          exact k
      · refine lv_icmp_lt hx hb hd hp (fun hc => ?_) (fun hc => ?_)
        · have k := k ad H locs ls e1 hP hD hS hl
          rw [sm_sel_t (c := .lt) hc] at k
          exact k
        · have k := k ad H locs ls e1 hP hD hS hl
          rw [sm_sel_f (c := .lt) (hc)] at k
          exact k
      · refine lv_icmp_ge hx hb hd hp (fun hc => ?_) (fun hc => ?_)
        · have k := k ad H locs ls e1 hP hD hS hl
          rw [sm_sel_t (c := .ge) hc] at k
          exact k
        · have k := k ad H locs ls e1 hP hD hS hl
          rw [sm_sel_f (c := .ge) (hc)] at k
          exact k
      · refine lv_icmp_gt hx hb hd hp (fun hc => ?_) (fun hc => ?_)
        · have k := k ad H locs ls e1 hP hD hS hl
          rw [sm_sel_t (c := .gt) hc] at k
          exact k
        · have k := k ad H locs ls e1 hP hD hS hl
          rw [sm_sel_f (c := .gt) (hc)] at k
          exact k
      · refine lv_icmp_le hx hb hd hp (fun hc => ?_) (fun hc => ?_)
        · have k := k ad H locs ls e1 hP hD hS hl
          rw [sm_sel_t (c := .le) hc] at k
          exact k
        · have k := k ad H locs ls e1 hP hD hS hl
          rw [sm_sel_f (c := .le) (hc)] at k
          exact k
    · cases hi
  · cases hi
theorem sm_s_goto (hx : p.tables.exec = Jvm.exec) (hb : c.code = cc) {off : Int} (hd : decode cc pc = .ok (.goto off, 3)) (hi : sm_jmp pc off L S h = some r) (k : sm_W p l e R s m args below meth c Q D cl A H0 nL cA b ad0 n0 C1 S1 r.1 r.2.1 r.2.2.1 r.2.2.2) : sm_W p l e R s m args below meth c Q D cl A H0 nL cA b ad0 n0 C1 S1 pc L S h := by
  unfold sm_jmp at hi
  split at hi
  · next ht =>
    cases hi
    intro ad H locs ls e1 hP hD hS hl
    exact lv_goto hx hb hd (sm_tgt_eq ht) (k ad H locs ls e1 hP hD hS hl)
  · cases hi
theorem sm_s_table (hx : p.tables.exec = Jvm.exec) (hb : c.code = cc) {d lo hi0 : Int} {offs : Array Int} {len : Nat} (hd : decode cc pc = .ok (.tableswitch d lo hi0 offs, len)) (hi : sm_tab pc L S h d lo hi0 offs = some r) (k : sm_W p l e R s m args below meth c Q D cl A H0 nL cA b ad0 n0 C1 S1 r.1 r.2.1 r.2.2.1 r.2.2.2) : sm_W p l e R s m args below meth c Q D cl A H0 nL cA b ad0 n0 C1 S1 pc L S h := by
  unfold sm_tab at hi
  split at hi
  · split at hi
    · next hc =>
      unfold sm_jmp at hi
      split at hi
      · next ht =>
        cases hi
        intro ad H locs ls e1 hP hD hS hl
        exact lv_tableOut hx hb hd hc (sm_tgt_eq ht) (k ad H locs ls e1 hP hD hS hl)
      · cases hi
    · next hc =>
      split at hi
      · next off ho =>
        unfold sm_jmp at hi
        split at hi
        · next ht =>
          cases hi
          intro ad H locs ls e1 hP hD hS hl
          exact lv_tableIn hx hb hd (fun z => hc (Or.inl z)) (fun z => hc (Or.inr z)) ho (sm_tgt_eq ht) (k ad H locs ls e1 hP hD hS hl)
        · cases hi
      · cases hi
  · cases hi
theorem sm_s_pop (hx : p.tables.exec = Jvm.exec) (hb : c.code = cc) (hd : decode cc pc = .ok (.pop, 1)) (hi : sm_pop (pc + 1) L S h = some r) (k : sm_W p l e R s m args below meth c Q D cl A H0 nL cA b ad0 n0 C1 S1 r.1 r.2.1 r.2.2.1 r.2.2.2) : sm_W p l e R s m args below meth c Q D cl A H0 nL cA b ad0 n0 C1 S1 pc L S h := by
  unfold sm_pop at hi
  split at hi
  · cases hi
    intro ad H locs ls e1 hP hD hS hl
    exact lv_pop hx hb hd rfl (k ad H locs ls e1 hP hD hS hl)
  · cases hi
    intro ad H locs ls e1 hP hD hS hl
    exact lv_pop hx hb hd rfl (k ad H locs ls e1 hP hD hS hl)
  · cases hi
theorem sm_s_dup (hx : p.tables.exec = Jvm.exec) (hb : c.code = cc) (hd : decode cc pc = .ok (.dup, 1)) (hi : sm_dup (pc + 1) L S h = some r) (k : sm_W p l e R s m args below meth c Q D cl A H0 nL cA b ad0 n0 C1 S1 r.1 r.2.1 r.2.2.1 r.2.2.2) : sm_W p l e R s m args below meth c Q D cl A H0 nL cA b ad0 n0 C1 S1 pc L S h := by
  unfold sm_dup at hi
  split at hi
  · cases hi
    intro ad H locs ls e1 hP hD hS hl
    exact lv_dup hx hb hd rfl (k ad H locs ls e1 hP hD hS hl)
  · cases hi
    intro ad H locs ls e1 hP hD hS hl
    exact lv_dup hx hb hd rfl (k ad H locs ls e1 hP hD hS hl)
  · cases hi
theorem sm_s_dup_x1 (hx : p.tables.exec = Jvm.exec) (hb : c.code = cc) (hd : decode cc pc = .ok (.dup_x1, 1)) (hi : sm_dup_x1 (pc + 1) L S h = some r) (k : sm_W p l e R s m args below meth c Q D cl A H0 nL cA b ad0 n0 C1 S1 r.1 r.2.1 r.2.2.1 r.2.2.2) : sm_W p l e R s m args below meth c Q D cl A H0 nL cA b ad0 n0 C1 S1 pc L S h := by
  unfold sm_dup_x1 at hi
  split at hi
  · cases hi
    intro ad H locs ls e1 hP hD hS hl
    exact lv_dup_x1 hx hb hd rfl rfl (k ad H locs ls e1 hP hD hS hl)
  · cases hi
    intro ad H locs ls e1 hP hD hS hl
    exact lv_dup_x1 hx hb hd rfl rfl (k ad H locs ls e1 hP hD hS hl)
  · cases hi
theorem sm_s_dup_x2 (hx : p.tables.exec = Jvm.exec) (hb : c.code = cc) (hd : decode cc pc = .ok (.dup_x2, 1)) (hi : sm_dup_x2 (pc + 1) L S h = some r) (k : sm_W p l e R s m args below meth c Q D cl A H0 nL cA b ad0 n0 C1 S1 r.1 r.2.1 r.2.2.1 r.2.2.2) : sm_W p l e R s m args below meth c Q D cl A H0 nL cA b ad0 n0 C1 S1 pc L S h := by
  unfold sm_dup_x2 at hi
  split at hi
  · cases hi
    intro ad H locs ls e1 hP hD hS hl
    exact lv_dup_x2 hx hb hd rfl rfl rfl (k ad H locs ls e1 hP hD hS hl)
  · cases hi
theorem sm_s_dup2 (hx : p.tables.exec = Jvm.exec) (hb : c.code = cc) (hd : decode cc pc = .ok (.dup2, 1)) (hi : sm_dup2 (pc + 1) L S h = some r) (k : sm_W p l e R s m args below meth c Q D cl A H0 nL cA b ad0 n0 C1 S1 r.1 r.2.1 r.2.2.1 r.2.2.2) : sm_W p l e R s m args below meth c Q D cl A H0 nL cA b ad0 n0 C1 S1 pc L S h := by
  unfold sm_dup2 at hi
  split at hi
  · cases hi
    intro ad H locs ls e1 hP hD hS hl
    exact lv_dup2_11 hx hb hd rfl rfl (k ad H locs ls e1 hP hD hS hl)
  · cases hi
    intro ad H locs ls e1 hP hD hS hl
    exact lv_dup2_11 hx hb hd rfl rfl (k ad H locs ls e1 hP hD hS hl)
  · cases hi
theorem sm_s_i2l (hx : p.tables.exec = Jvm.exec) (hb : c.code = cc) (hd : decode cc pc = .ok (.i2l, 1)) (hi : sm_i2l (pc + 1) L S h = some r) (k : sm_W p l e R s m args below meth c Q D cl A H0 nL cA b ad0 n0 C1 S1 r.1 r.2.1 r.2.2.1 r.2.2.2) : sm_W p l e R s m args below meth c Q D cl A H0 nL cA b ad0 n0 C1 S1 pc L S h := by
  unfold sm_i2l at hi
  split at hi
  · cases hi
    intro ad H locs ls e1 hP hD hS hl
    exact lv_i2l hx hb hd rfl (k ad H locs ls e1 hP hD hS hl)
  · cases hi
theorem sm_s_lcmp (hx : p.tables.exec = Jvm.exec) (hb : c.code = cc) (hd : decode cc pc = .ok (.lcmp, 1)) (hi : sm_lcmp (pc + 1) L S h = some r) (k : sm_W p l e R s m args below meth c Q D cl A H0 nL cA b ad0 n0 C1 S1 r.1 r.2.1 r.2.2.1 r.2.2.2) : sm_W p l e R s m args below meth c Q D cl A H0 nL cA b ad0 n0 C1 S1 pc L S h := by
  unfold sm_lcmp at hi
  split at hi
  · cases hi
    intro ad H locs ls e1 hP hD hS hl
    exact W.lcmp hx hb hd (k ad H locs ls e1 hP hD hS hl)
  · cases hi
theorem sm_s_iaload (hx : p.tables.exec = Jvm.exec) (hb : c.code = cc) (hK : va_K D cl tys s) (ht : tys[0]? = some (cA 0, .int)) {X : Nat × (Nat → Int32)} (hX : va_X b X.1 X.2 s H0) (hbl : b < H0.size) (hbA : ¬ A b) (hd : decode cc pc = .ok (.iaload, 1)) (hi : sm_ald (pc + 1) L S h 0 X = some r) (k : sm_W p l e R s m args below meth c Q D cl A H0 nL cA b ad0 n0 C1 S1 r.1 r.2.1 r.2.2.1 r.2.2.2) : sm_W p l e R s m args below meth c Q D cl A H0 nL cA b ad0 n0 C1 S1 pc L S h := by
  unfold sm_ald at hi
  split at hi
  · split at hi
    · next hz =>
      split at hi
      · next hc =>
        cases hi
        obtain ⟨rfl, hc1, hc2⟩ := hc
        intro ad H locs ls e1 hP hD hS hl
        exact va_iald hx hb hK hP _ 0 (sm_w_get hz) ht (sm_inI hc1 hc2) hd (k ad H locs ls e1 hP hD hS hl)
      · cases hi
    · cases hi
  · split at hi
    · next hc =>
      cases hi
      intro ad H locs ls e1 hP hD hS hl
      exact va_sld hx hb hX hbl hbA hS (sm_inI hc.2.1 hc.2.2) hd (k ad H locs ls e1 hP hD hS hl)
    · cases hi
  · cases hi
theorem sm_s_baload (hx : p.tables.exec = Jvm.exec) (hb : c.code = cc) (hK : va_K D cl tys s) (ht : tys[1]? = some (cA 1, .boolean)) {X : Nat × (Nat → Int32)} (hX : va_X b X.1 X.2 s H0) (hbl : b < H0.size) (hbA : ¬ A b) (hd : decode cc pc = .ok (.baload, 1)) (hi : sm_ald (pc + 1) L S h 1 X = some r) (k : sm_W p l e R s m args below meth c Q D cl A H0 nL cA b ad0 n0 C1 S1 r.1 r.2.1 r.2.2.1 r.2.2.2) : sm_W p l e R s m args below meth c Q D cl A H0 nL cA b ad0 n0 C1 S1 pc L S h := by
  unfold sm_ald at hi
  split at hi
  · split at hi
    · next hz =>
      split at hi
      · next hc =>
        cases hi
        obtain ⟨rfl, hc1, hc2⟩ := hc
        intro ad H locs ls e1 hP hD hS hl
        exact va_zald hx hb hK hP _ 1 (sm_w_get hz) ht (sm_inI hc1 hc2) hd (k ad H locs ls e1 hP hD hS hl)
      · cases hi
    · cases hi
  · split at hi
    · next hc => exact absurd hc.1 (by decide)
    · cases hi
  · cases hi
theorem sm_s_iastore (hx : p.tables.exec = Jvm.exec) (hb : c.code = cc) (hK : va_K D cl tys s) (ht : tys[0]? = some (cA 0, .int)) (hd : decode cc pc = .ok (.iastore, 1)) (hi : sm_ast (pc + 1) L S h 0 = some r) (k : sm_W p l e R s m args below meth c Q D cl A H0 nL cA b ad0 n0 C1 S1 r.1 r.2.1 r.2.2.1 r.2.2.2) : sm_W p l e R s m args below meth c Q D cl A H0 nL cA b ad0 n0 C1 S1 pc L S h := by
  unfold sm_ast at hi
  split at hi
  · next x i q rest =>
    split at hi
    · next u n hz =>
      split at hi
      · next hc =>
        cases hi
        have hu := hc.1
        subst hu
        intro ad H locs ls e1 hP hD hS hl
        refine va_iast hx hb hK hP hD hS q 0 (sm_w_get hz) ht (sm_inI hc.2.1 hc.2.2.1) hd (fun H1 locs1 hP1 hD1 hS1 => ?_)
        have ew := sm_w_mem (cA := cA) (ad := ad) (sh := h.1) (M := h.2.1) (M' := sm_up h.2.1 q i.toNatClampNeg x) (J := h.2.2.1) (J' := h.2.2.1) (r := h.2.2.2) (r' := h.2.2.2) hz sm_up_ne (fun _ _ => rfl)
        simp only [sm_e, sm_up_eq] at ew
        exact k ad H1 locs1 ls e1 (by show va_P D cl (sm_w cA ad (h.1, sm_up h.2.1 q i.toNatClampNeg x, h.2.2.1, h.2.2.2)) H1; rw [ew]; exact hP1) (by show va_D A (sm_w cA ad (h.1, sm_up h.2.1 q i.toNatClampNeg x, h.2.2.1, h.2.2.2)); rw [ew]; exact hD1) hS1 hl
      · cases hi
    · cases hi
  · cases hi
theorem sm_s_bastore (hx : p.tables.exec = Jvm.exec) (hb : c.code = cc) (hK : va_K D cl tys s) (ht : tys[1]? = some (cA 1, .boolean)) (hd : decode cc pc = .ok (.bastore, 1)) (hi : sm_ast (pc + 1) L S h 1 = some r) (k : sm_W p l e R s m args below meth c Q D cl A H0 nL cA b ad0 n0 C1 S1 r.1 r.2.1 r.2.2.1 r.2.2.2) : sm_W p l e R s m args below meth c Q D cl A H0 nL cA b ad0 n0 C1 S1 pc L S h := by
  unfold sm_ast at hi
  split at hi
  · next x i q rest =>
    split at hi
    · next u n hz =>
      split at hi
      · next hc =>
        cases hi
        have hu := hc.1
        subst hu
        intro ad H locs ls e1 hP hD hS hl
        refine va_zast hx hb hK hP hD hS q 1 (sm_w_get hz) ht (sm_inI hc.2.1 hc.2.2.1) hd (fun H1 locs1 hP1 hD1 hS1 => ?_)
        have hv : vp_nar .boolean x = x := by
          rcases hc.2.2.2 with h9 | rfl | rfl
          · exact absurd h9 (by decide)
          · decide
          · decide
        rw [hv] at hP1 hD1
        have ew := sm_w_mem (cA := cA) (ad := ad) (sh := h.1) (M := h.2.1) (M' := sm_up h.2.1 q i.toNatClampNeg x) (J := h.2.2.1) (J' := h.2.2.1) (r := h.2.2.2) (r' := h.2.2.2) hz sm_up_ne (fun _ _ => rfl)
        simp only [sm_e, sm_up_eq] at ew
        exact k ad H1 locs1 ls e1 (by show va_P D cl (sm_w cA ad (h.1, sm_up h.2.1 q i.toNatClampNeg x, h.2.2.1, h.2.2.2)) H1; rw [ew]; exact hP1) (by show va_D A (sm_w cA ad (h.1, sm_up h.2.1 q i.toNatClampNeg x, h.2.2.1, h.2.2.2)); rw [ew]; exact hD1) hS1 hl
      · cases hi
    · cases hi
  · cases hi
theorem sm_s_laload (hx : p.tables.exec = Jvm.exec) (hb : c.code = cc) (hK : va_K D cl tys s) (ht : tys[2]? = some (cA 2, .long)) (hd : decode cc pc = .ok (.laload, 1)) (hi : sm_lald (pc + 1) L S h = some r) (k : sm_W p l e R s m args below meth c Q D cl A H0 nL cA b ad0 n0 C1 S1 r.1 r.2.1 r.2.2.1 r.2.2.2) : sm_W p l e R s m args below meth c Q D cl A H0 nL cA b ad0 n0 C1 S1 pc L S h := by
  unfold sm_lald at hi
  split at hi
  · split at hi
    · next hz =>
      split at hi
      · next hc =>
        cases hi
        intro ad H locs ls e1 hP hD hS hl
        exact va_lald hx hb hK hP _ 2 (sm_w_get hz) ht (sm_inI hc.1 hc.2) hd (k ad H locs ls e1 hP hD hS hl)
      · cases hi
    · cases hi
  · cases hi
theorem sm_s_lastore (hx : p.tables.exec = Jvm.exec) (hb : c.code = cc) (hK : va_K D cl tys s) (ht : tys[2]? = some (cA 2, .long)) (hd : decode cc pc = .ok (.lastore, 1)) (hi : sm_last (pc + 1) L S h = some r) (k : sm_W p l e R s m args below meth c Q D cl A H0 nL cA b ad0 n0 C1 S1 r.1 r.2.1 r.2.2.1 r.2.2.2) : sm_W p l e R s m args below meth c Q D cl A H0 nL cA b ad0 n0 C1 S1 pc L S h := by
  unfold sm_last at hi
  split at hi
  · next x i q rest =>
    split at hi
    · next n hz =>
      split at hi
      · next hc =>
        cases hi
        intro ad H locs ls e1 hP hD hS hl
        refine va_last hx hb hK hP hD hS q 2 (sm_w_get hz) ht (sm_inI hc.1 hc.2) hd (fun H1 locs1 hP1 hD1 hS1 => ?_)
        have ew := sm_w_mem (cA := cA) (ad := ad) (sh := h.1) (M := h.2.1) (M' := h.2.1) (J := h.2.2.1) (J' := sm_uj h.2.2.1 q i.toNatClampNeg x) (r := h.2.2.2) (r' := h.2.2.2) hz (fun _ _ => rfl) sm_uj_ne
        simp only [sm_e, sm_uj_eq] at ew
        exact k ad H1 locs1 ls e1 (by show va_P D cl (sm_w cA ad (h.1, h.2.1, sm_uj h.2.2.1 q i.toNatClampNeg x, h.2.2.2)) H1; rw [ew]; exact hP1) (by show va_D A (sm_w cA ad (h.1, h.2.1, sm_uj h.2.2.1 q i.toNatClampNeg x, h.2.2.2)); rw [ew]; exact hD1) hS1 hl
      · cases hi
    · cases hi
  · cases hi
theorem sm_s_alen (hx : p.tables.exec = Jvm.exec) (hb : c.code = cc) (hK : va_K D cl tys s) (ht : ∀ t, t < 6 → ∃ ty, tys[t]? = some (cA t, ty)) {X : Nat × (Nat → Int32)} (hX : va_X b X.1 X.2 s H0) (hbl : b < H0.size) (hbA : ¬ A b) (hd : decode cc pc = .ok (.arraylength, 1)) (hi : sm_alen (pc + 1) L S h X = some r) (k : sm_W p l e R s m args below meth c Q D cl A H0 nL cA b ad0 n0 C1 S1 r.1 r.2.1 r.2.2.1 r.2.2.2) : sm_W p l e R s m args below meth c Q D cl A H0 nL cA b ad0 n0 C1 S1 pc L S h := by
  unfold sm_alen at hi
  split at hi
  · split at hi
    · next t n hz =>
      split at hi
      · next hc =>
        cases hi
        intro ad H locs ls e1 hP hD hS hl
        obtain ⟨ty, h9⟩ := ht t hc
        exact va_alen hx hb hK hP _ t (sm_w_get hz) h9 rfl hd (k ad H locs ls e1 hP hD hS hl)
      · cases hi
    · next n hz =>
      cases hi
      intro ad H locs ls e1 hP hD hS hl
      obtain ⟨ty, h9⟩ := ht 2 (by decide)
      exact va_alen hx hb hK hP _ 2 (sm_w_get hz) h9 rfl hd (k ad H locs ls e1 hP hD hS hl)
    · next t rs hz =>
      split at hi
      · next hc =>
        cases hi
        intro ad H locs ls e1 hP hD hS hl
        obtain ⟨ty, h9⟩ := ht t hc
        exact va_alen hx hb hK hP _ t (sm_w_get hz) h9 rfl hd (k ad H locs ls e1 hP hD hS hl)
      · cases hi
    · cases hi
  · cases hi
    intro ad H locs ls e1 hP hD hS hl
    exact va_slen hx hb hX hbl hbA hS hd (k ad H locs ls e1 hP hD hS hl)
  · cases hi
end SMS
end
section
/-! ===== fields, references, new cells ===== -/
/-- a field's entry: its class, its place, and what the tables say of it (its own class's, or a nest mate's private one) -/
def sm_Fo (cl : List vw_C) (WA NW : List Cond) (own : String) (idx ci j bl : Nat) : Prop := ∃ (C : String) (T : u_T) (N : Nat) (ty : Nat → FieldType),
  cl[ci]? = some (C, T, N) ∧ j < N ∧ (∀ w ∈ u_ws C T N, w ∈ WA) ∧ (Cond.fieldLink own idx (T j).1 (T j).2.1 (T j).2.2.1 ∈ WA ∨ ∃ host, Cond.fieldLinkNest own idx (T j).1 (T j).2.1 (T j).2.2.1 host ∈ NW) ∧
  (∀ i, i < N → parseFieldDescriptor (T i).2.2.1 = some (ty i)) ∧ (∀ i, i < N → ∀ j, j < N → i ≠ j → (T i).2.1 ≠ (T j).2.1) ∧
  (bl = 0 → ty j = .int) ∧ (bl = 1 → ty j = .boolean) ∧ (bl = 2 → (∃ z, ty j = .object z) ∨ ∃ z, ty j = .array z)
/-- finals are put by constructors alone -/
def sm_Fp (cl : List vw_C) (WA : List Cond) (own : String) (idx : Nat) (ini : Bool) (ci j : Nat) : Prop := ∀ (C : String) (T : u_T) (N : Nat), cl[ci]? = some (C, T, N) → (T j).2.2.2 = true → ini = true ∧ (T j).1 = own ∧ Cond.fieldLink own idx (T j).1 (T j).2.1 (T j).2.2.1 ∈ WA
theorem sm_mapIdx_set {ad : Nat → Nat} {f : Nat → Int32} {fs : List (Option (Option Nat))} {k : Nat} {x : Int32} (hk : fs[k]? = some none) : fs.mapIdx (sm_f ad (upd f k x)) = (fs.mapIdx (sm_f ad f)).set k (.int x) := by
  apply List.ext_getElem?
  intro j
  have hl : k < fs.length := (List.getElem?_eq_some_iff.mp hk).1
  by_cases hj : j = k
  · subst hj
    rw [List.getElem?_set_self (by rw [List.length_mapIdx]; exact hl), List.getElem?_mapIdx, hk]
    simp [sm_f, upd]
  · rw [List.getElem?_set_ne (Ne.symm hj), List.getElem?_mapIdx, List.getElem?_mapIdx]
    cases fs[j]? with
    | none => rfl
    | some z =>
      match z with
      | none => simp [sm_f, upd, hj]
      | some none => rfl
      | some (some q) => rfl
section SMF
variable {p : Program} {l : Launch} {e : Env} {R : Room} {s : State} {m : MethodId} {args : Array Value} {below : List Frame} {meth : Method} {c : Code} {Q : State → Prop} {cc : ByteArray} {D : va_G} {cl : List vw_C} {tys : List (ClassId × FieldType)} {A : Nat → Prop} {H0 : Heap} {nL : Nat} {cA : Nat → ClassId} {b : Nat} {ad0 : Nat → Nat} {n0 C1 S1 : Nat} {pc : Nat} {L : sm_L} {S : List Value} {h : sm_H} {r : sm_P} {WA NW : List Cond} {own : String} {idx : Nat}
theorem sm_s_get (hx : p.tables.exec = Jvm.exec) (hb : c.code = cc) (hown : s.vm.findClass own = some m.cls) (hts : ∀ w ∈ WA, w.before args s = true) (hN : ∀ w ∈ NW, va_Nw w s) (hK : va_K D cl tys s) {f : Option (Nat × Nat × Nat)} (hf : ∀ ci j bl, f = some (ci, j, bl) → sm_Fo cl WA NW own idx ci j bl) (hd : decode cc pc = .ok (.getfield idx, 3)) (hi : sm_get (pc + 3) L S h f = some r) (k : sm_W p l e R s m args below meth c Q D cl A H0 nL cA b ad0 n0 C1 S1 r.1 r.2.1 r.2.2.1 r.2.2.2) : sm_W p l e R s m args below meth c Q D cl A H0 nL cA b ad0 n0 C1 S1 pc L S h := by
  unfold sm_get at hi
  split at hi
  · next ci j bl q rest =>
    obtain ⟨C, T, N, ty, hc, hj, hin, hlk, -⟩ := hf ci j bl rfl
    split at hi
    · next cj fs hz =>
      split at hi
      · next hcj =>
        subst hcj
        intro ad H locs ls e1 hP hD hS hl
        have go : ∀ v : Value, (fs.mapIdx (sm_f ad (h.2.1 q)))[j]? = some v → W p l e R s m args below meth c H locs (C1 - h.2.2.2.1) (S1 - h.2.2.2.2) Q (F0 m (pc + 3) ls (v :: rest.map (sm_v b ad))) → W p l e R s m args below meth c H locs (C1 - h.2.2.2.1) (S1 - h.2.2.2.2) Q (F0 m pc ls (.ref (ad q) :: rest.map (sm_v b ad))) := by
          intro v hv kk
          rcases hlk with hlk | ⟨host, hlk⟩
          · exact va_get hx hb hts hin hown hK hP q (sm_w_get hz) hc j hj (hts _ hlk) (fun _ h9 => h9) hv hd kk
          · exact va_getN hx hb hts hin hown hK hP q (sm_w_get hz) hc j hj (va_Nw.use rfl (hN _ hlk)) (fun _ h9 => h9) hv hd kk
        split at hi
        · next hfs =>
          cases hi
          exact go _ (by rw [List.getElem?_mapIdx, hfs]; rfl) (k ad H locs ls e1 hP hD hS hl)
        · next z hfs =>
          cases hi
          exact go _ (by rw [List.getElem?_mapIdx, hfs]; rfl) (k ad H locs ls e1 hP hD hS hl)
        · cases hi
      · cases hi
    · cases hi
  · cases hi
theorem sm_s_put (hx : p.tables.exec = Jvm.exec) (hb : c.code = cc) (hown : s.vm.findClass own = some m.cls) (hts : ∀ w ∈ WA, w.before args s = true) (hN : ∀ w ∈ NW, va_Nw w s) (hK : va_K D cl tys s) {f : Option (Nat × Nat × Nat)} {ini : Bool} (hini : ini = true → meth.name = "<init>") (hf : ∀ ci j bl, f = some (ci, j, bl) → sm_Fo cl WA NW own idx ci j bl) (hf2 : ∀ ci j bl, f = some (ci, j, bl) → sm_Fp cl WA own idx ini ci j) (hd : decode cc pc = .ok (.putfield idx, 3)) (hi : sm_put (pc + 3) L S h f = some r) (k : sm_W p l e R s m args below meth c Q D cl A H0 nL cA b ad0 n0 C1 S1 r.1 r.2.1 r.2.2.1 r.2.2.2) : sm_W p l e R s m args below meth c Q D cl A H0 nL cA b ad0 n0 C1 S1 pc L S h := by
  have gen : ∀ (ci j bl q : Nat) (fs : List (Option (Option Nat))) (v : Value) (rest : List Value) (ad : Nat → Nat) (H : Heap) (locs : List Loc) (ls : Array Slot), f = some (ci, j, bl) → h.1[q]? = some (.inl (ci, fs)) → j < fs.length → (∀ t : FieldType, ((bl = 0 → t = .int) ∧ (bl = 1 → t = .boolean) ∧ (bl = 2 → (∃ z, t = .object z) ∨ ∃ z, t = .array z)) → narrow t v = v ∧ fits t v = true) →
      va_P D cl (sm_w cA ad h) H → va_D A (sm_w cA ad h) → va_S A H0 H locs →
      (∀ (H1 : Heap) (locs1 : List Loc), va_P D cl ((sm_w cA ad h).set q (ad q, .inr (ci, (fs.mapIdx (sm_f ad (h.2.1 q))).set j v))) H1 → va_D A ((sm_w cA ad h).set q (ad q, .inr (ci, (fs.mapIdx (sm_f ad (h.2.1 q))).set j v))) → va_S A H0 H1 locs1 → W p l e R s m args below meth c H1 locs1 (C1 - h.2.2.2.1) (S1 - h.2.2.2.2) Q (F0 m (pc + 3) ls (rest.map (sm_v b ad)))) →
      W p l e R s m args below meth c H locs (C1 - h.2.2.2.1) (S1 - h.2.2.2.2) Q (F0 m pc ls (v :: .ref (ad q) :: rest.map (sm_v b ad))) := by
    intro ci j bl q fs v rest ad H locs ls hfe hz hjl hfit hP hD hS kk
    obtain ⟨C, T, N, ty, hc, hj, hin, hlk, hty, hnm, hbb⟩ := hf ci j bl hfe
    have hp := hf2 ci j bl hfe C T N hc
    obtain ⟨w1, w2⟩ := hfit (ty j) hbb
    have hl2 : j < (fs.mapIdx (sm_f ad (h.2.1 q))).length := by rw [List.length_mapIdx]; exact hjl
    by_cases hF : (T j).2.2.2 = true
    · obtain ⟨g0, g1, g2⟩ := hp hF
      exact va_putF hx hb hts hin ty hty hnm hown hK hP hD hS q (sm_w_get hz) hc j hj (hts _ g2) (fun _ h9 => h9) hF (hini g0) g1 (hty j hj) w1 w2 hl2 hd kk
    · have hF : (T j).2.2.2 = false := by simpa using hF
      rcases hlk with hlk | ⟨host, hlk⟩
      · exact va_put hx hb hts hin ty hty hnm hown hK hP hD hS q (sm_w_get hz) hc j hj (hts _ hlk) (fun _ h9 => h9) hF (hty j hj) w1 w2 hl2 hd kk
      · exact va_putN hx hb hts hin ty hty hnm hown hK hP hD hS q (sm_w_get hz) hc j hj (va_Nw.use rfl (hN _ hlk)) (fun _ h9 => h9) hF (hty j hj) w1 w2 hl2 hd kk
  unfold sm_put at hi
  split at hi
  · next ci j bl x q rest =>
    split at hi
    · next cj fs hz =>
      split at hi
      · next hcj =>
        obtain ⟨hcj, hfs, hbl⟩ := hcj
        subst hcj
        cases hi
        intro ad H locs ls e1 hP hD hS hl
        refine gen ci j bl q fs (.int x) rest ad H locs ls rfl hz (List.getElem?_eq_some_iff.mp hfs).1 ?_ hP hD hS (fun H1 locs1 hP1 hD1 hS1 => ?_)
        · intro t ht
          rcases hbl with rfl | ⟨rfl, hbl⟩
          · rw [ht.1 rfl]
            exact ⟨vp_nar_int x, rfl⟩
          · rw [ht.2.1 rfl]
            rcases hbl with rfl | rfl <;> exact ⟨by decide, by decide⟩
        · have ew := sm_w_mem (cA := cA) (ad := ad) (sh := h.1) (M := h.2.1) (M' := sm_up h.2.1 q j x) (J := h.2.2.1) (J' := h.2.2.1) (r := h.2.2.2) (r' := h.2.2.2) hz sm_up_ne (fun _ _ => rfl)
          simp only [sm_e, sm_up_eq, sm_mapIdx_set hfs] at ew
          exact k ad H1 locs1 ls e1 (by show va_P D cl (sm_w cA ad (h.1, sm_up h.2.1 q j x, h.2.2.1, h.2.2.2)) H1; rw [ew]; exact hP1) (by show va_D A (sm_w cA ad (h.1, sm_up h.2.1 q j x, h.2.2.1, h.2.2.2)); rw [ew]; exact hD1) hS1 hl
      · cases hi
    · cases hi
  · next ci j bl z q rest =>
    split at hi
    · next cj fs hz =>
      split at hi
      · next hcj =>
        obtain ⟨hcj, hb2, hfs⟩ := hcj
        subst hcj
        cases hi
        intro ad H locs ls e1 hP hD hS hl
        have hjl : j < fs.length := by
          cases h9 : fs[j]? with
          | none => rw [h9] at hfs; cases hfs
          | some _ => exact (List.getElem?_eq_some_iff.mp h9).1
        refine gen ci j bl q fs (.ref (ad z)) rest ad H locs ls rfl hz hjl ?_ hP hD hS (fun H1 locs1 hP1 hD1 hS1 => ?_)
        · intro t ht
          rcases ht.2.2 hb2 with ⟨z, rfl⟩ | ⟨z, rfl⟩
          · exact ⟨rfl, rfl⟩
          · exact ⟨rfl, rfl⟩
        · have ew := sm_w_shp (cA := cA) (ad := ad) (sh := h.1) (M := h.2.1) (J := h.2.2.1) (r := h.2.2.2) (r' := h.2.2.2) (k := q) (z' := .inl (ci, fs.set j (some (some z))))
          have e2 : (fs.set j (some (some z))).mapIdx (sm_f ad (h.2.1 q)) = (fs.mapIdx (sm_f ad (h.2.1 q))).set j (.ref (ad z)) := List.mapIdx_set
          simp only [sm_e, e2] at ew
          exact k ad H1 locs1 ls (fun k9 h9 => e1 k9 (by simpa using h9)) (by show va_P D cl (sm_w cA ad (h.1.set q (.inl (ci, fs.set j (some (some z)))), h.2.1, h.2.2.1, h.2.2.2)) H1; rw [ew]; exact hP1) (by show va_D A (sm_w cA ad (h.1.set q (.inl (ci, fs.set j (some (some z)))), h.2.1, h.2.2.1, h.2.2.2)); rw [ew]; exact hD1) hS1 hl
      · cases hi
    · cases hi
  · cases hi
theorem sm_s_aaload (hx : p.tables.exec = Jvm.exec) (hb : c.code = cc) (hK : va_K D cl tys s) (ht : ∀ t, t < 6 → ∃ ty, tys[t]? = some (cA t, ty)) (ht2 : ∀ t ty, 3 ≤ t → t < 6 → tys[t]? = some (cA t, ty) → ∃ C, ty = .object C) (hd : decode cc pc = .ok (.aaload, 1)) (hi : sm_aald (pc + 1) L S h = some r) (k : sm_W p l e R s m args below meth c Q D cl A H0 nL cA b ad0 n0 C1 S1 r.1 r.2.1 r.2.2.1 r.2.2.2) : sm_W p l e R s m args below meth c Q D cl A H0 nL cA b ad0 n0 C1 S1 pc L S h := by
  unfold sm_aald at hi
  split at hi
  · next i q rest =>
    split at hi
    · next t rs hz =>
      split at hi
      · next hc =>
        split at hi
        · next z hr =>
          cases hi
          obtain ⟨ty, h9⟩ := ht t hc.2.2.2
          obtain ⟨C, rfl⟩ := ht2 t ty hc.2.2.1 hc.2.2.2 h9
          intro ad H locs ls e1 hP hD hS hl
          refine va_aldq hx hb hK hP q t (sm_w_get hz) h9 (sm_inI hc.1 hc.2.1) hd ?_
          rw [hr]
          exact k ad H locs ls e1 hP hD hS hl
        · cases hi
      · cases hi
    · cases hi
  · cases hi
theorem sm_s_aastore (hx : p.tables.exec = Jvm.exec) (hb : c.code = cc) (hK : va_K D cl tys s) {ok : Nat → Nat → Bool} (hok : ∀ t ci, ok t ci = true → ∃ q, cl[ci]? = some q ∧ tys[t]? = some (cA t, .object q.1)) (hd : decode cc pc = .ok (.aastore, 1)) (hi : sm_aast (pc + 1) L S h ok = some r) (k : sm_W p l e R s m args below meth c Q D cl A H0 nL cA b ad0 n0 C1 S1 r.1 r.2.1 r.2.2.1 r.2.2.2) : sm_W p l e R s m args below meth c Q D cl A H0 nL cA b ad0 n0 C1 S1 pc L S h := by
  unfold sm_aast at hi
  split at hi
  · next z i q rest =>
    split at hi
    · next t rs ci fs hz hv =>
      split at hi
      · next hc =>
        cases hi
        obtain ⟨r0, hr0, ht⟩ := hok t ci hc.2.2
        intro ad H locs ls e1 hP hD hS hl
        refine va_astq hx hb hK hP hD hS q t z ci (sm_w_get hz) ht (sm_w_get hv) hr0 (sm_inI hc.1 hc.2.1) hd (fun H1 locs1 hP1 hD1 hS1 => ?_)
        have ew := sm_w_shp (cA := cA) (ad := ad) (sh := h.1) (M := h.2.1) (J := h.2.2.1) (r := h.2.2.2) (r' := h.2.2.2) (k := q) (z' := .inr (.inr (.inr (t, rs.set i.toNatClampNeg (some z)))))
        have e2 : (fun j => (((rs.set i.toNatClampNeg (some z))[j]?).join).map ad) = va_up (fun j => (rs[j]?.join).map ad) i.toNatClampNeg (some (ad z)) := by
          funext j
          have hl9 : i.toNatClampNeg < rs.length := by
            have h8 : i.toNatClampNeg = i.toInt.toNat := rfl
            omega
          by_cases hj : j = i.toNatClampNeg
          · subst hj
            rw [List.getElem?_set_self hl9]
            simp [va_up]
          · rw [List.getElem?_set_ne (Ne.symm hj)]
            simp [va_up, hj]
        simp only [sm_e, e2, List.length_set] at ew
        exact k ad H1 locs1 ls (fun k9 h9 => e1 k9 (by simpa using h9)) (by show va_P D cl (sm_w cA ad (h.1.set q (.inr (.inr (.inr (t, rs.set i.toNatClampNeg (some z))))), h.2.1, h.2.2.1, h.2.2.2)) H1; rw [ew]; exact hP1) (by show va_D A (sm_w cA ad (h.1.set q (.inr (.inr (.inr (t, rs.set i.toNatClampNeg (some z))))), h.2.1, h.2.2.1, h.2.2.2)); rw [ew]; exact hD1) hS1 hl
      · cases hi
    · cases hi
  · cases hi
end SMF
end
section
/-! ===== new cells ===== -/
theorem sm_v_ext {b n : Nat} {ad ad' : Nat → Nat} {v : Value} (hw : sm_wfv n v = true) (ha : ∀ k, k < n → ad' k = ad k) : sm_v b ad' v = sm_v b ad v := by
  cases v with
  | ref k => exact congrArg Value.ref (ha k (by simpa [sm_wfv] using hw))
  | _ => rfl
theorem sm_S_ext {b n : Nat} {ad ad' : Nat → Nat} {S : List Value} (hw : S.all (sm_wfv n) = true) (ha : ∀ k, k < n → ad' k = ad k) : S.map (sm_v b ad') = S.map (sm_v b ad) :=
  List.map_congr_left fun v hv => sm_v_ext (List.all_eq_true.mp hw v hv) ha
theorem sm_l_ext {b n nL : Nat} {ad ad' : Nat → Nat} {ls : Array Slot} {L : sm_L} (h : sm_l b ad ls nL L) (hw : L.all (fun o => match o with
  | some v => sm_wfv n v
  | none => true) = true) (ha : ∀ k, k < n → ad' k = ad k) : sm_l b ad' ls nL L := by
  refine ⟨h.1, h.2.1, h.2.2.1, fun i v hv => ?_⟩
  have h1 : sm_wfv n v = true := List.all_eq_true.mp hw (some v) (List.mem_of_getElem? hv)
  rw [sm_v_ext h1 ha]
  exact h.2.2.2 i v hv
theorem sm_r_ext {n : Nat} {ad ad' : Nat → Nat} {r : Option Nat} (hw : sm_wfr n r = true) (ha : ∀ k, k < n → ad' k = ad k) : r.map ad' = r.map ad := by
  cases r with
  | none => rfl
  | some k => exact congrArg some (ha k (by simpa [sm_wfr] using hw))
theorem sm_e_ext {n k : Nat} {cA : Nat → ClassId} {ad ad' : Nat → Nat} {M M' : sm_M} {J J' : sm_J} {z : sm_S} (hw : sm_wfs n z = true) (ha : ∀ k, k < n → ad' k = ad k) (hM : M' k = M k) (hJ : J' k = J k) : sm_e cA ad' M' J' k z = sm_e cA ad M J k z := by
  match z with
  | .inl (ci, fs) =>
    simp only [sm_e, hM]
    congr 2
    apply List.ext_getElem?
    intro i
    rw [List.getElem?_mapIdx, List.getElem?_mapIdx]
    cases hf : fs[i]? with
    | none => rfl
    | some f =>
      have h1 := List.all_eq_true.mp hw f (List.mem_of_getElem? hf)
      match f with
      | none => rfl
      | some none => rfl
      | some (some q) =>
        have h2 : q < n := by simpa [sm_wfr] using h1
        show some (Value.ref (ad' q)) = some (Value.ref (ad q))
        rw [ha q h2]
  | .inr (.inl (t, n)) => simp only [sm_e, hM]
  | .inr (.inr (.inl n)) => simp only [sm_e, hJ]
  | .inr (.inr (.inr (t, rs))) =>
    have e9 : (fun i : Nat => (rs[i]?.join).map ad') = (fun i : Nat => (rs[i]?.join).map ad) := by
      funext i
      cases hf : rs[i]? with
      | none => rfl
      | some f => exact sm_r_ext (List.all_eq_true.mp hw f (List.mem_of_getElem? hf)) ha
    simp only [sm_e, e9]
theorem sm_w_push {cA : Nat → ClassId} {ad ad' : Nat → Nat} {sh : List sm_S} {M M' : sm_M} {J J' : sm_J} {r r' : Nat × Nat} {z : sm_S} (hw : sh.all (sm_wfs sh.length) = true) (ha : ∀ k, k < sh.length → ad' k = ad k) (hM : ∀ k, k < sh.length → M' k = M k) (hJ : ∀ k, k < sh.length → J' k = J k) :
    sm_w cA ad' (sh ++ [z], M', J', r') = sm_w cA ad (sh, M, J, r) ++ [(ad' sh.length, sm_e cA ad' M' J' sh.length z)] := by
  apply List.ext_getElem?
  intro j
  have hl : (sm_w cA ad (sh, M, J, r)).length = sh.length := by unfold sm_w; rw [List.length_mapIdx]
  by_cases hj : j < sh.length
  · rw [List.getElem?_append_left (by rw [hl]; exact hj)]
    unfold sm_w
    rw [List.getElem?_mapIdx, List.getElem?_mapIdx]
    show Option.map _ (sh ++ [z])[j]? = Option.map _ sh[j]?
    rw [List.getElem?_append_left hj]
    cases hz : sh[j]? with
    | none => rfl
    | some z' =>
      show some (ad' j, sm_e cA ad' M' J' j z') = some (ad j, sm_e cA ad M J j z')
      rw [ha j hj, sm_e_ext (List.all_eq_true.mp hw z' (List.mem_of_getElem? hz)) ha (hM j hj) (hJ j hj)]
  · by_cases hj2 : j = sh.length
    · subst hj2
      rw [List.getElem?_append_right (by rw [hl]; exact Nat.le_refl _), hl, Nat.sub_self]
      unfold sm_w
      rw [List.getElem?_mapIdx]
      show Option.map _ (sh ++ [z])[sh.length]? = _
      rw [List.getElem?_append_right (Nat.le_refl _), Nat.sub_self]
      rfl
    · have h1 : (sm_w cA ad (sh, M, J, r) ++ [(ad' sh.length, sm_e cA ad' M' J' sh.length z)])[j]? = none := List.getElem?_eq_none (by rw [List.length_append, hl]; simp; omega)
      have h2 : (sm_w cA ad' (sh ++ [z], M', J', r'))[j]? = none := List.getElem?_eq_none (by
        unfold sm_w
        rw [List.length_mapIdx]
        simp
        omega)
      rw [h1, h2]
theorem sm_RA_eq {U : State} {c1 c2 : ClassId} {ty : FieldType} (h1 : va_RA U c1 ty) (h2 : va_RA U c2 ty) : c1 = c2 := by
  cases ty with
  | object C =>
    obtain ⟨_, _, -, -, -, a⟩ := h1
    obtain ⟨_, _, -, -, -, b⟩ := h2
    exact Option.some.inj (a.symm.trans b)
  | _ => exact Option.some.inj (h1.symm.trans h2)
section SMN
variable {p : Program} {l : Launch} {e : Env} {R : Room} {s : State} {m : MethodId} {args : Array Value} {below : List Frame} {meth : Method} {c : Code} {Q : State → Prop} {cc : ByteArray} {D : va_G} {cl : List vw_C} {tys : List (ClassId × FieldType)} {A : Nat → Prop} {H0 : Heap} {nL : Nat} {cA : Nat → ClassId} {b : Nat} {ad0 : Nat → Nat} {n0 C1 S1 : Nat} {pc : Nat} {L : sm_L} {S : List Value} {h : sm_H} {r : sm_P} {WA NW : List Cond} {own : String} {idx : Nat}
theorem sm_s_mk {rest : List Value} {z : sm_S} {n pc2 : Nat} (hn0 : n0 ≤ h.1.length) (hle : h.2.2.2.1 ≤ C1 ∧ h.2.2.2.2 ≤ S1) (hroom : C1 - r.2.2.2.2.2.2.1 ≤ R.cells ∧ S1 - r.2.2.2.2.2.2.2 ≤ R.slots) (hi : sm_mk pc2 L rest h z n = some r) (k : sm_W p l e R s m args below meth c Q D cl A H0 nL cA b ad0 n0 C1 S1 r.1 r.2.1 r.2.2.1 r.2.2.2) :
    (C1 - h.2.2.2.1 + 1 ≤ R.cells ∧ S1 - h.2.2.2.2 + n ≤ R.slots) ∧ ∀ (ad : Nat → Nat) (H1 : Heap) (locs : List Loc) (ls : Array Slot) (q : Nat) (E : va_E), (∀ k, ¬ (n0 ≤ k ∧ k < h.1.length) → ad k = ad0 k) → sm_l b ad ls nL L → va_P D cl (sm_w cA ad h ++ [(q, E)]) H1 → va_D A (sm_w cA ad h ++ [(q, E)]) → va_S A H0 H1 locs →
      E = sm_e cA (fun j => if j = h.1.length then q else ad j) (sm_uf h.2.1 h.1.length (fun _ => 0)) (fun a => if a = h.1.length then (fun _ => 0) else h.2.2.1 a) h.1.length z →
      W p l e R s m args below meth c H1 locs (C1 - h.2.2.2.1 + 1) (S1 - h.2.2.2.2 + n) Q (F0 m pc2 ls (.ref q :: rest.map (sm_v b ad))) := by
  unfold sm_mk at hi
  split at hi
  · next hc =>
    obtain ⟨h1, h2, h3, h4, h5⟩ := hc
    cases hi
    have g1 : C1 - (h.2.2.2.1 - 1) = C1 - h.2.2.2.1 + 1 := by omega
    have g2 : S1 - (h.2.2.2.2 - n) = S1 - h.2.2.2.2 + n := by omega
    dsimp only at hroom k
    rw [g1, g2] at hroom
    refine ⟨hroom, fun ad H1 locs ls q E e1 hl hP hD hS hE => ?_⟩
    have ha : ∀ j, j < h.1.length → (fun j => if j = h.1.length then q else ad j) j = ad j := fun j hj => if_neg (by omega)
    have hw : sm_wfL h.1.length L rest = true := h3
    unfold sm_wfL at hw
    rw [Bool.and_eq_true] at hw
    have ew := sm_w_push (cA := cA) (ad := ad) (ad' := fun j => if j = h.1.length then q else ad j) (sh := h.1) (M := h.2.1) (M' := sm_uf h.2.1 h.1.length (fun _ => 0)) (J := h.2.2.1) (J' := fun a => if a = h.1.length then (fun _ => 0) else h.2.2.1 a) (r := h.2.2.2) (r' := (h.2.2.2.1 - 1, h.2.2.2.2 - n)) (z := z) h4 ha (fun j hj => sm_uf_ne j (by omega)) (fun j hj => if_neg (by omega))
    rw [← hE] at ew
    have ew : sm_w cA (fun j => if j = h.1.length then q else ad j) (h.1 ++ [z], sm_uf h.2.1 h.1.length (fun _ => 0), (fun a => if a = h.1.length then (fun _ => 0) else h.2.2.1 a), h.2.2.2.1 - 1, h.2.2.2.2 - n) = sm_w cA ad h ++ [(q, E)] := by
      rw [ew]
      simp
    have kk := k (fun j => if j = h.1.length then q else ad j) H1 locs ls (fun j hj => by
      have hl9 : (h.1 ++ [z]).length = h.1.length + 1 := by simp
      rw [hl9] at hj
      show (if j = h.1.length then q else ad j) = ad0 j
      rw [if_neg (by omega)]
      exact e1 j (by omega)) (by rw [ew]; exact hP) (by rw [ew]; exact hD) hS (sm_l_ext hl hw.1 ha)
    dsimp only at kk
    rw [g1, g2] at kk
    have es : List.map (sm_v b (fun j => if j = h.1.length then q else ad j)) (Value.ref h.1.length :: rest) = .ref q :: rest.map (sm_v b ad) := by
      rw [List.map_cons, sm_S_ext hw.2 ha]
      simp [sm_v]
    rw [es] at kk
    exact kk
  · cases hi
theorem sm_s_newarray (hx : p.tables.exec = Jvm.exec) (hb : c.code = cc) (hK : va_K D cl tys s) (hA : ∀ q, H0.size ≤ q → A q) (hn0 : n0 ≤ h.1.length) (hle : h.2.2.2.1 ≤ C1 ∧ h.2.2.2.2 ≤ S1) (hroom : C1 - r.2.2.2.2.2.2.1 ≤ R.cells ∧ S1 - r.2.2.2.2.2.2.2 ≤ R.slots) (t0 : tys[0]? = some (cA 0, .int)) (t1 : tys[1]? = some (cA 1, .boolean)) (t2 : tys[2]? = some (cA 2, .long)) (ha0 : (Cond.arrayClass .int).before args s = true) (ha1 : (Cond.arrayClass .boolean).before args s = true) (ha2 : (Cond.arrayClass .long).before args s = true) {t : ArrayType} (hd : decode cc pc = .ok (.newarray t, 2)) (hi : sm_newa (pc + 2) L S h t = some r) (k : sm_W p l e R s m args below meth c Q D cl A H0 nL cA b ad0 n0 C1 S1 r.1 r.2.1 r.2.2.1 r.2.2.2) : sm_W p l e R s m args below meth c Q D cl A H0 nL cA b ad0 n0 C1 S1 pc L S h := by
  unfold sm_newa at hi
  split at hi
  · next n rest =>
    split at hi
    · next hc =>
      have hn : ¬ n < 0 := by
        rw [Int32.lt_iff_toInt_lt]
        have : (0 : Int32).toInt = 0 := by decide
        omega
      have hN : n.toNatClampNeg = n.toInt.toNat := rfl
      split at hi
      · obtain ⟨hr2, go⟩ := sm_s_mk hn0 hle hroom hi k
        intro ad H locs ls e1 hP hD hS hl
        refine va_newa hx hb (atype := .int) ha0 (ty := .int) rfl hK hP hD hS hA (a0 := (n.toNatClampNeg, .inl (fun _ => 0))) (fun _ => rfl) hn rfl (by show n.toNatClampNeg * _ ≤ _; rw [hN]; simp only [componentBytes]; omega) hr2.1 hr2.2 hd (fun q cB H1 hK1 hP1 hD1 hS1 => ?_)
        have hcc : cB = cA 0 := sm_RA_eq (hK1.2 tys.length (cB, .int) (by simp)).2 (hK1.2 0 (cA 0, .int) (by rw [List.getElem?_append_left (List.getElem?_eq_some_iff.mp t0).1]; exact t0)).2
        subst hcc
        exact go ad H1 locs ls q _ e1 hl hP1 hD1 hS1 (by simp [sm_e, sm_uf])
      · obtain ⟨hr2, go⟩ := sm_s_mk hn0 hle hroom hi k
        intro ad H locs ls e1 hP hD hS hl
        refine va_newa hx hb (atype := .boolean) ha1 (ty := .boolean) rfl hK hP hD hS hA (a0 := (n.toNatClampNeg, .inl (fun _ => 0))) (fun _ => rfl) hn rfl (by show n.toNatClampNeg * _ ≤ _; rw [hN]; simp only [componentBytes]; omega) hr2.1 hr2.2 hd (fun q cB H1 hK1 hP1 hD1 hS1 => ?_)
        have hcc : cB = cA 1 := sm_RA_eq (hK1.2 tys.length (cB, .boolean) (by simp)).2 (hK1.2 1 (cA 1, .boolean) (by rw [List.getElem?_append_left (List.getElem?_eq_some_iff.mp t1).1]; exact t1)).2
        subst hcc
        exact go ad H1 locs ls q _ e1 hl hP1 hD1 hS1 (by simp [sm_e, sm_uf])
      · obtain ⟨hr2, go⟩ := sm_s_mk hn0 hle hroom hi k
        intro ad H locs ls e1 hP hD hS hl
        refine va_newa hx hb (atype := .long) ha2 (ty := .long) rfl hK hP hD hS hA (a0 := (n.toNatClampNeg, .inr (.inl (fun _ => 0)))) (fun _ => rfl) hn rfl (by show n.toNatClampNeg * _ ≤ _; rw [hN]; simp only [componentBytes]; omega) hr2.1 hr2.2 hd (fun q cB H1 hK1 hP1 hD1 hS1 => ?_)
        have hcc : cB = cA 2 := sm_RA_eq (hK1.2 tys.length (cB, .long) (by simp)).2 (hK1.2 2 (cA 2, .long) (by rw [List.getElem?_append_left (List.getElem?_eq_some_iff.mp t2).1]; exact t2)).2
        subst hcc
        exact go ad H1 locs ls q _ e1 hl hP1 hD1 hS1 (by simp [sm_e, sm_uf])
      · cases hi
    · cases hi
  · cases hi
theorem sm_s_anewarray (hx : p.tables.exec = Jvm.exec) (hb : c.code = cc) (hK : va_K D cl tys s) (hA : ∀ q, H0.size ≤ q → A q) (hn0 : n0 ≤ h.1.length) (hle : h.2.2.2.1 ≤ C1 ∧ h.2.2.2.2 ≤ S1) (hroom : C1 - r.2.2.2.2.2.2.1 ≤ R.cells ∧ S1 - r.2.2.2.2.2.2.2 ≤ R.slots) (hown : s.vm.findClass own = some m.cls) {t : Option Nat} (hq : ∀ u, t = some u → ∃ C, tys[u]? = some (cA u, .object C) ∧ (Cond.classLink own idx C).before args s = true ∧ va_AO C s) (hd : decode cc pc = .ok (.anewarray idx, 3)) (hi : sm_newq (pc + 3) L S h t = some r) (k : sm_W p l e R s m args below meth c Q D cl A H0 nL cA b ad0 n0 C1 S1 r.1 r.2.1 r.2.2.1 r.2.2.2) : sm_W p l e R s m args below meth c Q D cl A H0 nL cA b ad0 n0 C1 S1 pc L S h := by
  unfold sm_newq at hi
  split at hi
  · next u n rest =>
    obtain ⟨C, tu, hcl, hao⟩ := hq u rfl
    split at hi
    · next hc =>
      have hn : ¬ n < 0 := by
        rw [Int32.lt_iff_toInt_lt]
        have : (0 : Int32).toInt = 0 := by decide
        omega
      have hN : n.toNatClampNeg = n.toInt.toNat := rfl
      obtain ⟨hr2, go⟩ := sm_s_mk hn0 hle hroom hi k
      intro ad H locs ls e1 hP hD hS hl
      refine va_newq hx hb hown hcl hao hK hP hD hS hA hn rfl (by rw [hN]; omega) hr2.1 hr2.2 hd (fun q cB H1 hK1 hP1 hD1 hS1 => ?_)
      have hcc : cB = cA u := sm_RA_eq (hK1.2 tys.length (cB, .object C) (by simp)).2 (hK1.2 u (cA u, .object C) (by rw [List.getElem?_append_left (List.getElem?_eq_some_iff.mp tu).1]; exact tu)).2
      subst hcc
      refine go ad H1 locs ls q _ e1 hl hP1 hD1 hS1 ?_
      have e9 : (fun i : Nat => ((List.replicate n.toNatClampNeg (none : Option Nat))[i]?.join).map (fun j => if j = h.1.length then q else ad j)) = (fun _ => none) := by
        funext i
        by_cases hi9 : i < n.toNatClampNeg
        · simp [List.getElem?_replicate, hi9]
        · simp [List.getElem?_replicate, hi9]
      simp only [sm_e, List.length_replicate, e9]
    · cases hi
  · cases hi
/-- a class that is made: its fields at their defaults -/
def sm_No (cl : List vw_C) (WA : List Cond) (own : String) (idx ci : Nat) (fs : List (Option (Option Nat))) : Prop := ∃ (C : String) (T : u_T) (ty : Nat → FieldType),
  cl[ci]? = some (C, T, fs.length) ∧ (∀ w ∈ u_ws C T fs.length, w ∈ WA) ∧ (∀ k, k < fs.length → parseFieldDescriptor (T k).2.2.1 = some (ty k)) ∧ Cond.classLink own idx C ∈ WA ∧ Cond.instantiable C fs.length ∈ WA ∧ Cond.initialized C ∈ WA ∧
  (∀ k, k < fs.length → (fs[k]? = some none ∧ defaultValue (ty k) = .int 0) ∨ (fs[k]? = some (some none) ∧ defaultValue (ty k) = .null))
theorem sm_s_new (hx : p.tables.exec = Jvm.exec) (hb : c.code = cc) (hK : va_K D cl tys s) (hA : ∀ q, H0.size ≤ q → A q) (hn0 : n0 ≤ h.1.length) (hle : h.2.2.2.1 ≤ C1 ∧ h.2.2.2.2 ≤ S1) (hroom : C1 - r.2.2.2.2.2.2.1 ≤ R.cells ∧ S1 - r.2.2.2.2.2.2.2 ≤ R.slots) (hown : s.vm.findClass own = some m.cls) (hts : ∀ w ∈ WA, w.before args s = true) {f : Option (Nat × List (Option (Option Nat)))} (hf : ∀ ci fs, f = some (ci, fs) → sm_No cl WA own idx ci fs) (hd : decode cc pc = .ok (.new idx, 3)) (hi : sm_new (pc + 3) L S h f = some r) (k : sm_W p l e R s m args below meth c Q D cl A H0 nL cA b ad0 n0 C1 S1 r.1 r.2.1 r.2.2.1 r.2.2.2) : sm_W p l e R s m args below meth c Q D cl A H0 nL cA b ad0 n0 C1 S1 pc L S h := by
  unfold sm_new at hi
  split at hi
  · next ci fs =>
    obtain ⟨C, T, ty, hc, hin, hty, w1, w2, w3, hdef⟩ := hf ci fs rfl
    obtain ⟨hr2, go⟩ := sm_s_mk hn0 hle hroom hi k
    intro ad H locs ls e1 hP hD hS hl
    refine va_new hx hb hts hin ty hty hown (hts _ w1) (hts _ w2) (hts _ w3) hK hP hD hS hA hc (fs := fs.mapIdx (sm_f (fun _ => 0) (fun _ => 0))) ?_ hr2.1 hr2.2 hd (fun q H1 hP1 hD1 hS1 => ?_)
    · intro j hj
      show _ = (fs.mapIdx (sm_f (fun _ => 0) (fun _ => 0))).getD j Value.null
      rw [List.getD_eq_getElem?_getD, List.getElem?_mapIdx]
      rcases hdef j hj with ⟨a1, a2⟩ | ⟨a1, a2⟩
      · rw [a1, a2]; rfl
      · rw [a1, a2]; rfl
    · refine go ad H1 locs ls q _ e1 hl hP1 hD1 hS1 ?_
      simp only [sm_e, sm_uf_eq]
      congr 2
      apply List.ext_getElem?
      intro i
      rw [List.getElem?_mapIdx, List.getElem?_mapIdx]
      by_cases hil : i < fs.length
      · rcases hdef i hil with ⟨a1, -⟩ | ⟨a1, -⟩
        · rw [a1]; rfl
        · rw [a1]; rfl
      · rw [List.getElem?_eq_none (by omega)]
        rfl
  · cases hi
end SMN
end
section
/-! ===== any instruction that neither calls nor leaves ===== -/
def sm_tsw : Instr → Bool
  | .tableswitch _ _ _ _ => true
  | _ => false
/-- stores are to locals that there are -/
def sm_lok (n : Nat) : Instr → Bool
  | .istore i => decide (i < n)
  | .istore_n i => decide (i.val < n)
  | .astore i => decide (i < n)
  | .astore_n i => decide (i.val < n)
  | .iinc i _ => decide (i < n)
  | _ => true
def sm_isput : Instr → Option Nat
  | .putfield k => some k
  | _ => none
/-- what the class files' tables T say is so; by is a method's code, nm its name, tyN the types of arrays, AO the classes of arrays of references -/
def sm_Tab (T : sm_T) (ok : Nat → Nat → Bool) (cl : List vw_C) (WA NW : List Cond) (tyN : List FieldType) (AO : List String) (bc : Nat → ByteArray) (nm : Nat → MethodName) : Prop :=
  (∀ y idx ci j k, sm_fld T y idx = some (ci, j, k) → sm_Fo cl WA NW (nm y).cls idx ci j k) ∧
  (∀ y pc i idx ci j k, sm_ins T y pc = some i → sm_isput i = some idx → sm_fld T y idx = some (ci, j, k) → sm_Fp cl WA (nm y).cls idx ((nm y).name == "<init>") ci j) ∧
  (∀ y idx ci fs, sm_cls T y idx = some (ci, fs) → sm_No cl WA (nm y).cls idx ci fs) ∧
  (∀ y idx u, sm_arr T y idx = some u → ∃ C, tyN[u]? = some (.object C) ∧ Cond.classLink (nm y).cls idx C ∈ WA ∧ C ∈ AO) ∧
  (∀ y pc i, sm_ins T y pc = some i → ∃ len, decode (bc y) pc = .ok (i, len) ∧ (sm_tsw i = false → len = sm_len i) ∧ sm_lok (sm_nL T y).1 i = true) ∧
  (∀ t ci, ok t ci = true → ∃ q, cl[ci]? = some q ∧ tyN[t]? = some (.object q.1)) ∧
  (∃ t3 t4 t5, tyN = [.int, .boolean, .long, .object t3, .object t4, .object t5]) ∧
  Cond.arrayClass .int ∈ WA ∧ Cond.arrayClass .boolean ∈ WA ∧ Cond.arrayClass .long ∈ WA
def sm_tys (cA : Nat → ClassId) (tyN : List FieldType) : List (ClassId × FieldType) := tyN.mapIdx (fun t ty => (cA t, ty))
theorem sm_tys_get {cA : Nat → ClassId} {tyN : List FieldType} {t : Nat} {ty : FieldType} (h : tyN[t]? = some ty) : (sm_tys cA tyN)[t]? = some (cA t, ty) := by
  unfold sm_tys
  rw [List.getElem?_mapIdx, h]
  rfl
section SMX
variable {p : Program} {l : Launch} {e : Env} {R : Room} {s : State} {m : MethodId} {args : Array Value} {below : List Frame} {meth : Method} {c : Code} {Q : State → Prop} {D : va_G} {cl : List vw_C} {A : Nat → Prop} {H0 : Heap} {nL : Nat} {cA : Nat → ClassId} {b : Nat} {ad0 : Nat → Nat} {n0 C1 S1 : Nat} {pc : Nat} {L : sm_L} {S : List Value} {h : sm_H} {r : sm_P} {WA NW : List Cond} {T : sm_T} {ok : Nat → Nat → Bool} {tyN : List FieldType} {AO : List String} {bc : Nat → ByteArray} {nm : Nat → MethodName} {X : Nat × (Nat → Int32)} {y : Nat}
set_option maxHeartbeats 4000000 in
theorem sm_sound (TB : sm_Tab T ok cl WA NW tyN AO bc nm) (hx : p.tables.exec = Jvm.exec) (hb : c.code = bc y) (hnL : (sm_nL T y).1 = nL) (hown : s.vm.findClass (nm y).cls = some m.cls) (hmn : meth.name = (nm y).name) (hts : ∀ w ∈ WA, w.before args s = true) (hN : ∀ w ∈ NW, va_Nw w s) (hAO : ∀ C ∈ AO, va_AO C s) (hK : va_K D cl (sm_tys cA tyN) s) (hX : va_X b X.1 X.2 s H0) (hbl : b < H0.size) (hbA : ¬ A b) (hA : ∀ q, H0.size ≤ q → A q) (hn0 : n0 ≤ h.1.length) (hle : h.2.2.2.1 ≤ C1 ∧ h.2.2.2.2 ≤ S1) (hroom : C1 - r.2.2.2.2.2.2.1 ≤ R.cells ∧ S1 - r.2.2.2.2.2.2.2 ≤ R.slots)
    {i : Instr} (hins : sm_ins T y pc = some i) (hi : sm_i T X ok y i pc L S h = some r) (k : sm_W p l e R s m args below meth c Q D cl A H0 nL cA b ad0 n0 C1 S1 r.1 r.2.1 r.2.2.1 r.2.2.2) : sm_W p l e R s m args below meth c Q D cl A H0 nL cA b ad0 n0 C1 S1 pc L S h := by
  obtain ⟨tF, tP, tN, tQ, tI, tO, ⟨t3, t4, t5, rfl⟩, tw0, tw1, tw2⟩ := TB
  obtain ⟨len, hd, hlen, hlo⟩ := tI y pc i hins
  have e0 := sm_tys_get (cA := cA) (tyN := [.int, .boolean, .long, .object t3, .object t4, .object t5]) (t := 0) rfl
  have e1 := sm_tys_get (cA := cA) (tyN := [.int, .boolean, .long, .object t3, .object t4, .object t5]) (t := 1) rfl
  have e2 := sm_tys_get (cA := cA) (tyN := [.int, .boolean, .long, .object t3, .object t4, .object t5]) (t := 2) rfl
  have e6 : ∀ t, t < 6 → ∃ ty, (sm_tys cA [.int, .boolean, .long, .object t3, .object t4, .object t5])[t]? = some (cA t, ty) := by
    intro t ht
    have : ∃ ty, ([.int, .boolean, .long, .object t3, .object t4, .object t5] : List FieldType)[t]? = some ty := ⟨_, List.getElem?_eq_getElem (by simpa using ht)⟩
    obtain ⟨ty, h9⟩ := this
    exact ⟨ty, sm_tys_get h9⟩
  have e7 : ∀ t ty, 3 ≤ t → t < 6 → (sm_tys cA [.int, .boolean, .long, .object t3, .object t4, .object t5])[t]? = some (cA t, ty) → ∃ C, ty = .object C := by
    intro t ty h3 h6 h9
    rcases (by omega : t = 3 ∨ t = 4 ∨ t = 5) with rfl | rfl | rfl
    · cases h9; exact ⟨_, rfl⟩
    · cases h9; exact ⟨_, rfl⟩
    · cases h9; exact ⟨_, rfl⟩
  rw [hnL] at hlo
  cases i with
  | iconst n =>
    obtain rfl := hlen rfl
    exact sm_s_iconst hx hb hd hi k
  | bipush n =>
    obtain rfl := hlen rfl
    exact sm_s_bipush hx hb hd hi k
  | sipush n =>
    obtain rfl := hlen rfl
    exact sm_s_sipush hx hb hd hi k
  | lconst n =>
    obtain rfl := hlen rfl
    exact sm_s_lconst hx hb hd hi k
  | iload i =>
    obtain rfl := hlen rfl
    exact sm_s_iload hx hb hd hi k
  | iload_n i =>
    obtain rfl := hlen rfl
    exact sm_s_iload_n hx hb hd hi k
  | aload i =>
    obtain rfl := hlen rfl
    exact sm_s_aload hx hb hd hi k
  | aload_n i =>
    obtain rfl := hlen rfl
    exact sm_s_aload_n hx hb hd hi k
  | istore i =>
    obtain rfl := hlen rfl
    exact sm_s_istore hx hb (of_decide_eq_true hlo) hd hi k
  | istore_n i =>
    obtain rfl := hlen rfl
    exact sm_s_istore_n hx hb (of_decide_eq_true hlo) hd hi k
  | astore i =>
    obtain rfl := hlen rfl
    exact sm_s_astore hx hb (of_decide_eq_true hlo) hd hi k
  | astore_n i =>
    obtain rfl := hlen rfl
    exact sm_s_astore_n hx hb (of_decide_eq_true hlo) hd hi k
  | iinc i n =>
    obtain rfl := hlen rfl
    exact sm_s_iinc hx hb (of_decide_eq_true hlo) hd hi k
  | iadd =>
    obtain rfl := hlen rfl
    exact sm_s_iadd hx hb hd hi k
  | isub =>
    obtain rfl := hlen rfl
    exact sm_s_isub hx hb hd hi k
  | imul =>
    obtain rfl := hlen rfl
    exact sm_s_imul hx hb hd hi k
  | iand =>
    obtain rfl := hlen rfl
    exact sm_s_iand hx hb hd hi k
  | ior =>
    obtain rfl := hlen rfl
    exact sm_s_ior hx hb hd hi k
  | ixor =>
    obtain rfl := hlen rfl
    exact sm_s_ixor hx hb hd hi k
  | ishl =>
    obtain rfl := hlen rfl
    exact sm_s_ishl hx hb hd hi k
  | ishr =>
    obtain rfl := hlen rfl
    exact sm_s_ishr hx hb hd hi k
  | pop =>
    obtain rfl := hlen rfl
    exact sm_s_pop hx hb hd hi k
  | dup =>
    obtain rfl := hlen rfl
    exact sm_s_dup hx hb hd hi k
  | dup_x1 =>
    obtain rfl := hlen rfl
    exact sm_s_dup_x1 hx hb hd hi k
  | dup_x2 =>
    obtain rfl := hlen rfl
    exact sm_s_dup_x2 hx hb hd hi k
  | dup2 =>
    obtain rfl := hlen rfl
    exact sm_s_dup2 hx hb hd hi k
  | i2l =>
    obtain rfl := hlen rfl
    exact sm_s_i2l hx hb hd hi k
  | lcmp =>
    obtain rfl := hlen rfl
    exact sm_s_lcmp hx hb hd hi k
  | ifCond q off =>
    obtain rfl := hlen rfl
    exact sm_s_if hx hb hd hi k
  | if_icmp q off =>
    obtain rfl := hlen rfl
    exact sm_s_icmp hx hb hd hi k
  | goto off =>
    obtain rfl := hlen rfl
    exact sm_s_goto hx hb hd hi k
  | tableswitch d lo hi9 offs =>
    exact sm_s_table hx hb hd hi k
  | getfield j =>
    obtain rfl := hlen rfl
    exact sm_s_get hx hb hown hts hN hK (fun ci q bl h9 => tF y j ci q bl h9) hd hi k
  | putfield j =>
    obtain rfl := hlen rfl
    exact sm_s_put hx hb hown hts hN hK (ini := ((nm y).name == "<init>")) (fun h9 => by rw [hmn]; exact eq_of_beq h9) (fun ci q bl h9 => tF y j ci q bl h9) (fun ci q bl h9 => tP y pc _ j ci q bl hins rfl h9) hd hi k
  | iaload =>
    obtain rfl := hlen rfl
    exact sm_s_iaload hx hb hK e0 hX hbl hbA hd hi k
  | baload =>
    obtain rfl := hlen rfl
    exact sm_s_baload hx hb hK e1 hX hbl hbA hd hi k
  | iastore =>
    obtain rfl := hlen rfl
    exact sm_s_iastore hx hb hK e0 hd hi k
  | bastore =>
    obtain rfl := hlen rfl
    exact sm_s_bastore hx hb hK e1 hd hi k
  | laload =>
    obtain rfl := hlen rfl
    exact sm_s_laload hx hb hK e2 hd hi k
  | lastore =>
    obtain rfl := hlen rfl
    exact sm_s_lastore hx hb hK e2 hd hi k
  | aaload =>
    obtain rfl := hlen rfl
    exact sm_s_aaload hx hb hK e6 e7 hd hi k
  | aastore =>
    obtain rfl := hlen rfl
    exact sm_s_aastore hx hb hK (fun t ci h9 => by obtain ⟨q, h1, h2⟩ := tO t ci h9; exact ⟨q, h1, sm_tys_get h2⟩) hd hi k
  | arraylength =>
    obtain rfl := hlen rfl
    exact sm_s_alen hx hb hK e6 hX hbl hbA hd hi k
  | newarray t =>
    obtain rfl := hlen rfl
    exact sm_s_newarray hx hb hK hA hn0 hle hroom e0 e1 e2 (hts _ tw0) (hts _ tw1) (hts _ tw2) hd hi k
  | anewarray j =>
    obtain rfl := hlen rfl
    exact sm_s_anewarray hx hb hK hA hn0 hle hroom hown (fun u h9 => by obtain ⟨C, h1, h2, h3⟩ := tQ y j u h9; exact ⟨C, sm_tys_get h1, hts _ h2, hAO C h3⟩) hd hi k
  | new j =>
    obtain rfl := hlen rfl
    exact sm_s_new hx hb hK hA hn0 hle hroom hown hts (fun ci fs h9 => tN y j ci fs h9) hd hi k
  | _ => cases hi
end SMX
end
section
/-! ===== room falls, shapes grow ===== -/
def sm_ge (h : sm_H) (o : Option sm_P) : Prop := ∀ r, o = some r → r.2.2.2.2.2.2.1 ≤ h.2.2.2.1 ∧ r.2.2.2.2.2.2.2 ≤ h.2.2.2.2 ∧ h.1.length ≤ r.2.2.2.1.length
theorem sm_ge_none {h : sm_H} : sm_ge h none := fun _ h => by cases h
theorem sm_ge_same {h : sm_H} {pc : Nat} {L : sm_L} {S : List Value} : sm_ge h (some (pc, L, S, h)) := fun r hr => by cases hr; exact ⟨Nat.le_refl _, Nat.le_refl _, Nat.le_refl _⟩
theorem sm_ge_mem {h : sm_H} {pc : Nat} {L : sm_L} {S : List Value} {M : sm_M} {J : sm_J} : sm_ge h (some (pc, L, S, h.1, M, J, h.2.2.2)) := fun r hr => by cases hr; exact ⟨Nat.le_refl _, Nat.le_refl _, Nat.le_refl _⟩
theorem sm_ge_set {h : sm_H} {pc : Nat} {L : sm_L} {S : List Value} {q : Nat} {z : sm_S} : sm_ge h (some (pc, L, S, h.1.set q z, h.2)) := fun r hr => by cases hr; exact ⟨Nat.le_refl _, Nat.le_refl _, by simp⟩
theorem sm_ge_mk {pc : Nat} {L : sm_L} {S : List Value} {h : sm_H} {z : sm_S} {n : Nat} : sm_ge h (sm_mk pc L S h z n) := by
  intro r hr
  unfold sm_mk at hr
  split at hr
  · cases hr
    exact ⟨Nat.sub_le _ _, Nat.sub_le _ _, by simp⟩
  · cases hr
set_option maxHeartbeats 4000000 in
theorem sm_i_ge {T : sm_T} {X : Nat × (Nat → Int32)} {ok : Nat → Nat → Bool} {y : Nat} {i : Instr} {pc : Nat} {L : sm_L} {S : List Value} {h : sm_H} : sm_ge h (sm_i T X ok y i pc L S h) := by
  unfold sm_i
  split
  all_goals first
    | exact sm_ge_none
    | exact sm_ge_same
    | (unfold sm_jmp; (repeat' split); all_goals first | exact sm_ge_none | exact sm_ge_same | exact sm_ge_mem | exact sm_ge_set | exact sm_ge_mk)
    | (unfold sm_lint; (repeat' split); all_goals first | exact sm_ge_none | exact sm_ge_same | exact sm_ge_mem | exact sm_ge_set | exact sm_ge_mk)
    | (unfold sm_lref; (repeat' split); all_goals first | exact sm_ge_none | exact sm_ge_same | exact sm_ge_mem | exact sm_ge_set | exact sm_ge_mk)
    | (unfold sm_sint; (repeat' split); all_goals first | exact sm_ge_none | exact sm_ge_same | exact sm_ge_mem | exact sm_ge_set | exact sm_ge_mk)
    | (unfold sm_sref; (repeat' split); all_goals first | exact sm_ge_none | exact sm_ge_same | exact sm_ge_mem | exact sm_ge_set | exact sm_ge_mk)
    | (unfold sm_inc; (repeat' split); all_goals first | exact sm_ge_none | exact sm_ge_same | exact sm_ge_mem | exact sm_ge_set | exact sm_ge_mk)
    | (unfold sm_bin; (repeat' split); all_goals first | exact sm_ge_none | exact sm_ge_same | exact sm_ge_mem | exact sm_ge_set | exact sm_ge_mk)
    | (unfold sm_pop; (repeat' split); all_goals first | exact sm_ge_none | exact sm_ge_same | exact sm_ge_mem | exact sm_ge_set | exact sm_ge_mk)
    | (unfold sm_dup; (repeat' split); all_goals first | exact sm_ge_none | exact sm_ge_same | exact sm_ge_mem | exact sm_ge_set | exact sm_ge_mk)
    | (unfold sm_dup_x1; (repeat' split); all_goals first | exact sm_ge_none | exact sm_ge_same | exact sm_ge_mem | exact sm_ge_set | exact sm_ge_mk)
    | (unfold sm_dup_x2; (repeat' split); all_goals first | exact sm_ge_none | exact sm_ge_same | exact sm_ge_mem | exact sm_ge_set | exact sm_ge_mk)
    | (unfold sm_dup2; (repeat' split); all_goals first | exact sm_ge_none | exact sm_ge_same | exact sm_ge_mem | exact sm_ge_set | exact sm_ge_mk)
    | (unfold sm_i2l; (repeat' split); all_goals first | exact sm_ge_none | exact sm_ge_same | exact sm_ge_mem | exact sm_ge_set | exact sm_ge_mk)
    | (unfold sm_lcmp; (repeat' split); all_goals first | exact sm_ge_none | exact sm_ge_same | exact sm_ge_mem | exact sm_ge_set | exact sm_ge_mk)
    | (unfold sm_br; (repeat' split); all_goals first | exact sm_ge_none | exact sm_ge_same | exact sm_ge_mem | exact sm_ge_set | exact sm_ge_mk)
    | (unfold sm_br2; (repeat' split); all_goals first | exact sm_ge_none | exact sm_ge_same | exact sm_ge_mem | exact sm_ge_set | exact sm_ge_mk)
    | (unfold sm_tab sm_jmp; (repeat' split); all_goals first | exact sm_ge_none | exact sm_ge_same | exact sm_ge_mem | exact sm_ge_set | exact sm_ge_mk)
    | (unfold sm_get; (repeat' split); all_goals first | exact sm_ge_none | exact sm_ge_same | exact sm_ge_mem | exact sm_ge_set | exact sm_ge_mk)
    | (unfold sm_put; (repeat' split); all_goals first | exact sm_ge_none | exact sm_ge_same | exact sm_ge_mem | exact sm_ge_set | exact sm_ge_mk)
    | (unfold sm_ald; (repeat' split); all_goals first | exact sm_ge_none | exact sm_ge_same | exact sm_ge_mem | exact sm_ge_set | exact sm_ge_mk)
    | (unfold sm_ast; (repeat' split); all_goals first | exact sm_ge_none | exact sm_ge_same | exact sm_ge_mem | exact sm_ge_set | exact sm_ge_mk)
    | (unfold sm_lald; (repeat' split); all_goals first | exact sm_ge_none | exact sm_ge_same | exact sm_ge_mem | exact sm_ge_set | exact sm_ge_mk)
    | (unfold sm_last; (repeat' split); all_goals first | exact sm_ge_none | exact sm_ge_same | exact sm_ge_mem | exact sm_ge_set | exact sm_ge_mk)
    | (unfold sm_aald; (repeat' split); all_goals first | exact sm_ge_none | exact sm_ge_same | exact sm_ge_mem | exact sm_ge_set | exact sm_ge_mk)
    | (unfold sm_aast; (repeat' split); all_goals first | exact sm_ge_none | exact sm_ge_same | exact sm_ge_mem | exact sm_ge_set | exact sm_ge_mk)
    | (unfold sm_alen; (repeat' split); all_goals first | exact sm_ge_none | exact sm_ge_same | exact sm_ge_mem | exact sm_ge_set | exact sm_ge_mk)
    | (unfold sm_newa; (repeat' split); all_goals first | exact sm_ge_none | exact sm_ge_same | exact sm_ge_mem | exact sm_ge_set | exact sm_ge_mk)
    | (unfold sm_newq; (repeat' split); all_goals first | exact sm_ge_none | exact sm_ge_same | exact sm_ge_mem | exact sm_ge_set | exact sm_ge_mk)
    | (unfold sm_new; (repeat' split); all_goals first | exact sm_ge_none | exact sm_ge_same | exact sm_ge_mem | exact sm_ge_set | exact sm_ge_mk)
theorem sm_lib_ge {k pc : Nat} {L : sm_L} {S : List Value} {h : sm_H} : sm_ge h (sm_lib k pc L S h) := by
  unfold sm_lib
  (repeat' split)
  all_goals first | exact sm_ge_none | exact sm_ge_same | exact sm_ge_mem
theorem sm_or_inl {x : Option (Nat × Nat × Nat)} {d lw : Nat} {h : sm_H} {r : Option (sm_O × sm_H)} {v : Option Value} {h' : sm_H} (hr : sm_or x d lw h r = some (.inl v, h')) : x = none ∧ r = some (.inl v, h') := by
  unfold sm_or at hr
  split at hr
  · split at hr
    · cases hr
    · cases hr
  · exact ⟨rfl, hr⟩
theorem sm_or_ge {x : Option (Nat × Nat × Nat)} {d lw : Nat} {h : sm_H} {r : Option (sm_O × sm_H)} {q : sm_O × sm_H} (hr : sm_or x d lw h r = some q) (hg : r = some q → q.2.2.2.2.1 ≤ h.2.2.2.1 ∧ q.2.2.2.2.2 ≤ h.2.2.2.2 ∧ h.1.length ≤ q.2.1.length) : q.2.2.2.2.1 ≤ h.2.2.2.1 ∧ q.2.2.2.2.2 ≤ h.2.2.2.2 ∧ h.1.length ≤ q.2.1.length := by
  unfold sm_or at hr
  split at hr
  · split at hr
    · cases hr
      exact ⟨Nat.sub_le _ _, Nat.sub_le _ _, Nat.le_refl _⟩
    · cases hr
  · exact hg hr
set_option maxHeartbeats 4000000 in
theorem sm_run_ge {T : sm_T} {X : Nat × (Nat → Int32)} {ok : Nat → Nat → Bool} : ∀ (n d lw y pc : Nat) (L : sm_L) (S : List Value) (h : sm_H) (o : sm_O) (h' : sm_H), sm_run T X ok n d lw y pc L S h = some (o, h') → h'.2.2.2.1 ≤ h.2.2.2.1 ∧ h'.2.2.2.2 ≤ h.2.2.2.2 ∧ h.1.length ≤ h'.1.length := by
  intro n
  induction n with
  | zero => intro d lw y pc L S h o h' hr; cases hr
  | succ n ih =>
    intro d lw y pc L S h o h' hr
    unfold sm_run at hr
    split at hr
    · cases hr
    · next i hi =>
      split at hr
      · cases hq : sm_ret (sm_nL T y).2.1 i S with
        | none => rw [hq] at hr; cases hr
        | some v => rw [hq] at hr; cases hr; exact ⟨Nat.le_refl _, Nat.le_refl _, Nat.le_refl _⟩
      · split at hr
        · split at hr
          · next pc' L' S' h1 hs =>
            have a := sm_i_ge (T := T) (X := X) (ok := ok) (y := y) (i := i) (pc := pc) (L := L) (S := S) (h := h) _ hs
            have b := ih _ _ _ _ _ _ _ _ _ hr
            exact ⟨Nat.le_trans b.1 a.1, Nat.le_trans b.2.1 a.2.1, Nat.le_trans a.2.2 b.2.2⟩
          · cases hr
        · split at hr
          · cases hr
          · split at hr
            · split at hr
              · split at hr
                · next pc' L' S' h1 hs =>
                  have a := sm_lib_ge _ hs
                  have b := ih _ _ _ _ _ _ _ _ _ hr
                  exact ⟨Nat.le_trans b.1 a.1, Nat.le_trans b.2.1 a.2.1, Nat.le_trans a.2.2 b.2.2⟩
                · cases hr
              · cases hr
            · split at hr
              · split at hr
                · next v h1 hs =>
                  split at hr
                  · have a := sm_or_ge hs (fun hs => ih _ _ _ _ _ _ _ _ _ hs)
                    have b := ih _ _ _ _ _ _ _ _ _ hr
                    exact ⟨Nat.le_trans b.1 a.1, Nat.le_trans b.2.1 a.2.1, Nat.le_trans a.2.2 b.2.2⟩
                  · cases hr
                · next x h1 hs =>
                  have a := sm_or_ge hs (fun hs => ih _ _ _ _ _ _ _ _ _ hs)
                  split at hr
                  · cases hr
                  · split at hr
                    · cases hr
                    · cases hr
                      exact a
                    · split at hr
                      · have b := ih _ _ _ _ _ _ _ _ _ hr
                        exact ⟨Nat.le_trans b.1 a.1, Nat.le_trans b.2.1 a.2.1, Nat.le_trans a.2.2 b.2.2⟩
                      · cases hr
                · cases hr
              · cases hr
end
section
/-! ===== how a method begins, and what it ends with ===== -/
theorem sm_c1_cat {b : Nat} {ad : Nat → Nat} {v : Value} (h : sm_c1 v = true) : (sm_v b ad v).category = 1 := by
  cases v <;> first | rfl | cases h
theorem sm_args_mem : ∀ (vs : List Value) (k i : Nat) (v : Value), (∀ w ∈ vs, w.category = 1) → vs[i]? = some v → (k + i, v) ∈ lv_args k vs
  | [], _, _, _, _, h => by cases h
  | w :: vs, k, 0, v, _, h => by
    cases h
    exact List.mem_cons_self
  | w :: vs, k, i + 1, v, hc, h => by
    have h1 : w.category = 1 := hc w List.mem_cons_self
    have h2 := sm_args_mem vs (k + 1) i v (fun z hz => hc z (List.mem_cons_of_mem _ hz)) h
    have h3 : lv_args k (w :: vs) = (k, w) :: lv_args (k + 1) vs := by
      show (k, w) :: lv_args (if w.category = 2 then k + 2 else k + 1) vs = _
      rw [if_neg (by omega)]
    rw [h3, show k + (i + 1) = k + 1 + i by omega]
    exact List.mem_cons_of_mem _ h2
theorem sm_sl_len : ∀ (vs : List Value), (∀ w ∈ vs, w.category = 1) → (lg_sl vs).length = vs.length
  | [], _ => rfl
  | w :: vs, hc => by
    have h1 : w.category = 1 := hc w List.mem_cons_self
    have h2 := sm_sl_len vs (fun z hz => hc z (List.mem_cons_of_mem _ hz))
    have h3 : lg_sl (w :: vs) = .val w :: lg_sl vs := by
      simp [lg_sl, h1]
    rw [h3, List.length_cons, List.length_cons, h2]
theorem sm_entry {b n : Nat} {ad : Nat → Nat} {vs : List Value} (hc : vs.all sm_c1 = true) (hn : vs.length ≤ n) :
    sm_l b ad ((lg_sl (vs.map (sm_v b ad)) ++ List.replicate (n - (lg_sl (vs.map (sm_v b ad))).length) Slot.unset).toArray) n (sm_ent n vs) := by
  have hc2 : ∀ w ∈ vs.map (sm_v b ad), w.category = 1 := by
    intro w hw
    obtain ⟨v, hv, rfl⟩ := List.mem_map.mp hw
    exact sm_c1_cat (List.all_eq_true.mp hc v hv)
  have hl := sm_sl_len _ hc2
  have he := lv_entry (vs.map (sm_v b ad)) (n := n) (by rw [hl, List.length_map]; exact hn)
  refine ⟨by unfold sm_ent; simp; omega, he.1, he.2.1, fun i v hv => ?_⟩
  have hi : vs[i]? = some v := by
    unfold sm_ent at hv
    by_cases h9 : i < vs.length
    · rw [List.getElem?_append_left (by simpa using h9), List.getElem?_map] at hv
      cases h8 : vs[i]? with
      | none => rw [h8] at hv; cases hv
      | some w => rw [h8] at hv; cases hv; rfl
    · rw [List.getElem?_append_right (by simpa using h9)] at hv
      have := List.eq_of_mem_replicate (List.mem_of_getElem? hv)
      cases this
  have hm : (vs.map (sm_v b ad))[i]? = some (sm_v b ad v) := by rw [List.getElem?_map, hi]; rfl
  have h7 := he.2.2 _ (sm_args_mem _ 0 i _ hc2 hm)
  rw [Nat.zero_add] at h7
  exact ⟨h7, hc2 _ (List.mem_of_getElem? hm)⟩
/-- what every state of ours has: the tables' words on classes, nest mates and arrays, and KT -/
def sm_Kx (D : va_G) (cl : List vw_C) (cA : Nat → ClassId) (tyN : List FieldType) (NW : List Cond) (AO : List String) (KT : State → Prop) (U : State) : Prop :=
  va_K D cl (sm_tys cA tyN) U ∧ (∀ w ∈ NW, va_Nw w U) ∧ (∀ C ∈ AO, va_AO C U) ∧ KT U
/-- the nest words are of two kinds; KT goes on while the cells of fx stay; it says where the script lies -/
def sm_Mv (NW : List Cond) (b : Nat) (X : Nat × (Nat → Int32)) (fx : Nat → Prop) (KT : State → Prop) : Prop :=
  (∀ w ∈ NW, (∃ a i x n d h, w = .fieldLinkNest a i x n d h) ∨ ∃ a i x h, w = .methodLinkNest a i x h) ∧ (∀ U V : State, U.WarmedH V.vm → (∀ q, fx q → V.heap[q]? = U.heap[q]?) → KT U → KT V) ∧ (∀ U, KT U → va_X b X.1 X.2 U U.heap) ∧ fx b
theorem sm_Kx_mv {D : va_G} {cl : List vw_C} {cA : Nat → ClassId} {b : Nat} {NW : List Cond} {tyN : List FieldType} {AO : List String} {X : Nat × (Nat → Int32)} {fx : Nat → Prop} {KT : State → Prop} {U V : State} (hM : sm_Mv NW b X fx KT) (hW : U.WarmedH V.vm) (hq : ∀ q, fx q → V.heap[q]? = U.heap[q]?) (h : sm_Kx D cl cA tyN NW AO KT U) : sm_Kx D cl cA tyN NW AO KT V := by
  obtain ⟨h1, h2, h3, h4⟩ := h
  refine ⟨va_K.moved hW.alike h1, fun w hw => ?_, fun C hC => (h3 C hC).moved hW.alike, hM.2.1 U V hW hq h4⟩
  have h5 := h2 w hw
  rcases hM.1 w hw with ⟨a, i, x, n, d, h, rfl⟩ | ⟨a, i, x, h, rfl⟩
  · exact h5.warmF hW
  · exact h5.warmM hW
/-- a method's end with an answer -/
def sm_Qc (D : va_G) (cl : List vw_C) (cA : Nat → ClassId) (b : Nat) (A : Nat → Prop) (ad0 : Nat → Nat) (n0 : Nat) (v : Option Value) (h' : sm_H) : Array Value → State → Outcome → State → Prop := fun _ st oc t =>
  (∃ ad' : Nat → Nat, (∀ k, ¬ (n0 ≤ k ∧ k < h'.1.length) → ad' k = ad0 k) ∧ oc = .returned (v.map (sm_v b ad')) ∧ va_P D cl (sm_w cA ad' h') t.heap ∧ va_D A (sm_w cA ad' h')) ∧ va_F A st t
/-- .. and without one: what is thrown is an object of the class XC x -/
def sm_Qt (D : va_G) (cl : List vw_C) (cA : Nat → ClassId) (A : Nat → Prop) (ad0 : Nat → Nat) (n0 : Nat) (XC : Nat → String) (x : Nat) (h' : sm_H) (a : Addr) (st t : State) : Prop :=
  (∃ ad' : Nat → Nat, (∀ k, ¬ (n0 ≤ k ∧ k < h'.1.length) → ad' k = ad0 k) ∧ va_P D cl (sm_w cA ad' h') t.heap ∧ va_D A (sm_w cA ad' h')) ∧ va_F A st t ∧
  ∃ cell : Cell, t.heap[a]? = some cell ∧ cell.vm.isStatics = false ∧ t.vm.findClass (XC x) = some cell.cls
def sm_MT (below : List Frame) (Qa : Addr → State → Prop) (s : State) (mc ms : Nat) (free : Addr → Prop) : State → Prop := fun t =>
  ∃ a, t.status = .running ∧ Ended t below (.threw a) ∧ Qa a t ∧ s.WarmedH t.vm ∧ ∃ L, s.sameButNew ({ t with vm := s.vm } : State) L mc ms ∧ ∀ q ∈ L, free q.base
def sm_Q (D : va_G) (cl : List vw_C) (cA : Nat → ClassId) (b : Nat) (XC : Nat → String) (below : List Frame) (args : Array Value) (s : State) (A : Nat → Prop) (ad0 : Nat → Nat) (n0 C1 S1 : Nat) (o : sm_O) (h' : sm_H) : State → Prop := match o with
  | .inl v => MQ below (sm_Qc D cl cA b A ad0 n0 v h') args s (C1 - h'.2.2.2.1) (S1 - h'.2.2.2.2) A
  | .inr x => sm_MT below (fun a t => sm_Qt D cl cA A ad0 n0 XC x h' a s t) s (C1 - h'.2.2.2.1) (S1 - h'.2.2.2.2) A
def sm_rt (T : sm_T) (y : Nat) : Option FieldType := if (sm_nL T y).2.1 = 0 then none else if (sm_nL T y).2.1 = 1 then some .int else some .boolean
section SMR
variable {p : Program} {l : Launch} {e : Env} {R : Room} {s : State} {m : MethodId} {args : Array Value} {below : List Frame} {meth : Method} {c : Code} {D : va_G} {cl : List vw_C} {A : Nat → Prop} {nL : Nat} {cA : Nat → ClassId} {b : Nat} {ad0 : Nat → Nat} {n0 C1 S1 : Nat} {pc : Nat} {L : sm_L} {S : List Value} {h : sm_H} {XC : Nat → String} {cc : ByteArray}
/-- the answers -/
theorem sm_s_ret (hx : p.tables.exec = Jvm.exec) (hb : c.code = cc) {kd : Nat} (hr : meth.sig.returnType = (if kd = 0 then none else if kd = 1 then some .int else some .boolean)) (hlocks : meth.locks = false) {i : Instr} {len : Nat} (hd : decode cc pc = .ok (i, len)) (hlen : len = 1) {v : Option Value} (hi : sm_ret kd i S = some v) :
    sm_W p l e R s m args below meth c (sm_Q D cl cA b XC below args s A ad0 n0 C1 S1 (.inl v) h) D cl A s.heap nL cA b ad0 n0 C1 S1 pc L S h := by
  subst hlen
  intro ad H locs ls e1 hP hD hS hl
  unfold sm_ret at hi
  split at hi
  · cases hi
    exact W.vret hx hb hr (fun t ht hW => ⟨⟨ad, e1, rfl, by rw [ht]; exact hP, hD⟩, hS.F ht⟩) hS.2.2 hd hlocks
  · next x =>
    cases hi
    exact W.iret hx hb hr (fun t ht hW => ⟨⟨ad, e1, rfl, by rw [ht]; exact hP, hD⟩, hS.F ht⟩) hS.2.2 hd hlocks
  · next x =>
    split at hi
    · next hc =>
      cases hi
      exact W.zret (ty := .boolean) hx hb hr (by rcases hc with rfl | rfl <;> decide) (fun t ht hW => ⟨⟨ad, e1, rfl, by rw [ht]; exact hP, hD⟩, hS.F ht⟩) hS.2.2 hd hlocks
    · cases hi
  · cases hi
end SMR
end
section
/-! ===== calls that come back ===== -/
/-- what the tables say of the callee z of the entry idx of y's class -/
def sm_Go (cl : List vw_C) (WA NW : List Cond) (nm : Nat → MethodName) (cw : Nat → Cond) (T : sm_T) (y idx k z w : Nat) : Prop :=
  (k = 0 → Cond.methodLink (nm y).cls idx Lib.objectInit ∈ WA ∧ Cond.instanceMethod Lib.objectInit ∈ WA ∧ Cond.code Lib.objectInit ⟨#[0xb1]⟩ 1 none ∈ WA) ∧
  (k = 1 → Cond.methodLink (nm y).cls idx Lib.Math.max.name ∈ WA ∧ Cond.static Lib.Math.max.name ∈ WA ∧ Cond.initialized "java/lang/Math" ∈ WA ∧ Cond.code Lib.Math.max.name Lib.Math.max.code 2 (some .int) ∈ WA) ∧
  (k = 2 → Cond.methodLink (nm y).cls idx arraycopyName ∈ WA ∧ Cond.native arraycopyName ∈ WA ∧ Cond.static arraycopyName ∈ WA ∧ Cond.initialized "java/lang/System" ∈ WA) ∧
  (3 ≤ k → (Cond.methodLink (nm y).cls idx (nm z) ∈ WA ∨ ∃ host, Cond.methodLinkNest (nm y).cls idx (nm z) host ∈ NW) ∧ Cond.initialized (nm z).cls ∈ WA ∧ cw z ∈ WA ∧ plainName (nm z).cls = true ∧ ((nm z).cls ≠ "java/lang/invoke/MethodHandle" ∧ (nm z).cls ≠ "java/lang/invoke/VarHandle" ∧ (parseMethodDescriptor (nm z).desc).map (fun d => d.parameters.length) = some (if k = 3 then w else w - 1)) ∧ (k ≠ 3 → 1 ≤ w) ∧ (sm_nL T z).1 ≤ 40) ∧
  (k = 3 → Cond.static (nm z) ∈ WA) ∧
  (k = 4 → Cond.instanceMethod (nm z) ∈ WA ∧ Cond.selects (nm z).cls (nm z) (nm z) ∈ WA ∧ ∃ q : vw_C, cl[(sm_nL T z).2.2]? = some q ∧ q.1 = (nm z).cls) ∧
  (k = 5 → Cond.instanceMethod (nm z) ∈ WA ∧ (nm z).name = "<init>" ∧ (sm_nL T z).2.1 = 0)
theorem sm_back {p : Program} {l : Launch} {e : Env} {R : Room} {s : State} {m : MethodId} {args : Array Value} {below : List Frame} {meth : Method} {c : Code} {H : Heap} {locs : List Loc} {cells slots mc ms : Nat} {Q : State → Prop} {pc : Nat} {ls : Array Slot} {st0 rest : List Value} {Qa : State → Outcome → State → Prop} {A1 : Nat → Prop}
    (hr : va_Run p l e R s m args below meth c H locs cells slots mc ms (F0 m pc ls st0) rest Qa A1)
    (kk : ∀ (v : Option Value) (st₀ t : State) (L : List Loc), st₀.heap = H → s.WarmedH t.vm → (∀ q ∈ L, A1 q.base) → Qa st₀ (.returned v) t → W p l e R s m args below meth c t.heap (locs ++ L) (cells + mc) (slots + ms) Q (F0 m (pc + 3) ls (v.toList ++ rest))) :
    W p l e R s m args below meth c H locs cells slots Q (F0 m pc ls st0) := by
  intro T hT X
  obtain ⟨v, st₀, t, T', L, h0, X', hL, e1, e2, hq, st⟩ := hr T hT X
  obtain ⟨t2, a1, b1⟩ := kk v st₀ t L h0 (by rw [← e2]; exact X'.warmed) hL hq T' e1 X'
  exact ⟨t2, st t2 a1, b1⟩
theorem sm_good {WA : List Cond} (hG : ∀ w ∈ WA, goodWord w = true) {cwz : Cond} {Ts : List Cond} (hT : ∀ w ∈ WA, w ∈ Ts) (hz : cwz ∈ WA) : GoodIn Ts (cwz :: WA) := by
  intro w hw
  rcases List.mem_cons.mp hw with rfl | hw
  · exact ⟨hT _ hz, good_of_word (hG _ hz)⟩
  · exact ⟨hT _ hw, good_of_word (hG _ hw)⟩
/-- how a callee is called: by kind; the three instructions -/
theorem sm_run345 {p : Program} {l : Launch} {e : Env} {R : Room} {s : State} {m : MethodId} {args : Array Value} {below : List Frame} {meth : Method} {c : Code} {H : Heap} {locs : List Loc} {cells slots mc ms : Nat} {cc bytes : ByteArray} {nL maxL n idx k : Nat} {ret : Option FieldType} {WA NW : List Cond} {rm : Room} {Pc : Array Value → State → Prop} {Qc : Array Value → State → Outcome → State → Prop} {free : Addr → Prop} {own : String} {y : MethodName} {vs rest : List Value} {pc : Nat} {ls : Array Slot}
    (hx : p.tables.exec = Jvm.exec) (hb : c.code = cc) (hml : c.maxLocals = nL) (hown : s.vm.findClass own = some m.cls) (hts : ∀ w ∈ WA, w.before args s = true) (hN : ∀ w ∈ NW, va_Nw w s) (hG : ∀ w ∈ WA, goodWord w = true)
    (hM : Met l y (Cond.code y bytes maxL ret :: WA) rm Pc Qc mc ms free) (hcode : Cond.code y bytes maxL ret ∈ WA) (hrc : rm.cells = mc) (hrs : rm.slots = ms) (hini : Cond.initialized y.cls ∈ WA) (hlk : Cond.methodLink own idx y ∈ WA ∨ ∃ host, Cond.methodLinkNest own idx y host ∈ NW)
    (hds : y.cls ≠ "java/lang/invoke/MethodHandle" ∧ y.cls ≠ "java/lang/invoke/VarHandle" ∧ (parseMethodDescriptor y.desc).map (fun d => d.parameters.length) = some n) (hR : rm.frames + 1 ≤ R.frames ∧ 8 + (maxL + 11) + rm.locals ≤ R.locals)
    (hbl : FrameBlind Pc) (hpre : ∀ U : State, U.heap = H → s.WarmedH U.vm → Pc vs.toArray U) (hsize : ls.size = nL) (hW : (rest.map fun v => v.category).sum ≤ 8) (hf : cells + mc ≤ R.cells ∧ slots + ms ≤ R.slots)
    (hk : (k = 3 ∧ vs.length = n ∧ Cond.static y ∈ WA ∧ decode cc pc = .ok (.invokestatic idx, 3)) ∨
      (k = 4 ∧ vs.length = n + 1 ∧ Cond.instanceMethod y ∈ WA ∧ Cond.selects y.cls y y ∈ WA ∧ (∃ (a : Nat) (vs' : List Value) (cellB : Cell), vs = .ref a :: vs' ∧ H[a]? = some cellB ∧ cellB.vm.isStatics = false ∧ s.vm.findClass y.cls = some cellB.cls) ∧ decode cc pc = .ok (.invokevirtual idx, 3)) ∨
      (k = 5 ∧ vs.length = n + 1 ∧ Cond.instanceMethod y ∈ WA ∧ y.name = "<init>" ∧ ret = none ∧ (∃ (a : Nat) (vs' : List Value), vs = .ref a :: vs') ∧ decode cc pc = .ok (.invokespecial idx, 3))) :
    va_Run p l e R s m args below meth c H locs cells slots mc ms (F0 m pc ls (vs.reverse ++ rest)) rest (Qc vs.toArray) free := by
  have hcf : CallFix p m c cc nL s args WA own := ⟨hx, hb, hml, hown, hts⟩
  have hgd : GoodIn WA (Cond.code y bytes maxL ret :: WA) := sm_good hG (fun _ h => h) hcode
  have hW2 : ∀ st : List Value, 2 * (F0 m pc ls st).monitorRoom + (rest.map fun v => v.category).sum ≤ 8 := by
    intro st
    show 2 * 0 + _ ≤ 8
    omega
  rcases hk with ⟨-, hl, hst, hd⟩ | ⟨-, hl, hin, hse, ⟨a, vs', cellB, rfl, h1, h2, h3⟩, hd⟩ | ⟨-, hl, hin, hnm, hret, ⟨a, vs', rfl⟩, hd⟩
  · rcases hlk with hlk | ⟨host, hlk⟩
    · exact va_runS hcf hM ⟨callB_of n hts hgd rfl hrc hrs (hts _ hini) (hts _ hlk) hds hR, hts _ hst⟩ ⟨hbl, hpre⟩ rfl hl hsize rfl (hW2 _) hd hf
    · exact va_runSN hcf hM ⟨va_cnB n hts hgd rfl hrc hrs (hN _ hlk) (hts _ hini) hds hR, hts _ hst, trivial⟩ ⟨hbl, hpre⟩ rfl hl hsize rfl (hW2 _) hd hf
  · have es : ((Value.ref a :: vs').reverse ++ rest) = vs'.reverse ++ .ref a :: rest := by simp
    rw [es]
    have hl2 : vs'.length = n := by simpa using hl
    rcases hlk with hlk | ⟨host, hlk⟩
    · exact va_runV hcf hM ⟨callB_of n hts hgd rfl hrc hrs (hts _ hini) (hts _ hlk) hds hR, hts _ hin, hts _ hse⟩ ⟨hbl, ⟨cellB, h1, h2, h3⟩, hpre⟩ rfl hl2 hsize rfl (hW2 _) hd hf
    · exact va_runVN hcf hM ⟨va_cnB n hts hgd rfl hrc hrs (hN _ hlk) (hts _ hini) hds hR, hts _ hin, hts _ hse⟩ ⟨hbl, ⟨cellB, h1, h2, h3⟩, hpre⟩ rfl hl2 hsize rfl (hW2 _) hd hf
  · have es : ((Value.ref a :: vs').reverse ++ rest) = vs'.reverse ++ .ref a :: rest := by simp
    rw [es]
    have hl2 : vs'.length = n := by simpa using hl
    subst hret
    rcases hlk with hlk | ⟨host, hlk⟩
    · exact va_runI hcf hM ⟨callB_of n hts hgd rfl hrc hrs (hts _ hini) (hts _ hlk) hds hR, hnm, hts _ hin⟩ ⟨hbl, hpre⟩ rfl hl2 hsize rfl (hW2 _) hd hf
    · exact va_runIN hcf hM ⟨va_cnB n hts hgd rfl hrc hrs (hN _ hlk) (hts _ hini) hds hR, hnm, hts _ hin⟩ ⟨hbl, hpre⟩ rfl hl2 hsize rfl (hW2 _) hd hf
end
section
/-! ===== the JDK's own ===== -/
theorem sm_vcat {b : Nat} {ad : Nat → Nat} (v : Value) : (sm_v b ad v).category = v.category := by cases v <;> rfl
theorem sm_sum_map {b : Nat} {ad : Nat → Nat} (S : List Value) : ((S.map (sm_v b ad)).map fun v => v.category).sum = sm_sum S := by
  unfold sm_sum
  rw [List.map_map]
  congr 1
  exact List.map_congr_left fun v _ => sm_vcat v
section SML
variable {p : Program} {l : Launch} {e : Env} {R : Room} {s : State} {m : MethodId} {args : Array Value} {below : List Frame} {meth : Method} {c : Code} {Q : State → Prop} {cc : ByteArray} {D : va_G} {cl : List vw_C} {tys : List (ClassId × FieldType)} {A : Nat → Prop} {H0 : Heap} {nL : Nat} {cA : Nat → ClassId} {b : Nat} {ad0 : Nat → Nat} {n0 C1 S1 : Nat} {pc : Nat} {L : sm_L} {S : List Value} {h : sm_H} {r : sm_P} {WA NW : List Cond} {idx k z w y : Nat} {nm : Nat → MethodName} {cw : Nat → Cond} {T : sm_T}
theorem sm_nneg {x : Int32} (h : 0 ≤ x.toInt) : ¬ x < 0 := by
  rw [Int32.lt_iff_toInt_lt]
  have : (0 : Int32).toInt = 0 := by decide
  omega
set_option maxHeartbeats 1000000 in
theorem sm_s_lib (hx : p.tables.exec = Jvm.exec) (hb : c.code = cc) (hml : c.maxLocals = nL) (hown : s.vm.findClass (nm y).cls = some m.cls) (hts : ∀ w ∈ WA, w.before args s = true) (hK : va_K D cl tys s) (t0 : tys[0]? = some (cA 0, .int)) (hg : sm_Go cl WA NW nm cw T y idx k z w) (hfr : 1 ≤ R.frames) (hlo : 100 ≤ R.locals) (hce : C1 - h.2.2.2.1 ≤ R.cells ∧ S1 - h.2.2.2.2 ≤ R.slots)
    (hd : (k = 0 → decode cc pc = .ok (.invokespecial idx, 3)) ∧ (k = 1 ∨ k = 2 → decode cc pc = .ok (.invokestatic idx, 3))) (hi : sm_lib k (pc + 3) L S h = some r) (kk : sm_W p l e R s m args below meth c Q D cl A H0 nL cA b ad0 n0 C1 S1 r.1 r.2.1 r.2.2.1 r.2.2.2) : sm_W p l e R s m args below meth c Q D cl A H0 nL cA b ad0 n0 C1 S1 pc L S h := by
  obtain ⟨g0, g1, g2, -⟩ := hg
  unfold sm_lib at hi
  split at hi
  · next q rest =>
    split at hi
    · next hs =>
      cases hi
      obtain ⟨w1, w2, w3⟩ := g0 rfl
      intro ad H locs ls e1 hP hD hS hl
      exact W.objInit hx hb hown (hts _ w1) (hts _ w2) (hts _ w3) rfl (by rw [hml]; exact hl.2.1) rfl (hd.1 rfl) hfr (by rw [sm_sum_map]; show 2 * 0 + _ + 12 ≤ _; omega) (kk ad H locs ls e1 hP hD hS hl)
    · cases hi
  · next x y0 rest =>
    split at hi
    · next hs =>
      cases hi
      obtain ⟨w1, w2, w3, w4⟩ := g1 rfl
      intro ad H locs ls e1 hP hD hS hl
      exact va_mmax hx hb (hml.trans hl.2.1.symm) hown (hts _ w1) (hts _ w2) (hts _ w3) (hts _ w4) hfr (by rw [sm_sum_map]; omega) hce.1 hce.2 (hd.2 (Or.inl rfl)) (kk ad H locs ls e1 hP hD hS hl)
    · cases hi
  · next n dp q1 sp q0 rest =>
    split at hi
    · next n0' n1' hz0 hz1 =>
      split at hi
      · next hc =>
        obtain ⟨hs, c1, c2, c3, c4, c5⟩ := hc
        cases hi
        obtain ⟨w1, w2, w3, w4⟩ := g2 rfl
        intro ad H locs ls e1 hP hD hS hl
        have k1 : n.toNatClampNeg = n.toInt.toNat := rfl
        have k2 : sp.toNatClampNeg = sp.toInt.toNat := rfl
        have k3 : dp.toNatClampNeg = dp.toInt.toNat := rfl
        have k9 : nativeFrameWords "java/lang/System" "arraycopy" 5 ≤ 60 := by decide +kernel
        refine va_copyi hx hb (hml.trans hl.2.1.symm) hown (hts _ w1) (hts _ w2) (hts _ w3) (hts _ w4) hK hP hD hS q0 q1 0 0 (sm_w_get hz0) (sm_w_get hz1) t0 t0 rfl (sm_nneg c2) (sm_nneg c3) (sm_nneg c1) (by omega) (by omega) (fun _ _ => rfl) hfr (by rw [sm_sum_map]; omega) (hd.2 (Or.inr rfl)) (fun H1 locs1 hP1 hD1 hS1 => ?_)
        have ew := sm_w_mem (cA := cA) (ad := ad) (sh := h.1) (M := h.2.1) (M' := sm_uf h.2.1 q1 (va_cpy (h.2.1 q0) (h.2.1 q1) sp.toNatClampNeg dp.toNatClampNeg n.toNatClampNeg)) (J := h.2.2.1) (J' := h.2.2.1) (r := h.2.2.2) (r' := h.2.2.2) hz1 sm_uf_ne (fun _ _ => rfl)
        simp only [sm_e, sm_uf_eq] at ew
        exact kk ad H1 locs1 ls e1 (by show va_P D cl (sm_w cA ad (h.1, sm_uf h.2.1 q1 (va_cpy (h.2.1 q0) (h.2.1 q1) sp.toNatClampNeg dp.toNatClampNeg n.toNatClampNeg), h.2.2.1, h.2.2.2)) H1; rw [ew]; exact hP1) (by show va_D A (sm_w cA ad (h.1, sm_uf h.2.1 q1 (va_cpy (h.2.1 q0) (h.2.1 q1) sp.toNatClampNeg dp.toNatClampNeg n.toNatClampNeg), h.2.2.1, h.2.2.2)); rw [ew]; exact hD1) hS1 hl
      · cases hi
    · cases hi
  · cases hi
end SML
end
section
/-! ===== every run of the small machine is a run of the machine ===== -/
/-- a method's start -/
def sm_Pc (D : va_G) (cl : List vw_C) (cA : Nat → ClassId) (b : Nat) (tyN : List FieldType) (NW : List Cond) (AO : List String) (KT : State → Prop) (fx : Nat → Prop) (ad : Nat → Nat) (sz : Nat) (vs : List Value) (h : sm_H) : Array Value → State → Prop :=
  va_Pc (vs.map (sm_v b ad)) (fun U => U.heap.size = sz ∧ va_P D cl (sm_w cA ad h) U.heap ∧ va_D (fun _ => True) (sm_w cA ad h) ∧ sm_Kx D cl cA tyN NW AO KT U ∧ ∀ q, fx q → q < sz ∧ ¬ va_A (sm_w cA ad h) sz q)
/-- what the main theorem says of fuel n -/
def sm_Pn (l : Launch) (D : va_G) (cl : List vw_C) (cA : Nat → ClassId) (b : Nat) (WA NW : List Cond) (T : sm_T) (ok : Nat → Nat → Bool) (tyN : List FieldType) (AO : List String) (bc : Nat → ByteArray) (nm : Nat → MethodName) (X : Nat × (Nat → Int32)) (fx : Nat → Prop) (KT : State → Prop) (XC : Nat → String) (eh : Nat → List (Nat × Nat × Nat × Nat)) (n : Nat) : Prop :=
  ∀ (d lw y pc : Nat) (L : sm_L) (S : List Value) (h : sm_H) (o : sm_O) (h' : sm_H), sm_run T X ok n d lw y pc L S h = some (o, h') →
  ∀ (p : Program) (e : Env) (R : Room) (s : State) (m : MethodId) (args : Array Value) (below : List Frame) (meth : Method) (c : Code) (A : Nat → Prop) (ad0 : Nat → Nat) (n0 C1 S1 : Nat), p.tables.exec = Jvm.exec → c.code = bc y → c.maxLocals = (sm_nL T y).1 → meth.sig.returnType = sm_rt T y → meth.locks = false → s.vm.findClass (nm y).cls = some m.cls → meth.name = (nm y).name → c.exceptionTable.toList = (eh y).map (fun q => ⟨q.1, q.2.1, q.2.2.1, q.2.2.2⟩) →
    (∀ w ∈ WA, w.before args s = true) → sm_Kx D cl cA tyN NW AO KT s → (∀ q, fx q → q < s.heap.size ∧ ¬ A q) → (∀ q, s.heap.size ≤ q → A q) → n0 ≤ h.1.length → h.2.2.2.1 ≤ C1 ∧ h.2.2.2.2 ≤ S1 → C1 - h'.2.2.2.1 ≤ R.cells ∧ S1 - h'.2.2.2.2 ≤ R.slots → d ≤ R.frames → lw ≤ R.locals →
    sm_W p l e R s m args below meth c (sm_Q D cl cA b XC below args s A ad0 n0 C1 S1 o h') D cl A s.heap (sm_nL T y).1 cA b ad0 n0 C1 S1 pc L S h
section SMQ
variable {l : Launch} {D : va_G} {cl : List vw_C} {cA : Nat → ClassId} {b : Nat} {WA NW : List Cond} {T : sm_T} {ok : Nat → Nat → Bool} {tyN : List FieldType} {AO : List String} {bc : Nat → ByteArray} {nm : Nat → MethodName} {X : Nat × (Nat → Int32)} {fx : Nat → Prop} {KT : State → Prop} {XC : Nat → String} {eh : Nat → List (Nat × Nat × Nat × Nat)} {n : Nat}
/-- a callee without handlers keeps its contract -/
theorem sm_met (hP : sm_Pn l D cl cA b WA NW T ok tyN AO bc nm X fx KT XC eh n) {d lw z : Nat} {vs : List Value} {h h' : sm_H} {v : Option Value} (hrun : sm_run T X ok n d lw z 0 (sm_ent (sm_nL T z).1 vs) [] h = some (.inl v, h')) (hvs : vs.all sm_c1 = true) (hlen : vs.length ≤ (sm_nL T z).1) (hpl : plainName (nm z).cls = true) (hez : eh z = []) (ad : Nat → Nat) (sz : Nat) :
    Met l (nm z) (Cond.code (nm z) (bc z) (sm_nL T z).1 (sm_rt T z) :: WA) { frames := d, cells := h.2.2.2.1 - h'.2.2.2.1, slots := h.2.2.2.2 - h'.2.2.2.2, locals := lw } (sm_Pc D cl cA b tyN NW AO KT fx ad sz vs h) (sm_Qc D cl cA b (va_A (sm_w cA ad h) sz) ad h.1.length v h') (h.2.2.2.1 - h'.2.2.2.1) (h.2.2.2.2 - h'.2.2.2.2) (va_A (sm_w cA ad h) sz) := by
  refine Met.ofW (cc := bc z) (maxL := (sm_nL T z).1) (ret := sm_rt T z) hpl rfl ?_
  intro p e s m args below meth c s₁ B hml hv
  obtain ⟨rfl, hsz, hPw, hDw, hK, hfx⟩ := hv
  have hts := atoms_spec (ws := Cond.code (nm z) (bc z) (sm_nL T z).1 (sm_rt T z) :: WA) B.pre
  have hcode := hts _ List.mem_cons_self
  have hown : s.vm.findClass (nm z).cls = some m.cls := findClass_of_methodNamed B.named
  have hnm : meth.name = (nm z).name := (name_of_methodNamed B.named B.method).1
  have hemp := B.noHandlers hcode
  have het : c.exceptionTable.toList = (eh z).map (fun q => ⟨q.1, q.2.1, q.2.2.1, q.2.2.2⟩) := by
    rw [hez]
    have h0 : c.exceptionTable.size = 0 := by simpa [Array.isEmpty] using hemp
    exact List.eq_nil_of_length_eq_zero (by simpa using h0)
  subst hsz
  rw [lg_entry_eq]
  have W0 := hP d lw z 0 (sm_ent (sm_nL T z).1 vs) [] h (.inl v) h' hrun p e { frames := d, cells := h.2.2.2.1 - h'.2.2.2.1, slots := h.2.2.2.2 - h'.2.2.2.2, locals := lw } s m (vs.map (sm_v b ad)).toArray below meth c (va_A (sm_w cA ad h) s.heap.size) ad h.1.length h.2.2.2.1 h.2.2.2.2 B.exec B.bytes hml B.returns B.notSynchronized hown hnm het (fun w hw => hts w (List.mem_cons_of_mem _ hw)) hK hfx (fun q hq => Or.inr hq) (Nat.le_refl _) ⟨Nat.le_refl _, Nat.le_refl _⟩ ⟨Nat.le_refl _, Nat.le_refl _⟩ (Nat.le_refl _) (Nat.le_refl _)
  have W1 := W0 ad s.heap [] _ (fun _ _ => rfl) hPw hDw.self va_S.rf (sm_entry hvs hlen)
  rw [Nat.sub_self, Nat.sub_self] at W1
  exact W1
theorem sm_blind (hM : sm_Mv NW b X fx KT) {ad : Nat → Nat} {sz : Nat} {vs : List Value} {h : sm_H} : FrameBlind (sm_Pc D cl cA b tyN NW AO KT fx ad sz vs h) := by
  intro a U g mk q
  obtain ⟨q0, q1, q2, q3, q4, q5⟩ := q
  exact ⟨q0, q1, q2, q3, sm_Kx_mv (V := U.calling g mk a) hM (State.WarmedH.refl U) (fun _ _ => rfl) q4, q5⟩
end SMQ
end
section
/-! ===== the main theorem ===== -/
def sm_cw (T : sm_T) (bc : Nat → ByteArray) (nm : Nat → MethodName) (eh : Nat → List (Nat × Nat × Nat × Nat)) (z : Nat) : Cond := match eh z with
  | [] => Cond.code (nm z) (bc z) (sm_nL T z).1 (sm_rt T z)
  | q :: r => Cond.codeWith (nm z) (bc z) (sm_nL T z).1 (sm_rt T z) (q :: r)
theorem sm_rcv4 {ci : Nat} {vs : List Value} {h : sm_H} (w : sm_rcv 4 ci vs h = true) : ∃ q rest fs, vs = .ref q :: rest ∧ h.1[q]? = some (.inl (ci, fs)) := by
  cases vs with
  | nil => cases w
  | cons v rest =>
    cases v with
    | ref q =>
      have w : (match h.1[q]? with
        | some (.inl (cj, _)) => decide (ci = cj)
        | _ => false) = true := w
      split at w
      · next cj fs hz =>
        have hcj := of_decide_eq_true w
        subst hcj
        exact ⟨q, rest, fs, rfl, hz⟩
      · cases w
    | _ => cases w
theorem sm_rcv5 {ci : Nat} {vs : List Value} {h : sm_H} (w : sm_rcv 5 ci vs h = true) : ∃ q rest, vs = .ref q :: rest := by
  cases vs with
  | nil => cases w
  | cons v rest =>
    cases v with
    | ref q => exact ⟨q, rest, rfl⟩
    | _ => cases w
section SMA
variable {l : Launch} {D : va_G} {cl : List vw_C} {cA : Nat → ClassId} {b : Nat} {WA NW : List Cond} {T : sm_T} {ok : Nat → Nat → Bool} {tyN : List FieldType} {AO : List String} {bc : Nat → ByteArray} {nm : Nat → MethodName} {X : Nat × (Nat → Int32)} {fx : Nat → Prop} {KT : State → Prop} {XC : Nat → String} {eh : Nat → List (Nat × Nat × Nat × Nat)} {n : Nat}
theorem sm_dec_of (TB : sm_Tab T ok cl WA NW tyN AO bc nm) {y pc : Nat} {i : Instr} (h : sm_ins T y pc = some i) (ht : sm_tsw i = false) : decode (bc y) pc = .ok (i, sm_len i) := by
  obtain ⟨len, h1, h2, -⟩ := TB.2.2.2.2.1 y pc i h
  rw [h2 ht] at h1
  exact h1
/-- the opcode of a call, by its kind -/
theorem sm_inv_op {y : Nat} {i : Instr} {k z w : Nat} (h : sm_inv T y i = some (k, z, w)) : ∃ idx, sm_cal T y idx = some (k, z, w) ∧ ((i = .invokestatic idx ∧ (k = 1 ∨ k = 2 ∨ k = 3)) ∨ (i = .invokevirtual idx ∧ k = 4) ∨ (i = .invokespecial idx ∧ (k = 0 ∨ k = 5))) := by
  unfold sm_inv at h
  split at h
  · next j =>
    split at h
    · next k' z' w' hc =>
      split at h
      · next hk => cases h; exact ⟨j, hc, Or.inl ⟨rfl, hk⟩⟩
      · cases h
    · cases h
  · next j =>
    split at h
    · next k' z' w' hc =>
      split at h
      · next hk => cases h; exact ⟨j, hc, Or.inr (Or.inl ⟨rfl, hk⟩)⟩
      · cases h
    · cases h
  · next j =>
    split at h
    · next k' z' w' hc =>
      split at h
      · next hk => cases h; exact ⟨j, hc, Or.inr (Or.inr ⟨rfl, hk⟩)⟩
      · cases h
    · cases h
  · cases h
/-- behind a callee's answer the caller goes on -/
theorem sm_on {p : Program} {e : Env} {R : Room} {s : State} {m : MethodId} {args : Array Value} {below : List Frame} {meth : Method} {c : Code} {A : Nat → Prop} {ad0 : Nat → Nat} {n0 C1 S1 pc w nL : Nat} {L : sm_L} {S : List Value} {h h1 : sm_H} {Q : State → Prop} {v : Option Value} {ad : Nat → Nat} {H : Heap} {locs : List Loc} {ls : Array Slot} {av : Array Value} (hA : ∀ q, s.heap.size ≤ q → A q) (hn0 : n0 ≤ h.1.length) (hle : h.2.2.2.1 ≤ C1 ∧ h.2.2.2.2 ≤ S1) (hge : h1.2.2.2.1 ≤ h.2.2.2.1 ∧ h1.2.2.2.2 ≤ h.2.2.2.2 ∧ h.1.length ≤ h1.1.length) (hok : sm_ok2 L (S.drop w) h h1 = true)
    (e1 : ∀ k, ¬ (n0 ≤ k ∧ k < h.1.length) → ad k = ad0 k) (hD : va_D A (sm_w cA ad h)) (hS : va_S A s.heap H locs) (hl : sm_l b ad ls nL L)
    (hr : va_Run p l e R s m args below meth c H locs (C1 - h.2.2.2.1) (S1 - h.2.2.2.2) (h.2.2.2.1 - h1.2.2.2.1) (h.2.2.2.2 - h1.2.2.2.2) (F0 m pc ls (S.map (sm_v b ad))) ((S.drop w).map (sm_v b ad)) (sm_Qc D cl cA b (va_A (sm_w cA ad h) H.size) ad h.1.length v h1 av) (va_A (sm_w cA ad h) H.size))
    (kk : sm_W p l e R s m args below meth c Q D cl A s.heap nL cA b ad0 n0 C1 S1 (pc + 3) L (v.toList ++ S.drop w) h1) :
    W p l e R s m args below meth c H locs (C1 - h.2.2.2.1) (S1 - h.2.2.2.2) Q (F0 m pc ls (S.map (sm_v b ad))) := by
  have hAA : ∀ q, va_A (sm_w cA ad h) H.size q → A q := by
    intro q hq
    rcases hq with ⟨k, e, hq⟩ | hq
    · exact hD.2 k (q, e) hq
    · exact hA q (Nat.le_trans hS.1 hq)
  refine sm_back hr (fun v0 st₀ t Ls h0 hW hLs hq => ?_)
  obtain ⟨⟨ad', ea, eo, hP1, hD1⟩, hF1, hF2⟩ := hq
  cases eo
  rw [h0] at hF1 hF2
  have ga : ∀ k, k < h.1.length → ad' k = ad k := fun k hk => ea k (by omega)
  have gl : sm_l b ad' ls nL L ∧ (S.drop w).map (sm_v b ad') = (S.drop w).map (sm_v b ad) := by
    unfold sm_ok2 at hok
    rw [Bool.or_eq_true] at hok
    rcases hok with hok | hok
    · have hz : h1.1.length = h.1.length := of_decide_eq_true hok
      have : ad' = ad := funext fun k => ea k (by omega)
      subst this
      exact ⟨hl, rfl⟩
    · unfold sm_wfL at hok
      rw [Bool.and_eq_true] at hok
      exact ⟨sm_l_ext hl hok.1 ga, sm_S_ext hok.2 ga⟩
  have kk := kk ad' t.heap (locs ++ Ls) ls (fun k hk => by
    by_cases hk2 : k < n0
    · rw [ea k (by omega), e1 k (by omega)]
    · rw [ea k (by omega), e1 k (by omega)]) hP1 (hD1.weaken fun _ q _ hq => hAA q.1 hq) ⟨Nat.le_trans hS.1 hF1, fun q hq1 hq2 => by
      rw [hF2 q (Nat.lt_of_lt_of_le hq1 hS.1) (fun z => hq2 (hAA q z))]
      exact hS.2.1 q hq1 hq2, fun q hq => by
      rcases List.mem_append.mp hq with hq | hq
      · exact hS.2.2 q hq
      · exact hAA _ (hLs q hq)⟩ gl.1
  have es : (v.toList ++ S.drop w).map (sm_v b ad') = (v.map (sm_v b ad')).toList ++ (S.drop w).map (sm_v b ad) := by
    rw [List.map_append, gl.2]
    cases v <;> rfl
  rw [es] at kk
  have g1 : C1 - h1.2.2.2.1 = C1 - h.2.2.2.1 + (h.2.2.2.1 - h1.2.2.2.1) := by omega
  have g2 : S1 - h1.2.2.2.2 = S1 - h.2.2.2.2 + (h.2.2.2.2 - h1.2.2.2.2) := by omega
  rw [g1, g2] at kk
  exact kk
end SMA
end
section
/-! ===== what throws: a callee's end without an answer ===== -/
/-- a contract whose end is a throw -/
def sm_MetT (l : Launch) (y : MethodName) (ws : List Cond) (rm : Room) (Pc : Array Value → State → Prop) (Qa : State → Addr → State → Prop) (mc ms : Nat) (free : Addr → Prop) : Prop :=
  MetFree l y (headSpec ws rm) Pc (fun _ _ _ _ _ => True) (fun _ st o t => ∃ x, o = .threw x ∧ Qa st x t ∧ st.WarmedH t.vm ∧ ∃ L, st.sameButNew ({ t with vm := st.vm } : State) L mc ms ∧ ∀ q ∈ L, free q.base)
theorem sm_MetT_ofW {l : Launch} {y : MethodName} {ws ws' : List Cond} {rm : Room} {Pc : Array Value → State → Prop} {Qa : State → Addr → State → Prop} {mc ms : Nat} {free : Addr → Prop} {cc : ByteArray} {maxL : Nat} {ret : Option FieldType}
    (hy : plainName y.cls = true) (hw : ws = Cond.code y cc maxL ret :: ws')
    (body : ∀ p e s m args below meth c s₁, BodyLoose p l y (headSpec ws rm) cc maxL ret e s m args below meth c s₁ → c.maxLocals = maxL → Pc args s →
      W p l e (headSpec ws rm).room s m args below meth c s.heap [] 0 0 (sm_MT below (fun a t => Qa s a t) s mc ms free) (entryFrame m args maxL)) : sm_MetT l y ws rm Pc Qa mc ms free := by
  refine MetFree.of_bodyS (code := cc) (maxLocals := maxL) (ret := ret) hy ?_ ?_
  · intro args s m h hn
    obtain ⟨meth, c, h1, h2, h3, h4, h5, h6, -, -⟩ := Cond.code_spec hn (atoms_spec (ws := ws) h _ (by rw [hw]; exact List.mem_cons_self))
    exact ⟨meth, c, h1, h2, h3, h4, h5, h6⟩
  · intro p e s m args below meth c s₁ B hml hP _
    have hh0 : s₁.heap = s.heap := by rw [B.state]; rfl
    obtain ⟨t, a1, x, b1, b2, b3, b4, b5⟩ := body p e s m args below meth c s₁ B hml hP s₁ hh0 (Stand.of_body B)
    exact ⟨t, .threw x, a1, b1, b2, x, rfl, b3, b4, b5⟩
section SMT
variable {p : Program} {l : Launch} {e : Env} {R : Room} {s : State} {m : MethodId} {args : Array Value} {below : List Frame} {meth : Method} {c : Code} {locs : List Loc} {cells slots : Nat}
/-- into a callee that throws, and back to the caller's frame with the throw laid over it -/
theorem sm_into {U : State} (X : Stand p l e R s m args below meth c U locs cells slots) {g : JFrame} (hg : g.method = m) (hsize : g.locals.size = c.maxLocals) {ig : Instr} {len : Nat} (hdg : decode c.code g.pc = .ok (ig, len)) (hW : 2 * g.monitorRoom + (g.stack.map fun v => v.category).sum ≤ 8)
    {y : MethodName} {mk : MethodId} {vs : Array Value} (hn : U.methodNamed? y = some mk) {ws : List Cond} {rm : Room} {Pc : Array Value → State → Prop} {Qa : State → Addr → State → Prop} {mc ms : Nat} {free : Addr → Prop} {bytes : ByteArray} {maxL : Nat} {ret : Option FieldType} (hM : sm_MetT l y ws rm Pc Qa mc ms free)
    (hcode : (Cond.code y bytes maxL ret).before vs U = true) (hini : (Cond.initialized y.cls).before vs U = true) (hws : ∀ w ∈ ws, w.before vs U = true) (hrc : rm.cells = mc) (hrs : rm.slots = ms) (hfr : rm.frames + 1 ≤ R.frames) (hlo : 8 + (maxL + 11) + rm.locals ≤ R.locals) (hce : cells + mc ≤ R.cells ∧ slots + ms ≤ R.slots) (hPc : Pc vs (U.calling g mk vs)) :
    ∃ (x : Addr) (t V : State) (Lc : List Loc), Stand p l e R s m args below meth c V (locs ++ Lc) (cells + mc) (slots + ms) ∧ V.heap = t.heap ∧ V.vm = t.vm ∧ Qa (U.calling g mk vs) x t ∧ (∀ q ∈ Lc, free q.base) ∧
      ∀ acts, Steps p.tables e below (doInvoke e (U.setTop g) acts mk vs).1 ((V.setTop g).pushFrame (.throwing x)) := by
  subst hg
  obtain ⟨methY, cY, hmY, hcY, -, hlY, -, -, -, -⟩ := Cond.code_spec hn hcode
  obtain ⟨kY, hkY, -⟩ := className_of_methodNamed hn
  have hinitY : kY.init = .initialized := Cond.initialized_spec (findClass_of_methodNamed hn) hkY hini
  have happ : (headSpec ws rm).appliesLoose y e.platform (U.calling g mk vs) = true :=
    Spec.appliesLoose_calling (g := g) X.here hdg hn hkY hinitY
      (X.room_calling (g := g) (R' := (headSpec ws rm).room) hsize hmY hcY hfr (by rw [hlY]; show _ + rm.locals ≤ R.locals; omega) (by show cells + rm.cells ≤ R.cells; rw [hrc]; exact hce.1) (by show slots + rm.slots ≤ R.slots; rw [hrs]; exact hce.2)) (atoms_intro hws)
  obtain ⟨mid, hmid⟩ := X.here.above
  have hfr2 : (U.setTop g).frames = (.java g :: mid) ++ below := by rw [State.frames_setTop' g X.here.top, hmid]; rfl
  obtain ⟨o, t, hsteps, -, hend, hq⟩ := Steps.callFree hM p X.admits X.cas X.clock (acts := []) hfr2 happ hPc trivial
  obtain ⟨x, rfl, hQa, hWt, Lc, hsame, hLc⟩ := hq
  have hWt : U.WarmedH t.vm := hWt
  rw [State.frames_setTop' g X.here.top] at hend
  have hft : t.frames = .throwing x :: .java g :: U.frames.tail := hend
  have hsame : (U.calling g mk vs).sameButNew ({ t with vm := (U.calling g mk vs).vm } : State) Lc mc ms := hsame
  obtain ⟨e2, q2, q3, q4, q5, q6⟩ := id hsame
  obtain ⟨g₀, hg0⟩ := Option.isSome_iff_exists.mp X.here.top
  obtain ⟨r, hr⟩ := State.topJava?_eq_some.mp hg0
  have hst : t = ((({ U with heap := t.heap, slotsUsed := t.slotsUsed } : State).setVm t.vm).setTop g).pushFrame (.throwing x) := by
    have e3 : t = ({ (U.calling g mk vs).setFrames t.frames with heap := t.heap, slotsUsed := t.slotsUsed } : State).setVm t.vm := by
      have e4 : t = ({ t with vm := (U.calling g mk vs).vm } : State).setVm t.vm := rfl
      rw [e2] at e4
      exact e4
    have hr' : (({ U with heap := t.heap, slotsUsed := t.slotsUsed } : State).setVm t.vm).frames = .java g₀ :: r := hr
    refine e3.trans ?_
    rw [hft, State.calling_eq X.here.top, State.setFrames_setFrames, State.pushFrame, State.frames_setTop _ hr', State.setTop_of_frames _ hr', State.setFrames_setFrames, hr]
    rfl
  have hsame2 : U.sameButNew ({ U with heap := t.heap, slotsUsed := t.slotsUsed } : State) Lc mc ms := by
    refine ⟨?_, q2, q3, q4, q5, q6⟩
    obtain ⟨th, hth, -⟩ := State.frames_cons hr
    show ({ U with heap := t.heap, slotsUsed := t.slotsUsed } : State) = { U.setFrames U.frames with heap := t.heap, slotsUsed := t.slotsUsed }
    rw [State.setFrames_self hth]
  refine ⟨x, t, ({ U with heap := t.heap, slotsUsed := t.slotsUsed } : State).setVm t.vm, Lc,
    ⟨X.admits, X.cas, X.clock, X.frames, X.room, X.hears, X.method, X.code, (X.here.setHeapUsed t.heap t.slotsUsed).setVm hWt.alike, X.tail, State.WarmedH.trans X.warmed hWt, X.limits, X.bytes, X.same.trans (hsame2.setVm s.vm)⟩, rfl, rfl, hQa, hLc, fun acts => ?_⟩
  rw [doInvoke_state] at hsteps ⊢
  rw [← hst]
  exact hsteps
end SMT
end
section
/-! ===== calls that don't come back, and where they are caught ===== -/
section SMU
variable {p : Program} {l : Launch} {e : Env} {R : Room} {s : State} {m : MethodId} {args : Array Value} {below : List Frame} {meth : Method} {c : Code} {H : Heap} {locs : List Loc} {cells slots : Nat}
theorem sm_thrown {mc ms : Nat} {cc bytes : ByteArray} {nL maxL n idx k : Nat} {ret : Option FieldType} {WA NW : List Cond} {rm : Room} {Pc : Array Value → State → Prop} {Qa : State → Addr → State → Prop} {free : Addr → Prop} {own : String} {y : MethodName} {vs rest : List Value} {pc : Nat} {ls : Array Slot}
    (hx : p.tables.exec = Jvm.exec) (hb : c.code = cc) (hml : c.maxLocals = nL) (hown : s.vm.findClass own = some m.cls) (hts : ∀ w ∈ WA, w.before args s = true) (hN : ∀ w ∈ NW, va_Nw w s) (hG : ∀ w ∈ WA, goodWord w = true)
    (hM : sm_MetT l y (Cond.code y bytes maxL ret :: WA) rm Pc Qa mc ms free) (hcode : Cond.code y bytes maxL ret ∈ WA) (hrc : rm.cells = mc) (hrs : rm.slots = ms) (hini : Cond.initialized y.cls ∈ WA) (hlk : Cond.methodLink own idx y ∈ WA ∨ ∃ host, Cond.methodLinkNest own idx y host ∈ NW)
    (hds : y.cls ≠ "java/lang/invoke/MethodHandle" ∧ y.cls ≠ "java/lang/invoke/VarHandle" ∧ (parseMethodDescriptor y.desc).map (fun d => d.parameters.length) = some n) (hR : rm.frames + 1 ≤ R.frames ∧ 8 + (maxL + 11) + rm.locals ≤ R.locals)
    (hbl : FrameBlind Pc) (hpre : ∀ U : State, U.heap = H → s.WarmedH U.vm → Pc vs.toArray U) (hsize : ls.size = nL) (hW : (rest.map fun v => v.category).sum ≤ 8) (hf : cells + mc ≤ R.cells ∧ slots + ms ≤ R.slots)
    (hk : (k = 3 ∧ vs.length = n ∧ Cond.static y ∈ WA ∧ decode cc pc = .ok (.invokestatic idx, 3)) ∨
      (k = 4 ∧ vs.length = n + 1 ∧ Cond.instanceMethod y ∈ WA ∧ Cond.selects y.cls y y ∈ WA ∧ (∃ (a : Nat) (vs' : List Value) (cellB : Cell), vs = .ref a :: vs' ∧ H[a]? = some cellB ∧ cellB.vm.isStatics = false ∧ s.vm.findClass y.cls = some cellB.cls) ∧ decode cc pc = .ok (.invokevirtual idx, 3))) :
    ∀ T : State, T.heap = H → Stand p l e R s m args below meth c T locs cells slots → ∃ (x : Addr) (st₀ t V : State) (Lc : List Loc), st₀.heap = H ∧ Stand p l e R s m args below meth c V (locs ++ Lc) (cells + mc) (slots + ms) ∧ V.heap = t.heap ∧ V.vm = t.vm ∧ Qa st₀ x t ∧ (∀ q ∈ Lc, free q.base) ∧
      ∀ target, Steps p.tables e below ((V.setTop (F0 m pc ls rest)).pushFrame (.throwing x)) target → Steps p.tables e below (T.setTop (F0 m pc ls (vs.reverse ++ rest))) target := by
  intro T hT X
  have hsz2 : ls.size = c.maxLocals := hsize.trans hml.symm
  have hW2 : 2 * (F0 m pc ls rest).monitorRoom + ((F0 m pc ls rest).stack.map fun v => v.category).sum ≤ 8 := by
    show 2 * 0 + _ ≤ 8
    have : ((F0 m pc ls rest).stack.map fun v => v.category).sum = (rest.map fun v => v.category).sum := rfl
    omega
  have hcodeS := hts _ hcode
  obtain ⟨mk, hnamed⟩ := Cond.code_named hcodeS
  obtain ⟨methM, cM, hmethM, -, -, -, -, -, -, hsigM⟩ := Cond.code_spec hnamed hcodeS
  obtain ⟨kP, hkP, -⟩ := className_of_methodNamed hnamed
  have hinitP : kP.init = .initialized := Cond.initialized_spec (findClass_of_methodNamed hnamed) hkP (hts _ hini)
  have hnp : methM.sig.parameters.length = n := by
    have h2 := hds.2.2
    rw [hsigM] at h2
    exact Option.some.inj h2
  have fin : ∀ (vm₁ : Vm) (i2 : Instr), decode c.code pc = .ok (i2, 3) → Stand p l e R s m args below meth c (T.setVm vm₁) locs cells slots → (∀ target, (∀ acts, Steps p.tables e below (doInvoke e ((T.setVm vm₁).setTop (F0 m pc ls rest)) acts mk vs.toArray).1 target) → Steps p.tables e below (T.setTop (F0 m pc ls (vs.reverse ++ rest))) target) →
      ∃ (x : Addr) (st₀ t V : State) (Lc : List Loc), st₀.heap = H ∧ Stand p l e R s m args below meth c V (locs ++ Lc) (cells + mc) (slots + ms) ∧ V.heap = t.heap ∧ V.vm = t.vm ∧ Qa st₀ x t ∧ (∀ q ∈ Lc, free q.base) ∧
      ∀ target, Steps p.tables e below ((V.setTop (F0 m pc ls rest)).pushFrame (.throwing x)) target → Steps p.tables e below (T.setTop (F0 m pc ls (vs.reverse ++ rest))) target := by
    intro vm₁ i2 hd2 X₁ hstep
    have hW₁ : s.WarmedH (T.setVm vm₁).vm := X₁.warmed
    have hwd : ∀ w ∈ WA, w.before vs.toArray (T.setVm vm₁) = true := fun w hw => word_at hW₁ (good_of_word (hG w hw)) (hts w hw)
    obtain ⟨x, t, V, Lc, XV, e1, e2, hq, hLc, hst⟩ := sm_into X₁ (g := F0 m pc ls rest) rfl hsz2 hd2 hW2 (X₁.named hnamed) (vs := vs.toArray) hM (hwd _ hcode) (hwd _ hini) (fun w hw => by
      rcases List.mem_cons.mp hw with rfl | hw
      · exact hwd _ hcode
      · exact hwd _ hw) hrc hrs hR.1 hR.2 hf (hbl _ _ _ _ (hpre _ hT hW₁))
    exact ⟨x, (T.setVm vm₁).calling (F0 m pc ls rest) mk vs.toArray, t, V, Lc, hT, XV, e1, e2, hq, hLc, fun target htg => hstep target (fun acts => (hst acts).trans htg)⟩
  rcases hk with ⟨-, hl, hst, hd⟩ | ⟨-, hl, hin, hse, ⟨a, vs', cellB, rfl, h1, h2, h3⟩, hd⟩
  · have hstatic : methM.isStatic = true := Cond.static_spec hnamed hmethM (hts _ hst)
    have hd' : decode c.code pc = .ok (.invokestatic idx, 3) := by rw [hb]; exact hd
    rcases hlk with hlk | ⟨host, hlk⟩
    · obtain ⟨vm₁, X₁, hstep₁⟩ := X.invokestatic hx hown (hts _ hlk) hnamed hmethM hstatic hkP hinitP ⟨hds.1, hds.2.1⟩ (g := F0 m pc ls (vs.reverse ++ rest)) rfl (argsL := vs) (rest := rest) (hl.trans hnp.symm) rfl hd'
      exact fin vm₁ _ hd' X₁ hstep₁
    · obtain ⟨vm₁, X₁, hstep₁⟩ := X.invokestaticNest hx hown (va_Nw.use rfl (hN _ hlk)) hnamed hmethM hstatic hkP hinitP ⟨hds.1, hds.2.1⟩ (g := F0 m pc ls (vs.reverse ++ rest)) rfl (argsL := vs) (rest := rest) (hl.trans hnp.symm) rfl hd'
      exact fin vm₁ _ hd' X₁ hstep₁
  · have hd' : decode c.code pc = .ok (.invokevirtual idx, 3) := by rw [hb]; exact hd
    have hl2 : vs'.length = methM.sig.parameters.length := by rw [hnp]; simpa using hl
    obtain ⟨mk', methM', hnamed', hmethM', hstM, habM⟩ := Cond.instanceMethod_spec (hts _ hin)
    cases hnamed.symm.trans hnamed'
    cases hmethM.symm.trans hmethM'
    obtain ⟨c2, r2, m2, q1, q2, q3, q4, kP2, hkP2, hkPi⟩ := Cond.selects_spec (hts _ hse)
    cases h3.symm.trans q1
    cases (State.methodFound?_of_named hnamed ⟨hds.1, hds.2.1⟩).symm.trans q2
    cases hnamed.symm.trans q3
    have hselP : selectMethod e.platform s.vm cellB.cls mk = .method mk := by rw [Launch.admits_selectMethod X.admits]; exact q4
    have es : ((Value.ref a :: vs').reverse ++ rest) = vs'.reverse ++ .ref a :: rest := by simp
    rw [es] at fin ⊢
    rcases hlk with hlk | ⟨host, hlk⟩
    · obtain ⟨vm₁, X₁, hstep₁⟩ := X.invokevirtual hx hown (hts _ hlk) hnamed hmethM hstM hkP2 hkPi ⟨hds.1, hds.2.1⟩ (a := a) (cell := cellB) (by rw [hT]; exact h1) (fun z hz => by rw [hz] at h2; cases h2) hselP hmethM habM hkP2 hkPi (g := F0 m pc ls (vs'.reverse ++ .ref a :: rest)) rfl (argsL := vs') (rest := rest) hl2 rfl hd'
      exact fin vm₁ _ hd' X₁ hstep₁
    · obtain ⟨vm₁, X₁, hstep₁⟩ := X.invokevirtualNest hx hown (va_Nw.use rfl (hN _ hlk)) hnamed hmethM hstM hkP2 hkPi ⟨hds.1, hds.2.1⟩ (a := a) (cell := cellB) (by rw [hT]; exact h1) (fun z hz => by rw [hz] at h2; cases h2) hselP hmethM habM hkP2 hkPi (g := F0 m pc ls (vs'.reverse ++ .ref a :: rest)) rfl (argsL := vs') (rest := rest) hl2 rfl hd'
      exact fin vm₁ _ hd' X₁ hstep₁
/-- a class of a handler that may not be resolved yet -/
theorem sm_go_cls {e : Env} {s : State} {f : JFrame} {a : Addr} {x : ExceptionTableEntry} {t : List ExceptionTableEntry} {c : ClassId} {cell : Cell} {vm' : Vm} (hx : covers x f.pc = true) (h0 : x.catchType ≠ 0)
    (hg : (Jvm.resolveClass f.method.cls x.catchType).Gives e.toSetting s.vm (.ok c) vm') (hsz : vm'.classes.size ≤ s.vm.classes.size) (hcell : s.heap[a]? = some cell) (hobj : ∀ k, cell.vm ≠ .statics k)
    (hk : ∃ k, vm'.classes[cell.cls]? = some k) (hc : ∃ k, vm'.classes[c]? = some k) (Q : Handler → Pre) (E : CtlPost) (d : Bool) (acts : List Action) :
    wp (findHandler.go f a (x :: t)) Q E e d acts s ↔ if vm'.assignable cell.cls c = true then Q (.found x.handlerPc) d acts (s.setVm vm') else wp (findHandler.go f a t) Q E e d acts (s.setVm vm') := by
  simp only [covers] at hx
  obtain ⟨ha, ht⟩ := hg.op (op := VmOp.resolveClass f.method.cls x.catchType) rfl
  have hcell' : (s.setVm vm').heap[a]? = some cell := hcell
  have hvm : (s.setVm vm').vm = vm' := rfl
  cases hfit : vm'.assignable cell.cls c <;>
    simp [findHandler.go, hx, h0, ha, ht, hsz, hcell, hobj, hk, hc, hfit, hvm, VmOp.dirties, VmOp.acts]
/-- a handler is found, at warmer tables -/
def sm_Fd (e : Env) (s : State) (f : JFrame) (a : Addr) (pc : Nat) (vm' : Vm) : Prop := ∀ (Q : Handler → Pre) (E : CtlPost) (d : Bool) (acts : List Action), wp (findHandler f a) Q E e d acts s ↔ Q (.found pc) d acts (s.setVm vm')
theorem sm_stepCatch {e : Env} {s : State} {a : Addr} {f : JFrame} {r : List Frame} {pc : Nat} {vm' : Vm} (hfind : sm_Fd e s f a pc vm') :
    (stepThrowing e s a (.java f :: r)).Is ((s.setVm vm').setFrames (.java { f with pc := pc, stack := [.ref a] } :: r)) [] := by
  simp only [stepThrowing, searchFrame, vmDo]
  generalize hr : Sem.go _ e false [] s = res
  obtain ⟨as, rfl, ha⟩ := Sem.eq_ok_of hr (a := Handler.found pc) (s' := s.setVm vm') (acts' := []) (by simp [hfind _ _ _ _])
  exact ⟨rfl, ha⟩
theorem sm_caught {tb : Tables} {e : Env} {s target : State} {g : JFrame} {c : Code} {below : List Frame} {a : Addr} {vm' : Vm} (h : At s g.method c below) {pc : Nat} (hfind : sm_Fd e ((s.setTop g).pushFrame (.throwing a)) g a pc vm')
    (hrest : Steps tb e below ((s.setVm vm').setTop { g with pc := pc, stack := [.ref a] }) target) :
    Steps tb e below ((s.setTop g).pushFrame (.throwing a)) target := by
  obtain ⟨hgo, hw⟩ := h.throwing a
  refine Steps.head hgo hw ?_
  rw [stepThread_throwing (frames_entered h.top _), (sm_stepCatch (s := (s.setTop g).pushFrame (.throwing a)) hfind).1]
  obtain ⟨g₀, hg⟩ := Option.isSome_iff_exists.mp h.top
  obtain ⟨r, hr⟩ := State.topJava?_eq_some.mp hg
  have hr' : (s.setVm vm').frames = .java g₀ :: r := hr
  rw [State.setTop_of_frames _ hr'] at hrest
  have es : ((((s.setTop g).pushFrame (.throwing a)).setVm vm').setFrames (.java { g with pc := pc, stack := [.ref a] } :: s.frames.tail)) = (s.setVm vm').setFrames (.java { g with pc := pc, stack := [.ref a] } :: r) := by
    rw [hr, State.pushFrame, State.setTop_of_frames _ hr, State.setFrames_setFrames]
    show ((s.setVm vm').setFrames _).setFrames _ = _
    rw [State.setFrames_setFrames]
    rfl
  rw [es]
  exact hrest
end SMU
section SMV
variable {p : Program} {l : Launch} {e : Env} {R : Room} {s : State} {m : MethodId} {args : Array Value} {below : List Frame} {meth : Method} {c : Code} {locs : List Loc} {cells slots : Nat}
theorem sm_asg_refl (vm : Vm) (c : ClassId) : vm.assignable c c = true := by
  show vm.assignableAux (255 + 1) c c = true
  rw [Vm.assignableAux]
  simp
/-- the search through handlers, each by the number of its class among XC -/
theorem sm_find {XC : Nat → String} {own : String} {g : JFrame} {x : Nat} {a : Addr} {cell : Cell} (hl : l.admits e) (hown : s.vm.findClass own = some g.method.cls) (hobj : cell.vm.isStatics = false) (hcls : s.vm.findClass (XC x) = some cell.cls) (hx2 : x < 2) (hNC : ∀ i j, i < 2 → j < 2 → i ≠ j → ∀ c t, s.vm.findClass (XC i) = some c → s.vm.findClass (XC j) = some t → s.vm.assignable c t = false) :
    ∀ (hs : List (ExceptionTableEntry × Nat)), (∀ q ∈ hs, covers q.1 g.pc = true ∧ q.1.catchType ≠ 0 ∧ (Cond.classLink own q.1.catchType (XC q.2)).before args s = true ∧ q.2 < 2) → ∀ hpc, (hs.find? (fun q => q.2 == x)).map (fun q => q.1.handlerPc) = some hpc →
      ∀ V : State, V.heap[a]? = some cell → s.WarmedH V.vm → ∃ vm', s.WarmedH vm' ∧ ∀ (Q : Handler → Pre) (E : CtlPost) (d : Bool) (acts : List Action), wp (findHandler.go g a (hs.map (fun q => q.1))) Q E e d acts V ↔ Q (.found hpc) d acts (V.setVm vm') := by
  intro hs
  induction hs with
  | nil => intro _ hpc h; cases h
  | cons q r ih =>
    intro hq hpc hf V hV hW
    obtain ⟨h1, h2, h3, hq2⟩ := hq q List.mem_cons_self
    have hpl : e.platform.magicAccessors = ({} : Platform).magicAccessors := by rw [hl.platform]
    obtain ⟨cT, hcT, hcl⟩ := Cond.classLink_spec hown h3 e.platform hpl
    obtain ⟨dk, _, _, kt, hd, _, _, _, _, hkt, _, hopen⟩ := hcl.here
    have hcl₀ := hW.classLinks hcl
    have hW' : s.WarmedH (V.vm.noted g.method.cls q.1.catchType (.cls cT)) := hW.noted hd hopen (State.rightAt_cls hcl)
    obtain ⟨ks, hks⟩ := Vm.classAt_of_findClass hcls
    obtain ⟨ks', hks', -⟩ := hW'.alike.2.2 _ _ hks
    obtain ⟨kt', hkt', -⟩ := hW'.alike.2.2 _ _ hkt
    have key := fun (Q : Handler → Pre) (E : CtlPost) (d : Bool) (acts : List Action) => sm_go_cls (e := e) (s := V) (f := g) (a := a) (x := q.1) (t := r.map (fun q => q.1)) (cell := cell) h1 h2 (resolveClass_links e.toSetting hcl₀) (by rw [Vm.size_note]; exact Nat.le_refl _) hV (VmData.ne_statics_of hobj) ⟨ks', hks'⟩ ⟨kt', hkt'⟩ Q E d acts
    have hal : (V.vm.noted g.method.cls q.1.catchType (.cls cT)).assignable cell.cls cT = s.vm.assignable cell.cls cT := hW'.alike.assignable ..
    by_cases hx : q.2 = x
    · subst hx
      rw [List.find?_cons_of_pos (by simp)] at hf
      cases hf
      cases hcls.symm.trans hcT
      refine ⟨_, hW', fun Q E d acts => ?_⟩
      rw [List.map_cons, key Q E d acts, if_pos (by rw [hal]; exact sm_asg_refl _ _)]
    · rw [List.find?_cons_of_neg (by simpa using hx)] at hf
      obtain ⟨vm', hW2, h4⟩ := ih (fun z hz => hq z (List.mem_cons_of_mem _ hz)) hpc hf (V.setVm (V.vm.noted g.method.cls q.1.catchType (.cls cT))) hV hW'
      refine ⟨vm', hW2, fun Q E d acts => ?_⟩
      rw [List.map_cons, key Q E d acts, if_neg (by rw [hal, hNC x q.2 hx2 hq2 (Ne.symm hx) _ _ hcls hcT]; decide), h4 Q E d acts]
      rfl
end SMV
end
section
/-! ===== a throwing call, in the small machine's words ===== -/
def sm_en (q : Nat × Nat × Nat × Nat) : ExceptionTableEntry := ⟨q.1, q.2.1, q.2.2.1, q.2.2.2⟩
/-- where a throw of the number x at pc is caught -/
def sm_Xo (WA : List Cond) (XC : Nat → String) (own : String) (bc : ByteArray) (nL : Nat) (eh : List (Nat × Nat × Nat × Nat)) (pc x pc' q : Nat) : Prop := ∃ (hs : List ((Nat × Nat × Nat × Nat) × Nat)) (hpc : Nat), hs.map (fun z => z.1) = eh ∧
  (∀ z ∈ hs, covers (sm_en z.1) pc = true ∧ z.1.2.2.2 ≠ 0 ∧ Cond.classLink own z.1.2.2.2 (XC z.2) ∈ WA ∧ z.2 < 2) ∧ x < 2 ∧ (hs.find? (fun z => z.2 == x)).map (fun z => z.1.2.2.1) = some hpc ∧ q < nL ∧
  ((decode bc hpc = .ok (.astore q, 2) ∧ pc' = hpc + 2) ∨ ∃ k : Fin 4, k.val = q ∧ decode bc hpc = .ok (.astore_n k, 1) ∧ pc' = hpc + 1)
section SMY
variable {p : Program} {l : Launch} {e : Env} {R : Room} {s : State} {m : MethodId} {args : Array Value} {below : List Frame} {meth : Method} {c : Code} {D : va_G} {cl : List vw_C} {A : Nat → Prop} {cA : Nat → ClassId} {b : Nat} {ad0 ad : Nat → Nat} {n0 C1 S1 pc nL x : Nat} {L : sm_L} {h h1 : sm_H} {XC : Nat → String} {H : Heap} {locs : List Loc} {ls : Array Slot} {rest vs : List Value}
/-- what a throwing callee leaves -/
def sm_Th (p : Program) (l : Launch) (e : Env) (R : Room) (s : State) (m : MethodId) (args : Array Value) (below : List Frame) (meth : Method) (c : Code) (D : va_G) (cl : List vw_C) (cA : Nat → ClassId) (ad : Nat → Nat) (XC : Nat → String) (x : Nat) (h h1 : sm_H) (H : Heap) (locs : List Loc) (cells slots mc ms pc : Nat) (ls : Array Slot) (st0 rest : List Value) : Prop :=
  ∀ T : State, T.heap = H → Stand p l e R s m args below meth c T locs cells slots → ∃ (a : Addr) (st₀ t V : State) (Lc : List Loc), st₀.heap = H ∧ Stand p l e R s m args below meth c V (locs ++ Lc) (cells + mc) (slots + ms) ∧ V.heap = t.heap ∧ V.vm = t.vm ∧ sm_Qt D cl cA (va_A (sm_w cA ad h) H.size) ad h.1.length XC x h1 a st₀ t ∧ (∀ q ∈ Lc, va_A (sm_w cA ad h) H.size q.base) ∧
      ∀ target, Steps p.tables e below ((V.setTop (F0 m pc ls rest)).pushFrame (.throwing a)) target → Steps p.tables e below (T.setTop (F0 m pc ls st0)) target
theorem sm_Th_mem {t : State} {Lc : List Loc} {ad' : Nat → Nat} (hA : ∀ q, s.heap.size ≤ q → A q) (hD : va_D A (sm_w cA ad h)) (hS : va_S A s.heap H locs) (hF1 : H.size ≤ t.heap.size) (hF2 : ∀ q : Nat, q < H.size → ¬ va_A (sm_w cA ad h) H.size q → t.heap[q]? = H[q]?) (hLc : ∀ q ∈ Lc, va_A (sm_w cA ad h) H.size q.base) (hD1 : va_D (va_A (sm_w cA ad h) H.size) (sm_w cA ad' h1)) :
    va_D A (sm_w cA ad' h1) ∧ va_S A s.heap t.heap (locs ++ Lc) := by
  have hAA : ∀ q, va_A (sm_w cA ad h) H.size q → A q := by
    intro q hq
    rcases hq with ⟨k, e, hq⟩ | hq
    · exact hD.2 k (q, e) hq
    · exact hA q (Nat.le_trans hS.1 hq)
  refine ⟨hD1.weaken fun _ q _ hq => hAA q.1 hq, Nat.le_trans hS.1 hF1, fun q hq1 hq2 => ?_, fun q hq => ?_⟩
  · rw [hF2 q (Nat.lt_of_lt_of_le hq1 hS.1) (fun z => hq2 (hAA q z))]
    exact hS.2.1 q hq1 hq2
  · rcases List.mem_append.mp hq with hq | hq
    · exact hS.2.2 q hq
    · exact hAA _ (hLc q hq)
theorem sm_y_out (hA : ∀ q, s.heap.size ≤ q → A q) (hn0 : n0 ≤ h.1.length) (hle : h.2.2.2.1 ≤ C1 ∧ h.2.2.2.2 ≤ S1) (hge : h1.2.2.2.1 ≤ h.2.2.2.1 ∧ h1.2.2.2.2 ≤ h.2.2.2.2 ∧ h.1.length ≤ h1.1.length) (e1 : ∀ k, ¬ (n0 ≤ k ∧ k < h.1.length) → ad k = ad0 k) (hD : va_D A (sm_w cA ad h)) (hS : va_S A s.heap H locs) (hlocks : meth.locks = false) (hno : c.exceptionTable.toList = []) {st0 : List Value}
    (hth : sm_Th p l e R s m args below meth c D cl cA ad XC x h h1 H locs (C1 - h.2.2.2.1) (S1 - h.2.2.2.2) (h.2.2.2.1 - h1.2.2.2.1) (h.2.2.2.2 - h1.2.2.2.2) pc ls st0 rest) :
    W p l e R s m args below meth c H locs (C1 - h.2.2.2.1) (S1 - h.2.2.2.2) (sm_Q D cl cA b XC below args s A ad0 n0 C1 S1 (.inr x) h1) (F0 m pc ls st0) := by
  intro T hT X
  obtain ⟨a, st₀, t, V, Lc, h0, XV, ev, em, ⟨⟨ad', ea, hP1, hD1⟩, ⟨hF1, hF2⟩, hcell⟩, hLc, hst⟩ := hth T hT X
  rw [h0] at hF1 hF2
  obtain ⟨g1, g2⟩ := sm_Th_mem hA hD hS hF1 hF2 hLc hD1
  obtain ⟨w1, w2, w3, w4, w5⟩ := XV.leaveThrown a (g := F0 m pc ls rest) rfl rfl rfl (by rw [hno]; intro z hz; cases hz) hlocks
  refine ⟨V.setFrames (.throwing a :: below), hst _ w1, a, w2, w3, ⟨⟨ad', fun k hk => ?_, by show va_P D cl (sm_w cA ad' h1) V.heap; rw [ev]; exact hP1, g1⟩, ?_, ?_⟩, w4, locs ++ Lc, ?_, g2.2.2⟩
  · by_cases hk2 : k < n0
    · rw [ea k (by omega), e1 k (by omega)]
    · rw [ea k (by omega), e1 k (by omega)]
  · exact ⟨by show s.heap.size ≤ V.heap.size; rw [ev]; exact g2.1, fun q hq1 hq2 => by show V.heap[q]? = _; rw [ev]; exact g2.2.1 q hq1 hq2⟩
  · obtain ⟨cell, k1, k2, k3⟩ := hcell
    exact ⟨cell, by show V.heap[a]? = _; rw [ev]; exact k1, k2, by show V.vm.findClass _ = _; rw [em]; exact k3⟩
  · have e9 : C1 - h1.2.2.2.1 = C1 - h.2.2.2.1 + (h.2.2.2.1 - h1.2.2.2.1) := by omega
    have e8 : S1 - h1.2.2.2.2 = S1 - h.2.2.2.2 + (h.2.2.2.2 - h1.2.2.2.2) := by omega
    rw [e9, e8]
    exact w5
theorem sm_y_in (hx : p.tables.exec = Jvm.exec) {cc : ByteArray} (hb : c.code = cc) {own : String} (hown : s.vm.findClass own = some m.cls) {WA : List Cond} (hts : ∀ w ∈ WA, w.before args s = true) (hNC : ∀ i j, i < 2 → j < 2 → i ≠ j → ∀ c t, s.vm.findClass (XC i) = some c → s.vm.findClass (XC j) = some t → s.vm.assignable c t = false)
    (hA : ∀ q, s.heap.size ≤ q → A q) (hn0 : n0 ≤ h.1.length) (hle : h.2.2.2.1 ≤ C1 ∧ h.2.2.2.2 ≤ S1) (hge : h1.2.2.2.1 ≤ h.2.2.2.1 ∧ h1.2.2.2.2 ≤ h.2.2.2.2 ∧ h.1.length ≤ h1.1.length) (e1 : ∀ k, ¬ (n0 ≤ k ∧ k < h.1.length) → ad k = ad0 k) (hD : va_D A (sm_w cA ad h)) (hS : va_S A s.heap H locs) (hls : sm_l b ad ls nL L) (hok : sm_ok2 L [] h h1 = true)
    {eh : List (Nat × Nat × Nat × Nat)} (het : c.exceptionTable.toList = eh.map sm_en) {pc' q : Nat} (hxo : sm_Xo WA XC own cc nL eh pc x pc' q) {st0 : List Value} {Q : State → Prop}
    (hth : sm_Th p l e R s m args below meth c D cl cA ad XC x h h1 H locs (C1 - h.2.2.2.1) (S1 - h.2.2.2.2) (h.2.2.2.1 - h1.2.2.2.1) (h.2.2.2.2 - h1.2.2.2.2) pc ls st0 rest)
    (kk : sm_W p l e R s m args below meth c Q D cl A s.heap nL cA b ad0 n0 C1 S1 pc' (L.set q none) [] h1) :
    W p l e R s m args below meth c H locs (C1 - h.2.2.2.1) (S1 - h.2.2.2.2) Q (F0 m pc ls st0) := by
  intro T hT X
  obtain ⟨a, st₀, t, V, Lc, h0, XV, ev, em, ⟨⟨ad', ea, hP1, hD1⟩, ⟨hF1, hF2⟩, cell, k1, k2, k3⟩, hLc, hst⟩ := hth T hT X
  rw [h0] at hF1 hF2
  obtain ⟨g1, g2⟩ := sm_Th_mem hA hD hS hF1 hF2 hLc hD1
  obtain ⟨hs, hpc, j1, j2, jx, j3, j4, j5⟩ := hxo
  have ga : ∀ k, k < h.1.length → ad' k = ad k := fun k hk => ea k (by omega)
  have gl : sm_l b ad' ls nL L := by
    unfold sm_ok2 at hok
    rw [Bool.or_eq_true] at hok
    rcases hok with hok | hok
    · have hz : h1.1.length = h.1.length := of_decide_eq_true hok
      have : ad' = ad := funext fun k => ea k (by omega)
      subst this
      exact hls
    · unfold sm_wfL at hok
      rw [Bool.and_eq_true] at hok
      exact sm_l_ext hls hok.1 ga
  have hVW : s.WarmedH V.vm := XV.warmed
  have hcls : s.vm.findClass (XC x) = some cell.cls := by rw [← hVW.alike.findClass, em]; exact k3
  have hVm : ((V.setTop (F0 m pc ls rest)).pushFrame (.throwing a)).vm = V.vm := rfl
  have hVh : ((V.setTop (F0 m pc ls rest)).pushFrame (.throwing a)).heap = V.heap := rfl
  obtain ⟨vm', hW2, hfd⟩ := sm_find (args := args) (XC := XC) (own := own) (g := F0 m pc ls rest) (x := x) (a := a) (cell := cell) XV.admits hown k2 hcls jx hNC (hs.map (fun z => (sm_en z.1, z.2))) (by
    intro z hz
    obtain ⟨z', hz', rfl⟩ := List.mem_map.mp hz
    obtain ⟨c1, c2, c3, c4⟩ := j2 z' hz'
    exact ⟨c1, c2, hts _ c3, c4⟩) hpc (by
    rw [List.find?_map, Option.map_map]
    exact j3) ((V.setTop (F0 m pc ls rest)).pushFrame (.throwing a)) (by rw [hVh, ev]; exact k1) (by rw [hVm]; exact hVW)
  have hmeth : ((V.setTop (F0 m pc ls rest)).pushFrame (.throwing a)).vm.method? (F0 m pc ls rest).method = some meth := XV.method'
  have hFd : sm_Fd e ((V.setTop (F0 m pc ls rest)).pushFrame (.throwing a)) (F0 m pc ls rest) a hpc vm' := by
    intro Q E d acts
    rw [W.findHandler_eq hmeth XV.code, het, ← j1, List.map_map]
    have := hfd Q E d acts
    rw [List.map_map] at this
    exact this
  have X2 : Stand p l e R s m args below meth c (V.setVm vm') (locs ++ Lc) (C1 - h.2.2.2.1 + (h.2.2.2.1 - h1.2.2.2.1)) (S1 - h.2.2.2.2 + (h.2.2.2.2 - h1.2.2.2.2)) := XV.noted hW2
  have e9 : C1 - h1.2.2.2.1 = C1 - h.2.2.2.1 + (h.2.2.2.1 - h1.2.2.2.1) := by omega
  have e8 : S1 - h1.2.2.2.2 = S1 - h.2.2.2.2 + (h.2.2.2.2 - h1.2.2.2.2) := by omega
  have go : W p l e R s m args below meth c t.heap (locs ++ Lc) (C1 - h.2.2.2.1 + (h.2.2.2.1 - h1.2.2.2.1)) (S1 - h.2.2.2.2 + (h.2.2.2.2 - h1.2.2.2.2)) Q (F0 m hpc ls [.ref a]) := by
    have fin : ∀ ls' : Array Slot, lv_has ls' nL ((q, Value.ref a) :: (sm_lv b ad' L).filter (fun z => !(z.1 == q) && !(z.1 + 1 == q && z.2.category == 2))) → W p l e R s m args below meth c t.heap (locs ++ Lc) (C1 - h.2.2.2.1 + (h.2.2.2.1 - h1.2.2.2.1)) (S1 - h.2.2.2.2 + (h.2.2.2.2 - h1.2.2.2.2)) Q (F0 m pc' ls' []) := by
      intro ls' hl'
      have k9 := kk ad' t.heap (locs ++ Lc) ls' (fun k hk => by
        by_cases hk2 : k < n0
        · rw [ea k (by omega), e1 k (by omega)]
        · rw [ea k (by omega), e1 k (by omega)]) hP1 g1 g2 (sm_l_un gl hl')
      rw [e9, e8] at k9
      exact k9
    rcases j5 with ⟨hd, rfl⟩ | ⟨k, rfl, hd, rfl⟩
    · exact lv_astore hx hb hd (sm_l_has gl) j4 rfl fin
    · exact lv_astore_n hx hb hd rfl (sm_l_has gl) j4 rfl fin
  obtain ⟨t2, a1, b1⟩ := go (V.setVm vm') ev X2
  have hAt : At V (F0 m pc ls rest).method c below := XV.here
  exact ⟨t2, hst t2 (sm_caught hAt hFd a1), b1⟩
end SMY
end
section
/-! ===== callees with handlers; callees that throw, by the main theorem's word ===== -/
theorem sm_runSW {p : Program} {l : Launch} {e : Env} {R : Room} {s : State} {m : MethodId} {args : Array Value} {below : List Frame} {meth : Method} {c : Code} {H : Heap} {locs : List Loc} {cells slots mc ms : Nat} {cc bytes : ByteArray} {nL maxL n idx : Nat} {ret : Option FieldType} {hh : List (Nat × Nat × Nat × Nat)} {WA : List Cond} {rm : Room} {Pc : Array Value → State → Prop} {Qc : Array Value → State → Outcome → State → Prop} {free : Addr → Prop} {own : String} {y : MethodName} {vs rest : List Value} {pc : Nat} {ls : Array Slot}
    (hx : p.tables.exec = Jvm.exec) (hb : c.code = cc) (hml : c.maxLocals = nL) (hown : s.vm.findClass own = some m.cls) (hts : ∀ w ∈ WA, w.before args s = true) (hG : ∀ w ∈ WA, goodWord w = true)
    (hM : Met l y (Cond.codeWith y bytes maxL ret hh :: WA) rm Pc Qc mc ms free) (hcode : Cond.codeWith y bytes maxL ret hh ∈ WA) (hrc : rm.cells = mc) (hrs : rm.slots = ms) (hini : Cond.initialized y.cls ∈ WA) (hlk : Cond.methodLink own idx y ∈ WA)
    (hds : y.cls ≠ "java/lang/invoke/MethodHandle" ∧ y.cls ≠ "java/lang/invoke/VarHandle" ∧ (parseMethodDescriptor y.desc).map (fun d => d.parameters.length) = some n) (hR : rm.frames + 1 ≤ R.frames ∧ 8 + (maxL + 11) + rm.locals ≤ R.locals)
    (hbl : FrameBlind Pc) (hpre : ∀ U : State, U.heap = H → s.WarmedH U.vm → Pc vs.toArray U) (hsize : ls.size = nL) (hW : (rest.map fun v => v.category).sum ≤ 8) (hf : cells + mc ≤ R.cells ∧ slots + ms ≤ R.slots)
    (hl : vs.length = n) (hst : Cond.static y ∈ WA) (hd : decode cc pc = .ok (.invokestatic idx, 3)) :
    va_Run p l e R s m args below meth c H locs cells slots mc ms (F0 m pc ls (vs.reverse ++ rest)) rest (Qc vs.toArray) free := by
  have hgd : GoodIn WA (Cond.codeWith y bytes maxL ret hh :: WA) := sm_good hG (fun _ h => h) hcode
  have hK : Back l R p e below s args y 3 8 (PreOf R mc ms Pc) (PostOf Qc mc ms free) := va_backW (hh := hh) (bytes := bytes) (maxL := maxL) (ret := ret) hM hbl hrc hrs hR.1 hR.2 (pay_in hts hgd) List.mem_cons_self (fun a' U hWU => word_at hWU (good_of_word (hG _ hini)) (hts _ hini))
  obtain ⟨mk, methM, cM, hnamed, hmethM, -, -, -, -, -, -, hsigM⟩ := Cond.codeWith_spec (hts _ hcode)
  obtain ⟨kP, hkP, -⟩ := className_of_methodNamed hnamed
  have hinitP : kP.init = .initialized := Cond.initialized_spec (findClass_of_methodNamed hnamed) hkP (hts _ hini)
  have hstatic : methM.isStatic = true := Cond.static_spec hnamed hmethM (hts _ hst)
  have hnp : methM.sig.parameters.length = n := by
    have h2 := hds.2.2
    rw [hsigM] at h2
    exact Option.some.inj h2
  have hd' : decode c.code pc = .ok (.invokestatic idx, 3) := by rw [hb]; exact hd
  intro T hT X
  obtain ⟨vm₁, X₁, hstep₁⟩ := X.invokestatic hx hown (hts _ hlk) hnamed hmethM hstatic hkP hinitP ⟨hds.1, hds.2.1⟩ (g := F0 m pc ls (vs.reverse ++ rest)) rfl (argsL := vs) (rest := rest) (hl.trans hnp.symm) rfl hd'
  obtain ⟨v, ⟨U', l2, c2, s2⟩, X', hpost, hsteps⟩ := hK m meth c ⟨T.setVm vm₁, locs, cells, slots⟩ (F0 m pc ls rest) (.invokestatic idx) mk vs.toArray X₁ rfl (hsize.trans hml.symm) hd' (by show 2 * 0 + _ ≤ 8; have h9 : ((F0 m pc ls rest).stack.map fun v => v.category).sum = (rest.map fun v => v.category).sum := rfl; omega) (X₁.named hnamed) ⟨hf.1, hf.2, hpre _ hT X₁.warmed⟩
  obtain ⟨g', mk', t, L, e1, e2, hq, h1, hL, h2, h3⟩ := hpost
  dsimp only [Pt.U, Pt.locs, Pt.cells, Pt.slots] at X' e1 e2 h1 h2 h3 hsteps
  subst h1; subst h2; subst h3
  exact ⟨v, (T.setVm vm₁).calling g' mk' vs.toArray, t, U', L, hT, X', hL, e1, e2, hq, fun target h => hstep₁ _ (fun acts => by rw [doInvoke_state]; exact hsteps.trans h)⟩
section SMZ
variable {l : Launch} {D : va_G} {cl : List vw_C} {cA : Nat → ClassId} {b : Nat} {WA NW : List Cond} {T : sm_T} {ok : Nat → Nat → Bool} {tyN : List FieldType} {AO : List String} {bc : Nat → ByteArray} {nm : Nat → MethodName} {X : Nat × (Nat → Int32)} {fx : Nat → Prop} {KT : State → Prop} {XC : Nat → String} {eh : Nat → List (Nat × Nat × Nat × Nat)} {n : Nat}
theorem sm_metW (hP : sm_Pn l D cl cA b WA NW T ok tyN AO bc nm X fx KT XC eh n) {d lw z : Nat} {vs : List Value} {h h' : sm_H} {v : Option Value} (hrun : sm_run T X ok n d lw z 0 (sm_ent (sm_nL T z).1 vs) [] h = some (.inl v, h')) (hvs : vs.all sm_c1 = true) (hlen : vs.length ≤ (sm_nL T z).1) (hpl : plainName (nm z).cls = true) (ad : Nat → Nat) (sz : Nat) :
    Met l (nm z) (Cond.codeWith (nm z) (bc z) (sm_nL T z).1 (sm_rt T z) (eh z) :: WA) { frames := d, cells := h.2.2.2.1 - h'.2.2.2.1, slots := h.2.2.2.2 - h'.2.2.2.2, locals := lw } (sm_Pc D cl cA b tyN NW AO KT fx ad sz vs h) (sm_Qc D cl cA b (va_A (sm_w cA ad h) sz) ad h.1.length v h') (h.2.2.2.1 - h'.2.2.2.1) (h.2.2.2.2 - h'.2.2.2.2) (va_A (sm_w cA ad h) sz) := by
  refine va_MetW (cc := bc z) (maxL := (sm_nL T z).1) (ret := sm_rt T z) (hh := eh z) hpl rfl ?_
  intro p e s m args below meth c s₁ B hml hv
  obtain ⟨rfl, hsz, hPw, hDw, hK, hfx⟩ := hv
  have hts := atoms_spec (ws := Cond.codeWith (nm z) (bc z) (sm_nL T z).1 (sm_rt T z) (eh z) :: WA) B.pre
  have hcode := hts _ List.mem_cons_self
  have hown : s.vm.findClass (nm z).cls = some m.cls := findClass_of_methodNamed B.named
  have hnm : meth.name = (nm z).name := (name_of_methodNamed B.named B.method).1
  obtain ⟨m9, meth9, c9, hn9, hm9, hc9, -, -, ht9, -⟩ := Cond.codeWith_spec hcode
  cases B.named.symm.trans hn9
  cases B.method.symm.trans hm9
  cases (Stand.of_body B).code.symm.trans hc9
  have het : c.exceptionTable.toList = (eh z).map (fun q => ⟨q.1, q.2.1, q.2.2.1, q.2.2.2⟩) := by
    rw [← ht9, List.map_map]
    exact (List.map_id' c.exceptionTable.toList).symm
  subst hsz
  rw [lg_entry_eq]
  have W0 := hP d lw z 0 (sm_ent (sm_nL T z).1 vs) [] h (.inl v) h' hrun p e { frames := d, cells := h.2.2.2.1 - h'.2.2.2.1, slots := h.2.2.2.2 - h'.2.2.2.2, locals := lw } s m (vs.map (sm_v b ad)).toArray below meth c (va_A (sm_w cA ad h) s.heap.size) ad h.1.length h.2.2.2.1 h.2.2.2.2 B.exec B.bytes hml B.returns B.notSynchronized hown hnm het (fun w hw => hts w (List.mem_cons_of_mem _ hw)) hK hfx (fun q hq => Or.inr hq) (Nat.le_refl _) ⟨Nat.le_refl _, Nat.le_refl _⟩ ⟨Nat.le_refl _, Nat.le_refl _⟩ (Nat.le_refl _) (Nat.le_refl _)
  have W1 := W0 ad s.heap [] _ (fun _ _ => rfl) hPw hDw.self va_S.rf (sm_entry hvs hlen)
  rw [Nat.sub_self, Nat.sub_self] at W1
  exact W1
theorem sm_metT (hP : sm_Pn l D cl cA b WA NW T ok tyN AO bc nm X fx KT XC eh n) {d lw z x : Nat} {vs : List Value} {h h' : sm_H} (hrun : sm_run T X ok n d lw z 0 (sm_ent (sm_nL T z).1 vs) [] h = some (.inr x, h')) (hvs : vs.all sm_c1 = true) (hlen : vs.length ≤ (sm_nL T z).1) (hpl : plainName (nm z).cls = true) (hez : eh z = []) (ad : Nat → Nat) (sz : Nat) :
    sm_MetT l (nm z) (Cond.code (nm z) (bc z) (sm_nL T z).1 (sm_rt T z) :: WA) { frames := d, cells := h.2.2.2.1 - h'.2.2.2.1, slots := h.2.2.2.2 - h'.2.2.2.2, locals := lw } (sm_Pc D cl cA b tyN NW AO KT fx ad sz vs h) (fun st a t => sm_Qt D cl cA (va_A (sm_w cA ad h) sz) ad h.1.length XC x h' a st t) (h.2.2.2.1 - h'.2.2.2.1) (h.2.2.2.2 - h'.2.2.2.2) (va_A (sm_w cA ad h) sz) := by
  refine sm_MetT_ofW (cc := bc z) (maxL := (sm_nL T z).1) (ret := sm_rt T z) hpl rfl ?_
  intro p e s m args below meth c s₁ B hml hv
  obtain ⟨rfl, hsz, hPw, hDw, hK, hfx⟩ := hv
  have hts := atoms_spec (ws := Cond.code (nm z) (bc z) (sm_nL T z).1 (sm_rt T z) :: WA) B.pre
  have hcode := hts _ List.mem_cons_self
  have hown : s.vm.findClass (nm z).cls = some m.cls := findClass_of_methodNamed B.named
  have hnm : meth.name = (nm z).name := (name_of_methodNamed B.named B.method).1
  have hemp := B.noHandlers hcode
  have het : c.exceptionTable.toList = (eh z).map (fun q => ⟨q.1, q.2.1, q.2.2.1, q.2.2.2⟩) := by
    rw [hez]
    have h0 : c.exceptionTable.size = 0 := by simpa [Array.isEmpty] using hemp
    exact List.eq_nil_of_length_eq_zero (by simpa using h0)
  subst hsz
  rw [lg_entry_eq]
  have W0 := hP d lw z 0 (sm_ent (sm_nL T z).1 vs) [] h (.inr x) h' hrun p e { frames := d, cells := h.2.2.2.1 - h'.2.2.2.1, slots := h.2.2.2.2 - h'.2.2.2.2, locals := lw } s m (vs.map (sm_v b ad)).toArray below meth c (va_A (sm_w cA ad h) s.heap.size) ad h.1.length h.2.2.2.1 h.2.2.2.2 B.exec B.bytes hml B.returns B.notSynchronized hown hnm het (fun w hw => hts w (List.mem_cons_of_mem _ hw)) hK hfx (fun q hq => Or.inr hq) (Nat.le_refl _) ⟨Nat.le_refl _, Nat.le_refl _⟩ ⟨Nat.le_refl _, Nat.le_refl _⟩ (Nat.le_refl _) (Nat.le_refl _)
  have W1 := W0 ad s.heap [] _ (fun _ _ => rfl) hPw hDw.self va_S.rf (sm_entry hvs hlen)
  rw [Nat.sub_self, Nat.sub_self] at W1
  exact W1
end SMZ
end
section
section SMB
variable {l : Launch} {D : va_G} {cl : List vw_C} {cA : Nat → ClassId} {b : Nat} {WA NW : List Cond} {T : sm_T} {ok : Nat → Nat → Bool} {tyN : List FieldType} {AO : List String} {bc : Nat → ByteArray} {nm : Nat → MethodName} {X : Nat × (Nat → Int32)} {fx : Nat → Prop} {KT : State → Prop} {XC : Nat → String} {eh : Nat → List (Nat × Nat × Nat × Nat)}
/-- a method that lets a throw out has no handlers -/
theorem sm_run_thr (XN : ∀ z pc x, sm_cat T z pc x = some none → eh z = []) : ∀ (n d lw y pc : Nat) (L : sm_L) (S : List Value) (h : sm_H) (x : Nat) (h' : sm_H), sm_run T X ok n d lw y pc L S h = some (.inr x, h') → eh y = [] := by
  intro n
  induction n with
  | zero => intro d lw y pc L S h x h' hr; cases hr
  | succ n ih =>
    intro d lw y pc L S h x h' hr
    unfold sm_run at hr
    split at hr
    · cases hr
    · next i hi =>
      split at hr
      · cases hq : sm_ret (sm_nL T y).2.1 i S with
        | none => rw [hq] at hr; cases hr
        | some v => rw [hq] at hr; cases hr
      · split at hr
        · split at hr
          · exact ih _ _ _ _ _ _ _ _ _ hr
          · cases hr
        · split at hr
          · cases hr
          · split at hr
            · split at hr
              · split at hr
                · exact ih _ _ _ _ _ _ _ _ _ hr
                · cases hr
              · cases hr
            · split at hr
              · split at hr
                · split at hr
                  · exact ih _ _ _ _ _ _ _ _ _ hr
                  · cases hr
                · split at hr
                  · cases hr
                  · split at hr
                    · cases hr
                    · next hcat => exact XN _ _ _ hcat
                    · split at hr
                      · exact ih _ _ _ _ _ _ _ _ _ hr
                      · cases hr
                · cases hr
              · cases hr
set_option maxHeartbeats 4000000 in
theorem sm_all (TB : sm_Tab T ok cl WA NW tyN AO bc nm) (hM : sm_Mv NW b X fx KT) (hG : ∀ w ∈ WA, goodWord w = true) (CB : ∀ y idx k z w, sm_cal T y idx = some (k, z, w) → sm_Go cl WA NW nm (sm_cw T bc nm eh) T y idx k z w)
    (CW : ∀ y idx k z w, sm_cal T y idx = some (k, z, w) → eh z ≠ [] → k = 3 ∧ Cond.methodLink (nm y).cls idx (nm z) ∈ WA) (XN : ∀ z pc x, sm_cat T z pc x = some none → eh z = []) (XB : ∀ y pc x pc' q, sm_cat T y pc x = some (some (pc', q)) → sm_Xo WA XC (nm y).cls (bc y) (sm_nL T y).1 (eh y) pc x pc' q)
    (hKN : ∀ U, KT U → ∀ i j, i < 2 → j < 2 → i ≠ j → ∀ c t, U.vm.findClass (XC i) = some c → U.vm.findClass (XC j) = some t → U.vm.assignable c t = false) (TE : ∀ z vs h r, sm_thr T z vs h = some r → eh z = [])
    (hTh : ∀ (z : Nat) (vs : List Value) (h : sm_H) (x kc ks : Nat), sm_thr T z vs h = some (x, kc, ks) → vs.all sm_c1 = true → vs.length ≤ (sm_nL T z).1 → ∀ (d lw : Nat), kc ≤ h.2.2.2.1 → ks ≤ h.2.2.2.2 → 6 ≤ d → 100 ≤ lw → ∀ (ad : Nat → Nat) (sz : Nat),
      sm_MetT l (nm z) (Cond.code (nm z) (bc z) (sm_nL T z).1 (sm_rt T z) :: WA) { frames := d, cells := h.2.2.2.1 - (h.2.2.2.1 - kc), slots := h.2.2.2.2 - (h.2.2.2.2 - ks), locals := lw } (sm_Pc D cl cA b tyN NW AO KT fx ad sz vs h) (fun st a t => sm_Qt D cl cA (va_A (sm_w cA ad h) sz) ad h.1.length XC x (h.1, h.2.1, h.2.2.1, h.2.2.2.1 - kc, h.2.2.2.2 - ks) a st t) (h.2.2.2.1 - (h.2.2.2.1 - kc)) (h.2.2.2.2 - (h.2.2.2.2 - ks)) (va_A (sm_w cA ad h) sz)) : ∀ n, sm_Pn l D cl cA b WA NW T ok tyN AO bc nm X fx KT XC eh n := by
  intro n
  induction n with
  | zero => intro d lw y pc L S h o h' hr; cases hr
  | succ n ih =>
    intro d lw y pc L S h o h' hr p e R s m args below meth c A ad0 n0 C1 S1 hx hb hml hret hlk hown hmn het hts hK hfx hA hn0 hle hroom hd hlo
    have hXs : va_X b X.1 X.2 s s.heap := hM.2.2.1 s hK.2.2.2
    have hbf := hfx b hM.2.2.2
    unfold sm_run at hr
    · split at hr
      · cases hr
      · next i hi =>
        split at hr
        · next hisr =>
          cases hv : sm_ret (sm_nL T y).2.1 i S with
          | none => rw [hv] at hr; cases hr
          | some v =>
            rw [hv] at hr
            cases hr
            have hts1 : sm_tsw i = false := by cases i <;> first | rfl | cases hisr
            have hln : sm_len i = 1 := by cases i <;> first | rfl | cases hisr
            exact sm_s_ret (cc := bc y) hx hb (kd := (sm_nL T y).2.1) hret hlk (sm_dec_of TB hi hts1) hln hv
        · split at hr
          · split at hr
            · next pc' L' S' h1 hs =>
              have g1 := sm_i_ge _ hs
              have g2 := sm_run_ge _ _ _ _ _ _ _ _ _ _ hr
              exact sm_sound (r := (pc', L', S', h1)) TB hx hb rfl hown hmn hts hK.2.1 hK.2.2.1 hK.1 hXs hbf.1 hbf.2 hA hn0 hle ⟨by dsimp only; omega, by dsimp only; omega⟩ hi hs (ih d lw y pc' L' S' h1 o h' hr p e R s m args below meth c A ad0 n0 C1 S1 hx hb hml hret hlk hown hmn het hts hK hfx hA (Nat.le_trans hn0 g1.2.2) ⟨Nat.le_trans g1.1 hle.1, Nat.le_trans g1.2.1 hle.2⟩ hroom hd hlo)
            · cases hr
          · next k z w hinv =>
            obtain ⟨idx, hcal, hop⟩ := sm_inv_op hinv
            have hgo := CB y idx k z w hcal
            split at hr
            · cases hr
            · next d =>
              split at hr
              · next hk3 =>
               split at hr
               · next hlw100 =>
                split at hr
                · next pc' L' S' h1 hs =>
                  have g1 := sm_lib_ge _ hs
                  have g2 := sm_run_ge _ _ _ _ _ _ _ _ _ _ hr
                  obtain ⟨t3, t4, t5, htyN⟩ := TB.2.2.2.2.2.2.1
                  refine sm_s_lib (r := (pc', L', S', h1)) (k := k) (z := z) (w := w) (idx := idx) (y := y) (tys := sm_tys cA tyN) hx hb hml hown hts hK.1 (sm_tys_get (by rw [htyN]; rfl)) hgo (by omega) (by omega) ⟨by dsimp only at g1 g2 ⊢; omega, by dsimp only at g1 g2 ⊢; omega⟩ ?_ hs (ih (d + 1) lw y pc' L' S' h1 o h' hr p e R s m args below meth c A ad0 n0 C1 S1 hx hb hml hret hlk hown hmn het hts hK hfx hA (Nat.le_trans hn0 g1.2.2) ⟨Nat.le_trans g1.1 hle.1, Nat.le_trans g1.2.1 hle.2⟩ hroom hd hlo)
                  rcases hop with ⟨rfl, hk⟩ | ⟨rfl, hk⟩ | ⟨rfl, hk⟩
                  · exact ⟨fun h9 => by omega, fun _ => sm_dec_of TB hi rfl⟩
                  · exact ⟨fun h9 => by omega, fun h9 => by omega⟩
                  · exact ⟨fun _ => sm_dec_of TB hi rfl, fun h9 => by omega⟩
                · cases hr
               · cases hr
              · next hk3 =>
                split at hr
                · next hw =>
                  obtain ⟨w1, w2, w3, w4, w5, w6⟩ := hw
                  have hlen : (S.take w).reverse.length = w := by simp; omega
                  have hvs : (S.take w).reverse.all sm_c1 = true := by rw [List.all_reverse]; exact w4
                  obtain ⟨-, -, -, f3, fs, fv, fi⟩ := hgo
                  obtain ⟨flk, fini, fcw, fpl, fds, fw1, f40⟩ := f3 (by omega)
                  split at hr
                  · next v h1 hrun =>
                    obtain ⟨-, hrun⟩ := sm_or_inl hrun
                    split at hr
                    · next hok =>
                      have g1 := sm_run_ge _ _ _ _ _ _ _ _ _ _ hrun
                      have g2 := sm_run_ge _ _ _ _ _ _ _ _ _ _ hr
                      intro ad H locs ls e1 hP hD hS hl
                      have kk := ih (d + 1) lw y (pc + 3) L (v.toList ++ S.drop w) h1 o h' hr p e R s m args below meth c A ad0 n0 C1 S1 hx hb hml hret hlk hown hmn het hts hK hfx hA (Nat.le_trans hn0 g1.2.2) ⟨Nat.le_trans g1.1 hle.1, Nat.le_trans g1.2.1 hle.2⟩ hroom hd hlo
                      have eS : S.map (sm_v b ad) = ((S.take w).reverse.map (sm_v b ad)).reverse ++ (S.drop w).map (sm_v b ad) := by
                        rw [List.map_reverse, List.reverse_reverse, ← List.map_append, List.take_append_drop]
                      have hpre : ∀ U : State, U.heap = H → s.WarmedH U.vm → sm_Pc D cl cA b tyN NW AO KT fx ad H.size (S.take w).reverse h ((S.take w).reverse.map (sm_v b ad)).toArray U := by
                        intro U hU hW
                        have hq : ∀ q, fx q → U.heap[q]? = s.heap[q]? := fun q hq => by rw [hU]; exact hS.2.1 q (hfx q hq).1 (hfx q hq).2
                        refine ⟨rfl, by rw [hU], by rw [hU]; exact hP, hD.weaken (fun _ _ _ _ => trivial), sm_Kx_mv hM hW hq hK, fun q hq => ⟨Nat.lt_of_lt_of_le (hfx q hq).1 hS.1, fun hz => ?_⟩⟩
                        rcases hz with ⟨k9, e9, hz⟩ | hz
                        · exact (hfx q hq).2 (hD.2 k9 (q, e9) hz)
                        · exact absurd (Nat.lt_of_lt_of_le (hfx q hq).1 hS.1) (by omega)
                      cases hez : eh z with
                      | cons q9 r9 =>
                        have hez0 : eh z ≠ [] := by rw [hez]; exact fun h => by cases h
                        obtain ⟨hk, hlk3⟩ := CW y idx k z w hcal hez0
                        subst hk
                        have hcw : sm_cw T bc nm eh z = Cond.codeWith (nm z) (bc z) (sm_nL T z).1 (sm_rt T z) (eh z) := by unfold sm_cw; rw [hez]
                        rw [hcw] at fcw
                        have hMet := sm_metW ih hrun hvs (by rw [hlen]; exact w5) fpl ad H.size
                        refine sm_on hA hn0 hle g1 hok e1 hD hS hl (av := ((S.take w).reverse.map (sm_v b ad)).toArray) ?_ kk
                        rw [eS]
                        refine sm_runSW (idx := idx) (n := w) (Pc := sm_Pc D cl cA b tyN NW AO KT fx ad H.size (S.take w).reverse h) hx hb hml hown hts hG hMet fcw rfl rfl fini hlk3 fds ⟨by show d + 1 ≤ R.frames; omega, by show 8 + ((sm_nL T z).1 + 11) + (lw - (19 + (sm_nL T z).1)) ≤ R.locals; omega⟩ (sm_blind hM) hpre hl.2.1 (by rw [sm_sum_map]; exact w2) ⟨by omega, by omega⟩ (by rw [List.length_map, hlen]) (fs rfl) ?_
                        rcases hop with ⟨rfl, hk⟩ | ⟨rfl, hk⟩ | ⟨rfl, hk⟩
                        · exact sm_dec_of TB hi rfl
                        · omega
                        · omega
                      | nil =>
                        have hcw : sm_cw T bc nm eh z = Cond.code (nm z) (bc z) (sm_nL T z).1 (sm_rt T z) := by unfold sm_cw; rw [hez]
                        rw [hcw] at fcw
                        have hMet := sm_met ih hrun hvs (by rw [hlen]; exact w5) fpl hez ad H.size
                        refine sm_on hA hn0 hle g1 hok e1 hD hS hl (av := ((S.take w).reverse.map (sm_v b ad)).toArray) ?_ kk
                        rw [eS]
                        refine sm_run345 (k := k) (idx := idx) (n := if k = 3 then w else w - 1) (Pc := sm_Pc D cl cA b tyN NW AO KT fx ad H.size (S.take w).reverse h) hx hb hml hown hts hK.2.1 hG hMet fcw rfl rfl fini flk fds ⟨by show d + 1 ≤ R.frames; omega, by show 8 + ((sm_nL T z).1 + 11) + (lw - (19 + (sm_nL T z).1)) ≤ R.locals; omega⟩ (sm_blind hM) hpre hl.2.1 (by rw [sm_sum_map]; exact w2) ⟨by omega, by omega⟩ ?_
                        rcases hop with ⟨rfl, hk⟩ | ⟨rfl, hk⟩ | ⟨rfl, hk⟩
                        · have hk : k = 3 := by omega
                          subst hk
                          exact Or.inl ⟨rfl, by rw [List.length_map, hlen]; rfl, fs rfl, sm_dec_of TB hi rfl⟩
                        · subst hk
                          have hw1 := fw1 (by decide)
                          refine Or.inr (Or.inl ⟨rfl, by rw [List.length_map, hlen]; show w = w - 1 + 1; omega, (fv rfl).1, (fv rfl).2.1, ?_, sm_dec_of TB hi rfl⟩)
                          obtain ⟨q8, hq8, hq9⟩ := (fv rfl).2.2
                          obtain ⟨a, rest, fs9, h8, hz9⟩ := sm_rcv4 w3
                          obtain ⟨cellB, r1, r2, r3⟩ := va_recv hK.1 hP hq8 (sm_w_get hz9)
                          exact ⟨ad a, rest.map (sm_v b ad), cellB, by rw [h8]; rfl, r1, r2, by rw [← hq9]; exact r3⟩
                        · have hk : k = 5 := by omega
                          subst hk
                          have hw1 := fw1 (by decide)
                          refine Or.inr (Or.inr ⟨rfl, by rw [List.length_map, hlen]; show w = w - 1 + 1; omega, (fi rfl).1, (fi rfl).2.1, ?_, ?_, sm_dec_of TB hi rfl⟩)
                          · unfold sm_rt
                            rw [(fi rfl).2.2]
                            rfl
                          · obtain ⟨a, rest, h8⟩ := sm_rcv5 w3
                            exact ⟨ad a, rest.map (sm_v b ad), by rw [h8]; rfl⟩
                    · cases hr
                  · next x h1 hrun =>
                    have g1 : h1.2.2.2.1 ≤ h.2.2.2.1 ∧ h1.2.2.2.2 ≤ h.2.2.2.2 ∧ h.1.length ≤ h1.1.length := sm_or_ge hrun (fun hs => sm_run_ge _ _ _ _ _ _ _ _ _ _ hs)
                    split at hr
                    · cases hr
                    · next hk5 =>
                      have hMT : eh z = [] ∧ ∀ (ad : Nat → Nat) (sz : Nat), sm_MetT l (nm z) (Cond.code (nm z) (bc z) (sm_nL T z).1 (sm_rt T z) :: WA) { frames := d, cells := h.2.2.2.1 - h1.2.2.2.1, slots := h.2.2.2.2 - h1.2.2.2.2, locals := lw - (19 + (sm_nL T z).1) } (sm_Pc D cl cA b tyN NW AO KT fx ad sz (S.take w).reverse h) (fun st a t => sm_Qt D cl cA (va_A (sm_w cA ad h) sz) ad h.1.length XC x h1 a st t) (h.2.2.2.1 - h1.2.2.2.1) (h.2.2.2.2 - h1.2.2.2.2) (va_A (sm_w cA ad h) sz) := by
                        unfold sm_or at hrun
                        split at hrun
                        · next x9 kc ks hth9 =>
                          split at hrun
                          · next hc9 =>
                            cases hrun
                            exact ⟨TE _ _ _ _ hth9, fun ad sz => hTh z _ h _ kc ks hth9 hvs (by rw [hlen]; exact w5) d _ hc9.1 hc9.2.1 hc9.2.2.1 hc9.2.2.2 ad sz⟩
                          · cases hrun
                        · have hez : eh z = [] := sm_run_thr XN _ _ _ _ _ _ _ _ _ _ hrun
                          exact ⟨hez, fun ad sz => sm_metT ih hrun hvs (by rw [hlen]; exact w5) fpl hez ad sz⟩
                      obtain ⟨hez, hMT⟩ := hMT
                      have hcw : sm_cw T bc nm eh z = Cond.code (nm z) (bc z) (sm_nL T z).1 (sm_rt T z) := by unfold sm_cw; rw [hez]
                      rw [hcw] at fcw
                      have key : ∀ (ad : Nat → Nat) (H : Heap) (locs : List Loc) (ls : Array Slot), va_P D cl (sm_w cA ad h) H → va_D A (sm_w cA ad h) → va_S A s.heap H locs → sm_l b ad ls (sm_nL T y).1 L → C1 - h1.2.2.2.1 ≤ R.cells ∧ S1 - h1.2.2.2.2 ≤ R.slots →
                          sm_Th p l e R s m args below meth c D cl cA ad XC x h h1 H locs (C1 - h.2.2.2.1) (S1 - h.2.2.2.2) (h.2.2.2.1 - h1.2.2.2.1) (h.2.2.2.2 - h1.2.2.2.2) pc ls (S.map (sm_v b ad)) ((S.drop w).map (sm_v b ad)) := by
                        intro ad H locs ls hP hD hS hl hro
                        have eS : S.map (sm_v b ad) = ((S.take w).reverse.map (sm_v b ad)).reverse ++ (S.drop w).map (sm_v b ad) := by
                          rw [List.map_reverse, List.reverse_reverse, ← List.map_append, List.take_append_drop]
                        have hpre : ∀ U : State, U.heap = H → s.WarmedH U.vm → sm_Pc D cl cA b tyN NW AO KT fx ad H.size (S.take w).reverse h ((S.take w).reverse.map (sm_v b ad)).toArray U := by
                          intro U hU hW
                          have hq : ∀ q, fx q → U.heap[q]? = s.heap[q]? := fun q hq => by rw [hU]; exact hS.2.1 q (hfx q hq).1 (hfx q hq).2
                          refine ⟨rfl, by rw [hU], by rw [hU]; exact hP, hD.weaken (fun _ _ _ _ => trivial), sm_Kx_mv hM hW hq hK, fun q hq => ⟨Nat.lt_of_lt_of_le (hfx q hq).1 hS.1, fun hz => ?_⟩⟩
                          rcases hz with ⟨k9, e9, hz⟩ | hz
                          · exact (hfx q hq).2 (hD.2 k9 (q, e9) hz)
                          · exact absurd (Nat.lt_of_lt_of_le (hfx q hq).1 hS.1) (by omega)
                        unfold sm_Th
                        rw [eS]
                        refine sm_thrown (k := k) (idx := idx) (n := if k = 3 then w else w - 1) (Pc := sm_Pc D cl cA b tyN NW AO KT fx ad H.size (S.take w).reverse h) hx hb hml hown hts hK.2.1 hG (hMT ad H.size) fcw rfl rfl fini flk fds ⟨by show d + 1 ≤ R.frames; omega, by show 8 + ((sm_nL T z).1 + 11) + (lw - (19 + (sm_nL T z).1)) ≤ R.locals; omega⟩ (sm_blind hM) hpre hl.2.1 (by rw [sm_sum_map]; exact w2) ⟨by omega, by omega⟩ ?_
                        rcases hop with ⟨rfl, hk⟩ | ⟨rfl, hk⟩ | ⟨rfl, hk⟩
                        · have hk : k = 3 := by omega
                          subst hk
                          exact Or.inl ⟨rfl, by rw [List.length_map, hlen]; rfl, fs rfl, sm_dec_of TB hi rfl⟩
                        · subst hk
                          have hw1 := fw1 (by decide)
                          refine Or.inr ⟨rfl, by rw [List.length_map, hlen]; show w = w - 1 + 1; omega, (fv rfl).1, (fv rfl).2.1, ?_, sm_dec_of TB hi rfl⟩
                          obtain ⟨q8, hq8, hq9⟩ := (fv rfl).2.2
                          obtain ⟨a, rest, fs9, h8, hz9⟩ := sm_rcv4 w3
                          obtain ⟨cellB, r1, r2, r3⟩ := va_recv hK.1 hP hq8 (sm_w_get hz9)
                          exact ⟨ad a, rest.map (sm_v b ad), cellB, by rw [h8]; rfl, r1, r2, by rw [← hq9]; exact r3⟩
                        · omega
                      split at hr
                      · cases hr
                      · next hcat =>
                        cases hr
                        intro ad H locs ls e1 hP hD hS hl
                        have hno : c.exceptionTable.toList = [] := by rw [het, XN _ _ _ hcat]; rfl
                        exact sm_y_out hA hn0 hle g1 e1 hD hS hlk hno (key ad H locs ls hP hD hS hl hroom)
                      · next pc' q hcat =>
                        split at hr
                        · next hok =>
                          have g2 := sm_run_ge _ _ _ _ _ _ _ _ _ _ hr
                          intro ad H locs ls e1 hP hD hS hl
                          exact sm_y_in hx hb hown hts (hKN s hK.2.2.2) hA hn0 hle g1 e1 hD hS hl hok het (XB y pc x pc' q hcat) (key ad H locs ls hP hD hS hl ⟨by omega, by omega⟩) (ih (d + 1) lw y pc' (L.set q none) [] h1 o h' hr p e R s m args below meth c A ad0 n0 C1 S1 hx hb hml hret hlk hown hmn het hts hK hfx hA (Nat.le_trans hn0 g1.2.2) ⟨Nat.le_trans g1.1 hle.1, Nat.le_trans g1.2.1 hle.2⟩ hroom hd hlo)
                        · cases hr
                  · cases hr
                · cases hr
end SMB
end
section
/-! ===== reasoning on runs of the small machine ===== -/
theorem sm_run_more {T : sm_T} {X : Nat × (Nat → Int32)} {ok : Nat → Nat → Bool} : ∀ (n d lw y pc : Nat) (L : sm_L) (S : List Value) (h : sm_H) (r : sm_O × sm_H), sm_run T X ok n d lw y pc L S h = some r → sm_run T X ok (n + 1) d lw y pc L S h = some r := by
  intro n
  induction n with
  | zero => intro d lw y pc L S h r hr; cases hr
  | succ n ih =>
    intro d lw y pc L S h r hr
    unfold sm_run at hr ⊢
    split at hr
    · cases hr
    · next i hi =>
      (try rw [hi])
      (try dsimp only)
      split at hr
      · next hc => (try rw [if_pos hc]); exact hr
      · next hc =>
        (try rw [if_neg hc])
        split at hr
        · next hv =>
          (try rw [hv])
          (try dsimp only)
          split at hr
          · next hs => (try rw [hs]); exact ih _ _ _ _ _ _ _ _ hr
          · cases hr
        · next k z w hv =>
          (try rw [hv])
          (try dsimp only)
          split at hr
          · cases hr
          · next d =>
            (try dsimp only)
            split at hr
            · next hk =>
              (try rw [if_pos hk])
              split at hr
              · next hlw =>
                (try rw [if_pos hlw])
                split at hr
                · next hs => (try rw [hs]); exact ih _ _ _ _ _ _ _ _ hr
                · cases hr
              · cases hr
            · next hk =>
              (try rw [if_neg hk])
              split at hr
              · next hw =>
                (try rw [if_pos hw])
                have hor : ∀ q, sm_or (sm_thr T z (S.take w).reverse h) d (lw - (19 + (sm_nL T z).1)) h (sm_run T X ok n d (lw - (19 + (sm_nL T z).1)) z 0 (sm_ent (sm_nL T z).1 (S.take w).reverse) [] h) = some q → sm_or (sm_thr T z (S.take w).reverse h) d (lw - (19 + (sm_nL T z).1)) h (sm_run T X ok (n + 1) d (lw - (19 + (sm_nL T z).1)) z 0 (sm_ent (sm_nL T z).1 (S.take w).reverse) [] h) = some q := by
                  intro q hq
                  unfold sm_or at hq ⊢
                  split at hq
                  · exact hq
                  · exact ih _ _ _ _ _ _ _ _ hq
                split at hr
                · next v h1 hs =>
                  (try rw [hor _ hs])
                  (try dsimp only)
                  split at hr
                  · next h2 => (try rw [if_pos h2]); exact ih _ _ _ _ _ _ _ _ hr
                  · cases hr
                · next x h1 hs =>
                  (try rw [hor _ hs])
                  (try dsimp only)
                  split at hr
                  · cases hr
                  · next hk5 =>
                    (try rw [if_neg hk5])
                    split at hr
                    · cases hr
                    · next hcat => (try rw [hcat]); exact hr
                    · next hcat =>
                      (try rw [hcat])
                      (try dsimp only)
                      split at hr
                      · next h2 => (try rw [if_pos h2]); exact ih _ _ _ _ _ _ _ _ hr
                      · cases hr
                · cases hr
              · cases hr
theorem sm_run_le {T : sm_T} {X : Nat × (Nat → Int32)} {ok : Nat → Nat → Bool} {n k d lw y pc : Nat} {L : sm_L} {S : List Value} {h : sm_H} {r : sm_O × sm_H} (hr : sm_run T X ok n d lw y pc L S h = some r) (hk : n ≤ k) : sm_run T X ok k d lw y pc L S h = some r := by
  induction k with
  | zero =>
    have : n = 0 := by omega
    subst this
    exact hr
  | succ k ih =>
    by_cases he : n = k + 1
    · subst he; exact hr
    · exact sm_run_more _ _ _ _ _ _ _ _ _ (ih (by omega))
def sm_wp (T : sm_T) (X : Nat × (Nat → Int32)) (ok : Nat → Nat → Bool) (d lw y pc : Nat) (L : sm_L) (S : List Value) (h : sm_H) (Q : sm_O → sm_H → Prop) : Prop := ∃ n o h', sm_run T X ok n d lw y pc L S h = some (o, h') ∧ Q o h'
section SMWP
variable {T : sm_T} {X : Nat × (Nat → Int32)} {ok : Nat → Nat → Bool} {d lw y pc : Nat} {L : sm_L} {S : List Value} {h : sm_H} {Q : sm_O → sm_H → Prop}
theorem wp_mono {Q' : sm_O → sm_H → Prop} (hw : sm_wp T X ok d lw y pc L S h Q') (hq : ∀ o h', Q' o h' → Q o h') : sm_wp T X ok d lw y pc L S h Q := by
  obtain ⟨n, o, h', hr, h1⟩ := hw
  exact ⟨n, o, h', hr, hq o h' h1⟩
theorem wp_i {i : Instr} {r : sm_P} (hins : sm_ins T y pc = some i) (hr : sm_isret i = false) (hv : sm_inv T y i = none) (hi : sm_i T X ok y i pc L S h = some r) (k : sm_wp T X ok d lw y r.1 r.2.1 r.2.2.1 r.2.2.2 Q) : sm_wp T X ok d lw y pc L S h Q := by
  obtain ⟨n, o, h', hrun, hq⟩ := k
  refine ⟨n + 1, o, h', ?_, hq⟩
  unfold sm_run
  rw [hins]
  dsimp only
  rw [if_neg (by rw [hr]; decide), hv]
  dsimp only
  rw [hi]
  exact hrun
theorem wp_ret {i : Instr} {v : Option Value} (hins : sm_ins T y pc = some i) (hr : sm_isret i = true) (hv : sm_ret (sm_nL T y).2.1 i S = some v) (hq : Q (.inl v) h) : sm_wp T X ok d lw y pc L S h Q := by
  refine ⟨1, .inl v, h, ?_, hq⟩
  unfold sm_run
  rw [hins]
  dsimp only
  rw [if_pos hr, hv]
  rfl
theorem wp_lib {i : Instr} {k z w : Nat} {r : sm_P} (hins : sm_ins T y pc = some i) (hr : sm_isret i = false) (hv : sm_inv T y i = some (k, z, w)) (hk : k < 3) (hlw : 100 ≤ lw) (hi : sm_lib k (pc + 3) L S h = some r) (kk : sm_wp T X ok (d + 1) lw y r.1 r.2.1 r.2.2.1 r.2.2.2 Q) : sm_wp T X ok (d + 1) lw y pc L S h Q := by
  obtain ⟨n, o, h', hrun, hq⟩ := kk
  refine ⟨n + 1, o, h', ?_, hq⟩
  unfold sm_run
  rw [hins]
  dsimp only
  rw [if_neg (by rw [hr]; decide), hv]
  dsimp only
  rw [if_pos hk, if_pos hlw, hi]
  exact hrun
theorem wp_call {i : Instr} {k z w : Nat} {Q1 : sm_O → sm_H → Prop} (hins : sm_ins T y pc = some i) (hr : sm_isret i = false) (hv : sm_inv T y i = some (k, z, w)) (hk : ¬ k < 3) (hw : w ≤ S.length ∧ sm_sum (S.drop w) ≤ 8 ∧ sm_rcv k (sm_nL T z).2.2 (S.take w).reverse h = true ∧ (S.take w).all sm_c1 = true ∧ w ≤ (sm_nL T z).1 ∧ 19 + (sm_nL T z).1 ≤ lw)
    (ht : sm_thr T z (S.take w).reverse h = none) (hc : sm_wp T X ok d (lw - (19 + (sm_nL T z).1)) z 0 (sm_ent (sm_nL T z).1 (S.take w).reverse) [] h Q1)
    (kv : ∀ v h1, Q1 (.inl v) h1 → sm_ok2 L (S.drop w) h h1 = true ∧ sm_wp T X ok (d + 1) lw y (pc + 3) L (v.toList ++ S.drop w) h1 Q)
    (kt : ∀ x h1, Q1 (.inr x) h1 → k ≠ 5 ∧ ((sm_cat T y pc x = some none ∧ Q (.inr x) h1) ∨ ∃ pc' q, sm_cat T y pc x = some (some (pc', q)) ∧ sm_ok2 L [] h h1 = true ∧ sm_wp T X ok (d + 1) lw y pc' (L.set q none) [] h1 Q)) : sm_wp T X ok (d + 1) lw y pc L S h Q := by
  obtain ⟨n1, o1, h1, hrun1, hq1⟩ := hc
  cases o1 with
  | inl v =>
    obtain ⟨g1, n2, o, h', hrun, hq⟩ := kv v h1 hq1
    refine ⟨max n1 n2 + 1, o, h', ?_, hq⟩
    unfold sm_run
    rw [hins]
    dsimp only
    rw [if_neg (by rw [hr]; decide), hv]
    dsimp only
    rw [if_neg hk, if_pos hw, ht]
    (try dsimp only [sm_or])
    rw [sm_run_le hrun1 (Nat.le_max_left n1 n2)]
    dsimp only
    rw [if_pos g1]
    exact sm_run_le hrun (Nat.le_max_right n1 n2)
  | inr x =>
    obtain ⟨hk5, kt⟩ := kt x h1 hq1
    rcases kt with ⟨g1, hq⟩ | ⟨pc', q, g1, g2, n2, o, h', hrun, hq⟩
    · refine ⟨n1 + 1, .inr x, h1, ?_, hq⟩
      unfold sm_run
      rw [hins]
      dsimp only
      rw [if_neg (by rw [hr]; decide), hv]
      dsimp only
      rw [if_neg hk, if_pos hw, ht]
      (try dsimp only [sm_or])
      rw [hrun1]
      dsimp only
      rw [if_neg hk5, g1]
    · refine ⟨max n1 n2 + 1, o, h', ?_, hq⟩
      unfold sm_run
      rw [hins]
      dsimp only
      rw [if_neg (by rw [hr]; decide), hv]
      dsimp only
      rw [if_neg hk, if_pos hw, ht]
      (try dsimp only [sm_or])
      rw [sm_run_le hrun1 (Nat.le_max_left n1 n2)]
      dsimp only
      rw [if_neg hk5, g1]
      dsimp only
      rw [if_pos g2]
      exact sm_run_le hrun (Nat.le_max_right n1 n2)
/-- a call of a method that throws at once -/
theorem wp_callT {i : Instr} {k z w x kc ks : Nat} (hk5 : k ≠ 5) (hins : sm_ins T y pc = some i) (hr : sm_isret i = false) (hv : sm_inv T y i = some (k, z, w)) (hk : ¬ k < 3) (hw : w ≤ S.length ∧ sm_sum (S.drop w) ≤ 8 ∧ sm_rcv k (sm_nL T z).2.2 (S.take w).reverse h = true ∧ (S.take w).all sm_c1 = true ∧ w ≤ (sm_nL T z).1 ∧ 19 + (sm_nL T z).1 ≤ lw)
    (ht : sm_thr T z (S.take w).reverse h = some (x, kc, ks)) (hc : kc ≤ h.2.2.2.1 ∧ ks ≤ h.2.2.2.2 ∧ 6 ≤ d ∧ 100 ≤ lw - (19 + (sm_nL T z).1))
    (kt : (sm_cat T y pc x = some none ∧ Q (.inr x) (h.1, h.2.1, h.2.2.1, h.2.2.2.1 - kc, h.2.2.2.2 - ks)) ∨ ∃ pc' q, sm_cat T y pc x = some (some (pc', q)) ∧ sm_wp T X ok (d + 1) lw y pc' (L.set q none) [] (h.1, h.2.1, h.2.2.1, h.2.2.2.1 - kc, h.2.2.2.2 - ks) Q) : sm_wp T X ok (d + 1) lw y pc L S h Q := by
  rcases kt with ⟨g1, hq⟩ | ⟨pc', q, g1, n2, o, h', hrun, hq⟩
  · refine ⟨1, .inr x, _, ?_, hq⟩
    unfold sm_run
    rw [hins]
    dsimp only
    rw [if_neg (by rw [hr]; decide), hv]
    dsimp only
    rw [if_neg hk, if_pos hw, ht]
    dsimp only [sm_or]
    rw [if_pos hc]
    dsimp only
    rw [if_neg hk5, g1]
  · refine ⟨n2 + 1, o, h', ?_, hq⟩
    unfold sm_run
    rw [hins]
    dsimp only
    rw [if_neg (by rw [hr]; decide), hv]
    dsimp only
    rw [if_neg hk, if_pos hw, ht]
    dsimp only [sm_or]
    rw [if_pos hc]
    dsimp only
    rw [if_neg hk5, g1]
    dsimp only
    rw [if_pos (by unfold sm_ok2; simp)]
    exact hrun
end SMWP
end
section
/-! ===== tables as lists, and that a program has looked through them ===== -/
/-- a method: instructions by pc, code, locals, kind of answer (0 none, 1 int, 2 boolean), class number (of its objects), class number (of its pool), name, handlers -/
abbrev tb_M : Type := (Nat → Option Instr) × ByteArray × Nat × Nat × Nat × Nat × MethodName × List (Nat × Nat × Nat × Nat)
def tb_okI (nl : Nat) (c : ByteArray) (f : Nat → Option Instr) : Prop := ∀ pc i, f pc = some i → ∃ len, decode c pc = .ok (i, len) ∧ (sm_tsw i = false → len = sm_len i) ∧ sm_lok nl i = true
def tb_chI (nl : Nat) (c : ByteArray) (f : Nat → Option Instr) (pc : Nat) : Bool := match f pc with
  | none => true
  | some i => match decode c pc with
    | .ok (j, len) => decide (j = i) && (sm_tsw i || decide (len = sm_len i)) && sm_lok nl i
    | _ => false
theorem tb_okI_of {nl : Nat} {c : ByteArray} {f : Nat → Option Instr} (N : Nat) (hN : ∀ pc, N ≤ pc → f pc = none) (h : (List.range N).all (tb_chI nl c f) = true) : tb_okI nl c f := by
  intro pc i hi
  by_cases hp : pc < N
  · have h1 := List.all_eq_true.mp h pc (List.mem_range.mpr hp)
    unfold tb_chI at h1
    rw [hi] at h1
    dsimp only at h1
    split at h1
    · next j len hd =>
      rw [Bool.and_eq_true, Bool.and_eq_true] at h1
      obtain ⟨⟨h2, h3⟩, h4⟩ := h1
      have h2 := of_decide_eq_true h2
      subst h2
      refine ⟨len, hd, fun h5 => ?_, h4⟩
      rw [h5, Bool.false_or] at h3
      exact of_decide_eq_true h3
    · cases h1
  · rw [hN pc (by omega)] at hi
    cases hi
/-- behind the last instruction there is none -/
def tb_cut (N : Nat) (f : Nat → Option Instr) : Nat → Option Instr := fun pc => cond (Nat.blt pc N) (f pc) none
theorem tb_cut_out {N : Nat} {f : Nat → Option Instr} : ∀ pc, N ≤ pc → tb_cut N f pc = none := by
  intro pc h
  unfold tb_cut
  have : Nat.blt pc N = false := by
    cases hb : Nat.blt pc N with
    | false => rfl
    | true => exact absurd (Nat.le_of_ble_eq_true hb) (by show ¬ pc + 1 ≤ N; omega)
  rw [this]
  rfl
def tb_fd {α : Type} (l : List (Nat × Nat × α)) (a b : Nat) : Option α := match l with
  | [] => none
  | q :: r => cond (Nat.beq q.1 a && Nat.beq q.2.1 b) (some q.2.2) (tb_fd r a b)
theorem tb_fd_mem {α : Type} {l : List (Nat × Nat × α)} {a b : Nat} {x : α} (h : tb_fd l a b = some x) : (a, b, x) ∈ l := by
  induction l with
  | nil => cases h
  | cons q r ih =>
    unfold tb_fd at h
    cases hc : (Nat.beq q.1 a && Nat.beq q.2.1 b) with
    | false => rw [hc] at h; exact List.mem_cons_of_mem _ (ih h)
    | true =>
      rw [hc] at h
      rw [Bool.and_eq_true] at hc
      have h1 := Nat.eq_of_beq_eq_true hc.1
      have h2 := Nat.eq_of_beq_eq_true hc.2
      have h3 : q.2.2 = x := Option.some.inj h
      obtain ⟨q1, q2, q3⟩ := q
      dsimp only at h1 h2 h3
      subst h1 h2 h3
      exact List.mem_cons_self
/-- what is said of a class of objects -/
def tb_Cok (cl : List vw_C) (WA : List Cond) (ty : Nat → Nat → FieldType) : Prop := ∀ (ci : Nat) (C : String) (T : u_T) (N : Nat), cl[ci]? = some (C, T, N) →
  (∀ w ∈ u_ws C T N, w ∈ WA) ∧ (∀ i, i < N → parseFieldDescriptor (T i).2.2.1 = some (ty ci i)) ∧ (∀ i, i < N → ∀ j, j < N → i ≠ j → (T i).2.1 ≠ (T j).2.1)
def tb_isq : FieldType → Bool
  | .object _ => true
  | .array _ => true
  | _ => false
def tb_chF (cl : List vw_C) (WA NW : List Cond) (ty : Nat → Nat → FieldType) (cn : Nat → String) (host : String) (q : Nat × Nat × Nat × Nat × Nat) : Bool := match cl[q.2.2.1]? with
  | some (_, T, N) => decide (q.2.2.2.1 < N) &&
    (decide (Cond.fieldLink (cn q.1) q.2.1 (T q.2.2.2.1).1 (T q.2.2.2.1).2.1 (T q.2.2.2.1).2.2.1 ∈ WA) || decide (Cond.fieldLinkNest (cn q.1) q.2.1 (T q.2.2.2.1).1 (T q.2.2.2.1).2.1 (T q.2.2.2.1).2.2.1 host ∈ NW)) &&
    (decide (q.2.2.2.2 = 0 ∧ ty q.2.2.1 q.2.2.2.1 = .int) || decide (q.2.2.2.2 = 1 ∧ ty q.2.2.1 q.2.2.2.1 = .boolean) || (decide (q.2.2.2.2 = 2) && tb_isq (ty q.2.2.1 q.2.2.2.1)))
  | none => false
theorem tb_chF_of {cl : List vw_C} {WA NW : List Cond} {ty : Nat → Nat → FieldType} {cn : Nat → String} {host : String} {o idx ci j k : Nat} (hC : tb_Cok cl WA ty) (h : tb_chF cl WA NW ty cn host (o, idx, ci, j, k) = true) : sm_Fo cl WA NW (cn o) idx ci j k := by
  unfold tb_chF at h
  dsimp only at h
  split at h
  · next C T N hc =>
    obtain ⟨c1, c2, c3⟩ := hC ci C T N hc
    rw [Bool.and_eq_true, Bool.and_eq_true, Bool.or_eq_true, Bool.or_eq_true, Bool.or_eq_true, Bool.and_eq_true] at h
    obtain ⟨⟨h1, h2⟩, h3⟩ := h
    refine ⟨C, T, N, ty ci, hc, of_decide_eq_true h1, c1, ?_, c2, c3, ?_⟩
    · rcases h2 with h2 | h2
      · exact Or.inl (of_decide_eq_true h2)
      · exact Or.inr ⟨host, of_decide_eq_true h2⟩
    · rcases h3 with (h3 | h3) | h3
      · obtain ⟨g1, g2⟩ := of_decide_eq_true h3
        exact ⟨fun _ => g2, fun g => by omega, fun g => by omega⟩
      · obtain ⟨g1, g2⟩ := of_decide_eq_true h3
        exact ⟨fun g => by omega, fun _ => g2, fun g => by omega⟩
      · have g1 := of_decide_eq_true h3.1
        have g2 := h3.2
        refine ⟨fun g => by omega, fun g => by omega, fun _ => ?_⟩
        cases hz : ty ci j with
        | object z => exact Or.inl ⟨z, rfl⟩
        | array z => exact Or.inr ⟨z, rfl⟩
        | _ => rw [hz] at g2; cases g2
  · cases h
def tb_chP (cl : List vw_C) (WA : List Cond) (own : String) (ini : Bool) (FL : List (Nat × Nat × Nat × Nat × Nat)) (o : Nat) (f : Nat → Option Instr) (pc : Nat) : Bool := match f pc with
  | none => true
  | some i => match sm_isput i with
    | none => true
    | some idx => match tb_fd FL o idx with
      | none => true
      | some (ci, j, _) => match cl[ci]? with
        | none => true
        | some (_, T, _) => !(T j).2.2.2 || (ini && decide ((T j).1 = own) && decide (Cond.fieldLink own idx (T j).1 (T j).2.1 (T j).2.2.1 ∈ WA))
def tb_okP (cl : List vw_C) (WA : List Cond) (own : String) (ini : Bool) (FL : List (Nat × Nat × Nat × Nat × Nat)) (o : Nat) (f : Nat → Option Instr) : Prop := ∀ pc i idx ci j k, f pc = some i → sm_isput i = some idx → tb_fd FL o idx = some (ci, j, k) → sm_Fp cl WA own idx ini ci j
theorem tb_okP_of {cl : List vw_C} {WA : List Cond} {own : String} {ini : Bool} {FL : List (Nat × Nat × Nat × Nat × Nat)} {o : Nat} {f : Nat → Option Instr} (N : Nat) (hN : ∀ pc, N ≤ pc → f pc = none) (h : (List.range N).all (tb_chP cl WA own ini FL o f) = true) : tb_okP cl WA own ini FL o f := by
  intro pc i idx ci j k hi hp hf C T M hc hfin
  by_cases hpc : pc < N
  · have h1 := List.all_eq_true.mp h pc (List.mem_range.mpr hpc)
    unfold tb_chP at h1
    rw [hi] at h1
    dsimp only at h1
    rw [hp] at h1
    dsimp only at h1
    rw [hf] at h1
    dsimp only at h1
    rw [hc] at h1
    dsimp only at h1
    rw [hfin] at h1
    simp only [Bool.not_true, Bool.false_or, Bool.and_eq_true, decide_eq_true_eq] at h1
    exact ⟨h1.1.1, h1.1.2, h1.2⟩
  · rw [hN pc (by omega)] at hi
    cases hi
def tb_df (ty : FieldType) (f : Option (Option Nat)) : Bool := match f with
  | none => decide (defaultValue ty = .int 0)
  | some none => decide (defaultValue ty = .null)
  | _ => false
def tb_chN (cl : List vw_C) (WA : List Cond) (ty : Nat → Nat → FieldType) (cn : Nat → String) (q : Nat × Nat × Nat × List (Option (Option Nat))) : Bool := match cl[q.2.2.1]? with
  | some (C, _, N) => decide (q.2.2.2.length = N) && decide (Cond.classLink (cn q.1) q.2.1 C ∈ WA) && decide (Cond.instantiable C N ∈ WA) && decide (Cond.initialized C ∈ WA) && (List.range N).all (fun k => match q.2.2.2[k]? with
    | some f => tb_df (ty q.2.2.1 k) f
    | none => false)
  | none => false
theorem tb_chN_of {cl : List vw_C} {WA : List Cond} {ty : Nat → Nat → FieldType} {cn : Nat → String} {o idx ci : Nat} {fs : List (Option (Option Nat))} (hC : tb_Cok cl WA ty) (h : tb_chN cl WA ty cn (o, idx, ci, fs) = true) : sm_No cl WA (cn o) idx ci fs := by
  unfold tb_chN at h
  dsimp only at h
  split at h
  · next C T N hc =>
    obtain ⟨c1, c2, -⟩ := hC ci C T N hc
    simp only [Bool.and_eq_true, decide_eq_true_eq] at h
    obtain ⟨⟨⟨⟨h1, h2⟩, h3⟩, h4⟩, h5⟩ := h
    subst h1
    refine ⟨C, T, ty ci, hc, c1, c2, h2, h3, h4, fun k hk => ?_⟩
    have h6 := List.all_eq_true.mp h5 k (List.mem_range.mpr hk)
    split at h6
    · next f hf =>
      match f with
      | none => exact Or.inl ⟨hf, of_decide_eq_true h6⟩
      | some none => exact Or.inr ⟨hf, of_decide_eq_true h6⟩
      | some (some z) => cases h6
    · cases h6
  · cases h
end
section
/-! ===== printed by program: the tables of this claim ===== -/
def tb_WA : List Cond := lw_tbl.filter goodWord
def tb_nest : Cond → Bool
  | .fieldLinkNest .. => true
  | .methodLinkNest .. => true
  | _ => false
def tb_NW : List Cond := tables_1.filter tb_nest
def tb_TX0 : u_T := fun k => match k with
  | 0 => ("VaultDevices", "terms", "LVaultDevices$Terms;", true)
  | 1 => ("VaultDevices", "seals", "LVaultDevices$Seals;", true)
  | 2 => ("VaultDevices", "mail", "LVaultDevices$Mail;", true)
  | 3 => ("VaultDevices", "devices", "[LVaultDevices$Device;", true)
  | 4 => ("VaultDevices", "arrived", "LVaultDevices$State;", true)
  | _ => ("VaultDevices", "held", "I", false)
def tb_tX0 : Nat → FieldType := fun k => match k with
  | 0 => .object "VaultDevices$Terms"
  | 1 => .object "VaultDevices$Seals"
  | 2 => .object "VaultDevices$Mail"
  | 3 => .array (.object "VaultDevices$Device")
  | 4 => .object "VaultDevices$State"
  | _ => .int
def tb_TX1 : u_T := fun k => match k with
  | 0 => ("VaultDevices$Terms", "kinds", "[I", true)
  | 1 => ("VaultDevices$Terms", "xs", "[I", true)
  | 2 => ("VaultDevices$Terms", "ys", "[I", true)
  | 3 => ("VaultDevices$Terms", "open", "[Z", true)
  | 4 => ("VaultDevices$Terms", "newest", "[I", true)
  | 5 => ("VaultDevices$Terms", "older", "[I", true)
  | _ => ("VaultDevices$Terms", "size", "I", false)
def tb_tX1 : Nat → FieldType := fun k => match k with
  | 0 => .array .int
  | 1 => .array .int
  | 2 => .array .int
  | 3 => .array .boolean
  | 4 => .array .int
  | 5 => .array .int
  | _ => .int
def tb_TX2 : u_T := fun k => match k with
  | 0 => ("VaultDevices$Seals", "stateRow", "[I", true)
  | 1 => ("VaultDevices$Seals", "entriesRow", "[I", true)
  | _ => ("VaultDevices$Seals", "entryRow", "[I", true)
def tb_tX2 : Nat → FieldType := fun k => match k with
  | 0 => .array .int
  | 1 => .array .int
  | _ => .array .int
def tb_TX3 : u_T := fun k => match k with
  | 0 => ("VaultDevices$Mail", "kinds", "[I", true)
  | 1 => ("VaultDevices$Mail", "addressees", "[I", true)
  | 2 => ("VaultDevices$Mail", "bases", "[I", true)
  | 3 => ("VaultDevices$Mail", "contents", "[I", true)
  | _ => ("VaultDevices$Mail", "size", "I", false)
def tb_tX3 : Nat → FieldType := fun k => match k with
  | 0 => .array .int
  | 1 => .array .int
  | 2 => .array .int
  | 3 => .array .int
  | _ => .int
def tb_TX4 : u_T := fun k => match k with
  | 0 => ("VaultDevices$Device", "state", "LVaultDevices$State;", true)
  | 1 => ("VaultDevices$Device", "acked", "[I", true)
  | 2 => ("VaultDevices$Device", "base", "I", false)
  | _ => ("VaultDevices$Device", "locked", "Z", false)
def tb_tX4 : Nat → FieldType := fun k => match k with
  | 0 => .object "VaultDevices$State"
  | 1 => .array .int
  | 2 => .int
  | _ => .boolean
def tb_TX5 : u_T := fun k => match k with
  | 0 => ("VaultDevices$State", "generation", "I", false)
  | 1 => ("VaultDevices$State", "owner", "I", false)
  | 2 => ("VaultDevices$State", "password", "I", false)
  | 3 => ("VaultDevices$State", "vector", "[I", true)
  | 4 => ("VaultDevices$State", "entries", "[I", true)
  | 5 => ("VaultDevices$State", "size", "I", false)
  | _ => ("VaultDevices$State", "merged", "[I", true)
def tb_tX5 : Nat → FieldType := fun k => match k with
  | 0 => .int
  | 1 => .int
  | 2 => .int
  | 3 => .array .int
  | 4 => .array .int
  | 5 => .int
  | _ => .array .int
def tb_TX6 : u_T := fun k => match k with
  | 0 => ("VaultDevicesModel", "thrown", "I", false)
  | 1 => ("VaultDevicesModel", "terms", "I", false)
  | 2 => ("VaultDevicesModel", "kind", "[I", true)
  | 3 => ("VaultDevicesModel", "left", "[I", true)
  | 4 => ("VaultDevicesModel", "right", "[I", true)
  | 5 => ("VaultDevicesModel", "given", "[Z", true)
  | 6 => ("VaultDevicesModel", "known", "[Z", true)
  | 7 => ("VaultDevicesModel", "over", "Z", false)
  | 8 => ("VaultDevicesModel", "generation", "[I", true)
  | 9 => ("VaultDevicesModel", "changer", "[I", true)
  | 10 => ("VaultDevicesModel", "password", "[I", true)
  | 11 => ("VaultDevicesModel", "vector", "[I", true)
  | 12 => ("VaultDevicesModel", "entries", "[I", true)
  | 13 => ("VaultDevicesModel", "item", "[I", true)
  | 14 => ("VaultDevicesModel", "content", "[I", true)
  | 15 => ("VaultDevicesModel", "maker", "[I", true)
  | 16 => ("VaultDevicesModel", "number", "[I", true)
  | 17 => ("VaultDevicesModel", "open", "[Z", true)
  | 18 => ("VaultDevicesModel", "acked", "[I", true)
  | 19 => ("VaultDevicesModel", "base", "[I", true)
  | 20 => ("VaultDevicesModel", "messages", "I", false)
  | 21 => ("VaultDevicesModel", "what", "[I", true)
  | 22 => ("VaultDevicesModel", "device", "[I", true)
  | 23 => ("VaultDevicesModel", "onto", "[I", true)
  | 24 => ("VaultDevicesModel", "load", "[I", true)
  | 25 => ("VaultDevicesModel", "held", "I", false)
  | 26 => ("VaultDevicesModel", "rest", "I", false)
  | _ => ("VaultDevicesModel", "good", "Z", false)
def tb_tX6 : Nat → FieldType := fun k => match k with
  | 0 => .int
  | 1 => .int
  | 2 => .array .int
  | 3 => .array .int
  | 4 => .array .int
  | 5 => .array .boolean
  | 6 => .array .boolean
  | 7 => .boolean
  | 8 => .array .int
  | 9 => .array .int
  | 10 => .array .int
  | 11 => .array .int
  | 12 => .array .int
  | 13 => .array .int
  | 14 => .array .int
  | 15 => .array .int
  | 16 => .array .int
  | 17 => .array .boolean
  | 18 => .array .int
  | 19 => .array .int
  | 20 => .int
  | 21 => .array .int
  | 22 => .array .int
  | 23 => .array .int
  | 24 => .array .int
  | 25 => .int
  | 26 => .int
  | _ => .boolean
def tb_cl : List vw_C := [("VaultDevices", tb_TX0, 6), ("VaultDevices$Terms", tb_TX1, 7), ("VaultDevices$Seals", tb_TX2, 3), ("VaultDevices$Mail", tb_TX3, 5), ("VaultDevices$Device", tb_TX4, 4), ("VaultDevices$State", tb_TX5, 7), ("VaultDevicesModel", tb_TX6, 28)]
def tb_ty : Nat → Nat → FieldType := fun c => match c with
  | 0 => tb_tX0
  | 1 => tb_tX1
  | 2 => tb_tX2
  | 3 => tb_tX3
  | 4 => tb_tX4
  | 5 => tb_tX5
  | _ => tb_tX6
def tb_cn : Nat → String := fun c => match c with
  | 0 => "VaultDevices"
  | 1 => "VaultDevices$Terms"
  | 2 => "VaultDevices$Seals"
  | 3 => "VaultDevices$Mail"
  | 4 => "VaultDevices$Device"
  | 5 => "VaultDevices$State"
  | 6 => "VaultDevicesModel"
  | 7 => "VaultDevices$Entry"
  | 8 => "VaultDevicesLaw"
  | 9 => "java/util/Arrays"
  | _ => ""
def tb_FL : List (Nat × Nat × Nat × Nat × Nat) := [(1, 9, 1, 0, 2), (1, 15, 1, 1, 2), (1, 18, 1, 2, 2), (1, 21, 1, 3, 2), (1, 25, 1, 4, 2), (1, 28, 1, 5, 2), (2, 21, 1, 6, 0), (1, 37, 1, 6, 0), (2, 11, 2, 0, 2), (2, 15, 2, 1, 2), (2, 18, 2, 2, 2), (3, 9, 3, 0, 2), (0, 120, 3, 0, 2), (3, 15, 3, 1, 2), (0, 123, 3, 1, 2), (3, 18, 3, 2, 2), (0, 126, 3, 2, 2), (3, 21, 3, 3, 2), (0, 129, 3, 3, 2), (3, 24, 3, 4, 0), (0, 119, 3, 4, 0), (5, 21, 5, 0, 0), (2, 52, 5, 0, 0), (0, 98, 5, 0, 0), (5, 25, 5, 1, 0), (2, 55, 5, 1, 0), (0, 165, 5, 1, 0), (5, 28, 5, 2, 0), (0, 63, 5, 2, 0), (2, 58, 5, 2, 0), (5, 9, 5, 3, 2), (2, 31, 5, 3, 2), (0, 70, 5, 3, 2), (5, 15, 5, 4, 2), (2, 62, 5, 4, 2), (5, 31, 5, 5, 0), (2, 61, 5, 5, 0), (0, 74, 5, 5, 0), (5, 18, 5, 6, 2), (4, 12, 4, 0, 2), (0, 60, 4, 0, 2), (4, 18, 4, 1, 2), (0, 162, 4, 1, 2), (4, 22, 4, 2, 0), (0, 113, 4, 2, 0), (4, 26, 4, 3, 1), (0, 56, 4, 3, 1), (0, 10, 0, 0, 2), (0, 19, 0, 1, 2), (0, 26, 0, 2, 2), (0, 32, 0, 3, 2), (0, 40, 0, 4, 2), (0, 44, 0, 5, 0), (6, 78, 6, 0, 0), (6, 81, 6, 1, 0), (6, 7, 6, 2, 2), (6, 13, 6, 3, 2), (6, 16, 6, 4, 2), (6, 19, 6, 5, 2), (6, 23, 6, 6, 2), (6, 88, 6, 7, 1), (6, 26, 6, 8, 2), (6, 29, 6, 9, 2), (6, 32, 6, 10, 2), (6, 35, 6, 11, 2), (6, 38, 6, 12, 2), (6, 41, 6, 13, 2), (6, 44, 6, 14, 2), (6, 47, 6, 15, 2), (6, 50, 6, 16, 2), (6, 53, 6, 17, 2), (6, 56, 6, 18, 2), (6, 59, 6, 19, 2), (6, 145, 6, 20, 0), (6, 62, 6, 21, 2), (6, 65, 6, 22, 2), (6, 68, 6, 23, 2), (6, 71, 6, 24, 2), (6, 74, 6, 25, 0), (6, 125, 6, 26, 0), (6, 122, 6, 27, 1)]
def tb_CL : List (Nat × Nat × Nat × Nat × Nat) := [(8, 42, 5, 0, 1), (0, 1, 0, 0, 1), (0, 9, 5, 28, 1), (1, 3, 0, 0, 1), (1, 31, 3, 140, 2), (0, 18, 5, 43, 1), (2, 3, 0, 0, 1), (0, 25, 5, 54, 1), (3, 3, 0, 0, 1), (0, 36, 5, 57, 1), (4, 3, 0, 0, 1), (4, 11, 5, 58, 1), (5, 3, 0, 0, 1), (0, 39, 5, 58, 1), (8, 79, 4, 1, 2), (0, 48, 3, 2, 2), (0, 132, 4, 55, 2), (0, 135, 4, 3, 3), (0, 168, 4, 44, 4), (2, 84, 4, 29, 3), (1, 49, 4, 30, 3), (1, 45, 4, 31, 2), (2, 88, 4, 30, 3), (2, 91, 4, 31, 2), (2, 94, 4, 32, 2), (1, 41, 3, 2, 2), (2, 97, 4, 33, 2), (2, 100, 4, 34, 3), (2, 103, 3, 45, 3), (2, 113, 3, 46, 2), (2, 116, 4, 59, 4), (2, 120, 3, 2, 2), (2, 107, 3, 47, 3), (2, 110, 3, 48, 3), (2, 124, 3, 49, 2), (2, 134, 3, 125, 4), (2, 127, 4, 60, 2), (5, 54, 3, 126, 1), (5, 61, 4, 61, 2), (5, 47, 3, 127, 1), (5, 50, 3, 2, 2), (5, 87, 3, 128, 1), (2, 131, 4, 62, 2), (5, 43, 3, 63, 3), (0, 172, 4, 64, 2), (0, 176, 4, 65, 2), (5, 57, 4, 66, 2), (5, 64, 2, 0, 5), (5, 70, 4, 67, 2), (5, 77, 1, 0, 2), (5, 74, 4, 68, 2), (5, 83, 4, 59, 4), (0, 180, 2, 0, 5), (0, 139, 4, 4, 2), (0, 116, 4, 35, 2), (1, 60, 4, 36, 1), (1, 63, 4, 37, 2), (0, 105, 4, 56, 5), (8, 83, 4, 5, 2), (8, 87, 4, 6, 3), (8, 91, 4, 7, 1), (8, 95, 4, 8, 3), (0, 142, 4, 38, 2), (8, 99, 4, 9, 2), (8, 103, 4, 10, 4), (0, 146, 4, 39, 4), (1, 53, 4, 40, 4), (8, 107, 4, 11, 2), (8, 111, 4, 12, 2), (0, 109, 4, 50, 3), (2, 27, 4, 51, 3), (2, 36, 4, 39, 4), (2, 40, 4, 52, 3), (2, 65, 4, 53, 3), (2, 69, 3, 129, 1), (2, 75, 3, 127, 1), (2, 78, 3, 126, 1), (2, 81, 3, 130, 1), (2, 44, 4, 41, 4), (1, 57, 4, 39, 4), (2, 48, 4, 42, 2), (8, 115, 4, 13, 2), (8, 119, 4, 14, 3), (0, 150, 4, 31, 2), (0, 153, 4, 33, 2), (0, 156, 4, 32, 2), (8, 123, 4, 15, 2), (0, 159, 4, 40, 4), (8, 127, 4, 16, 3), (8, 131, 4, 17, 1), (8, 46, 3, 131, 4), (8, 7, 4, 18, 3), (0, 52, 3, 19, 1), (8, 56, 3, 132, 3), (8, 15, 4, 20, 2), (8, 60, 3, 133, 5), (8, 19, 4, 21, 4), (0, 66, 3, 22, 1), (0, 77, 4, 69, 2), (5, 34, 3, 129, 1), (0, 81, 4, 70, 2), (0, 85, 3, 125, 4), (0, 91, 4, 62, 2), (8, 64, 3, 134, 4), (8, 25, 4, 23, 3), (8, 67, 3, 135, 5), (8, 29, 4, 24, 4), (0, 94, 4, 71, 3), (5, 40, 3, 130, 1), (8, 70, 3, 136, 4), (8, 32, 4, 25, 3), (0, 101, 4, 59, 4), (8, 73, 3, 137, 3), (8, 35, 4, 26, 2), (8, 76, 3, 138, 3), (8, 38, 4, 27, 2), (8, 45, 5, 72, 1), (6, 1, 0, 0, 1), (8, 52, 4, 73, 1), (8, 51, 4, 74, 3), (6, 158, 3, 75, 1), (8, 59, 4, 76, 2), (8, 63, 4, 77, 4), (6, 161, 4, 78, 3), (6, 165, 4, 79, 4), (6, 107, 4, 80, 3), (6, 99, 4, 81, 6), (6, 118, 4, 82, 2), (6, 103, 4, 83, 3), (8, 66, 4, 84, 3), (8, 69, 4, 85, 4), (8, 72, 4, 86, 3), (8, 75, 4, 87, 2), (6, 169, 4, 88, 5), (8, 78, 4, 89, 2), (6, 179, 4, 90, 2), (6, 173, 4, 91, 2), (6, 92, 4, 92, 4), (6, 84, 4, 93, 4), (6, 95, 4, 94, 2), (6, 176, 4, 95, 3), (8, 82, 4, 96, 2), (6, 182, 4, 97, 2), (6, 185, 4, 98, 3), (6, 148, 4, 99, 2), (6, 128, 4, 100, 3), (6, 135, 4, 101, 3), (6, 131, 4, 102, 1), (6, 139, 4, 103, 2), (6, 142, 4, 104, 2), (6, 114, 4, 105, 4), (6, 152, 4, 106, 2), (6, 111, 4, 107, 3), (6, 155, 4, 108, 2), (8, 86, 4, 109, 2), (8, 90, 4, 110, 3), (8, 94, 4, 111, 1), (8, 98, 4, 112, 3), (6, 194, 4, 113, 2), (6, 188, 4, 114, 2), (6, 191, 4, 115, 1), (8, 102, 4, 116, 2), (8, 106, 4, 117, 4), (8, 110, 4, 118, 2), (8, 114, 4, 119, 2), (8, 118, 4, 120, 2), (8, 122, 4, 121, 3), (8, 126, 4, 122, 2), (8, 130, 4, 123, 3), (8, 134, 4, 124, 1)]
def tb_NL : List (Nat × Nat × Nat × List (Option (Option Nat))) := [(8, 8, 0, [some none, some none, some none, some none, some none, none]), (0, 7, 1, [some none, some none, some none, some none, some none, some none, none]), (0, 16, 2, [some none, some none, some none]), (0, 23, 3, [some none, some none, some none, some none, none]), (0, 30, 4, [some none, some none, none, none]), (4, 9, 5, [none, none, none, some none, some none, none, some none]), (0, 37, 5, [none, none, none, some none, some none, none, some none]), (8, 43, 6, [none, none, some none, some none, some none, some none, some none, none, some none, some none, some none, some none, some none, some none, some none, some none, some none, some none, some none, some none, none, some none, some none, some none, some none, none, none, none])]
def tb_AL : List (Nat × Nat × Nat) := [(0, 30, 3)]
def tb_TL : List (Nat × Nat × Nat × Nat × Nat) := [(19, 4, 0, 1, 6), (22, 7, 1, 1, 6)]
def tb_XL : List (Nat × Nat × Nat × Nat) := [(131, 10, 22, 4), (132, 8, 20, 3), (133, 14, 17, 5), (133, 15, 21, 5), (134, 10, 15, 4), (134, 11, 19, 4), (135, 14, 17, 5), (135, 15, 21, 5), (136, 10, 15, 4), (136, 11, 19, 4), (137, 8, 20, 3), (137, 9, 23, 3), (138, 8, 13, 3), (138, 9, 16, 3)]
theorem tb_n0 : ∀ a, a < 6 → ∀ b, b < 6 → a ≠ b → (tb_TX0 a).2.1 ≠ (tb_TX0 b).2.1 := by decide +kernel
theorem tb_d0 : ∀ k, k < 6 → parseFieldDescriptor (tb_TX0 k).2.2.1 = some (tb_tX0 k) := by decide +kernel
theorem tb_w0 : ∀ w ∈ u_ws "VaultDevices" tb_TX0 6, w ∈ tb_WA := by decide +kernel
theorem tb_n1 : ∀ a, a < 7 → ∀ b, b < 7 → a ≠ b → (tb_TX1 a).2.1 ≠ (tb_TX1 b).2.1 := by decide +kernel
theorem tb_d1 : ∀ k, k < 7 → parseFieldDescriptor (tb_TX1 k).2.2.1 = some (tb_tX1 k) := by decide +kernel
theorem tb_w1 : ∀ w ∈ u_ws "VaultDevices$Terms" tb_TX1 7, w ∈ tb_WA := by decide +kernel
theorem tb_n2 : ∀ a, a < 3 → ∀ b, b < 3 → a ≠ b → (tb_TX2 a).2.1 ≠ (tb_TX2 b).2.1 := by decide +kernel
theorem tb_d2 : ∀ k, k < 3 → parseFieldDescriptor (tb_TX2 k).2.2.1 = some (tb_tX2 k) := by decide +kernel
theorem tb_w2 : ∀ w ∈ u_ws "VaultDevices$Seals" tb_TX2 3, w ∈ tb_WA := by decide +kernel
theorem tb_n3 : ∀ a, a < 5 → ∀ b, b < 5 → a ≠ b → (tb_TX3 a).2.1 ≠ (tb_TX3 b).2.1 := by decide +kernel
theorem tb_d3 : ∀ k, k < 5 → parseFieldDescriptor (tb_TX3 k).2.2.1 = some (tb_tX3 k) := by decide +kernel
theorem tb_w3 : ∀ w ∈ u_ws "VaultDevices$Mail" tb_TX3 5, w ∈ tb_WA := by decide +kernel
theorem tb_n4 : ∀ a, a < 4 → ∀ b, b < 4 → a ≠ b → (tb_TX4 a).2.1 ≠ (tb_TX4 b).2.1 := by decide +kernel
theorem tb_d4 : ∀ k, k < 4 → parseFieldDescriptor (tb_TX4 k).2.2.1 = some (tb_tX4 k) := by decide +kernel
theorem tb_w4 : ∀ w ∈ u_ws "VaultDevices$Device" tb_TX4 4, w ∈ tb_WA := by decide +kernel
theorem tb_n5 : ∀ a, a < 7 → ∀ b, b < 7 → a ≠ b → (tb_TX5 a).2.1 ≠ (tb_TX5 b).2.1 := by decide +kernel
theorem tb_d5 : ∀ k, k < 7 → parseFieldDescriptor (tb_TX5 k).2.2.1 = some (tb_tX5 k) := by decide +kernel
theorem tb_w5 : ∀ w ∈ u_ws "VaultDevices$State" tb_TX5 7, w ∈ tb_WA := by decide +kernel
theorem tb_n6 : ∀ a, a < 28 → ∀ b, b < 28 → a ≠ b → (tb_TX6 a).2.1 ≠ (tb_TX6 b).2.1 := by decide +kernel
theorem tb_d6 : ∀ k, k < 28 → parseFieldDescriptor (tb_TX6 k).2.2.1 = some (tb_tX6 k) := by decide +kernel
theorem tb_w6 : ∀ w ∈ u_ws "VaultDevicesModel" tb_TX6 28, w ∈ tb_WA := by decide +kernel
theorem tb_C : tb_Cok tb_cl tb_WA tb_ty := by
  intro ci C T N h
  match ci, h with
  | 0, h => cases h; exact ⟨tb_w0, tb_d0, tb_n0⟩
  | 1, h => cases h; exact ⟨tb_w1, tb_d1, tb_n1⟩
  | 2, h => cases h; exact ⟨tb_w2, tb_d2, tb_n2⟩
  | 3, h => cases h; exact ⟨tb_w3, tb_d3, tb_n3⟩
  | 4, h => cases h; exact ⟨tb_w4, tb_d4, tb_n4⟩
  | 5, h => cases h; exact ⟨tb_w5, tb_d5, tb_n5⟩
  | 6, h => cases h; exact ⟨tb_w6, tb_d6, tb_n6⟩
  | n + 7, h => exact absurd (List.getElem?_eq_some_iff.mp h).1 (by show ¬ n + 7 < 7; omega)
theorem tb_F : ∀ q ∈ tb_FL, tb_chF tb_cl tb_WA tb_NW tb_ty tb_cn "VaultDevices" q = true := by decide +kernel
theorem tb_N : ∀ q ∈ tb_NL, tb_chN tb_cl tb_WA tb_ty tb_cn q = true := by decide +kernel
end
section
/-- VaultDevices.<init>()V -/
def tb_f0 : Nat → Option Instr := tb_cut 88 (fun pc => cond (Nat.blt pc 46) (cond (Nat.blt pc 23) (cond (Nat.blt pc 9) (cond (Nat.blt pc 4) (cond (Nat.blt pc 1) (cond (Nat.beq pc 0) (some (.aload_n 0)) none) (cond (Nat.beq pc 1) (some (.invokespecial 1)) none)) (cond (Nat.blt pc 5) (cond (Nat.beq pc 4) (some (.aload_n 0)) none) (cond (Nat.blt pc 8) (cond (Nat.beq pc 5) (some (.new 7)) none) (cond (Nat.beq pc 8) (some (.dup)) none)))) (cond (Nat.blt pc 16) (cond (Nat.blt pc 12) (cond (Nat.beq pc 9) (some (.invokespecial 9)) none) (cond (Nat.blt pc 15) (cond (Nat.beq pc 12) (some (.putfield 10)) none) (cond (Nat.beq pc 15) (some (.aload_n 0)) none))) (cond (Nat.blt pc 19) (cond (Nat.beq pc 16) (some (.new 16)) none) (cond (Nat.blt pc 20) (cond (Nat.beq pc 19) (some (.dup)) none) (cond (Nat.beq pc 20) (some (.invokespecial 18)) none))))) (cond (Nat.blt pc 34) (cond (Nat.blt pc 27) (cond (Nat.blt pc 26) (cond (Nat.beq pc 23) (some (.putfield 19)) none) (cond (Nat.beq pc 26) (some (.aload_n 0)) none)) (cond (Nat.blt pc 30) (cond (Nat.beq pc 27) (some (.new 23)) none) (cond (Nat.blt pc 31) (cond (Nat.beq pc 30) (some (.dup)) none) (cond (Nat.beq pc 31) (some (.invokespecial 25)) none)))) (cond (Nat.blt pc 39) (cond (Nat.blt pc 37) (cond (Nat.beq pc 34) (some (.putfield 26)) none) (cond (Nat.blt pc 38) (cond (Nat.beq pc 37) (some (.aload_n 0)) none) (cond (Nat.beq pc 38) (some (.iconst 3)) none))) (cond (Nat.blt pc 42) (cond (Nat.beq pc 39) (some (.anewarray 30)) none) (cond (Nat.blt pc 45) (cond (Nat.beq pc 42) (some (.putfield 32)) none) (cond (Nat.beq pc 45) (some (.iconst 0)) none)))))) (cond (Nat.blt pc 65) (cond (Nat.blt pc 53) (cond (Nat.blt pc 48) (cond (Nat.blt pc 47) (cond (Nat.beq pc 46) (some (.istore_n 1)) none) (cond (Nat.beq pc 47) (some (.iload_n 1)) none)) (cond (Nat.blt pc 49) (cond (Nat.beq pc 48) (some (.iconst 3)) none) (cond (Nat.blt pc 52) (cond (Nat.beq pc 49) (some (.if_icmp .ge 22)) none) (cond (Nat.beq pc 52) (some (.aload_n 0)) none)))) (cond (Nat.blt pc 60) (cond (Nat.blt pc 56) (cond (Nat.beq pc 53) (some (.getfield 32)) none) (cond (Nat.blt pc 57) (cond (Nat.beq pc 56) (some (.iload_n 1)) none) (cond (Nat.beq pc 57) (some (.new 30)) none))) (cond (Nat.blt pc 61) (cond (Nat.beq pc 60) (some (.dup)) none) (cond (Nat.blt pc 64) (cond (Nat.beq pc 61) (some (.invokespecial 36)) none) (cond (Nat.beq pc 64) (some (.aastore)) none))))) (cond (Nat.blt pc 76) (cond (Nat.blt pc 71) (cond (Nat.blt pc 68) (cond (Nat.beq pc 65) (some (.iinc 1 1)) none) (cond (Nat.beq pc 68) (some (.goto (-21))) none)) (cond (Nat.blt pc 72) (cond (Nat.beq pc 71) (some (.aload_n 0)) none) (cond (Nat.blt pc 75) (cond (Nat.beq pc 72) (some (.new 37)) none) (cond (Nat.beq pc 75) (some (.dup)) none)))) (cond (Nat.blt pc 83) (cond (Nat.blt pc 79) (cond (Nat.beq pc 76) (some (.invokespecial 39)) none) (cond (Nat.blt pc 82) (cond (Nat.beq pc 79) (some (.putfield 40)) none) (cond (Nat.beq pc 82) (some (.aload_n 0)) none))) (cond (Nat.blt pc 84) (cond (Nat.beq pc 83) (some (.iconst (-1))) none) (cond (Nat.blt pc 87) (cond (Nat.beq pc 84) (some (.putfield 44)) none) (cond (Nat.beq pc 87) (some (.return_)) none)))))))
theorem tb_i0 : tb_okI 2 prog_1_method_1_code tb_f0 := tb_okI_of 88 tb_cut_out (by decide +kernel)
theorem tb_p0 : tb_okP tb_cl tb_WA "VaultDevices" true tb_FL 0 tb_f0 := tb_okP_of 88 tb_cut_out (by decide +kernel)
/-- VaultDevices.deliver(I)Z -/
def tb_f1 : Nat → Option Instr := tb_cut 107 (fun pc => cond (Nat.blt pc 55) (cond (Nat.blt pc 27) (cond (Nat.blt pc 15) (cond (Nat.blt pc 5) (cond (Nat.blt pc 1) (cond (Nat.beq pc 0) (some (.iload_n 1)) none) (cond (Nat.blt pc 2) (cond (Nat.beq pc 1) (some (.aload_n 0)) none) (cond (Nat.beq pc 2) (some (.getfield 26)) none))) (cond (Nat.blt pc 11) (cond (Nat.blt pc 8) (cond (Nat.beq pc 5) (some (.getfield 119)) none) (cond (Nat.beq pc 8) (some (.invokestatic 48)) none)) (cond (Nat.blt pc 14) (cond (Nat.beq pc 11) (some (.ifCond .ne 5)) none) (cond (Nat.beq pc 14) (some (.iconst 0)) none)))) (cond (Nat.blt pc 23) (cond (Nat.blt pc 17) (cond (Nat.blt pc 16) (cond (Nat.beq pc 15) (some (.ireturn)) none) (cond (Nat.beq pc 16) (some (.aload_n 0)) none)) (cond (Nat.blt pc 20) (cond (Nat.beq pc 17) (some (.getfield 26)) none) (cond (Nat.beq pc 20) (some (.getfield 120)) none))) (cond (Nat.blt pc 25) (cond (Nat.blt pc 24) (cond (Nat.beq pc 23) (some (.iload_n 1)) none) (cond (Nat.beq pc 24) (some (.iaload)) none)) (cond (Nat.blt pc 26) (cond (Nat.beq pc 25) (some (.istore_n 2)) none) (cond (Nat.beq pc 26) (some (.aload_n 0)) none))))) (cond (Nat.blt pc 40) (cond (Nat.blt pc 34) (cond (Nat.blt pc 30) (cond (Nat.beq pc 27) (some (.getfield 26)) none) (cond (Nat.blt pc 33) (cond (Nat.beq pc 30) (some (.getfield 123)) none) (cond (Nat.beq pc 33) (some (.iload_n 1)) none))) (cond (Nat.blt pc 36) (cond (Nat.blt pc 35) (cond (Nat.beq pc 34) (some (.iaload)) none) (cond (Nat.beq pc 35) (some (.istore_n 3)) none)) (cond (Nat.blt pc 37) (cond (Nat.beq pc 36) (some (.aload_n 0)) none) (cond (Nat.beq pc 37) (some (.getfield 26)) none)))) (cond (Nat.blt pc 47) (cond (Nat.blt pc 44) (cond (Nat.blt pc 43) (cond (Nat.beq pc 40) (some (.getfield 126)) none) (cond (Nat.beq pc 43) (some (.iload_n 1)) none)) (cond (Nat.blt pc 45) (cond (Nat.beq pc 44) (some (.iaload)) none) (cond (Nat.beq pc 45) (some (.istore 4)) none))) (cond (Nat.blt pc 51) (cond (Nat.blt pc 48) (cond (Nat.beq pc 47) (some (.aload_n 0)) none) (cond (Nat.beq pc 48) (some (.getfield 26)) none)) (cond (Nat.blt pc 54) (cond (Nat.beq pc 51) (some (.getfield 129)) none) (cond (Nat.beq pc 54) (some (.iload_n 1)) none)))))) (cond (Nat.blt pc 80) (cond (Nat.blt pc 67) (cond (Nat.blt pc 59) (cond (Nat.blt pc 56) (cond (Nat.beq pc 55) (some (.iaload)) none) (cond (Nat.blt pc 58) (cond (Nat.beq pc 56) (some (.istore 5)) none) (cond (Nat.beq pc 58) (some (.aload_n 0)) none))) (cond (Nat.blt pc 63) (cond (Nat.blt pc 62) (cond (Nat.beq pc 59) (some (.getfield 26)) none) (cond (Nat.beq pc 62) (some (.iload_n 1)) none)) (cond (Nat.blt pc 66) (cond (Nat.beq pc 63) (some (.invokevirtual 132)) none) (cond (Nat.beq pc 66) (some (.iload_n 2)) none)))) (cond (Nat.blt pc 73) (cond (Nat.blt pc 71) (cond (Nat.blt pc 68) (cond (Nat.beq pc 67) (some (.iconst 2)) none) (cond (Nat.beq pc 68) (some (.if_icmp .ne 12)) none)) (cond (Nat.blt pc 72) (cond (Nat.beq pc 71) (some (.aload_n 0)) none) (cond (Nat.beq pc 72) (some (.iload_n 3)) none))) (cond (Nat.blt pc 78) (cond (Nat.blt pc 75) (cond (Nat.beq pc 73) (some (.iload 5)) none) (cond (Nat.beq pc 75) (some (.invokevirtual 135)) none)) (cond (Nat.blt pc 79) (cond (Nat.beq pc 78) (some (.iconst 1)) none) (cond (Nat.beq pc 79) (some (.ireturn)) none))))) (cond (Nat.blt pc 94) (cond (Nat.blt pc 85) (cond (Nat.blt pc 81) (cond (Nat.beq pc 80) (some (.iload_n 2)) none) (cond (Nat.blt pc 82) (cond (Nat.beq pc 81) (some (.iconst 1)) none) (cond (Nat.beq pc 82) (some (.if_icmp .ne 18)) none))) (cond (Nat.blt pc 88) (cond (Nat.blt pc 87) (cond (Nat.beq pc 85) (some (.iload 4)) none) (cond (Nat.beq pc 87) (some (.aload_n 0)) none)) (cond (Nat.blt pc 91) (cond (Nat.beq pc 88) (some (.getfield 44)) none) (cond (Nat.beq pc 91) (some (.if_icmp .ne 9)) none)))) (cond (Nat.blt pc 101) (cond (Nat.blt pc 97) (cond (Nat.blt pc 95) (cond (Nat.beq pc 94) (some (.aload_n 0)) none) (cond (Nat.beq pc 95) (some (.iload 5)) none)) (cond (Nat.blt pc 100) (cond (Nat.beq pc 97) (some (.putfield 44)) none) (cond (Nat.beq pc 100) (some (.aload_n 0)) none))) (cond (Nat.blt pc 105) (cond (Nat.blt pc 102) (cond (Nat.beq pc 101) (some (.iload_n 3)) none) (cond (Nat.beq pc 102) (some (.invokevirtual 139)) none)) (cond (Nat.blt pc 106) (cond (Nat.beq pc 105) (some (.iconst 1)) none) (cond (Nat.beq pc 106) (some (.ireturn)) none)))))))
theorem tb_i1 : tb_okI 6 prog_1_method_10_code tb_f1 := tb_okI_of 107 tb_cut_out (by decide +kernel)
theorem tb_p1 : tb_okP tb_cl tb_WA "VaultDevices" false tb_FL 0 tb_f1 := tb_okP_of 107 tb_cut_out (by decide +kernel)
/-- VaultDevices.isBelow(II)Z -/
def tb_f2 : Nat → Option Instr := tb_cut 15 (fun pc => cond (Nat.blt pc 6) (cond (Nat.blt pc 4) (cond (Nat.blt pc 1) (cond (Nat.beq pc 0) (some (.iload_n 0)) none) (cond (Nat.beq pc 1) (some (.ifCond .lt 12)) none)) (cond (Nat.blt pc 5) (cond (Nat.beq pc 4) (some (.iload_n 0)) none) (cond (Nat.beq pc 5) (some (.iload_n 1)) none))) (cond (Nat.blt pc 10) (cond (Nat.blt pc 9) (cond (Nat.beq pc 6) (some (.if_icmp .ge 7)) none) (cond (Nat.beq pc 9) (some (.iconst 1)) none)) (cond (Nat.blt pc 13) (cond (Nat.beq pc 10) (some (.goto 4)) none) (cond (Nat.blt pc 14) (cond (Nat.beq pc 13) (some (.iconst 0)) none) (cond (Nat.beq pc 14) (some (.ireturn)) none)))))
theorem tb_i2 : tb_okI 2 prog_1_method_26_code tb_f2 := tb_okI_of 15 tb_cut_out (by decide +kernel)
theorem tb_p2 : tb_okP tb_cl tb_WA "VaultDevices" false tb_FL 0 tb_f2 := tb_okP_of 15 tb_cut_out (by decide +kernel)
/-- VaultDevices.takeReply(II)V -/
def tb_f3 : Nat → Option Instr := tb_cut 86 (fun pc => cond (Nat.blt pc 44) (cond (Nat.blt pc 19) (cond (Nat.blt pc 7) (cond (Nat.blt pc 4) (cond (Nat.blt pc 1) (cond (Nat.beq pc 0) (some (.aload_n 0)) none) (cond (Nat.beq pc 1) (some (.getfield 32)) none)) (cond (Nat.blt pc 5) (cond (Nat.beq pc 4) (some (.iload_n 1)) none) (cond (Nat.blt pc 6) (cond (Nat.beq pc 5) (some (.aaload)) none) (cond (Nat.beq pc 6) (some (.astore_n 3)) none)))) (cond (Nat.blt pc 14) (cond (Nat.blt pc 8) (cond (Nat.beq pc 7) (some (.aload_n 3)) none) (cond (Nat.blt pc 11) (cond (Nat.beq pc 8) (some (.getfield 56)) none) (cond (Nat.beq pc 11) (some (.ifCond .ne 36)) none))) (cond (Nat.blt pc 15) (cond (Nat.beq pc 14) (some (.aload_n 0)) none) (cond (Nat.blt pc 18) (cond (Nat.beq pc 15) (some (.getfield 19)) none) (cond (Nat.beq pc 18) (some (.aload_n 0)) none))))) (cond (Nat.blt pc 30) (cond (Nat.blt pc 23) (cond (Nat.blt pc 22) (cond (Nat.beq pc 19) (some (.getfield 10)) none) (cond (Nat.beq pc 22) (some (.iload_n 2)) none)) (cond (Nat.blt pc 24) (cond (Nat.beq pc 23) (some (.aload_n 0)) none) (cond (Nat.blt pc 27) (cond (Nat.beq pc 24) (some (.getfield 40)) none) (cond (Nat.beq pc 27) (some (.invokevirtual 168)) none)))) (cond (Nat.blt pc 37) (cond (Nat.blt pc 33) (cond (Nat.beq pc 30) (some (.ifCond .eq 17)) none) (cond (Nat.blt pc 34) (cond (Nat.beq pc 33) (some (.aload_n 0)) none) (cond (Nat.beq pc 34) (some (.getfield 40)) none))) (cond (Nat.blt pc 38) (cond (Nat.beq pc 37) (some (.aload_n 3)) none) (cond (Nat.blt pc 41) (cond (Nat.beq pc 38) (some (.getfield 162)) none) (cond (Nat.beq pc 41) (some (.invokevirtual 172)) none)))))) (cond (Nat.blt pc 67) (cond (Nat.blt pc 53) (cond (Nat.blt pc 48) (cond (Nat.blt pc 47) (cond (Nat.beq pc 44) (some (.ifCond .ne 4)) none) (cond (Nat.beq pc 47) (some (.return_)) none)) (cond (Nat.blt pc 49) (cond (Nat.beq pc 48) (some (.aload_n 3)) none) (cond (Nat.blt pc 52) (cond (Nat.beq pc 49) (some (.getfield 60)) none) (cond (Nat.beq pc 52) (some (.aload_n 0)) none)))) (cond (Nat.blt pc 62) (cond (Nat.blt pc 56) (cond (Nat.beq pc 53) (some (.getfield 40)) none) (cond (Nat.blt pc 59) (cond (Nat.beq pc 56) (some (.invokevirtual 176)) none) (cond (Nat.beq pc 59) (some (.ifCond .ne 4)) none))) (cond (Nat.blt pc 63) (cond (Nat.beq pc 62) (some (.return_)) none) (cond (Nat.blt pc 64) (cond (Nat.beq pc 63) (some (.aload_n 0)) none) (cond (Nat.beq pc 64) (some (.getfield 40)) none))))) (cond (Nat.blt pc 76) (cond (Nat.blt pc 71) (cond (Nat.blt pc 70) (cond (Nat.beq pc 67) (some (.getfield 70)) none) (cond (Nat.beq pc 70) (some (.iconst 0)) none)) (cond (Nat.blt pc 72) (cond (Nat.beq pc 71) (some (.aload_n 3)) none) (cond (Nat.blt pc 75) (cond (Nat.beq pc 72) (some (.getfield 162)) none) (cond (Nat.beq pc 75) (some (.iconst 0)) none)))) (cond (Nat.blt pc 81) (cond (Nat.blt pc 77) (cond (Nat.beq pc 76) (some (.iconst 3)) none) (cond (Nat.blt pc 80) (cond (Nat.beq pc 77) (some (.invokestatic 180)) none) (cond (Nat.beq pc 80) (some (.aload_n 3)) none))) (cond (Nat.blt pc 82) (cond (Nat.beq pc 81) (some (.iload_n 2)) none) (cond (Nat.blt pc 85) (cond (Nat.beq pc 82) (some (.putfield 113)) none) (cond (Nat.beq pc 85) (some (.return_)) none)))))))
theorem tb_i3 : tb_okI 4 prog_1_method_25_code tb_f3 := tb_okI_of 86 tb_cut_out (by decide +kernel)
theorem tb_p3 : tb_okP tb_cl tb_WA "VaultDevices" false tb_FL 0 tb_f3 := tb_okP_of 86 tb_cut_out (by decide +kernel)
/-- VaultDevices.sendHeld(I)V -/
def tb_f4 : Nat → Option Instr := tb_cut 26 (fun pc => cond (Nat.blt pc 15) (cond (Nat.blt pc 5) (cond (Nat.blt pc 1) (cond (Nat.beq pc 0) (some (.aload_n 0)) none) (cond (Nat.blt pc 4) (cond (Nat.beq pc 1) (some (.getfield 10)) none) (cond (Nat.beq pc 4) (some (.aload_n 0)) none))) (cond (Nat.blt pc 11) (cond (Nat.blt pc 8) (cond (Nat.beq pc 5) (some (.getfield 44)) none) (cond (Nat.beq pc 8) (some (.invokevirtual 116)) none)) (cond (Nat.blt pc 12) (cond (Nat.beq pc 11) (some (.aload_n 0)) none) (cond (Nat.beq pc 12) (some (.getfield 26)) none)))) (cond (Nat.blt pc 18) (cond (Nat.blt pc 16) (cond (Nat.beq pc 15) (some (.iconst 2)) none) (cond (Nat.blt pc 17) (cond (Nat.beq pc 16) (some (.iload_n 1)) none) (cond (Nat.beq pc 17) (some (.iconst (-1))) none))) (cond (Nat.blt pc 22) (cond (Nat.blt pc 19) (cond (Nat.beq pc 18) (some (.aload_n 0)) none) (cond (Nat.beq pc 19) (some (.getfield 44)) none)) (cond (Nat.blt pc 25) (cond (Nat.beq pc 22) (some (.invokevirtual 105)) none) (cond (Nat.beq pc 25) (some (.return_)) none)))))
theorem tb_i4 : tb_okI 2 prog_1_method_24_code tb_f4 := tb_okI_of 26 tb_cut_out (by decide +kernel)
theorem tb_p4 : tb_okP tb_cl tb_WA "VaultDevices" false tb_FL 0 tb_f4 := tb_okP_of 26 tb_cut_out (by decide +kernel)
/-- VaultDevices.drop(I)Z -/
def tb_f5 : Nat → Option Instr := tb_cut 26 (fun pc => cond (Nat.blt pc 15) (cond (Nat.blt pc 5) (cond (Nat.blt pc 1) (cond (Nat.beq pc 0) (some (.iload_n 1)) none) (cond (Nat.blt pc 2) (cond (Nat.beq pc 1) (some (.aload_n 0)) none) (cond (Nat.beq pc 2) (some (.getfield 26)) none))) (cond (Nat.blt pc 11) (cond (Nat.blt pc 8) (cond (Nat.beq pc 5) (some (.getfield 119)) none) (cond (Nat.beq pc 8) (some (.invokestatic 48)) none)) (cond (Nat.blt pc 14) (cond (Nat.beq pc 11) (some (.ifCond .ne 5)) none) (cond (Nat.beq pc 14) (some (.iconst 0)) none)))) (cond (Nat.blt pc 20) (cond (Nat.blt pc 16) (cond (Nat.beq pc 15) (some (.ireturn)) none) (cond (Nat.blt pc 17) (cond (Nat.beq pc 16) (some (.aload_n 0)) none) (cond (Nat.beq pc 17) (some (.getfield 26)) none))) (cond (Nat.blt pc 24) (cond (Nat.blt pc 21) (cond (Nat.beq pc 20) (some (.iload_n 1)) none) (cond (Nat.beq pc 21) (some (.invokevirtual 132)) none)) (cond (Nat.blt pc 25) (cond (Nat.beq pc 24) (some (.iconst 1)) none) (cond (Nat.beq pc 25) (some (.ireturn)) none)))))
theorem tb_i5 : tb_okI 2 prog_1_method_11_code tb_f5 := tb_okI_of 26 tb_cut_out (by decide +kernel)
theorem tb_p5 : tb_okP tb_cl tb_WA "VaultDevices" false tb_FL 0 tb_f5 := tb_okP_of 26 tb_cut_out (by decide +kernel)
/-- VaultDevices.message(II)I -/
def tb_f6 : Nat → Option Instr := tb_cut 90 (fun pc => cond (Nat.blt pc 62) (cond (Nat.blt pc 17) (cond (Nat.blt pc 8) (cond (Nat.blt pc 2) (cond (Nat.blt pc 1) (cond (Nat.beq pc 0) (some (.iload_n 1)) none) (cond (Nat.beq pc 1) (some (.aload_n 0)) none)) (cond (Nat.blt pc 5) (cond (Nat.beq pc 2) (some (.getfield 26)) none) (cond (Nat.beq pc 5) (some (.getfield 119)) none))) (cond (Nat.blt pc 14) (cond (Nat.blt pc 11) (cond (Nat.beq pc 8) (some (.invokestatic 48)) none) (cond (Nat.beq pc 11) (some (.ifCond .ne 5)) none)) (cond (Nat.blt pc 15) (cond (Nat.beq pc 14) (some (.iconst (-1))) none) (cond (Nat.blt pc 16) (cond (Nat.beq pc 15) (some (.ireturn)) none) (cond (Nat.beq pc 16) (some (.iload_n 2)) none))))) (cond (Nat.blt pc 55) (cond (Nat.blt pc 49) (cond (Nat.blt pc 48) (cond (Nat.beq pc 17) (some (.tableswitch 71 0 3 #[31, 41, 51, 61])) none) (cond (Nat.beq pc 48) (some (.aload_n 0)) none)) (cond (Nat.blt pc 52) (cond (Nat.beq pc 49) (some (.getfield 26)) none) (cond (Nat.beq pc 52) (some (.getfield 120)) none))) (cond (Nat.blt pc 57) (cond (Nat.blt pc 56) (cond (Nat.beq pc 55) (some (.iload_n 1)) none) (cond (Nat.beq pc 56) (some (.iaload)) none)) (cond (Nat.blt pc 58) (cond (Nat.beq pc 57) (some (.ireturn)) none) (cond (Nat.blt pc 59) (cond (Nat.beq pc 58) (some (.aload_n 0)) none) (cond (Nat.beq pc 59) (some (.getfield 26)) none)))))) (cond (Nat.blt pc 77) (cond (Nat.blt pc 68) (cond (Nat.blt pc 66) (cond (Nat.blt pc 65) (cond (Nat.beq pc 62) (some (.getfield 123)) none) (cond (Nat.beq pc 65) (some (.iload_n 1)) none)) (cond (Nat.blt pc 67) (cond (Nat.beq pc 66) (some (.iaload)) none) (cond (Nat.beq pc 67) (some (.ireturn)) none))) (cond (Nat.blt pc 72) (cond (Nat.blt pc 69) (cond (Nat.beq pc 68) (some (.aload_n 0)) none) (cond (Nat.beq pc 69) (some (.getfield 26)) none)) (cond (Nat.blt pc 75) (cond (Nat.beq pc 72) (some (.getfield 126)) none) (cond (Nat.blt pc 76) (cond (Nat.beq pc 75) (some (.iload_n 1)) none) (cond (Nat.beq pc 76) (some (.iaload)) none))))) (cond (Nat.blt pc 85) (cond (Nat.blt pc 79) (cond (Nat.blt pc 78) (cond (Nat.beq pc 77) (some (.ireturn)) none) (cond (Nat.beq pc 78) (some (.aload_n 0)) none)) (cond (Nat.blt pc 82) (cond (Nat.beq pc 79) (some (.getfield 26)) none) (cond (Nat.beq pc 82) (some (.getfield 129)) none))) (cond (Nat.blt pc 87) (cond (Nat.blt pc 86) (cond (Nat.beq pc 85) (some (.iload_n 1)) none) (cond (Nat.beq pc 86) (some (.iaload)) none)) (cond (Nat.blt pc 88) (cond (Nat.beq pc 87) (some (.ireturn)) none) (cond (Nat.blt pc 89) (cond (Nat.beq pc 88) (some (.iconst (-1))) none) (cond (Nat.beq pc 89) (some (.ireturn)) none)))))))
theorem tb_i6 : tb_okI 3 prog_1_method_12_code tb_f6 := tb_okI_of 90 tb_cut_out (by decide +kernel)
theorem tb_p6 : tb_okP tb_cl tb_WA "VaultDevices" false tb_FL 0 tb_f6 := tb_okP_of 90 tb_cut_out (by decide +kernel)
/-- VaultDevices.flight()I -/
def tb_f7 : Nat → Option Instr := tb_cut 8 (fun pc => cond (Nat.blt pc 4) (cond (Nat.blt pc 1) (cond (Nat.beq pc 0) (some (.aload_n 0)) none) (cond (Nat.beq pc 1) (some (.getfield 26)) none)) (cond (Nat.blt pc 7) (cond (Nat.beq pc 4) (some (.getfield 119)) none) (cond (Nat.beq pc 7) (some (.ireturn)) none)))
theorem tb_i7 : tb_okI 1 prog_1_method_13_code tb_f7 := tb_okI_of 8 tb_cut_out (by decide +kernel)
theorem tb_p7 : tb_okP tb_cl tb_WA "VaultDevices" false tb_FL 0 tb_f7 := tb_okP_of 8 tb_cut_out (by decide +kernel)
/-- VaultDevices.forge(II)Z -/
def tb_f8 : Nat → Option Instr := tb_cut 46 (fun pc => cond (Nat.blt pc 26) (cond (Nat.blt pc 12) (cond (Nat.blt pc 5) (cond (Nat.blt pc 1) (cond (Nat.beq pc 0) (some (.iload_n 1)) none) (cond (Nat.blt pc 2) (cond (Nat.beq pc 1) (some (.iconst 3)) none) (cond (Nat.beq pc 2) (some (.invokestatic 48)) none))) (cond (Nat.blt pc 8) (cond (Nat.beq pc 5) (some (.ifCond .eq 26)) none) (cond (Nat.blt pc 9) (cond (Nat.beq pc 8) (some (.aload_n 0)) none) (cond (Nat.beq pc 9) (some (.getfield 10)) none)))) (cond (Nat.blt pc 19) (cond (Nat.blt pc 13) (cond (Nat.beq pc 12) (some (.iload_n 2)) none) (cond (Nat.blt pc 16) (cond (Nat.beq pc 13) (some (.invokevirtual 142)) none) (cond (Nat.beq pc 16) (some (.ifCond .eq 15)) none))) (cond (Nat.blt pc 20) (cond (Nat.beq pc 19) (some (.aload_n 0)) none) (cond (Nat.blt pc 23) (cond (Nat.beq pc 20) (some (.getfield 26)) none) (cond (Nat.beq pc 23) (some (.getfield 119)) none))))) (cond (Nat.blt pc 37) (cond (Nat.blt pc 32) (cond (Nat.blt pc 28) (cond (Nat.beq pc 26) (some (.bipush 12)) none) (cond (Nat.blt pc 31) (cond (Nat.beq pc 28) (some (.if_icmp .lt 5)) none) (cond (Nat.beq pc 31) (some (.iconst 0)) none))) (cond (Nat.blt pc 33) (cond (Nat.beq pc 32) (some (.ireturn)) none) (cond (Nat.blt pc 34) (cond (Nat.beq pc 33) (some (.aload_n 0)) none) (cond (Nat.beq pc 34) (some (.getfield 26)) none)))) (cond (Nat.blt pc 40) (cond (Nat.blt pc 38) (cond (Nat.beq pc 37) (some (.iconst 2)) none) (cond (Nat.blt pc 39) (cond (Nat.beq pc 38) (some (.iload_n 1)) none) (cond (Nat.beq pc 39) (some (.iconst (-1))) none))) (cond (Nat.blt pc 44) (cond (Nat.blt pc 41) (cond (Nat.beq pc 40) (some (.iload_n 2)) none) (cond (Nat.beq pc 41) (some (.invokevirtual 105)) none)) (cond (Nat.blt pc 45) (cond (Nat.beq pc 44) (some (.iconst 1)) none) (cond (Nat.beq pc 45) (some (.ireturn)) none))))))
theorem tb_i8 : tb_okI 3 prog_1_method_14_code tb_f8 := tb_okI_of 46 tb_cut_out (by decide +kernel)
theorem tb_p8 : tb_okP tb_cl tb_WA "VaultDevices" false tb_FL 0 tb_f8 := tb_okP_of 46 tb_cut_out (by decide +kernel)
/-- VaultDevices.plant(I)Z -/
def tb_f9 : Nat → Option Instr := tb_cut 20 (fun pc => cond (Nat.blt pc 12) (cond (Nat.blt pc 5) (cond (Nat.blt pc 1) (cond (Nat.beq pc 0) (some (.aload_n 0)) none) (cond (Nat.blt pc 4) (cond (Nat.beq pc 1) (some (.getfield 10)) none) (cond (Nat.beq pc 4) (some (.iload_n 1)) none))) (cond (Nat.blt pc 8) (cond (Nat.beq pc 5) (some (.invokevirtual 142)) none) (cond (Nat.blt pc 11) (cond (Nat.beq pc 8) (some (.ifCond .ne 5)) none) (cond (Nat.beq pc 11) (some (.iconst 0)) none)))) (cond (Nat.blt pc 15) (cond (Nat.blt pc 13) (cond (Nat.beq pc 12) (some (.ireturn)) none) (cond (Nat.blt pc 14) (cond (Nat.beq pc 13) (some (.aload_n 0)) none) (cond (Nat.beq pc 14) (some (.iload_n 1)) none))) (cond (Nat.blt pc 18) (cond (Nat.beq pc 15) (some (.putfield 44)) none) (cond (Nat.blt pc 19) (cond (Nat.beq pc 18) (some (.iconst 1)) none) (cond (Nat.beq pc 19) (some (.ireturn)) none)))))
theorem tb_i9 : tb_okI 2 prog_1_method_15_code tb_f9 := tb_okI_of 20 tb_cut_out (by decide +kernel)
theorem tb_p9 : tb_okP tb_cl tb_WA "VaultDevices" false tb_FL 0 tb_f9 := tb_okP_of 20 tb_cut_out (by decide +kernel)
/-- VaultDevices.build(III)I -/
def tb_f10 : Nat → Option Instr := tb_cut 58 (fun pc => cond (Nat.blt pc 29) (cond (Nat.blt pc 11) (cond (Nat.blt pc 5) (cond (Nat.blt pc 1) (cond (Nat.beq pc 0) (some (.iload_n 1)) none) (cond (Nat.blt pc 2) (cond (Nat.beq pc 1) (some (.iconst 2)) none) (cond (Nat.beq pc 2) (some (.if_icmp .lt 30)) none))) (cond (Nat.blt pc 7) (cond (Nat.blt pc 6) (cond (Nat.beq pc 5) (some (.iload_n 1)) none) (cond (Nat.beq pc 6) (some (.iconst 5)) none)) (cond (Nat.blt pc 10) (cond (Nat.beq pc 7) (some (.if_icmp .gt 25)) none) (cond (Nat.beq pc 10) (some (.aload_n 0)) none)))) (cond (Nat.blt pc 21) (cond (Nat.blt pc 15) (cond (Nat.blt pc 14) (cond (Nat.beq pc 11) (some (.getfield 10)) none) (cond (Nat.beq pc 14) (some (.iload_n 2)) none)) (cond (Nat.blt pc 18) (cond (Nat.beq pc 15) (some (.invokevirtual 142)) none) (cond (Nat.beq pc 18) (some (.ifCond .eq 14)) none))) (cond (Nat.blt pc 25) (cond (Nat.blt pc 22) (cond (Nat.beq pc 21) (some (.aload_n 0)) none) (cond (Nat.beq pc 22) (some (.getfield 10)) none)) (cond (Nat.blt pc 26) (cond (Nat.beq pc 25) (some (.iload_n 3)) none) (cond (Nat.beq pc 26) (some (.invokevirtual 142)) none))))) (cond (Nat.blt pc 41) (cond (Nat.blt pc 35) (cond (Nat.blt pc 33) (cond (Nat.blt pc 32) (cond (Nat.beq pc 29) (some (.ifCond .ne 5)) none) (cond (Nat.beq pc 32) (some (.iconst (-1))) none)) (cond (Nat.blt pc 34) (cond (Nat.beq pc 33) (some (.ireturn)) none) (cond (Nat.beq pc 34) (some (.aload_n 0)) none))) (cond (Nat.blt pc 39) (cond (Nat.blt pc 38) (cond (Nat.beq pc 35) (some (.getfield 10)) none) (cond (Nat.beq pc 38) (some (.iload_n 1)) none)) (cond (Nat.blt pc 40) (cond (Nat.beq pc 39) (some (.iload_n 2)) none) (cond (Nat.beq pc 40) (some (.iload_n 3)) none)))) (cond (Nat.blt pc 50) (cond (Nat.blt pc 46) (cond (Nat.blt pc 44) (cond (Nat.beq pc 41) (some (.invokevirtual 146)) none) (cond (Nat.beq pc 44) (some (.istore 4)) none)) (cond (Nat.blt pc 47) (cond (Nat.beq pc 46) (some (.aload_n 0)) none) (cond (Nat.beq pc 47) (some (.getfield 10)) none))) (cond (Nat.blt pc 55) (cond (Nat.blt pc 52) (cond (Nat.beq pc 50) (some (.iload 4)) none) (cond (Nat.beq pc 52) (some (.invokevirtual 116)) none)) (cond (Nat.blt pc 57) (cond (Nat.beq pc 55) (some (.iload 4)) none) (cond (Nat.beq pc 57) (some (.ireturn)) none))))))
theorem tb_i10 : tb_okI 5 prog_1_method_16_code tb_f10 := tb_okI_of 58 tb_cut_out (by decide +kernel)
theorem tb_p10 : tb_okP tb_cl tb_WA "VaultDevices" false tb_FL 0 tb_f10 := tb_okP_of 58 tb_cut_out (by decide +kernel)
/-- VaultDevices.leak(I)I -/
def tb_f11 : Nat → Option Instr := tb_cut 33 (fun pc => cond (Nat.blt pc 17) (cond (Nat.blt pc 10) (cond (Nat.blt pc 4) (cond (Nat.blt pc 1) (cond (Nat.beq pc 0) (some (.iload_n 1)) none) (cond (Nat.beq pc 1) (some (.ifCond .lt 9)) none)) (cond (Nat.blt pc 5) (cond (Nat.beq pc 4) (some (.iload_n 1)) none) (cond (Nat.blt pc 7) (cond (Nat.beq pc 5) (some (.bipush 8)) none) (cond (Nat.beq pc 7) (some (.if_icmp .le 5)) none)))) (cond (Nat.blt pc 12) (cond (Nat.blt pc 11) (cond (Nat.beq pc 10) (some (.iconst (-1))) none) (cond (Nat.beq pc 11) (some (.ireturn)) none)) (cond (Nat.blt pc 13) (cond (Nat.beq pc 12) (some (.aload_n 0)) none) (cond (Nat.blt pc 16) (cond (Nat.beq pc 13) (some (.getfield 10)) none) (cond (Nat.beq pc 16) (some (.iconst 0)) none))))) (cond (Nat.blt pc 24) (cond (Nat.blt pc 19) (cond (Nat.blt pc 18) (cond (Nat.beq pc 17) (some (.iload_n 1)) none) (cond (Nat.beq pc 18) (some (.iconst (-1))) none)) (cond (Nat.blt pc 22) (cond (Nat.beq pc 19) (some (.invokevirtual 146)) none) (cond (Nat.blt pc 23) (cond (Nat.beq pc 22) (some (.istore_n 2)) none) (cond (Nat.beq pc 23) (some (.aload_n 0)) none)))) (cond (Nat.blt pc 28) (cond (Nat.blt pc 27) (cond (Nat.beq pc 24) (some (.getfield 10)) none) (cond (Nat.beq pc 27) (some (.iload_n 2)) none)) (cond (Nat.blt pc 31) (cond (Nat.beq pc 28) (some (.invokevirtual 116)) none) (cond (Nat.blt pc 32) (cond (Nat.beq pc 31) (some (.iload_n 2)) none) (cond (Nat.beq pc 32) (some (.ireturn)) none))))))
theorem tb_i11 : tb_okI 3 prog_1_method_17_code tb_f11 := tb_okI_of 33 tb_cut_out (by decide +kernel)
theorem tb_p11 : tb_okP tb_cl tb_WA "VaultDevices" false tb_FL 0 tb_f11 := tb_okP_of 33 tb_cut_out (by decide +kernel)
/-- VaultDevices.steal(I)I -/
def tb_f12 : Nat → Option Instr := tb_cut 41 (fun pc => cond (Nat.blt pc 19) (cond (Nat.blt pc 9) (cond (Nat.blt pc 2) (cond (Nat.blt pc 1) (cond (Nat.beq pc 0) (some (.iload_n 1)) none) (cond (Nat.beq pc 1) (some (.iconst 3)) none)) (cond (Nat.blt pc 5) (cond (Nat.beq pc 2) (some (.invokestatic 48)) none) (cond (Nat.blt pc 8) (cond (Nat.beq pc 5) (some (.ifCond .ne 5)) none) (cond (Nat.beq pc 8) (some (.iconst (-1))) none)))) (cond (Nat.blt pc 14) (cond (Nat.blt pc 10) (cond (Nat.beq pc 9) (some (.ireturn)) none) (cond (Nat.blt pc 11) (cond (Nat.beq pc 10) (some (.aload_n 0)) none) (cond (Nat.beq pc 11) (some (.getfield 19)) none))) (cond (Nat.blt pc 15) (cond (Nat.beq pc 14) (some (.aload_n 0)) none) (cond (Nat.blt pc 18) (cond (Nat.beq pc 15) (some (.getfield 10)) none) (cond (Nat.beq pc 18) (some (.aload_n 0)) none))))) (cond (Nat.blt pc 31) (cond (Nat.blt pc 24) (cond (Nat.blt pc 22) (cond (Nat.beq pc 19) (some (.getfield 32)) none) (cond (Nat.blt pc 23) (cond (Nat.beq pc 22) (some (.iload_n 1)) none) (cond (Nat.beq pc 23) (some (.aaload)) none))) (cond (Nat.blt pc 27) (cond (Nat.beq pc 24) (some (.getfield 60)) none) (cond (Nat.blt pc 30) (cond (Nat.beq pc 27) (some (.invokevirtual 109)) none) (cond (Nat.beq pc 30) (some (.istore_n 2)) none)))) (cond (Nat.blt pc 36) (cond (Nat.blt pc 32) (cond (Nat.beq pc 31) (some (.aload_n 0)) none) (cond (Nat.blt pc 35) (cond (Nat.beq pc 32) (some (.getfield 10)) none) (cond (Nat.beq pc 35) (some (.iload_n 2)) none))) (cond (Nat.blt pc 39) (cond (Nat.beq pc 36) (some (.invokevirtual 116)) none) (cond (Nat.blt pc 40) (cond (Nat.beq pc 39) (some (.iload_n 2)) none) (cond (Nat.beq pc 40) (some (.ireturn)) none))))))
theorem tb_i12 : tb_okI 3 prog_1_method_18_code tb_f12 := tb_okI_of 41 tb_cut_out (by decide +kernel)
theorem tb_p12 : tb_okP tb_cl tb_WA "VaultDevices" false tb_FL 0 tb_f12 := tb_okP_of 41 tb_cut_out (by decide +kernel)
/-- VaultDevices.known(I)Z -/
def tb_f13 : Nat → Option Instr := tb_cut 9 (fun pc => cond (Nat.blt pc 4) (cond (Nat.blt pc 1) (cond (Nat.beq pc 0) (some (.aload_n 0)) none) (cond (Nat.beq pc 1) (some (.getfield 10)) none)) (cond (Nat.blt pc 5) (cond (Nat.beq pc 4) (some (.iload_n 1)) none) (cond (Nat.blt pc 8) (cond (Nat.beq pc 5) (some (.invokevirtual 142)) none) (cond (Nat.beq pc 8) (some (.ireturn)) none))))
theorem tb_i13 : tb_okI 2 prog_1_method_19_code tb_f13 := tb_okI_of 9 tb_cut_out (by decide +kernel)
theorem tb_p13 : tb_okP tb_cl tb_WA "VaultDevices" false tb_FL 0 tb_f13 := tb_okP_of 9 tb_cut_out (by decide +kernel)
/-- VaultDevices.term(II)I -/
def tb_f14 : Nat → Option Instr := tb_cut 57 (fun pc => cond (Nat.blt pc 41) (cond (Nat.blt pc 32) (cond (Nat.blt pc 28) (cond (Nat.blt pc 1) (cond (Nat.beq pc 0) (some (.iload_n 2)) none) (cond (Nat.beq pc 1) (some (.tableswitch 54 0 2 #[27, 36, 45])) none)) (cond (Nat.blt pc 29) (cond (Nat.beq pc 28) (some (.aload_n 0)) none) (cond (Nat.beq pc 29) (some (.getfield 10)) none))) (cond (Nat.blt pc 36) (cond (Nat.blt pc 33) (cond (Nat.beq pc 32) (some (.iload_n 1)) none) (cond (Nat.beq pc 33) (some (.invokevirtual 150)) none)) (cond (Nat.blt pc 37) (cond (Nat.beq pc 36) (some (.ireturn)) none) (cond (Nat.blt pc 38) (cond (Nat.beq pc 37) (some (.aload_n 0)) none) (cond (Nat.beq pc 38) (some (.getfield 10)) none))))) (cond (Nat.blt pc 50) (cond (Nat.blt pc 45) (cond (Nat.blt pc 42) (cond (Nat.beq pc 41) (some (.iload_n 1)) none) (cond (Nat.beq pc 42) (some (.invokevirtual 153)) none)) (cond (Nat.blt pc 46) (cond (Nat.beq pc 45) (some (.ireturn)) none) (cond (Nat.blt pc 47) (cond (Nat.beq pc 46) (some (.aload_n 0)) none) (cond (Nat.beq pc 47) (some (.getfield 10)) none)))) (cond (Nat.blt pc 54) (cond (Nat.blt pc 51) (cond (Nat.beq pc 50) (some (.iload_n 1)) none) (cond (Nat.beq pc 51) (some (.invokevirtual 156)) none)) (cond (Nat.blt pc 55) (cond (Nat.beq pc 54) (some (.ireturn)) none) (cond (Nat.blt pc 56) (cond (Nat.beq pc 55) (some (.iconst (-1))) none) (cond (Nat.beq pc 56) (some (.ireturn)) none))))))
theorem tb_i14 : tb_okI 3 prog_1_method_20_code tb_f14 := tb_okI_of 57 tb_cut_out (by decide +kernel)
theorem tb_p14 : tb_okP tb_cl tb_WA "VaultDevices" false tb_FL 0 tb_f14 := tb_okP_of 57 tb_cut_out (by decide +kernel)
/-- VaultDevices.atom(I)I -/
def tb_f15 : Nat → Option Instr := tb_cut 11 (fun pc => cond (Nat.blt pc 5) (cond (Nat.blt pc 1) (cond (Nat.beq pc 0) (some (.aload_n 0)) none) (cond (Nat.blt pc 4) (cond (Nat.beq pc 1) (some (.getfield 10)) none) (cond (Nat.beq pc 4) (some (.iconst 0)) none))) (cond (Nat.blt pc 7) (cond (Nat.blt pc 6) (cond (Nat.beq pc 5) (some (.iload_n 1)) none) (cond (Nat.beq pc 6) (some (.iconst (-1))) none)) (cond (Nat.blt pc 10) (cond (Nat.beq pc 7) (some (.invokevirtual 159)) none) (cond (Nat.beq pc 10) (some (.ireturn)) none))))
theorem tb_i15 : tb_okI 2 prog_1_method_21_code tb_f15 := tb_okI_of 11 tb_cut_out (by decide +kernel)
theorem tb_p15 : tb_okP tb_cl tb_WA "VaultDevices" false tb_FL 0 tb_f15 := tb_okP_of 11 tb_cut_out (by decide +kernel)
/-- VaultDevices.device(II)I -/
def tb_f16 : Nat → Option Instr := tb_cut 141 (fun pc => cond (Nat.blt pc 99) (cond (Nat.blt pc 76) (cond (Nat.blt pc 10) (cond (Nat.blt pc 5) (cond (Nat.blt pc 1) (cond (Nat.beq pc 0) (some (.iload_n 1)) none) (cond (Nat.blt pc 2) (cond (Nat.beq pc 1) (some (.iconst 3)) none) (cond (Nat.beq pc 2) (some (.invokestatic 48)) none))) (cond (Nat.blt pc 8) (cond (Nat.beq pc 5) (some (.ifCond .ne 5)) none) (cond (Nat.blt pc 9) (cond (Nat.beq pc 8) (some (.iconst (-1))) none) (cond (Nat.beq pc 9) (some (.ireturn)) none)))) (cond (Nat.blt pc 15) (cond (Nat.blt pc 11) (cond (Nat.beq pc 10) (some (.aload_n 0)) none) (cond (Nat.blt pc 14) (cond (Nat.beq pc 11) (some (.getfield 32)) none) (cond (Nat.beq pc 14) (some (.iload_n 1)) none))) (cond (Nat.blt pc 17) (cond (Nat.blt pc 16) (cond (Nat.beq pc 15) (some (.aaload)) none) (cond (Nat.beq pc 16) (some (.astore_n 3)) none)) (cond (Nat.blt pc 18) (cond (Nat.beq pc 17) (some (.iload_n 2)) none) (cond (Nat.beq pc 18) (some (.tableswitch 121 0 10 #[58, 71, 71, 71, 83, 83, 83, 92, 100, 108, 116])) none))))) (cond (Nat.blt pc 88) (cond (Nat.blt pc 83) (cond (Nat.blt pc 77) (cond (Nat.beq pc 76) (some (.aload_n 3)) none) (cond (Nat.blt pc 80) (cond (Nat.beq pc 77) (some (.getfield 56)) none) (cond (Nat.beq pc 80) (some (.ifCond .eq 7)) none))) (cond (Nat.blt pc 84) (cond (Nat.beq pc 83) (some (.iconst 1)) none) (cond (Nat.blt pc 87) (cond (Nat.beq pc 84) (some (.goto 4)) none) (cond (Nat.beq pc 87) (some (.iconst 0)) none)))) (cond (Nat.blt pc 93) (cond (Nat.blt pc 89) (cond (Nat.beq pc 88) (some (.ireturn)) none) (cond (Nat.blt pc 90) (cond (Nat.beq pc 89) (some (.aload_n 3)) none) (cond (Nat.beq pc 90) (some (.getfield 60)) none))) (cond (Nat.blt pc 97) (cond (Nat.blt pc 96) (cond (Nat.beq pc 93) (some (.getfield 70)) none) (cond (Nat.beq pc 96) (some (.iload_n 2)) none)) (cond (Nat.blt pc 98) (cond (Nat.beq pc 97) (some (.iconst 1)) none) (cond (Nat.beq pc 98) (some (.isub)) none)))))) (cond (Nat.blt pc 118) (cond (Nat.blt pc 107) (cond (Nat.blt pc 102) (cond (Nat.blt pc 100) (cond (Nat.beq pc 99) (some (.iaload)) none) (cond (Nat.blt pc 101) (cond (Nat.beq pc 100) (some (.ireturn)) none) (cond (Nat.beq pc 101) (some (.aload_n 3)) none))) (cond (Nat.blt pc 105) (cond (Nat.beq pc 102) (some (.getfield 162)) none) (cond (Nat.blt pc 106) (cond (Nat.beq pc 105) (some (.iload_n 2)) none) (cond (Nat.beq pc 106) (some (.iconst 4)) none)))) (cond (Nat.blt pc 110) (cond (Nat.blt pc 108) (cond (Nat.beq pc 107) (some (.isub)) none) (cond (Nat.blt pc 109) (cond (Nat.beq pc 108) (some (.iaload)) none) (cond (Nat.beq pc 109) (some (.ireturn)) none))) (cond (Nat.blt pc 114) (cond (Nat.blt pc 111) (cond (Nat.beq pc 110) (some (.aload_n 3)) none) (cond (Nat.beq pc 111) (some (.getfield 60)) none)) (cond (Nat.blt pc 117) (cond (Nat.beq pc 114) (some (.getfield 98)) none) (cond (Nat.beq pc 117) (some (.ireturn)) none))))) (cond (Nat.blt pc 130) (cond (Nat.blt pc 125) (cond (Nat.blt pc 119) (cond (Nat.beq pc 118) (some (.aload_n 3)) none) (cond (Nat.blt pc 122) (cond (Nat.beq pc 119) (some (.getfield 60)) none) (cond (Nat.beq pc 122) (some (.getfield 165)) none))) (cond (Nat.blt pc 126) (cond (Nat.beq pc 125) (some (.ireturn)) none) (cond (Nat.blt pc 127) (cond (Nat.beq pc 126) (some (.aload_n 3)) none) (cond (Nat.beq pc 127) (some (.getfield 60)) none)))) (cond (Nat.blt pc 135) (cond (Nat.blt pc 133) (cond (Nat.beq pc 130) (some (.getfield 74)) none) (cond (Nat.blt pc 134) (cond (Nat.beq pc 133) (some (.ireturn)) none) (cond (Nat.beq pc 134) (some (.aload_n 3)) none))) (cond (Nat.blt pc 139) (cond (Nat.blt pc 138) (cond (Nat.beq pc 135) (some (.getfield 113)) none) (cond (Nat.beq pc 138) (some (.ireturn)) none)) (cond (Nat.blt pc 140) (cond (Nat.beq pc 139) (some (.iconst (-1))) none) (cond (Nat.beq pc 140) (some (.ireturn)) none)))))))
theorem tb_i16 : tb_okI 4 prog_1_method_22_code tb_f16 := tb_okI_of 141 tb_cut_out (by decide +kernel)
theorem tb_p16 : tb_okP tb_cl tb_WA "VaultDevices" false tb_FL 0 tb_f16 := tb_okP_of 141 tb_cut_out (by decide +kernel)
/-- VaultDevices.server()I -/
def tb_f17 : Nat → Option Instr := tb_cut 5 (fun pc => cond (Nat.blt pc 1) (cond (Nat.beq pc 0) (some (.aload_n 0)) none) (cond (Nat.blt pc 4) (cond (Nat.beq pc 1) (some (.getfield 44)) none) (cond (Nat.beq pc 4) (some (.ireturn)) none)))
theorem tb_i17 : tb_okI 1 prog_1_method_23_code tb_f17 := tb_okI_of 5 tb_cut_out (by decide +kernel)
theorem tb_p17 : tb_okP tb_cl tb_WA "VaultDevices" false tb_FL 0 tb_f17 := tb_okP_of 5 tb_cut_out (by decide +kernel)
/-- VaultDevices.unlock(II)Z -/
def tb_f18 : Nat → Option Instr := tb_cut 59 (fun pc => cond (Nat.blt pc 31) (cond (Nat.blt pc 17) (cond (Nat.blt pc 8) (cond (Nat.blt pc 2) (cond (Nat.blt pc 1) (cond (Nat.beq pc 0) (some (.iload_n 1)) none) (cond (Nat.beq pc 1) (some (.iconst 3)) none)) (cond (Nat.blt pc 5) (cond (Nat.beq pc 2) (some (.invokestatic 48)) none) (cond (Nat.beq pc 5) (some (.ifCond .eq 16)) none))) (cond (Nat.blt pc 11) (cond (Nat.blt pc 9) (cond (Nat.beq pc 8) (some (.iload_n 2)) none) (cond (Nat.beq pc 9) (some (.bipush 8)) none)) (cond (Nat.blt pc 14) (cond (Nat.beq pc 11) (some (.invokestatic 48)) none) (cond (Nat.beq pc 14) (some (.ifCond .eq 7)) none)))) (cond (Nat.blt pc 25) (cond (Nat.blt pc 21) (cond (Nat.blt pc 18) (cond (Nat.beq pc 17) (some (.iconst 1)) none) (cond (Nat.beq pc 18) (some (.goto 4)) none)) (cond (Nat.blt pc 22) (cond (Nat.beq pc 21) (some (.iconst 0)) none) (cond (Nat.beq pc 22) (some (.invokestatic 52)) none))) (cond (Nat.blt pc 29) (cond (Nat.blt pc 26) (cond (Nat.beq pc 25) (some (.aload_n 0)) none) (cond (Nat.beq pc 26) (some (.getfield 32)) none)) (cond (Nat.blt pc 30) (cond (Nat.beq pc 29) (some (.iload_n 1)) none) (cond (Nat.beq pc 30) (some (.aaload)) none))))) (cond (Nat.blt pc 47) (cond (Nat.blt pc 39) (cond (Nat.blt pc 33) (cond (Nat.blt pc 32) (cond (Nat.beq pc 31) (some (.astore_n 3)) none) (cond (Nat.beq pc 32) (some (.aload_n 3)) none)) (cond (Nat.blt pc 36) (cond (Nat.beq pc 33) (some (.getfield 56)) none) (cond (Nat.beq pc 36) (some (.ifCond .eq 14)) none))) (cond (Nat.blt pc 43) (cond (Nat.blt pc 40) (cond (Nat.beq pc 39) (some (.aload_n 3)) none) (cond (Nat.beq pc 40) (some (.getfield 60)) none)) (cond (Nat.blt pc 46) (cond (Nat.beq pc 43) (some (.getfield 63)) none) (cond (Nat.beq pc 46) (some (.iload_n 2)) none)))) (cond (Nat.blt pc 53) (cond (Nat.blt pc 51) (cond (Nat.blt pc 50) (cond (Nat.beq pc 47) (some (.if_icmp .eq 5)) none) (cond (Nat.beq pc 50) (some (.iconst 0)) none)) (cond (Nat.blt pc 52) (cond (Nat.beq pc 51) (some (.ireturn)) none) (cond (Nat.beq pc 52) (some (.aload_n 3)) none))) (cond (Nat.blt pc 57) (cond (Nat.blt pc 54) (cond (Nat.beq pc 53) (some (.iconst 0)) none) (cond (Nat.beq pc 54) (some (.putfield 56)) none)) (cond (Nat.blt pc 58) (cond (Nat.beq pc 57) (some (.iconst 1)) none) (cond (Nat.beq pc 58) (some (.ireturn)) none))))))
theorem tb_i18 : tb_okI 4 prog_1_method_2_code tb_f18 := tb_okI_of 59 tb_cut_out (by decide +kernel)
theorem tb_p18 : tb_okP tb_cl tb_WA "VaultDevices" false tb_FL 0 tb_f18 := tb_okP_of 59 tb_cut_out (by decide +kernel)
/-- VaultDevices.require(Z)V -/
def tb_f19 : Nat → Option Instr := tb_cut 15 (fun pc => cond (Nat.blt pc 1) (cond (Nat.beq pc 0) (some (.iload_n 0)) none) (cond (Nat.blt pc 14) (cond (Nat.beq pc 1) (some (.ifCond .ne 13)) none) (cond (Nat.beq pc 14) (some (.return_)) none)))
theorem tb_i19 : tb_okI 1 prog_1_method_27_code tb_f19 := tb_okI_of 15 tb_cut_out (by decide +kernel)
theorem tb_p19 : tb_okP tb_cl tb_WA "VaultDevices" false tb_FL 0 tb_f19 := tb_okP_of 15 tb_cut_out (by decide +kernel)
/-- VaultDevices.lock(I)Z -/
def tb_f20 : Nat → Option Instr := tb_cut 34 (fun pc => cond (Nat.blt pc 20) (cond (Nat.blt pc 9) (cond (Nat.blt pc 2) (cond (Nat.blt pc 1) (cond (Nat.beq pc 0) (some (.iload_n 1)) none) (cond (Nat.beq pc 1) (some (.iconst 3)) none)) (cond (Nat.blt pc 5) (cond (Nat.beq pc 2) (some (.invokestatic 48)) none) (cond (Nat.blt pc 8) (cond (Nat.beq pc 5) (some (.invokestatic 52)) none) (cond (Nat.beq pc 8) (some (.aload_n 0)) none)))) (cond (Nat.blt pc 13) (cond (Nat.blt pc 12) (cond (Nat.beq pc 9) (some (.getfield 32)) none) (cond (Nat.beq pc 12) (some (.iload_n 1)) none)) (cond (Nat.blt pc 14) (cond (Nat.beq pc 13) (some (.aaload)) none) (cond (Nat.blt pc 17) (cond (Nat.beq pc 14) (some (.getfield 56)) none) (cond (Nat.beq pc 17) (some (.ifCond .eq 5)) none))))) (cond (Nat.blt pc 27) (cond (Nat.blt pc 22) (cond (Nat.blt pc 21) (cond (Nat.beq pc 20) (some (.iconst 0)) none) (cond (Nat.beq pc 21) (some (.ireturn)) none)) (cond (Nat.blt pc 23) (cond (Nat.beq pc 22) (some (.aload_n 0)) none) (cond (Nat.blt pc 26) (cond (Nat.beq pc 23) (some (.getfield 32)) none) (cond (Nat.beq pc 26) (some (.iload_n 1)) none)))) (cond (Nat.blt pc 29) (cond (Nat.blt pc 28) (cond (Nat.beq pc 27) (some (.aaload)) none) (cond (Nat.beq pc 28) (some (.iconst 1)) none)) (cond (Nat.blt pc 32) (cond (Nat.beq pc 29) (some (.putfield 56)) none) (cond (Nat.blt pc 33) (cond (Nat.beq pc 32) (some (.iconst 1)) none) (cond (Nat.beq pc 33) (some (.ireturn)) none))))))
theorem tb_i20 : tb_okI 2 prog_1_method_3_code tb_f20 := tb_okI_of 34 tb_cut_out (by decide +kernel)
theorem tb_p20 : tb_okP tb_cl tb_WA "VaultDevices" false tb_FL 0 tb_f20 := tb_okP_of 34 tb_cut_out (by decide +kernel)
/-- VaultDevices.put(III)I -/
def tb_f21 : Nat → Option Instr := tb_cut 128 (fun pc => cond (Nat.blt pc 67) (cond (Nat.blt pc 34) (cond (Nat.blt pc 16) (cond (Nat.blt pc 8) (cond (Nat.blt pc 2) (cond (Nat.blt pc 1) (cond (Nat.beq pc 0) (some (.iload_n 1)) none) (cond (Nat.beq pc 1) (some (.iconst 3)) none)) (cond (Nat.blt pc 5) (cond (Nat.beq pc 2) (some (.invokestatic 48)) none) (cond (Nat.beq pc 5) (some (.ifCond .eq 24)) none))) (cond (Nat.blt pc 10) (cond (Nat.blt pc 9) (cond (Nat.beq pc 8) (some (.iload_n 2)) none) (cond (Nat.beq pc 9) (some (.iconst 4)) none)) (cond (Nat.blt pc 13) (cond (Nat.beq pc 10) (some (.invokestatic 48)) none) (cond (Nat.beq pc 13) (some (.ifCond .eq 16)) none)))) (cond (Nat.blt pc 25) (cond (Nat.blt pc 19) (cond (Nat.blt pc 17) (cond (Nat.beq pc 16) (some (.iload_n 3)) none) (cond (Nat.beq pc 17) (some (.bipush 64)) none)) (cond (Nat.blt pc 22) (cond (Nat.beq pc 19) (some (.invokestatic 48)) none) (cond (Nat.beq pc 22) (some (.ifCond .eq 7)) none))) (cond (Nat.blt pc 29) (cond (Nat.blt pc 26) (cond (Nat.beq pc 25) (some (.iconst 1)) none) (cond (Nat.beq pc 26) (some (.goto 4)) none)) (cond (Nat.blt pc 30) (cond (Nat.beq pc 29) (some (.iconst 0)) none) (cond (Nat.blt pc 33) (cond (Nat.beq pc 30) (some (.invokestatic 52)) none) (cond (Nat.beq pc 33) (some (.aload_n 0)) none)))))) (cond (Nat.blt pc 48) (cond (Nat.blt pc 42) (cond (Nat.blt pc 38) (cond (Nat.blt pc 37) (cond (Nat.beq pc 34) (some (.getfield 32)) none) (cond (Nat.beq pc 37) (some (.iload_n 1)) none)) (cond (Nat.blt pc 39) (cond (Nat.beq pc 38) (some (.aaload)) none) (cond (Nat.beq pc 39) (some (.invokestatic 66)) none))) (cond (Nat.blt pc 46) (cond (Nat.blt pc 43) (cond (Nat.beq pc 42) (some (.aload_n 0)) none) (cond (Nat.beq pc 43) (some (.getfield 32)) none)) (cond (Nat.blt pc 47) (cond (Nat.beq pc 46) (some (.iload_n 1)) none) (cond (Nat.beq pc 47) (some (.aaload)) none)))) (cond (Nat.blt pc 58) (cond (Nat.blt pc 53) (cond (Nat.blt pc 51) (cond (Nat.beq pc 48) (some (.getfield 60)) none) (cond (Nat.beq pc 51) (some (.astore 4)) none)) (cond (Nat.blt pc 55) (cond (Nat.beq pc 53) (some (.aload 4)) none) (cond (Nat.beq pc 55) (some (.getfield 70)) none))) (cond (Nat.blt pc 60) (cond (Nat.blt pc 59) (cond (Nat.beq pc 58) (some (.iload_n 1)) none) (cond (Nat.beq pc 59) (some (.iaload)) none)) (cond (Nat.blt pc 62) (cond (Nat.beq pc 60) (some (.bipush 30)) none) (cond (Nat.blt pc 65) (cond (Nat.beq pc 62) (some (.if_icmp .ge 20)) none) (cond (Nat.beq pc 65) (some (.aload 4)) none))))))) (cond (Nat.blt pc 99) (cond (Nat.blt pc 84) (cond (Nat.blt pc 76) (cond (Nat.blt pc 72) (cond (Nat.blt pc 70) (cond (Nat.beq pc 67) (some (.getfield 74)) none) (cond (Nat.beq pc 70) (some (.aload 4)) none)) (cond (Nat.blt pc 73) (cond (Nat.beq pc 72) (some (.iload_n 2)) none) (cond (Nat.beq pc 73) (some (.invokevirtual 77)) none))) (cond (Nat.blt pc 79) (cond (Nat.blt pc 77) (cond (Nat.beq pc 76) (some (.isub)) none) (cond (Nat.beq pc 77) (some (.bipush 12)) none)) (cond (Nat.blt pc 82) (cond (Nat.beq pc 79) (some (.if_icmp .lt 6)) none) (cond (Nat.beq pc 82) (some (.bipush (-2))) none)))) (cond (Nat.blt pc 91) (cond (Nat.blt pc 87) (cond (Nat.blt pc 85) (cond (Nat.beq pc 84) (some (.ireturn)) none) (cond (Nat.beq pc 85) (some (.aload 4)) none)) (cond (Nat.blt pc 88) (cond (Nat.beq pc 87) (some (.iload_n 2)) none) (cond (Nat.beq pc 88) (some (.invokevirtual 81)) none))) (cond (Nat.blt pc 96) (cond (Nat.blt pc 93) (cond (Nat.beq pc 91) (some (.aload 4)) none) (cond (Nat.beq pc 93) (some (.getfield 70)) none)) (cond (Nat.blt pc 97) (cond (Nat.beq pc 96) (some (.iload_n 1)) none) (cond (Nat.blt pc 98) (cond (Nat.beq pc 97) (some (.dup2)) none) (cond (Nat.beq pc 98) (some (.iaload)) none)))))) (cond (Nat.blt pc 112) (cond (Nat.blt pc 104) (cond (Nat.blt pc 101) (cond (Nat.blt pc 100) (cond (Nat.beq pc 99) (some (.iconst 1)) none) (cond (Nat.beq pc 100) (some (.iadd)) none)) (cond (Nat.blt pc 102) (cond (Nat.beq pc 101) (some (.iastore)) none) (cond (Nat.beq pc 102) (some (.aload 4)) none))) (cond (Nat.blt pc 106) (cond (Nat.blt pc 105) (cond (Nat.beq pc 104) (some (.iload_n 2)) none) (cond (Nat.beq pc 105) (some (.iload_n 1)) none)) (cond (Nat.blt pc 108) (cond (Nat.beq pc 106) (some (.aload 4)) none) (cond (Nat.blt pc 111) (cond (Nat.beq pc 108) (some (.getfield 70)) none) (cond (Nat.beq pc 111) (some (.iload_n 1)) none))))) (cond (Nat.blt pc 120) (cond (Nat.blt pc 114) (cond (Nat.blt pc 113) (cond (Nat.beq pc 112) (some (.iaload)) none) (cond (Nat.beq pc 113) (some (.iload_n 3)) none)) (cond (Nat.blt pc 117) (cond (Nat.beq pc 114) (some (.invokestatic 85)) none) (cond (Nat.beq pc 117) (some (.invokevirtual 91)) none))) (cond (Nat.blt pc 125) (cond (Nat.blt pc 122) (cond (Nat.beq pc 120) (some (.aload 4)) none) (cond (Nat.beq pc 122) (some (.getfield 70)) none)) (cond (Nat.blt pc 126) (cond (Nat.beq pc 125) (some (.iload_n 1)) none) (cond (Nat.blt pc 127) (cond (Nat.beq pc 126) (some (.iaload)) none) (cond (Nat.beq pc 127) (some (.ireturn)) none))))))))
theorem tb_i21 : tb_okI 5 prog_1_method_4_code tb_f21 := tb_okI_of 128 tb_cut_out (by decide +kernel)
theorem tb_p21 : tb_okP tb_cl tb_WA "VaultDevices" false tb_FL 0 tb_f21 := tb_okP_of 128 tb_cut_out (by decide +kernel)
/-- VaultDevices.requireOpen(LVaultDevices$Device;)V -/
def tb_f22 : Nat → Option Instr := tb_cut 18 (fun pc => cond (Nat.blt pc 4) (cond (Nat.blt pc 1) (cond (Nat.beq pc 0) (some (.aload_n 0)) none) (cond (Nat.beq pc 1) (some (.getfield 56)) none)) (cond (Nat.blt pc 17) (cond (Nat.beq pc 4) (some (.ifCond .eq 13)) none) (cond (Nat.beq pc 17) (some (.return_)) none)))
theorem tb_i22 : tb_okI 1 prog_1_method_28_code tb_f22 := tb_okI_of 18 tb_cut_out (by decide +kernel)
theorem tb_p22 : tb_okP tb_cl tb_WA "VaultDevices" false tb_FL 0 tb_f22 := tb_okP_of 18 tb_cut_out (by decide +kernel)
/-- VaultDevices.erase(II)I -/
def tb_f23 : Nat → Option Instr := tb_cut 89 (fun pc => cond (Nat.blt pc 48) (cond (Nat.blt pc 25) (cond (Nat.blt pc 10) (cond (Nat.blt pc 5) (cond (Nat.blt pc 1) (cond (Nat.beq pc 0) (some (.iload_n 1)) none) (cond (Nat.blt pc 2) (cond (Nat.beq pc 1) (some (.iconst 3)) none) (cond (Nat.beq pc 2) (some (.invokestatic 48)) none))) (cond (Nat.blt pc 8) (cond (Nat.beq pc 5) (some (.ifCond .eq 15)) none) (cond (Nat.blt pc 9) (cond (Nat.beq pc 8) (some (.iload_n 2)) none) (cond (Nat.beq pc 9) (some (.iconst 4)) none)))) (cond (Nat.blt pc 17) (cond (Nat.blt pc 13) (cond (Nat.beq pc 10) (some (.invokestatic 48)) none) (cond (Nat.blt pc 16) (cond (Nat.beq pc 13) (some (.ifCond .eq 7)) none) (cond (Nat.beq pc 16) (some (.iconst 1)) none))) (cond (Nat.blt pc 21) (cond (Nat.blt pc 20) (cond (Nat.beq pc 17) (some (.goto 4)) none) (cond (Nat.beq pc 20) (some (.iconst 0)) none)) (cond (Nat.blt pc 24) (cond (Nat.beq pc 21) (some (.invokestatic 52)) none) (cond (Nat.beq pc 24) (some (.aload_n 0)) none))))) (cond (Nat.blt pc 37) (cond (Nat.blt pc 30) (cond (Nat.blt pc 28) (cond (Nat.beq pc 25) (some (.getfield 32)) none) (cond (Nat.blt pc 29) (cond (Nat.beq pc 28) (some (.iload_n 1)) none) (cond (Nat.beq pc 29) (some (.aaload)) none))) (cond (Nat.blt pc 33) (cond (Nat.beq pc 30) (some (.invokestatic 66)) none) (cond (Nat.blt pc 34) (cond (Nat.beq pc 33) (some (.aload_n 0)) none) (cond (Nat.beq pc 34) (some (.getfield 32)) none)))) (cond (Nat.blt pc 42) (cond (Nat.blt pc 38) (cond (Nat.beq pc 37) (some (.iload_n 1)) none) (cond (Nat.blt pc 39) (cond (Nat.beq pc 38) (some (.aaload)) none) (cond (Nat.beq pc 39) (some (.getfield 60)) none))) (cond (Nat.blt pc 44) (cond (Nat.blt pc 43) (cond (Nat.beq pc 42) (some (.astore_n 3)) none) (cond (Nat.beq pc 43) (some (.aload_n 3)) none)) (cond (Nat.blt pc 47) (cond (Nat.beq pc 44) (some (.getfield 70)) none) (cond (Nat.beq pc 47) (some (.iload_n 1)) none)))))) (cond (Nat.blt pc 71) (cond (Nat.blt pc 58) (cond (Nat.blt pc 54) (cond (Nat.blt pc 49) (cond (Nat.beq pc 48) (some (.iaload)) none) (cond (Nat.blt pc 51) (cond (Nat.beq pc 49) (some (.bipush 30)) none) (cond (Nat.beq pc 51) (some (.if_icmp .lt 6)) none))) (cond (Nat.blt pc 56) (cond (Nat.beq pc 54) (some (.bipush (-2))) none) (cond (Nat.blt pc 57) (cond (Nat.beq pc 56) (some (.ireturn)) none) (cond (Nat.beq pc 57) (some (.aload_n 3)) none)))) (cond (Nat.blt pc 64) (cond (Nat.blt pc 59) (cond (Nat.beq pc 58) (some (.iload_n 2)) none) (cond (Nat.blt pc 62) (cond (Nat.beq pc 59) (some (.invokevirtual 77)) none) (cond (Nat.beq pc 62) (some (.istore 4)) none))) (cond (Nat.blt pc 69) (cond (Nat.blt pc 66) (cond (Nat.beq pc 64) (some (.iload 4)) none) (cond (Nat.beq pc 66) (some (.ifCond .ne 5)) none)) (cond (Nat.blt pc 70) (cond (Nat.beq pc 69) (some (.iconst (-1))) none) (cond (Nat.beq pc 70) (some (.ireturn)) none))))) (cond (Nat.blt pc 81) (cond (Nat.blt pc 76) (cond (Nat.blt pc 72) (cond (Nat.beq pc 71) (some (.aload_n 3)) none) (cond (Nat.blt pc 73) (cond (Nat.beq pc 72) (some (.iload_n 2)) none) (cond (Nat.beq pc 73) (some (.invokevirtual 81)) none))) (cond (Nat.blt pc 77) (cond (Nat.beq pc 76) (some (.aload_n 3)) none) (cond (Nat.blt pc 80) (cond (Nat.beq pc 77) (some (.getfield 70)) none) (cond (Nat.beq pc 80) (some (.iload_n 1)) none)))) (cond (Nat.blt pc 84) (cond (Nat.blt pc 82) (cond (Nat.beq pc 81) (some (.dup2)) none) (cond (Nat.blt pc 83) (cond (Nat.beq pc 82) (some (.iaload)) none) (cond (Nat.beq pc 83) (some (.iconst 1)) none))) (cond (Nat.blt pc 86) (cond (Nat.blt pc 85) (cond (Nat.beq pc 84) (some (.iadd)) none) (cond (Nat.beq pc 85) (some (.iastore)) none)) (cond (Nat.blt pc 88) (cond (Nat.beq pc 86) (some (.iload 4)) none) (cond (Nat.beq pc 88) (some (.ireturn)) none)))))))
theorem tb_i23 : tb_okI 5 prog_1_method_5_code tb_f23 := tb_okI_of 89 tb_cut_out (by decide +kernel)
theorem tb_p23 : tb_okP tb_cl tb_WA "VaultDevices" false tb_FL 0 tb_f23 := tb_okP_of 89 tb_cut_out (by decide +kernel)
/-- VaultDevices.get(III)I -/
def tb_f24 : Nat → Option Instr := tb_cut 66 (fun pc => cond (Nat.blt pc 33) (cond (Nat.blt pc 16) (cond (Nat.blt pc 8) (cond (Nat.blt pc 2) (cond (Nat.blt pc 1) (cond (Nat.beq pc 0) (some (.iload_n 1)) none) (cond (Nat.beq pc 1) (some (.iconst 3)) none)) (cond (Nat.blt pc 5) (cond (Nat.beq pc 2) (some (.invokestatic 48)) none) (cond (Nat.beq pc 5) (some (.ifCond .eq 15)) none))) (cond (Nat.blt pc 10) (cond (Nat.blt pc 9) (cond (Nat.beq pc 8) (some (.iload_n 2)) none) (cond (Nat.beq pc 9) (some (.iconst 4)) none)) (cond (Nat.blt pc 13) (cond (Nat.beq pc 10) (some (.invokestatic 48)) none) (cond (Nat.beq pc 13) (some (.ifCond .eq 7)) none)))) (cond (Nat.blt pc 24) (cond (Nat.blt pc 20) (cond (Nat.blt pc 17) (cond (Nat.beq pc 16) (some (.iconst 1)) none) (cond (Nat.beq pc 17) (some (.goto 4)) none)) (cond (Nat.blt pc 21) (cond (Nat.beq pc 20) (some (.iconst 0)) none) (cond (Nat.beq pc 21) (some (.invokestatic 52)) none))) (cond (Nat.blt pc 28) (cond (Nat.blt pc 25) (cond (Nat.beq pc 24) (some (.aload_n 0)) none) (cond (Nat.beq pc 25) (some (.getfield 32)) none)) (cond (Nat.blt pc 29) (cond (Nat.beq pc 28) (some (.iload_n 1)) none) (cond (Nat.blt pc 30) (cond (Nat.beq pc 29) (some (.aaload)) none) (cond (Nat.beq pc 30) (some (.invokestatic 66)) none)))))) (cond (Nat.blt pc 49) (cond (Nat.blt pc 39) (cond (Nat.blt pc 37) (cond (Nat.blt pc 34) (cond (Nat.beq pc 33) (some (.aload_n 0)) none) (cond (Nat.beq pc 34) (some (.getfield 32)) none)) (cond (Nat.blt pc 38) (cond (Nat.beq pc 37) (some (.iload_n 1)) none) (cond (Nat.beq pc 38) (some (.aaload)) none))) (cond (Nat.blt pc 44) (cond (Nat.blt pc 42) (cond (Nat.beq pc 39) (some (.getfield 60)) none) (cond (Nat.beq pc 42) (some (.astore 4)) none)) (cond (Nat.blt pc 45) (cond (Nat.beq pc 44) (some (.iload_n 3)) none) (cond (Nat.blt pc 46) (cond (Nat.beq pc 45) (some (.iconst (-1))) none) (cond (Nat.beq pc 46) (some (.if_icmp .ne 12)) none))))) (cond (Nat.blt pc 58) (cond (Nat.blt pc 52) (cond (Nat.blt pc 51) (cond (Nat.beq pc 49) (some (.aload 4)) none) (cond (Nat.beq pc 51) (some (.iload_n 2)) none)) (cond (Nat.blt pc 55) (cond (Nat.beq pc 52) (some (.invokevirtual 77)) none) (cond (Nat.beq pc 55) (some (.goto 10)) none))) (cond (Nat.blt pc 61) (cond (Nat.blt pc 60) (cond (Nat.beq pc 58) (some (.aload 4)) none) (cond (Nat.beq pc 60) (some (.iload_n 2)) none)) (cond (Nat.blt pc 62) (cond (Nat.beq pc 61) (some (.iload_n 3)) none) (cond (Nat.blt pc 65) (cond (Nat.beq pc 62) (some (.invokevirtual 94)) none) (cond (Nat.beq pc 65) (some (.ireturn)) none)))))))
theorem tb_i24 : tb_okI 5 prog_1_method_6_code tb_f24 := tb_okI_of 66 tb_cut_out (by decide +kernel)
theorem tb_p24 : tb_okP tb_cl tb_WA "VaultDevices" false tb_FL 0 tb_f24 := tb_okP_of 66 tb_cut_out (by decide +kernel)
/-- VaultDevices.change(II)I -/
def tb_f25 : Nat → Option Instr := tb_cut 73 (fun pc => cond (Nat.blt pc 39) (cond (Nat.blt pc 21) (cond (Nat.blt pc 9) (cond (Nat.blt pc 2) (cond (Nat.blt pc 1) (cond (Nat.beq pc 0) (some (.iload_n 1)) none) (cond (Nat.beq pc 1) (some (.iconst 3)) none)) (cond (Nat.blt pc 5) (cond (Nat.beq pc 2) (some (.invokestatic 48)) none) (cond (Nat.blt pc 8) (cond (Nat.beq pc 5) (some (.ifCond .eq 16)) none) (cond (Nat.beq pc 8) (some (.iload_n 2)) none)))) (cond (Nat.blt pc 14) (cond (Nat.blt pc 11) (cond (Nat.beq pc 9) (some (.bipush 8)) none) (cond (Nat.beq pc 11) (some (.invokestatic 48)) none)) (cond (Nat.blt pc 17) (cond (Nat.beq pc 14) (some (.ifCond .eq 7)) none) (cond (Nat.blt pc 18) (cond (Nat.beq pc 17) (some (.iconst 1)) none) (cond (Nat.beq pc 18) (some (.goto 4)) none))))) (cond (Nat.blt pc 30) (cond (Nat.blt pc 25) (cond (Nat.blt pc 22) (cond (Nat.beq pc 21) (some (.iconst 0)) none) (cond (Nat.beq pc 22) (some (.invokestatic 52)) none)) (cond (Nat.blt pc 26) (cond (Nat.beq pc 25) (some (.aload_n 0)) none) (cond (Nat.blt pc 29) (cond (Nat.beq pc 26) (some (.getfield 32)) none) (cond (Nat.beq pc 29) (some (.iload_n 1)) none)))) (cond (Nat.blt pc 34) (cond (Nat.blt pc 31) (cond (Nat.beq pc 30) (some (.aaload)) none) (cond (Nat.beq pc 31) (some (.invokestatic 66)) none)) (cond (Nat.blt pc 35) (cond (Nat.beq pc 34) (some (.aload_n 0)) none) (cond (Nat.blt pc 38) (cond (Nat.beq pc 35) (some (.getfield 32)) none) (cond (Nat.beq pc 38) (some (.iload_n 1)) none)))))) (cond (Nat.blt pc 57) (cond (Nat.blt pc 48) (cond (Nat.blt pc 43) (cond (Nat.blt pc 40) (cond (Nat.beq pc 39) (some (.aaload)) none) (cond (Nat.beq pc 40) (some (.getfield 60)) none)) (cond (Nat.blt pc 44) (cond (Nat.beq pc 43) (some (.astore_n 3)) none) (cond (Nat.blt pc 45) (cond (Nat.beq pc 44) (some (.aload_n 3)) none) (cond (Nat.beq pc 45) (some (.getfield 98)) none)))) (cond (Nat.blt pc 53) (cond (Nat.blt pc 50) (cond (Nat.beq pc 48) (some (.bipush 30)) none) (cond (Nat.beq pc 50) (some (.if_icmp .lt 6)) none)) (cond (Nat.blt pc 55) (cond (Nat.beq pc 53) (some (.bipush (-2))) none) (cond (Nat.blt pc 56) (cond (Nat.beq pc 55) (some (.ireturn)) none) (cond (Nat.beq pc 56) (some (.aload_n 3)) none))))) (cond (Nat.blt pc 64) (cond (Nat.blt pc 61) (cond (Nat.blt pc 58) (cond (Nat.beq pc 57) (some (.aload_n 3)) none) (cond (Nat.beq pc 58) (some (.getfield 98)) none)) (cond (Nat.blt pc 62) (cond (Nat.beq pc 61) (some (.iconst 1)) none) (cond (Nat.blt pc 63) (cond (Nat.beq pc 62) (some (.iadd)) none) (cond (Nat.beq pc 63) (some (.iload_n 1)) none)))) (cond (Nat.blt pc 68) (cond (Nat.blt pc 65) (cond (Nat.beq pc 64) (some (.iload_n 2)) none) (cond (Nat.beq pc 65) (some (.invokevirtual 101)) none)) (cond (Nat.blt pc 69) (cond (Nat.beq pc 68) (some (.aload_n 3)) none) (cond (Nat.blt pc 72) (cond (Nat.beq pc 69) (some (.getfield 98)) none) (cond (Nat.beq pc 72) (some (.ireturn)) none)))))))
theorem tb_i25 : tb_okI 4 prog_1_method_7_code tb_f25 := tb_okI_of 73 tb_cut_out (by decide +kernel)
theorem tb_p25 : tb_okP tb_cl tb_WA "VaultDevices" false tb_FL 0 tb_f25 := tb_okP_of 73 tb_cut_out (by decide +kernel)
/-- VaultDevices.pull(I)Z -/
def tb_f26 : Nat → Option Instr := tb_cut 30 (fun pc => cond (Nat.blt pc 17) (cond (Nat.blt pc 8) (cond (Nat.blt pc 2) (cond (Nat.blt pc 1) (cond (Nat.beq pc 0) (some (.iload_n 1)) none) (cond (Nat.beq pc 1) (some (.iconst 3)) none)) (cond (Nat.blt pc 5) (cond (Nat.beq pc 2) (some (.invokestatic 48)) none) (cond (Nat.beq pc 5) (some (.invokestatic 52)) none))) (cond (Nat.blt pc 12) (cond (Nat.blt pc 9) (cond (Nat.beq pc 8) (some (.aload_n 0)) none) (cond (Nat.beq pc 9) (some (.getfield 32)) none)) (cond (Nat.blt pc 13) (cond (Nat.beq pc 12) (some (.iload_n 1)) none) (cond (Nat.blt pc 14) (cond (Nat.beq pc 13) (some (.aaload)) none) (cond (Nat.beq pc 14) (some (.invokestatic 66)) none))))) (cond (Nat.blt pc 23) (cond (Nat.blt pc 21) (cond (Nat.blt pc 18) (cond (Nat.beq pc 17) (some (.aload_n 0)) none) (cond (Nat.beq pc 18) (some (.getfield 26)) none)) (cond (Nat.blt pc 22) (cond (Nat.beq pc 21) (some (.iconst 0)) none) (cond (Nat.beq pc 22) (some (.iload_n 1)) none))) (cond (Nat.blt pc 25) (cond (Nat.blt pc 24) (cond (Nat.beq pc 23) (some (.iconst (-1))) none) (cond (Nat.beq pc 24) (some (.iconst (-1))) none)) (cond (Nat.blt pc 28) (cond (Nat.beq pc 25) (some (.invokevirtual 105)) none) (cond (Nat.blt pc 29) (cond (Nat.beq pc 28) (some (.iconst 1)) none) (cond (Nat.beq pc 29) (some (.ireturn)) none))))))
theorem tb_i26 : tb_okI 2 prog_1_method_8_code tb_f26 := tb_okI_of 30 tb_cut_out (by decide +kernel)
theorem tb_p26 : tb_okP tb_cl tb_WA "VaultDevices" false tb_FL 0 tb_f26 := tb_okP_of 30 tb_cut_out (by decide +kernel)
/-- VaultDevices.push(I)I -/
def tb_f27 : Nat → Option Instr := tb_cut 92 (fun pc => cond (Nat.blt pc 47) (cond (Nat.blt pc 22) (cond (Nat.blt pc 12) (cond (Nat.blt pc 5) (cond (Nat.blt pc 1) (cond (Nat.beq pc 0) (some (.iload_n 1)) none) (cond (Nat.blt pc 2) (cond (Nat.beq pc 1) (some (.iconst 3)) none) (cond (Nat.beq pc 2) (some (.invokestatic 48)) none))) (cond (Nat.blt pc 8) (cond (Nat.beq pc 5) (some (.invokestatic 52)) none) (cond (Nat.blt pc 9) (cond (Nat.beq pc 8) (some (.aload_n 0)) none) (cond (Nat.beq pc 9) (some (.getfield 32)) none)))) (cond (Nat.blt pc 17) (cond (Nat.blt pc 13) (cond (Nat.beq pc 12) (some (.iload_n 1)) none) (cond (Nat.blt pc 14) (cond (Nat.beq pc 13) (some (.aaload)) none) (cond (Nat.beq pc 14) (some (.invokestatic 66)) none))) (cond (Nat.blt pc 18) (cond (Nat.beq pc 17) (some (.aload_n 0)) none) (cond (Nat.blt pc 21) (cond (Nat.beq pc 18) (some (.getfield 19)) none) (cond (Nat.beq pc 21) (some (.aload_n 0)) none))))) (cond (Nat.blt pc 34) (cond (Nat.blt pc 29) (cond (Nat.blt pc 25) (cond (Nat.beq pc 22) (some (.getfield 10)) none) (cond (Nat.blt pc 26) (cond (Nat.beq pc 25) (some (.aload_n 0)) none) (cond (Nat.beq pc 26) (some (.getfield 32)) none))) (cond (Nat.blt pc 30) (cond (Nat.beq pc 29) (some (.iload_n 1)) none) (cond (Nat.blt pc 31) (cond (Nat.beq pc 30) (some (.aaload)) none) (cond (Nat.beq pc 31) (some (.getfield 60)) none)))) (cond (Nat.blt pc 39) (cond (Nat.blt pc 37) (cond (Nat.beq pc 34) (some (.invokevirtual 109)) none) (cond (Nat.blt pc 38) (cond (Nat.beq pc 37) (some (.istore_n 2)) none) (cond (Nat.beq pc 38) (some (.iload_n 2)) none))) (cond (Nat.blt pc 44) (cond (Nat.blt pc 41) (cond (Nat.beq pc 39) (some (.bipush (-2))) none) (cond (Nat.beq pc 41) (some (.if_icmp .ne 6)) none)) (cond (Nat.blt pc 46) (cond (Nat.beq pc 44) (some (.bipush (-2))) none) (cond (Nat.beq pc 46) (some (.ireturn)) none)))))) (cond (Nat.blt pc 71) (cond (Nat.blt pc 57) (cond (Nat.blt pc 52) (cond (Nat.blt pc 48) (cond (Nat.beq pc 47) (some (.aload_n 0)) none) (cond (Nat.blt pc 51) (cond (Nat.beq pc 48) (some (.getfield 10)) none) (cond (Nat.beq pc 51) (some (.aload_n 0)) none))) (cond (Nat.blt pc 55) (cond (Nat.beq pc 52) (some (.getfield 32)) none) (cond (Nat.blt pc 56) (cond (Nat.beq pc 55) (some (.iload_n 1)) none) (cond (Nat.beq pc 56) (some (.aaload)) none)))) (cond (Nat.blt pc 64) (cond (Nat.blt pc 60) (cond (Nat.beq pc 57) (some (.getfield 113)) none) (cond (Nat.blt pc 63) (cond (Nat.beq pc 60) (some (.invokevirtual 116)) none) (cond (Nat.beq pc 63) (some (.aload_n 0)) none))) (cond (Nat.blt pc 67) (cond (Nat.beq pc 64) (some (.getfield 10)) none) (cond (Nat.blt pc 68) (cond (Nat.beq pc 67) (some (.iload_n 2)) none) (cond (Nat.beq pc 68) (some (.invokevirtual 116)) none))))) (cond (Nat.blt pc 81) (cond (Nat.blt pc 76) (cond (Nat.blt pc 72) (cond (Nat.beq pc 71) (some (.aload_n 0)) none) (cond (Nat.blt pc 75) (cond (Nat.beq pc 72) (some (.getfield 26)) none) (cond (Nat.beq pc 75) (some (.iconst 1)) none))) (cond (Nat.blt pc 77) (cond (Nat.beq pc 76) (some (.iload_n 1)) none) (cond (Nat.blt pc 78) (cond (Nat.beq pc 77) (some (.aload_n 0)) none) (cond (Nat.beq pc 78) (some (.getfield 32)) none)))) (cond (Nat.blt pc 86) (cond (Nat.blt pc 82) (cond (Nat.beq pc 81) (some (.iload_n 1)) none) (cond (Nat.blt pc 83) (cond (Nat.beq pc 82) (some (.aaload)) none) (cond (Nat.beq pc 83) (some (.getfield 113)) none))) (cond (Nat.blt pc 90) (cond (Nat.blt pc 87) (cond (Nat.beq pc 86) (some (.iload_n 2)) none) (cond (Nat.beq pc 87) (some (.invokevirtual 105)) none)) (cond (Nat.blt pc 91) (cond (Nat.beq pc 90) (some (.iload_n 2)) none) (cond (Nat.beq pc 91) (some (.ireturn)) none)))))))
theorem tb_i27 : tb_okI 3 prog_1_method_9_code tb_f27 := tb_okI_of 92 tb_cut_out (by decide +kernel)
theorem tb_p27 : tb_okP tb_cl tb_WA "VaultDevices" false tb_FL 0 tb_f27 := tb_okP_of 92 tb_cut_out (by decide +kernel)
end
section
/-- VaultDevices$Terms.<init>()V -/
def tb_f28 : Nat → Option Instr := tb_cut 67 (fun pc => cond (Nat.blt pc 32) (cond (Nat.blt pc 14) (cond (Nat.blt pc 5) (cond (Nat.blt pc 1) (cond (Nat.beq pc 0) (some (.aload_n 0)) none) (cond (Nat.blt pc 4) (cond (Nat.beq pc 1) (some (.invokespecial 3)) none) (cond (Nat.beq pc 4) (some (.aload_n 0)) none))) (cond (Nat.blt pc 10) (cond (Nat.blt pc 8) (cond (Nat.beq pc 5) (some (.sipush 900)) none) (cond (Nat.beq pc 8) (some (.newarray .int)) none)) (cond (Nat.blt pc 13) (cond (Nat.beq pc 10) (some (.putfield 9)) none) (cond (Nat.beq pc 13) (some (.aload_n 0)) none)))) (cond (Nat.blt pc 23) (cond (Nat.blt pc 19) (cond (Nat.blt pc 17) (cond (Nat.beq pc 14) (some (.sipush 900)) none) (cond (Nat.beq pc 17) (some (.newarray .int)) none)) (cond (Nat.blt pc 22) (cond (Nat.beq pc 19) (some (.putfield 15)) none) (cond (Nat.beq pc 22) (some (.aload_n 0)) none))) (cond (Nat.blt pc 28) (cond (Nat.blt pc 26) (cond (Nat.beq pc 23) (some (.sipush 900)) none) (cond (Nat.beq pc 26) (some (.newarray .int)) none)) (cond (Nat.blt pc 31) (cond (Nat.beq pc 28) (some (.putfield 18)) none) (cond (Nat.beq pc 31) (some (.aload_n 0)) none))))) (cond (Nat.blt pc 50) (cond (Nat.blt pc 41) (cond (Nat.blt pc 37) (cond (Nat.blt pc 35) (cond (Nat.beq pc 32) (some (.sipush 900)) none) (cond (Nat.beq pc 35) (some (.newarray .boolean)) none)) (cond (Nat.blt pc 40) (cond (Nat.beq pc 37) (some (.putfield 21)) none) (cond (Nat.beq pc 40) (some (.aload_n 0)) none))) (cond (Nat.blt pc 46) (cond (Nat.blt pc 44) (cond (Nat.beq pc 41) (some (.sipush 901)) none) (cond (Nat.beq pc 44) (some (.newarray .int)) none)) (cond (Nat.blt pc 49) (cond (Nat.beq pc 46) (some (.putfield 25)) none) (cond (Nat.beq pc 49) (some (.aload_n 0)) none)))) (cond (Nat.blt pc 59) (cond (Nat.blt pc 55) (cond (Nat.blt pc 53) (cond (Nat.beq pc 50) (some (.sipush 900)) none) (cond (Nat.beq pc 53) (some (.newarray .int)) none)) (cond (Nat.blt pc 58) (cond (Nat.beq pc 55) (some (.putfield 28)) none) (cond (Nat.beq pc 58) (some (.aload_n 0)) none))) (cond (Nat.blt pc 63) (cond (Nat.blt pc 62) (cond (Nat.beq pc 59) (some (.getfield 25)) none) (cond (Nat.beq pc 62) (some (.iconst (-1))) none)) (cond (Nat.blt pc 66) (cond (Nat.beq pc 63) (some (.invokestatic 31)) none) (cond (Nat.beq pc 66) (some (.return_)) none))))))
theorem tb_i28 : tb_okI 1 prog_7_method_1_code tb_f28 := tb_okI_of 67 tb_cut_out (by decide +kernel)
theorem tb_p28 : tb_okP tb_cl tb_WA "VaultDevices$Terms" true tb_FL 1 tb_f28 := tb_okP_of 67 tb_cut_out (by decide +kernel)
/-- VaultDevices$Terms.partOf(II)I -/
def tb_f29 : Nat → Option Instr := tb_cut 27 (fun pc => cond (Nat.blt pc 12) (cond (Nat.blt pc 6) (cond (Nat.blt pc 2) (cond (Nat.blt pc 1) (cond (Nat.beq pc 0) (some (.aload_n 0)) none) (cond (Nat.beq pc 1) (some (.iload_n 1)) none)) (cond (Nat.blt pc 3) (cond (Nat.beq pc 2) (some (.iload_n 2)) none) (cond (Nat.beq pc 3) (some (.invokevirtual 49)) none))) (cond (Nat.blt pc 8) (cond (Nat.blt pc 7) (cond (Nat.beq pc 6) (some (.istore_n 3)) none) (cond (Nat.beq pc 7) (some (.aload_n 0)) none)) (cond (Nat.blt pc 9) (cond (Nat.beq pc 8) (some (.iload_n 3)) none) (cond (Nat.beq pc 9) (some (.invokevirtual 45)) none)))) (cond (Nat.blt pc 20) (cond (Nat.blt pc 16) (cond (Nat.blt pc 13) (cond (Nat.beq pc 12) (some (.iconst 4)) none) (cond (Nat.beq pc 13) (some (.if_icmp .ne 12)) none)) (cond (Nat.blt pc 17) (cond (Nat.beq pc 16) (some (.aload_n 0)) none) (cond (Nat.beq pc 17) (some (.getfield 15)) none))) (cond (Nat.blt pc 22) (cond (Nat.blt pc 21) (cond (Nat.beq pc 20) (some (.iload_n 3)) none) (cond (Nat.beq pc 21) (some (.iaload)) none)) (cond (Nat.blt pc 25) (cond (Nat.beq pc 22) (some (.goto 4)) none) (cond (Nat.blt pc 26) (cond (Nat.beq pc 25) (some (.iconst (-1))) none) (cond (Nat.beq pc 26) (some (.ireturn)) none))))))
theorem tb_i29 : tb_okI 4 prog_7_method_8_code tb_f29 := tb_okI_of 27 tb_cut_out (by decide +kernel)
theorem tb_p29 : tb_okP tb_cl tb_WA "VaultDevices$Terms" false tb_FL 1 tb_f29 := tb_okP_of 27 tb_cut_out (by decide +kernel)
/-- VaultDevices$Terms.tailOf(II)I -/
def tb_f30 : Nat → Option Instr := tb_cut 52 (fun pc => cond (Nat.blt pc 27) (cond (Nat.blt pc 11) (cond (Nat.blt pc 3) (cond (Nat.blt pc 1) (cond (Nat.beq pc 0) (some (.iload_n 1)) none) (cond (Nat.blt pc 2) (cond (Nat.beq pc 1) (some (.istore_n 3)) none) (cond (Nat.beq pc 2) (some (.iconst 0)) none))) (cond (Nat.blt pc 7) (cond (Nat.blt pc 5) (cond (Nat.beq pc 3) (some (.istore 4)) none) (cond (Nat.beq pc 5) (some (.iload 4)) none)) (cond (Nat.blt pc 8) (cond (Nat.beq pc 7) (some (.iload_n 2)) none) (cond (Nat.beq pc 8) (some (.if_icmp .ge 42)) none)))) (cond (Nat.blt pc 17) (cond (Nat.blt pc 15) (cond (Nat.blt pc 12) (cond (Nat.beq pc 11) (some (.iload_n 3)) none) (cond (Nat.beq pc 12) (some (.ifCond .lt 30)) none)) (cond (Nat.blt pc 16) (cond (Nat.beq pc 15) (some (.iload_n 3)) none) (cond (Nat.beq pc 16) (some (.aload_n 0)) none))) (cond (Nat.blt pc 23) (cond (Nat.blt pc 20) (cond (Nat.beq pc 17) (some (.getfield 37)) none) (cond (Nat.beq pc 20) (some (.if_icmp .ge 22)) none)) (cond (Nat.blt pc 24) (cond (Nat.beq pc 23) (some (.aload_n 0)) none) (cond (Nat.beq pc 24) (some (.getfield 9)) none))))) (cond (Nat.blt pc 38) (cond (Nat.blt pc 30) (cond (Nat.blt pc 28) (cond (Nat.beq pc 27) (some (.iload_n 3)) none) (cond (Nat.blt pc 29) (cond (Nat.beq pc 28) (some (.iaload)) none) (cond (Nat.beq pc 29) (some (.iconst 4)) none))) (cond (Nat.blt pc 34) (cond (Nat.blt pc 33) (cond (Nat.beq pc 30) (some (.if_icmp .ne 12)) none) (cond (Nat.beq pc 33) (some (.aload_n 0)) none)) (cond (Nat.blt pc 37) (cond (Nat.beq pc 34) (some (.getfield 18)) none) (cond (Nat.beq pc 37) (some (.iload_n 3)) none)))) (cond (Nat.blt pc 44) (cond (Nat.blt pc 42) (cond (Nat.blt pc 39) (cond (Nat.beq pc 38) (some (.iaload)) none) (cond (Nat.beq pc 39) (some (.goto 4)) none)) (cond (Nat.blt pc 43) (cond (Nat.beq pc 42) (some (.iconst (-1))) none) (cond (Nat.beq pc 43) (some (.istore_n 3)) none))) (cond (Nat.blt pc 50) (cond (Nat.blt pc 47) (cond (Nat.beq pc 44) (some (.iinc 4 1)) none) (cond (Nat.beq pc 47) (some (.goto (-42))) none)) (cond (Nat.blt pc 51) (cond (Nat.beq pc 50) (some (.iload_n 3)) none) (cond (Nat.beq pc 51) (some (.ireturn)) none))))))
theorem tb_i30 : tb_okI 5 prog_7_method_7_code tb_f30 := tb_okI_of 52 tb_cut_out (by decide +kernel)
theorem tb_p30 : tb_okP tb_cl tb_WA "VaultDevices$Terms" false tb_FL 1 tb_f30 := tb_okP_of 52 tb_cut_out (by decide +kernel)
/-- VaultDevices$Terms.kindOf(I)I -/
def tb_f31 : Nat → Option Instr := tb_cut 23 (fun pc => cond (Nat.blt pc 12) (cond (Nat.blt pc 5) (cond (Nat.blt pc 1) (cond (Nat.beq pc 0) (some (.iload_n 1)) none) (cond (Nat.blt pc 4) (cond (Nat.beq pc 1) (some (.ifCond .lt 20)) none) (cond (Nat.beq pc 4) (some (.iload_n 1)) none))) (cond (Nat.blt pc 6) (cond (Nat.beq pc 5) (some (.aload_n 0)) none) (cond (Nat.blt pc 9) (cond (Nat.beq pc 6) (some (.getfield 37)) none) (cond (Nat.beq pc 9) (some (.if_icmp .ge 12)) none)))) (cond (Nat.blt pc 17) (cond (Nat.blt pc 13) (cond (Nat.beq pc 12) (some (.aload_n 0)) none) (cond (Nat.blt pc 16) (cond (Nat.beq pc 13) (some (.getfield 9)) none) (cond (Nat.beq pc 16) (some (.iload_n 1)) none))) (cond (Nat.blt pc 21) (cond (Nat.blt pc 18) (cond (Nat.beq pc 17) (some (.iaload)) none) (cond (Nat.beq pc 18) (some (.goto 4)) none)) (cond (Nat.blt pc 22) (cond (Nat.beq pc 21) (some (.iconst (-1))) none) (cond (Nat.beq pc 22) (some (.ireturn)) none)))))
theorem tb_i31 : tb_okI 2 prog_7_method_2_code tb_f31 := tb_okI_of 23 tb_cut_out (by decide +kernel)
theorem tb_p31 : tb_okP tb_cl tb_WA "VaultDevices$Terms" false tb_FL 1 tb_f31 := tb_okP_of 23 tb_cut_out (by decide +kernel)
/-- VaultDevices$Terms.yOf(I)I -/
def tb_f32 : Nat → Option Instr := tb_cut 22 (fun pc => cond (Nat.blt pc 12) (cond (Nat.blt pc 5) (cond (Nat.blt pc 1) (cond (Nat.beq pc 0) (some (.iload_n 1)) none) (cond (Nat.blt pc 2) (cond (Nat.beq pc 1) (some (.aload_n 0)) none) (cond (Nat.beq pc 2) (some (.getfield 37)) none))) (cond (Nat.blt pc 8) (cond (Nat.beq pc 5) (some (.invokestatic 41)) none) (cond (Nat.blt pc 11) (cond (Nat.beq pc 8) (some (.ifCond .eq 12)) none) (cond (Nat.beq pc 11) (some (.aload_n 0)) none)))) (cond (Nat.blt pc 17) (cond (Nat.blt pc 15) (cond (Nat.beq pc 12) (some (.getfield 18)) none) (cond (Nat.blt pc 16) (cond (Nat.beq pc 15) (some (.iload_n 1)) none) (cond (Nat.beq pc 16) (some (.iaload)) none))) (cond (Nat.blt pc 20) (cond (Nat.beq pc 17) (some (.goto 4)) none) (cond (Nat.blt pc 21) (cond (Nat.beq pc 20) (some (.iconst (-1))) none) (cond (Nat.beq pc 21) (some (.ireturn)) none)))))
theorem tb_i32 : tb_okI 2 prog_7_method_4_code tb_f32 := tb_okI_of 22 tb_cut_out (by decide +kernel)
theorem tb_p32 : tb_okP tb_cl tb_WA "VaultDevices$Terms" false tb_FL 1 tb_f32 := tb_okP_of 22 tb_cut_out (by decide +kernel)
/-- VaultDevices$Terms.xOf(I)I -/
def tb_f33 : Nat → Option Instr := tb_cut 22 (fun pc => cond (Nat.blt pc 12) (cond (Nat.blt pc 5) (cond (Nat.blt pc 1) (cond (Nat.beq pc 0) (some (.iload_n 1)) none) (cond (Nat.blt pc 2) (cond (Nat.beq pc 1) (some (.aload_n 0)) none) (cond (Nat.beq pc 2) (some (.getfield 37)) none))) (cond (Nat.blt pc 8) (cond (Nat.beq pc 5) (some (.invokestatic 41)) none) (cond (Nat.blt pc 11) (cond (Nat.beq pc 8) (some (.ifCond .eq 12)) none) (cond (Nat.beq pc 11) (some (.aload_n 0)) none)))) (cond (Nat.blt pc 17) (cond (Nat.blt pc 15) (cond (Nat.beq pc 12) (some (.getfield 15)) none) (cond (Nat.blt pc 16) (cond (Nat.beq pc 15) (some (.iload_n 1)) none) (cond (Nat.beq pc 16) (some (.iaload)) none))) (cond (Nat.blt pc 20) (cond (Nat.beq pc 17) (some (.goto 4)) none) (cond (Nat.blt pc 21) (cond (Nat.beq pc 20) (some (.iconst (-1))) none) (cond (Nat.beq pc 21) (some (.ireturn)) none)))))
theorem tb_i33 : tb_okI 2 prog_7_method_3_code tb_f33 := tb_okI_of 22 tb_cut_out (by decide +kernel)
theorem tb_p33 : tb_okP tb_cl tb_WA "VaultDevices$Terms" false tb_FL 1 tb_f33 := tb_okP_of 22 tb_cut_out (by decide +kernel)
/-- VaultDevices$Terms.valueOf(II)I -/
def tb_f34 : Nat → Option Instr := tb_cut 20 (fun pc => cond (Nat.blt pc 10) (cond (Nat.blt pc 5) (cond (Nat.blt pc 1) (cond (Nat.beq pc 0) (some (.aload_n 0)) none) (cond (Nat.blt pc 2) (cond (Nat.beq pc 1) (some (.iload_n 1)) none) (cond (Nat.beq pc 2) (some (.invokevirtual 45)) none))) (cond (Nat.blt pc 6) (cond (Nat.beq pc 5) (some (.iload_n 2)) none) (cond (Nat.blt pc 9) (cond (Nat.beq pc 6) (some (.if_icmp .ne 12)) none) (cond (Nat.beq pc 9) (some (.aload_n 0)) none)))) (cond (Nat.blt pc 15) (cond (Nat.blt pc 13) (cond (Nat.beq pc 10) (some (.getfield 15)) none) (cond (Nat.blt pc 14) (cond (Nat.beq pc 13) (some (.iload_n 1)) none) (cond (Nat.beq pc 14) (some (.iaload)) none))) (cond (Nat.blt pc 18) (cond (Nat.beq pc 15) (some (.goto 4)) none) (cond (Nat.blt pc 19) (cond (Nat.beq pc 18) (some (.iconst (-1))) none) (cond (Nat.beq pc 19) (some (.ireturn)) none)))))
theorem tb_i34 : tb_okI 3 prog_7_method_6_code tb_f34 := tb_okI_of 20 tb_cut_out (by decide +kernel)
theorem tb_p34 : tb_okP tb_cl tb_WA "VaultDevices$Terms" false tb_FL 1 tb_f34 := tb_okP_of 20 tb_cut_out (by decide +kernel)
/-- VaultDevices$Terms.reveal(I)V -/
def tb_f35 : Nat → Option Instr := tb_cut 32 (fun pc => cond (Nat.blt pc 17) (cond (Nat.blt pc 8) (cond (Nat.blt pc 2) (cond (Nat.blt pc 1) (cond (Nat.beq pc 0) (some (.iload_n 1)) none) (cond (Nat.beq pc 1) (some (.aload_n 0)) none)) (cond (Nat.blt pc 5) (cond (Nat.beq pc 2) (some (.getfield 37)) none) (cond (Nat.beq pc 5) (some (.invokestatic 41)) none))) (cond (Nat.blt pc 12) (cond (Nat.blt pc 11) (cond (Nat.beq pc 8) (some (.ifCond .eq 23)) none) (cond (Nat.beq pc 11) (some (.aload_n 0)) none)) (cond (Nat.blt pc 15) (cond (Nat.beq pc 12) (some (.getfield 21)) none) (cond (Nat.blt pc 16) (cond (Nat.beq pc 15) (some (.iload_n 1)) none) (cond (Nat.beq pc 16) (some (.baload)) none))))) (cond (Nat.blt pc 25) (cond (Nat.blt pc 21) (cond (Nat.blt pc 20) (cond (Nat.beq pc 17) (some (.ifCond .ne 14)) none) (cond (Nat.beq pc 20) (some (.aload_n 0)) none)) (cond (Nat.blt pc 24) (cond (Nat.beq pc 21) (some (.getfield 21)) none) (cond (Nat.beq pc 24) (some (.iload_n 1)) none))) (cond (Nat.blt pc 27) (cond (Nat.blt pc 26) (cond (Nat.beq pc 25) (some (.iconst 1)) none) (cond (Nat.beq pc 26) (some (.bastore)) none)) (cond (Nat.blt pc 28) (cond (Nat.beq pc 27) (some (.aload_n 0)) none) (cond (Nat.blt pc 31) (cond (Nat.beq pc 28) (some (.invokevirtual 60)) none) (cond (Nat.beq pc 31) (some (.return_)) none))))))
theorem tb_i35 : tb_okI 2 prog_7_method_13_code tb_f35 := tb_okI_of 32 tb_cut_out (by decide +kernel)
theorem tb_p35 : tb_okP tb_cl tb_WA "VaultDevices$Terms" false tb_FL 1 tb_f35 := tb_okP_of 32 tb_cut_out (by decide +kernel)
/-- VaultDevices$Terms.spread()V -/
def tb_f36 : Nat → Option Instr := tb_cut 142 (fun pc => cond (Nat.blt pc 67) (cond (Nat.blt pc 32) (cond (Nat.blt pc 16) (cond (Nat.blt pc 5) (cond (Nat.blt pc 2) (cond (Nat.blt pc 1) (cond (Nat.beq pc 0) (some (.iconst 1)) none) (cond (Nat.beq pc 1) (some (.istore_n 1)) none)) (cond (Nat.blt pc 3) (cond (Nat.beq pc 2) (some (.iconst 0)) none) (cond (Nat.blt pc 4) (cond (Nat.beq pc 3) (some (.istore_n 2)) none) (cond (Nat.beq pc 4) (some (.iload_n 2)) none)))) (cond (Nat.blt pc 11) (cond (Nat.blt pc 8) (cond (Nat.beq pc 5) (some (.sipush 900)) none) (cond (Nat.beq pc 8) (some (.if_icmp .gt 133)) none)) (cond (Nat.blt pc 12) (cond (Nat.beq pc 11) (some (.iload_n 1)) none) (cond (Nat.blt pc 15) (cond (Nat.beq pc 12) (some (.ifCond .eq 129)) none) (cond (Nat.beq pc 15) (some (.iconst 0)) none))))) (cond (Nat.blt pc 23) (cond (Nat.blt pc 18) (cond (Nat.blt pc 17) (cond (Nat.beq pc 16) (some (.istore_n 1)) none) (cond (Nat.beq pc 17) (some (.aload_n 0)) none)) (cond (Nat.blt pc 21) (cond (Nat.beq pc 18) (some (.getfield 37)) none) (cond (Nat.blt pc 22) (cond (Nat.beq pc 21) (some (.iconst 1)) none) (cond (Nat.beq pc 22) (some (.isub)) none)))) (cond (Nat.blt pc 25) (cond (Nat.blt pc 24) (cond (Nat.beq pc 23) (some (.istore_n 3)) none) (cond (Nat.beq pc 24) (some (.iload_n 3)) none)) (cond (Nat.blt pc 28) (cond (Nat.beq pc 25) (some (.ifCond .lt 38)) none) (cond (Nat.blt pc 29) (cond (Nat.beq pc 28) (some (.aload_n 0)) none) (cond (Nat.beq pc 29) (some (.getfield 21)) none)))))) (cond (Nat.blt pc 48) (cond (Nat.blt pc 41) (cond (Nat.blt pc 34) (cond (Nat.blt pc 33) (cond (Nat.beq pc 32) (some (.iload_n 3)) none) (cond (Nat.beq pc 33) (some (.baload)) none)) (cond (Nat.blt pc 37) (cond (Nat.beq pc 34) (some (.ifCond .eq 23)) none) (cond (Nat.blt pc 38) (cond (Nat.beq pc 37) (some (.aload_n 0)) none) (cond (Nat.beq pc 38) (some (.getfield 9)) none)))) (cond (Nat.blt pc 43) (cond (Nat.blt pc 42) (cond (Nat.beq pc 41) (some (.iload_n 3)) none) (cond (Nat.beq pc 42) (some (.iaload)) none)) (cond (Nat.blt pc 44) (cond (Nat.beq pc 43) (some (.iconst 2)) none) (cond (Nat.blt pc 47) (cond (Nat.beq pc 44) (some (.if_icmp .lt 13)) none) (cond (Nat.beq pc 47) (some (.aload_n 0)) none))))) (cond (Nat.blt pc 57) (cond (Nat.blt pc 52) (cond (Nat.blt pc 49) (cond (Nat.beq pc 48) (some (.iload_n 3)) none) (cond (Nat.beq pc 49) (some (.invokevirtual 63)) none)) (cond (Nat.blt pc 55) (cond (Nat.beq pc 52) (some (.ifCond .eq 5)) none) (cond (Nat.blt pc 56) (cond (Nat.beq pc 55) (some (.iconst 1)) none) (cond (Nat.beq pc 56) (some (.istore_n 1)) none)))) (cond (Nat.blt pc 64) (cond (Nat.blt pc 60) (cond (Nat.beq pc 57) (some (.iinc 3 (-1))) none) (cond (Nat.blt pc 63) (cond (Nat.beq pc 60) (some (.goto (-36))) none) (cond (Nat.beq pc 63) (some (.iconst 0)) none))) (cond (Nat.blt pc 65) (cond (Nat.beq pc 64) (some (.istore_n 3)) none) (cond (Nat.blt pc 66) (cond (Nat.beq pc 65) (some (.iload_n 3)) none) (cond (Nat.beq pc 66) (some (.aload_n 0)) none))))))) (cond (Nat.blt pc 103) (cond (Nat.blt pc 87) (cond (Nat.blt pc 78) (cond (Nat.blt pc 73) (cond (Nat.blt pc 70) (cond (Nat.beq pc 67) (some (.getfield 37)) none) (cond (Nat.beq pc 70) (some (.if_icmp .ge 65)) none)) (cond (Nat.blt pc 74) (cond (Nat.beq pc 73) (some (.aload_n 0)) none) (cond (Nat.blt pc 77) (cond (Nat.beq pc 74) (some (.getfield 21)) none) (cond (Nat.beq pc 77) (some (.iload_n 3)) none)))) (cond (Nat.blt pc 82) (cond (Nat.blt pc 79) (cond (Nat.beq pc 78) (some (.baload)) none) (cond (Nat.beq pc 79) (some (.ifCond .ne 50)) none)) (cond (Nat.blt pc 83) (cond (Nat.beq pc 82) (some (.aload_n 0)) none) (cond (Nat.blt pc 86) (cond (Nat.beq pc 83) (some (.getfield 9)) none) (cond (Nat.beq pc 86) (some (.iload_n 3)) none))))) (cond (Nat.blt pc 96) (cond (Nat.blt pc 89) (cond (Nat.blt pc 88) (cond (Nat.beq pc 87) (some (.iaload)) none) (cond (Nat.beq pc 88) (some (.iconst 2)) none)) (cond (Nat.blt pc 92) (cond (Nat.beq pc 89) (some (.if_icmp .lt 40)) none) (cond (Nat.blt pc 93) (cond (Nat.beq pc 92) (some (.aload_n 0)) none) (cond (Nat.beq pc 93) (some (.getfield 21)) none)))) (cond (Nat.blt pc 100) (cond (Nat.blt pc 97) (cond (Nat.beq pc 96) (some (.aload_n 0)) none) (cond (Nat.beq pc 97) (some (.getfield 15)) none)) (cond (Nat.blt pc 101) (cond (Nat.beq pc 100) (some (.iload_n 3)) none) (cond (Nat.blt pc 102) (cond (Nat.beq pc 101) (some (.iaload)) none) (cond (Nat.beq pc 102) (some (.baload)) none)))))) (cond (Nat.blt pc 121) (cond (Nat.blt pc 114) (cond (Nat.blt pc 107) (cond (Nat.blt pc 106) (cond (Nat.beq pc 103) (some (.ifCond .eq 26)) none) (cond (Nat.beq pc 106) (some (.aload_n 0)) none)) (cond (Nat.blt pc 110) (cond (Nat.beq pc 107) (some (.getfield 21)) none) (cond (Nat.blt pc 111) (cond (Nat.beq pc 110) (some (.aload_n 0)) none) (cond (Nat.beq pc 111) (some (.getfield 18)) none)))) (cond (Nat.blt pc 116) (cond (Nat.blt pc 115) (cond (Nat.beq pc 114) (some (.iload_n 3)) none) (cond (Nat.beq pc 115) (some (.iaload)) none)) (cond (Nat.blt pc 117) (cond (Nat.beq pc 116) (some (.baload)) none) (cond (Nat.blt pc 120) (cond (Nat.beq pc 117) (some (.ifCond .eq 12)) none) (cond (Nat.beq pc 120) (some (.aload_n 0)) none))))) (cond (Nat.blt pc 128) (cond (Nat.blt pc 125) (cond (Nat.blt pc 124) (cond (Nat.beq pc 121) (some (.getfield 21)) none) (cond (Nat.beq pc 124) (some (.iload_n 3)) none)) (cond (Nat.blt pc 126) (cond (Nat.beq pc 125) (some (.iconst 1)) none) (cond (Nat.blt pc 127) (cond (Nat.beq pc 126) (some (.bastore)) none) (cond (Nat.beq pc 127) (some (.iconst 1)) none)))) (cond (Nat.blt pc 135) (cond (Nat.blt pc 129) (cond (Nat.beq pc 128) (some (.istore_n 1)) none) (cond (Nat.blt pc 132) (cond (Nat.beq pc 129) (some (.iinc 3 1)) none) (cond (Nat.beq pc 132) (some (.goto (-67))) none))) (cond (Nat.blt pc 138) (cond (Nat.beq pc 135) (some (.iinc 2 1)) none) (cond (Nat.blt pc 141) (cond (Nat.beq pc 138) (some (.goto (-134))) none) (cond (Nat.beq pc 141) (some (.return_)) none))))))))
theorem tb_i36 : tb_okI 4 prog_7_method_14_code tb_f36 := tb_okI_of 142 tb_cut_out (by decide +kernel)
theorem tb_p36 : tb_okP tb_cl tb_WA "VaultDevices$Terms" false tb_FL 1 tb_f36 := tb_okP_of 142 tb_cut_out (by decide +kernel)
/-- VaultDevices$Terms.takeApart(I)Z -/
def tb_f37 : Nat → Option Instr := tb_cut 109 (fun pc => cond (Nat.blt pc 51) (cond (Nat.blt pc 23) (cond (Nat.blt pc 12) (cond (Nat.blt pc 6) (cond (Nat.blt pc 4) (cond (Nat.blt pc 1) (cond (Nat.beq pc 0) (some (.aload_n 0)) none) (cond (Nat.beq pc 1) (some (.getfield 15)) none)) (cond (Nat.blt pc 5) (cond (Nat.beq pc 4) (some (.iload_n 1)) none) (cond (Nat.beq pc 5) (some (.iaload)) none))) (cond (Nat.blt pc 8) (cond (Nat.blt pc 7) (cond (Nat.beq pc 6) (some (.istore_n 2)) none) (cond (Nat.beq pc 7) (some (.aload_n 0)) none)) (cond (Nat.blt pc 11) (cond (Nat.beq pc 8) (some (.getfield 18)) none) (cond (Nat.beq pc 11) (some (.iload_n 1)) none)))) (cond (Nat.blt pc 17) (cond (Nat.blt pc 14) (cond (Nat.blt pc 13) (cond (Nat.beq pc 12) (some (.iaload)) none) (cond (Nat.beq pc 13) (some (.istore_n 3)) none)) (cond (Nat.blt pc 15) (cond (Nat.beq pc 14) (some (.iconst 0)) none) (cond (Nat.beq pc 15) (some (.istore 4)) none))) (cond (Nat.blt pc 21) (cond (Nat.blt pc 18) (cond (Nat.beq pc 17) (some (.aload_n 0)) none) (cond (Nat.beq pc 18) (some (.getfield 9)) none)) (cond (Nat.blt pc 22) (cond (Nat.beq pc 21) (some (.iload_n 1)) none) (cond (Nat.beq pc 22) (some (.iaload)) none))))) (cond (Nat.blt pc 37) (cond (Nat.blt pc 31) (cond (Nat.blt pc 27) (cond (Nat.blt pc 24) (cond (Nat.beq pc 23) (some (.iconst 4)) none) (cond (Nat.beq pc 24) (some (.if_icmp .ne 22)) none)) (cond (Nat.blt pc 28) (cond (Nat.beq pc 27) (some (.aload_n 0)) none) (cond (Nat.beq pc 28) (some (.getfield 21)) none))) (cond (Nat.blt pc 33) (cond (Nat.blt pc 32) (cond (Nat.beq pc 31) (some (.iload_n 2)) none) (cond (Nat.beq pc 32) (some (.baload)) none)) (cond (Nat.blt pc 36) (cond (Nat.beq pc 33) (some (.ifCond .ne 13)) none) (cond (Nat.beq pc 36) (some (.aload_n 0)) none)))) (cond (Nat.blt pc 43) (cond (Nat.blt pc 41) (cond (Nat.blt pc 40) (cond (Nat.beq pc 37) (some (.getfield 21)) none) (cond (Nat.beq pc 40) (some (.iload_n 2)) none)) (cond (Nat.blt pc 42) (cond (Nat.beq pc 41) (some (.iconst 1)) none) (cond (Nat.beq pc 42) (some (.bastore)) none))) (cond (Nat.blt pc 46) (cond (Nat.blt pc 44) (cond (Nat.beq pc 43) (some (.iconst 1)) none) (cond (Nat.beq pc 44) (some (.istore 4)) none)) (cond (Nat.blt pc 47) (cond (Nat.beq pc 46) (some (.aload_n 0)) none) (cond (Nat.blt pc 50) (cond (Nat.beq pc 47) (some (.getfield 9)) none) (cond (Nat.beq pc 50) (some (.iload_n 1)) none))))))) (cond (Nat.blt pc 80) (cond (Nat.blt pc 63) (cond (Nat.blt pc 57) (cond (Nat.blt pc 53) (cond (Nat.blt pc 52) (cond (Nat.beq pc 51) (some (.iaload)) none) (cond (Nat.beq pc 52) (some (.iconst 4)) none)) (cond (Nat.blt pc 56) (cond (Nat.beq pc 53) (some (.if_icmp .eq 22)) none) (cond (Nat.beq pc 56) (some (.aload_n 0)) none))) (cond (Nat.blt pc 61) (cond (Nat.blt pc 60) (cond (Nat.beq pc 57) (some (.getfield 9)) none) (cond (Nat.beq pc 60) (some (.iload_n 1)) none)) (cond (Nat.blt pc 62) (cond (Nat.beq pc 61) (some (.iaload)) none) (cond (Nat.beq pc 62) (some (.iconst 3)) none)))) (cond (Nat.blt pc 71) (cond (Nat.blt pc 67) (cond (Nat.blt pc 66) (cond (Nat.beq pc 63) (some (.if_icmp .ne 16)) none) (cond (Nat.beq pc 66) (some (.aload_n 0)) none)) (cond (Nat.blt pc 70) (cond (Nat.beq pc 67) (some (.getfield 21)) none) (cond (Nat.beq pc 70) (some (.iload_n 2)) none))) (cond (Nat.blt pc 75) (cond (Nat.blt pc 72) (cond (Nat.beq pc 71) (some (.baload)) none) (cond (Nat.beq pc 72) (some (.ifCond .eq 7)) none)) (cond (Nat.blt pc 76) (cond (Nat.beq pc 75) (some (.iconst 1)) none) (cond (Nat.blt pc 79) (cond (Nat.beq pc 76) (some (.goto 4)) none) (cond (Nat.beq pc 79) (some (.iconst 0)) none)))))) (cond (Nat.blt pc 96) (cond (Nat.blt pc 88) (cond (Nat.blt pc 84) (cond (Nat.blt pc 82) (cond (Nat.beq pc 80) (some (.istore 5)) none) (cond (Nat.beq pc 82) (some (.iload 5)) none)) (cond (Nat.blt pc 87) (cond (Nat.beq pc 84) (some (.ifCond .eq 22)) none) (cond (Nat.beq pc 87) (some (.aload_n 0)) none))) (cond (Nat.blt pc 92) (cond (Nat.blt pc 91) (cond (Nat.beq pc 88) (some (.getfield 21)) none) (cond (Nat.beq pc 91) (some (.iload_n 3)) none)) (cond (Nat.blt pc 93) (cond (Nat.beq pc 92) (some (.baload)) none) (cond (Nat.beq pc 93) (some (.ifCond .ne 13)) none)))) (cond (Nat.blt pc 102) (cond (Nat.blt pc 100) (cond (Nat.blt pc 97) (cond (Nat.beq pc 96) (some (.aload_n 0)) none) (cond (Nat.beq pc 97) (some (.getfield 21)) none)) (cond (Nat.blt pc 101) (cond (Nat.beq pc 100) (some (.iload_n 3)) none) (cond (Nat.beq pc 101) (some (.iconst 1)) none))) (cond (Nat.blt pc 104) (cond (Nat.blt pc 103) (cond (Nat.beq pc 102) (some (.bastore)) none) (cond (Nat.beq pc 103) (some (.iconst 1)) none)) (cond (Nat.blt pc 106) (cond (Nat.beq pc 104) (some (.istore 4)) none) (cond (Nat.blt pc 108) (cond (Nat.beq pc 106) (some (.iload 4)) none) (cond (Nat.beq pc 108) (some (.ireturn)) none))))))))
theorem tb_i37 : tb_okI 6 prog_7_method_15_code tb_f37 := tb_okI_of 109 tb_cut_out (by decide +kernel)
theorem tb_p37 : tb_okP tb_cl tb_WA "VaultDevices$Terms" false tb_FL 1 tb_f37 := tb_okP_of 109 tb_cut_out (by decide +kernel)
/-- VaultDevices$Terms.isKnown(I)Z -/
def tb_f38 : Nat → Option Instr := tb_cut 26 (fun pc => cond (Nat.blt pc 15) (cond (Nat.blt pc 5) (cond (Nat.blt pc 1) (cond (Nat.beq pc 0) (some (.iload_n 1)) none) (cond (Nat.blt pc 2) (cond (Nat.beq pc 1) (some (.aload_n 0)) none) (cond (Nat.beq pc 2) (some (.getfield 37)) none))) (cond (Nat.blt pc 11) (cond (Nat.blt pc 8) (cond (Nat.beq pc 5) (some (.invokestatic 41)) none) (cond (Nat.beq pc 8) (some (.ifCond .eq 16)) none)) (cond (Nat.blt pc 12) (cond (Nat.beq pc 11) (some (.aload_n 0)) none) (cond (Nat.beq pc 12) (some (.getfield 21)) none)))) (cond (Nat.blt pc 20) (cond (Nat.blt pc 16) (cond (Nat.beq pc 15) (some (.iload_n 1)) none) (cond (Nat.blt pc 17) (cond (Nat.beq pc 16) (some (.baload)) none) (cond (Nat.beq pc 17) (some (.ifCond .eq 7)) none))) (cond (Nat.blt pc 24) (cond (Nat.blt pc 21) (cond (Nat.beq pc 20) (some (.iconst 1)) none) (cond (Nat.beq pc 21) (some (.goto 4)) none)) (cond (Nat.blt pc 25) (cond (Nat.beq pc 24) (some (.iconst 0)) none) (cond (Nat.beq pc 25) (some (.ireturn)) none)))))
theorem tb_i38 : tb_okI 2 prog_7_method_5_code tb_f38 := tb_okI_of 26 tb_cut_out (by decide +kernel)
theorem tb_p38 : tb_okP tb_cl tb_WA "VaultDevices$Terms" false tb_FL 1 tb_f38 := tb_okP_of 26 tb_cut_out (by decide +kernel)
/-- VaultDevices$Terms.make(III)I -/
def tb_f39 : Nat → Option Instr := tb_cut 131 (fun pc => cond (Nat.blt pc 69) (cond (Nat.blt pc 33) (cond (Nat.blt pc 16) (cond (Nat.blt pc 7) (cond (Nat.blt pc 3) (cond (Nat.blt pc 1) (cond (Nat.beq pc 0) (some (.iload_n 2)) none) (cond (Nat.beq pc 1) (some (.bipush (-2))) none)) (cond (Nat.blt pc 6) (cond (Nat.beq pc 3) (some (.if_icmp .eq 9)) none) (cond (Nat.beq pc 6) (some (.iload_n 3)) none))) (cond (Nat.blt pc 12) (cond (Nat.blt pc 9) (cond (Nat.beq pc 7) (some (.bipush (-2))) none) (cond (Nat.beq pc 9) (some (.if_icmp .ne 6)) none)) (cond (Nat.blt pc 14) (cond (Nat.beq pc 12) (some (.bipush (-2))) none) (cond (Nat.blt pc 15) (cond (Nat.beq pc 14) (some (.ireturn)) none) (cond (Nat.beq pc 15) (some (.aload_n 0)) none))))) (cond (Nat.blt pc 24) (cond (Nat.blt pc 18) (cond (Nat.blt pc 17) (cond (Nat.beq pc 16) (some (.iload_n 1)) none) (cond (Nat.beq pc 17) (some (.iload_n 2)) none)) (cond (Nat.blt pc 19) (cond (Nat.beq pc 18) (some (.iload_n 3)) none) (cond (Nat.blt pc 22) (cond (Nat.beq pc 19) (some (.invokevirtual 53)) none) (cond (Nat.beq pc 22) (some (.istore 4)) none)))) (cond (Nat.blt pc 27) (cond (Nat.blt pc 26) (cond (Nat.beq pc 24) (some (.iload 4)) none) (cond (Nat.beq pc 26) (some (.iconst (-1))) none)) (cond (Nat.blt pc 30) (cond (Nat.beq pc 27) (some (.if_icmp .eq 6)) none) (cond (Nat.blt pc 32) (cond (Nat.beq pc 30) (some (.iload 4)) none) (cond (Nat.beq pc 32) (some (.ireturn)) none)))))) (cond (Nat.blt pc 53) (cond (Nat.blt pc 45) (cond (Nat.blt pc 37) (cond (Nat.blt pc 34) (cond (Nat.beq pc 33) (some (.aload_n 0)) none) (cond (Nat.beq pc 34) (some (.getfield 37)) none)) (cond (Nat.blt pc 40) (cond (Nat.beq pc 37) (some (.sipush 900)) none) (cond (Nat.blt pc 43) (cond (Nat.beq pc 40) (some (.if_icmp .lt 6)) none) (cond (Nat.beq pc 43) (some (.bipush (-2))) none)))) (cond (Nat.blt pc 47) (cond (Nat.blt pc 46) (cond (Nat.beq pc 45) (some (.ireturn)) none) (cond (Nat.beq pc 46) (some (.aload_n 0)) none)) (cond (Nat.blt pc 50) (cond (Nat.beq pc 47) (some (.getfield 37)) none) (cond (Nat.blt pc 52) (cond (Nat.beq pc 50) (some (.istore 5)) none) (cond (Nat.beq pc 52) (some (.aload_n 0)) none))))) (cond (Nat.blt pc 61) (cond (Nat.blt pc 58) (cond (Nat.blt pc 56) (cond (Nat.beq pc 53) (some (.getfield 9)) none) (cond (Nat.beq pc 56) (some (.iload 5)) none)) (cond (Nat.blt pc 59) (cond (Nat.beq pc 58) (some (.iload_n 1)) none) (cond (Nat.blt pc 60) (cond (Nat.beq pc 59) (some (.iastore)) none) (cond (Nat.beq pc 60) (some (.aload_n 0)) none)))) (cond (Nat.blt pc 66) (cond (Nat.blt pc 64) (cond (Nat.beq pc 61) (some (.getfield 15)) none) (cond (Nat.beq pc 64) (some (.iload 5)) none)) (cond (Nat.blt pc 67) (cond (Nat.beq pc 66) (some (.iload_n 2)) none) (cond (Nat.blt pc 68) (cond (Nat.beq pc 67) (some (.iastore)) none) (cond (Nat.beq pc 68) (some (.aload_n 0)) none))))))) (cond (Nat.blt pc 103) (cond (Nat.blt pc 84) (cond (Nat.blt pc 76) (cond (Nat.blt pc 74) (cond (Nat.blt pc 72) (cond (Nat.beq pc 69) (some (.getfield 18)) none) (cond (Nat.beq pc 72) (some (.iload 5)) none)) (cond (Nat.blt pc 75) (cond (Nat.beq pc 74) (some (.iload_n 3)) none) (cond (Nat.beq pc 75) (some (.iastore)) none))) (cond (Nat.blt pc 80) (cond (Nat.blt pc 77) (cond (Nat.beq pc 76) (some (.aload_n 0)) none) (cond (Nat.beq pc 77) (some (.getfield 21)) none)) (cond (Nat.blt pc 82) (cond (Nat.beq pc 80) (some (.iload 5)) none) (cond (Nat.blt pc 83) (cond (Nat.beq pc 82) (some (.iload_n 1)) none) (cond (Nat.beq pc 83) (some (.iconst 1)) none))))) (cond (Nat.blt pc 93) (cond (Nat.blt pc 88) (cond (Nat.blt pc 87) (cond (Nat.beq pc 84) (some (.if_icmp .ne 7)) none) (cond (Nat.beq pc 87) (some (.iconst 1)) none)) (cond (Nat.blt pc 91) (cond (Nat.beq pc 88) (some (.goto 4)) none) (cond (Nat.blt pc 92) (cond (Nat.beq pc 91) (some (.iconst 0)) none) (cond (Nat.beq pc 92) (some (.bastore)) none)))) (cond (Nat.blt pc 97) (cond (Nat.blt pc 94) (cond (Nat.beq pc 93) (some (.aload_n 0)) none) (cond (Nat.beq pc 94) (some (.getfield 28)) none)) (cond (Nat.blt pc 99) (cond (Nat.beq pc 97) (some (.iload 5)) none) (cond (Nat.blt pc 100) (cond (Nat.beq pc 99) (some (.aload_n 0)) none) (cond (Nat.beq pc 100) (some (.getfield 25)) none)))))) (cond (Nat.blt pc 115) (cond (Nat.blt pc 108) (cond (Nat.blt pc 105) (cond (Nat.blt pc 104) (cond (Nat.beq pc 103) (some (.iload_n 3)) none) (cond (Nat.beq pc 104) (some (.iconst 1)) none)) (cond (Nat.blt pc 106) (cond (Nat.beq pc 105) (some (.iadd)) none) (cond (Nat.blt pc 107) (cond (Nat.beq pc 106) (some (.iaload)) none) (cond (Nat.beq pc 107) (some (.iastore)) none)))) (cond (Nat.blt pc 112) (cond (Nat.blt pc 109) (cond (Nat.beq pc 108) (some (.aload_n 0)) none) (cond (Nat.beq pc 109) (some (.getfield 25)) none)) (cond (Nat.blt pc 113) (cond (Nat.beq pc 112) (some (.iload_n 3)) none) (cond (Nat.blt pc 114) (cond (Nat.beq pc 113) (some (.iconst 1)) none) (cond (Nat.beq pc 114) (some (.iadd)) none))))) (cond (Nat.blt pc 123) (cond (Nat.blt pc 118) (cond (Nat.blt pc 117) (cond (Nat.beq pc 115) (some (.iload 5)) none) (cond (Nat.beq pc 117) (some (.iastore)) none)) (cond (Nat.blt pc 119) (cond (Nat.beq pc 118) (some (.aload_n 0)) none) (cond (Nat.blt pc 120) (cond (Nat.beq pc 119) (some (.dup)) none) (cond (Nat.beq pc 120) (some (.getfield 37)) none)))) (cond (Nat.blt pc 125) (cond (Nat.blt pc 124) (cond (Nat.beq pc 123) (some (.iconst 1)) none) (cond (Nat.beq pc 124) (some (.iadd)) none)) (cond (Nat.blt pc 128) (cond (Nat.beq pc 125) (some (.putfield 37)) none) (cond (Nat.blt pc 130) (cond (Nat.beq pc 128) (some (.iload 5)) none) (cond (Nat.beq pc 130) (some (.ireturn)) none))))))))
theorem tb_i39 : tb_okI 6 prog_7_method_10_code tb_f39 := tb_okI_of 131 tb_cut_out (by decide +kernel)
theorem tb_p39 : tb_okP tb_cl tb_WA "VaultDevices$Terms" false tb_FL 1 tb_f39 := tb_okP_of 131 tb_cut_out (by decide +kernel)
/-- VaultDevices$Terms.find(III)I -/
def tb_f40 : Nat → Option Instr := tb_cut 70 (fun pc => cond (Nat.blt pc 34) (cond (Nat.blt pc 13) (cond (Nat.blt pc 6) (cond (Nat.blt pc 4) (cond (Nat.blt pc 1) (cond (Nat.beq pc 0) (some (.aload_n 0)) none) (cond (Nat.beq pc 1) (some (.getfield 25)) none)) (cond (Nat.blt pc 5) (cond (Nat.beq pc 4) (some (.iload_n 3)) none) (cond (Nat.beq pc 5) (some (.iconst 1)) none))) (cond (Nat.blt pc 8) (cond (Nat.blt pc 7) (cond (Nat.beq pc 6) (some (.iadd)) none) (cond (Nat.beq pc 7) (some (.iaload)) none)) (cond (Nat.blt pc 10) (cond (Nat.beq pc 8) (some (.istore 4)) none) (cond (Nat.blt pc 11) (cond (Nat.beq pc 10) (some (.iconst 0)) none) (cond (Nat.beq pc 11) (some (.istore 5)) none))))) (cond (Nat.blt pc 24) (cond (Nat.blt pc 16) (cond (Nat.blt pc 15) (cond (Nat.beq pc 13) (some (.iload 5)) none) (cond (Nat.beq pc 15) (some (.aload_n 0)) none)) (cond (Nat.blt pc 19) (cond (Nat.beq pc 16) (some (.getfield 37)) none) (cond (Nat.blt pc 22) (cond (Nat.beq pc 19) (some (.if_icmp .ge 49)) none) (cond (Nat.beq pc 22) (some (.iload 4)) none)))) (cond (Nat.blt pc 28) (cond (Nat.blt pc 25) (cond (Nat.beq pc 24) (some (.iconst (-1))) none) (cond (Nat.beq pc 25) (some (.if_icmp .eq 43)) none)) (cond (Nat.blt pc 29) (cond (Nat.beq pc 28) (some (.aload_n 0)) none) (cond (Nat.blt pc 32) (cond (Nat.beq pc 29) (some (.getfield 9)) none) (cond (Nat.beq pc 32) (some (.iload 4)) none)))))) (cond (Nat.blt pc 52) (cond (Nat.blt pc 43) (cond (Nat.blt pc 36) (cond (Nat.blt pc 35) (cond (Nat.beq pc 34) (some (.iaload)) none) (cond (Nat.beq pc 35) (some (.iload_n 1)) none)) (cond (Nat.blt pc 39) (cond (Nat.beq pc 36) (some (.if_icmp .ne 17)) none) (cond (Nat.blt pc 40) (cond (Nat.beq pc 39) (some (.aload_n 0)) none) (cond (Nat.beq pc 40) (some (.getfield 15)) none)))) (cond (Nat.blt pc 46) (cond (Nat.blt pc 45) (cond (Nat.beq pc 43) (some (.iload 4)) none) (cond (Nat.beq pc 45) (some (.iaload)) none)) (cond (Nat.blt pc 47) (cond (Nat.beq pc 46) (some (.iload_n 2)) none) (cond (Nat.blt pc 50) (cond (Nat.beq pc 47) (some (.if_icmp .ne 6)) none) (cond (Nat.beq pc 50) (some (.iload 4)) none))))) (cond (Nat.blt pc 60) (cond (Nat.blt pc 54) (cond (Nat.blt pc 53) (cond (Nat.beq pc 52) (some (.ireturn)) none) (cond (Nat.beq pc 53) (some (.aload_n 0)) none)) (cond (Nat.blt pc 57) (cond (Nat.beq pc 54) (some (.getfield 28)) none) (cond (Nat.blt pc 59) (cond (Nat.beq pc 57) (some (.iload 4)) none) (cond (Nat.beq pc 59) (some (.iaload)) none)))) (cond (Nat.blt pc 65) (cond (Nat.blt pc 62) (cond (Nat.beq pc 60) (some (.istore 4)) none) (cond (Nat.beq pc 62) (some (.iinc 5 1)) none)) (cond (Nat.blt pc 68) (cond (Nat.beq pc 65) (some (.goto (-52))) none) (cond (Nat.blt pc 69) (cond (Nat.beq pc 68) (some (.iconst (-1))) none) (cond (Nat.beq pc 69) (some (.ireturn)) none)))))))
theorem tb_i40 : tb_okI 6 prog_7_method_9_code tb_f40 := tb_okI_of 70 tb_cut_out (by decide +kernel)
theorem tb_p40 : tb_okP tb_cl tb_WA "VaultDevices$Terms" false tb_FL 1 tb_f40 := tb_okP_of 70 tb_cut_out (by decide +kernel)
/-- VaultDevices$Terms.makeList([III)I -/
def tb_f41 : Nat → Option Instr := tb_cut 35 (fun pc => cond (Nat.blt pc 15) (cond (Nat.blt pc 6) (cond (Nat.blt pc 3) (cond (Nat.blt pc 1) (cond (Nat.beq pc 0) (some (.iload_n 3)) none) (cond (Nat.beq pc 1) (some (.istore 4)) none)) (cond (Nat.blt pc 4) (cond (Nat.beq pc 3) (some (.iload_n 2)) none) (cond (Nat.blt pc 5) (cond (Nat.beq pc 4) (some (.iconst 1)) none) (cond (Nat.beq pc 5) (some (.isub)) none)))) (cond (Nat.blt pc 10) (cond (Nat.blt pc 8) (cond (Nat.beq pc 6) (some (.istore 5)) none) (cond (Nat.beq pc 8) (some (.iload 5)) none)) (cond (Nat.blt pc 13) (cond (Nat.beq pc 10) (some (.ifCond .lt 22)) none) (cond (Nat.blt pc 14) (cond (Nat.beq pc 13) (some (.aload_n 0)) none) (cond (Nat.beq pc 14) (some (.iconst 4)) none))))) (cond (Nat.blt pc 24) (cond (Nat.blt pc 18) (cond (Nat.blt pc 16) (cond (Nat.beq pc 15) (some (.aload_n 1)) none) (cond (Nat.beq pc 16) (some (.iload 5)) none)) (cond (Nat.blt pc 19) (cond (Nat.beq pc 18) (some (.iaload)) none) (cond (Nat.blt pc 21) (cond (Nat.beq pc 19) (some (.iload 4)) none) (cond (Nat.beq pc 21) (some (.invokevirtual 57)) none)))) (cond (Nat.blt pc 29) (cond (Nat.blt pc 26) (cond (Nat.beq pc 24) (some (.istore 4)) none) (cond (Nat.beq pc 26) (some (.iinc 5 (-1))) none)) (cond (Nat.blt pc 32) (cond (Nat.beq pc 29) (some (.goto (-21))) none) (cond (Nat.blt pc 34) (cond (Nat.beq pc 32) (some (.iload 4)) none) (cond (Nat.beq pc 34) (some (.ireturn)) none))))))
theorem tb_i41 : tb_okI 6 prog_7_method_11_code tb_f41 := tb_okI_of 35 tb_cut_out (by decide +kernel)
theorem tb_p41 : tb_okP tb_cl tb_WA "VaultDevices$Terms" false tb_FL 1 tb_f41 := tb_okP_of 35 tb_cut_out (by decide +kernel)
/-- VaultDevices$Terms.cutBack(I)V -/
def tb_f42 : Nat → Option Instr := tb_cut 43 (fun pc => cond (Nat.blt pc 21) (cond (Nat.blt pc 8) (cond (Nat.blt pc 5) (cond (Nat.blt pc 1) (cond (Nat.beq pc 0) (some (.aload_n 0)) none) (cond (Nat.blt pc 4) (cond (Nat.beq pc 1) (some (.getfield 37)) none) (cond (Nat.beq pc 4) (some (.iconst 1)) none))) (cond (Nat.blt pc 6) (cond (Nat.beq pc 5) (some (.isub)) none) (cond (Nat.blt pc 7) (cond (Nat.beq pc 6) (some (.istore_n 2)) none) (cond (Nat.beq pc 7) (some (.iload_n 2)) none)))) (cond (Nat.blt pc 13) (cond (Nat.blt pc 9) (cond (Nat.beq pc 8) (some (.iload_n 1)) none) (cond (Nat.blt pc 12) (cond (Nat.beq pc 9) (some (.if_icmp .lt 28)) none) (cond (Nat.beq pc 12) (some (.aload_n 0)) none))) (cond (Nat.blt pc 17) (cond (Nat.blt pc 16) (cond (Nat.beq pc 13) (some (.getfield 25)) none) (cond (Nat.beq pc 16) (some (.aload_n 0)) none)) (cond (Nat.blt pc 20) (cond (Nat.beq pc 17) (some (.getfield 18)) none) (cond (Nat.beq pc 20) (some (.iload_n 2)) none))))) (cond (Nat.blt pc 30) (cond (Nat.blt pc 24) (cond (Nat.blt pc 22) (cond (Nat.beq pc 21) (some (.iaload)) none) (cond (Nat.blt pc 23) (cond (Nat.beq pc 22) (some (.iconst 1)) none) (cond (Nat.beq pc 23) (some (.iadd)) none))) (cond (Nat.blt pc 28) (cond (Nat.blt pc 25) (cond (Nat.beq pc 24) (some (.aload_n 0)) none) (cond (Nat.beq pc 25) (some (.getfield 28)) none)) (cond (Nat.blt pc 29) (cond (Nat.beq pc 28) (some (.iload_n 2)) none) (cond (Nat.beq pc 29) (some (.iaload)) none)))) (cond (Nat.blt pc 37) (cond (Nat.blt pc 31) (cond (Nat.beq pc 30) (some (.iastore)) none) (cond (Nat.blt pc 34) (cond (Nat.beq pc 31) (some (.iinc 2 (-1))) none) (cond (Nat.beq pc 34) (some (.goto (-27))) none))) (cond (Nat.blt pc 39) (cond (Nat.blt pc 38) (cond (Nat.beq pc 37) (some (.aload_n 0)) none) (cond (Nat.beq pc 38) (some (.iload_n 1)) none)) (cond (Nat.blt pc 42) (cond (Nat.beq pc 39) (some (.putfield 37)) none) (cond (Nat.beq pc 42) (some (.return_)) none))))))
theorem tb_i42 : tb_okI 3 prog_7_method_12_code tb_f42 := tb_okI_of 43 tb_cut_out (by decide +kernel)
theorem tb_p42 : tb_okP tb_cl tb_WA "VaultDevices$Terms" false tb_FL 1 tb_f42 := tb_okP_of 43 tb_cut_out (by decide +kernel)
/-- VaultDevices$Seals.<init>()V -/
def tb_f43 : Nat → Option Instr := tb_cut 28 (fun pc => cond (Nat.blt pc 13) (cond (Nat.blt pc 5) (cond (Nat.blt pc 1) (cond (Nat.beq pc 0) (some (.aload_n 0)) none) (cond (Nat.blt pc 4) (cond (Nat.beq pc 1) (some (.invokespecial 3)) none) (cond (Nat.beq pc 4) (some (.aload_n 0)) none))) (cond (Nat.blt pc 9) (cond (Nat.blt pc 7) (cond (Nat.beq pc 5) (some (.bipush 6)) none) (cond (Nat.beq pc 7) (some (.newarray .int)) none)) (cond (Nat.blt pc 12) (cond (Nat.beq pc 9) (some (.putfield 11)) none) (cond (Nat.beq pc 12) (some (.aload_n 0)) none)))) (cond (Nat.blt pc 21) (cond (Nat.blt pc 17) (cond (Nat.blt pc 15) (cond (Nat.beq pc 13) (some (.bipush 12)) none) (cond (Nat.beq pc 15) (some (.newarray .int)) none)) (cond (Nat.blt pc 20) (cond (Nat.beq pc 17) (some (.putfield 15)) none) (cond (Nat.beq pc 20) (some (.aload_n 0)) none))) (cond (Nat.blt pc 24) (cond (Nat.blt pc 22) (cond (Nat.beq pc 21) (some (.iconst 3)) none) (cond (Nat.beq pc 22) (some (.newarray .int)) none)) (cond (Nat.blt pc 27) (cond (Nat.beq pc 24) (some (.putfield 18)) none) (cond (Nat.beq pc 27) (some (.return_)) none)))))
theorem tb_i43 : tb_okI 1 prog_5_method_1_code tb_f43 := tb_okI_of 28 tb_cut_out (by decide +kernel)
theorem tb_p43 : tb_okP tb_cl tb_WA "VaultDevices$Seals" true tb_FL 2 tb_f43 := tb_okP_of 28 tb_cut_out (by decide +kernel)
/-- VaultDevices$Seals.read(LVaultDevices$Terms;ILVaultDevices$State;)Z -/
def tb_f44 : Nat → Option Instr := tb_cut 100 (fun pc => cond (Nat.blt pc 47) (cond (Nat.blt pc 22) (cond (Nat.blt pc 9) (cond (Nat.blt pc 3) (cond (Nat.blt pc 1) (cond (Nat.beq pc 0) (some (.aload_n 1)) none) (cond (Nat.blt pc 2) (cond (Nat.beq pc 1) (some (.iload_n 2)) none) (cond (Nat.beq pc 2) (some (.iconst 0)) none))) (cond (Nat.blt pc 6) (cond (Nat.beq pc 3) (some (.invokevirtual 84)) none) (cond (Nat.blt pc 8) (cond (Nat.beq pc 6) (some (.istore 4)) none) (cond (Nat.beq pc 8) (some (.aload_n 1)) none)))) (cond (Nat.blt pc 14) (cond (Nat.blt pc 10) (cond (Nat.beq pc 9) (some (.iload_n 2)) none) (cond (Nat.blt pc 11) (cond (Nat.beq pc 10) (some (.iconst 1)) none) (cond (Nat.beq pc 11) (some (.invokevirtual 88)) none))) (cond (Nat.blt pc 17) (cond (Nat.blt pc 16) (cond (Nat.beq pc 14) (some (.istore 5)) none) (cond (Nat.beq pc 16) (some (.aload_n 1)) none)) (cond (Nat.blt pc 19) (cond (Nat.beq pc 17) (some (.iload 5)) none) (cond (Nat.beq pc 19) (some (.invokevirtual 91)) none))))) (cond (Nat.blt pc 37) (cond (Nat.blt pc 27) (cond (Nat.blt pc 23) (cond (Nat.beq pc 22) (some (.iconst 5)) none) (cond (Nat.blt pc 26) (cond (Nat.beq pc 23) (some (.if_icmp .ne 14)) none) (cond (Nat.beq pc 26) (some (.aload_n 1)) none))) (cond (Nat.blt pc 32) (cond (Nat.blt pc 29) (cond (Nat.beq pc 27) (some (.iload 5)) none) (cond (Nat.beq pc 29) (some (.invokevirtual 94)) none)) (cond (Nat.blt pc 34) (cond (Nat.beq pc 32) (some (.iload 4)) none) (cond (Nat.beq pc 34) (some (.if_icmp .eq 5)) none)))) (cond (Nat.blt pc 40) (cond (Nat.blt pc 38) (cond (Nat.beq pc 37) (some (.iconst 0)) none) (cond (Nat.blt pc 39) (cond (Nat.beq pc 38) (some (.ireturn)) none) (cond (Nat.beq pc 39) (some (.aload_n 1)) none))) (cond (Nat.blt pc 43) (cond (Nat.blt pc 41) (cond (Nat.beq pc 40) (some (.aload_n 1)) none) (cond (Nat.beq pc 41) (some (.iload 5)) none)) (cond (Nat.blt pc 46) (cond (Nat.beq pc 43) (some (.invokevirtual 97)) none) (cond (Nat.beq pc 46) (some (.iconst 0)) none)))))) (cond (Nat.blt pc 75) (cond (Nat.blt pc 59) (cond (Nat.blt pc 55) (cond (Nat.blt pc 50) (cond (Nat.beq pc 47) (some (.invokevirtual 100)) none) (cond (Nat.blt pc 52) (cond (Nat.beq pc 50) (some (.bipush 9)) none) (cond (Nat.beq pc 52) (some (.if_icmp .ne 46)) none))) (cond (Nat.blt pc 56) (cond (Nat.beq pc 55) (some (.aload_n 1)) none) (cond (Nat.blt pc 58) (cond (Nat.beq pc 56) (some (.iload 4)) none) (cond (Nat.beq pc 58) (some (.aload_n 3)) none)))) (cond (Nat.blt pc 66) (cond (Nat.blt pc 62) (cond (Nat.beq pc 59) (some (.invokestatic 103)) none) (cond (Nat.blt pc 65) (cond (Nat.beq pc 62) (some (.ifCond .eq 36)) none) (cond (Nat.beq pc 65) (some (.aload_n 1)) none))) (cond (Nat.blt pc 69) (cond (Nat.blt pc 68) (cond (Nat.beq pc 66) (some (.iload 4)) none) (cond (Nat.beq pc 68) (some (.aload_n 3)) none)) (cond (Nat.blt pc 72) (cond (Nat.beq pc 69) (some (.invokestatic 107)) none) (cond (Nat.beq pc 72) (some (.ifCond .eq 26)) none))))) (cond (Nat.blt pc 87) (cond (Nat.blt pc 79) (cond (Nat.blt pc 76) (cond (Nat.beq pc 75) (some (.aload_n 1)) none) (cond (Nat.blt pc 77) (cond (Nat.beq pc 76) (some (.aload_n 1)) none) (cond (Nat.beq pc 77) (some (.iload 4)) none))) (cond (Nat.blt pc 83) (cond (Nat.blt pc 80) (cond (Nat.beq pc 79) (some (.aload_n 0)) none) (cond (Nat.beq pc 80) (some (.getfield 11)) none)) (cond (Nat.blt pc 84) (cond (Nat.beq pc 83) (some (.arraylength)) none) (cond (Nat.beq pc 84) (some (.invokevirtual 88)) none)))) (cond (Nat.blt pc 94) (cond (Nat.blt pc 88) (cond (Nat.beq pc 87) (some (.aload_n 3)) none) (cond (Nat.blt pc 91) (cond (Nat.beq pc 88) (some (.invokestatic 110)) none) (cond (Nat.beq pc 91) (some (.ifCond .eq 7)) none))) (cond (Nat.blt pc 98) (cond (Nat.blt pc 95) (cond (Nat.beq pc 94) (some (.iconst 1)) none) (cond (Nat.beq pc 95) (some (.goto 4)) none)) (cond (Nat.blt pc 99) (cond (Nat.beq pc 98) (some (.iconst 0)) none) (cond (Nat.beq pc 99) (some (.ireturn)) none)))))))
theorem tb_i44 : tb_okI 6 prog_5_method_6_code tb_f44 := tb_okI_of 100 tb_cut_out (by decide +kernel)
theorem tb_p44 : tb_okP tb_cl tb_WA "VaultDevices$Seals" false tb_FL 2 tb_f44 := tb_okP_of 100 tb_cut_out (by decide +kernel)
/-- VaultDevices$Seals.readHeader(LVaultDevices$Terms;ILVaultDevices$State;)Z -/
def tb_f45 : Nat → Option Instr := tb_cut 80 (fun pc => cond (Nat.blt pc 35) (cond (Nat.blt pc 15) (cond (Nat.blt pc 7) (cond (Nat.blt pc 2) (cond (Nat.blt pc 1) (cond (Nat.beq pc 0) (some (.aload_n 0)) none) (cond (Nat.beq pc 1) (some (.aload_n 0)) none)) (cond (Nat.blt pc 3) (cond (Nat.beq pc 2) (some (.iload_n 1)) none) (cond (Nat.blt pc 4) (cond (Nat.beq pc 3) (some (.iconst 0)) none) (cond (Nat.beq pc 4) (some (.invokevirtual 84)) none)))) (cond (Nat.blt pc 12) (cond (Nat.blt pc 8) (cond (Nat.beq pc 7) (some (.iconst 1)) none) (cond (Nat.blt pc 11) (cond (Nat.beq pc 8) (some (.invokevirtual 100)) none) (cond (Nat.beq pc 11) (some (.istore_n 3)) none))) (cond (Nat.blt pc 13) (cond (Nat.beq pc 12) (some (.aload_n 0)) none) (cond (Nat.blt pc 14) (cond (Nat.beq pc 13) (some (.aload_n 0)) none) (cond (Nat.beq pc 14) (some (.iload_n 1)) none))))) (cond (Nat.blt pc 25) (cond (Nat.blt pc 19) (cond (Nat.blt pc 16) (cond (Nat.beq pc 15) (some (.iconst 1)) none) (cond (Nat.beq pc 16) (some (.invokevirtual 84)) none)) (cond (Nat.blt pc 20) (cond (Nat.beq pc 19) (some (.iconst 1)) none) (cond (Nat.blt pc 23) (cond (Nat.beq pc 20) (some (.invokevirtual 100)) none) (cond (Nat.beq pc 23) (some (.istore 4)) none)))) (cond (Nat.blt pc 28) (cond (Nat.blt pc 26) (cond (Nat.beq pc 25) (some (.aload_n 0)) none) (cond (Nat.blt pc 27) (cond (Nat.beq pc 26) (some (.aload_n 0)) none) (cond (Nat.beq pc 27) (some (.iload_n 1)) none))) (cond (Nat.blt pc 29) (cond (Nat.beq pc 28) (some (.iconst 2)) none) (cond (Nat.blt pc 32) (cond (Nat.beq pc 29) (some (.invokevirtual 84)) none) (cond (Nat.beq pc 32) (some (.invokestatic 113)) none)))))) (cond (Nat.blt pc 57) (cond (Nat.blt pc 43) (cond (Nat.blt pc 38) (cond (Nat.blt pc 37) (cond (Nat.beq pc 35) (some (.istore 5)) none) (cond (Nat.beq pc 37) (some (.aload_n 2)) none)) (cond (Nat.blt pc 39) (cond (Nat.beq pc 38) (some (.iload_n 3)) none) (cond (Nat.blt pc 41) (cond (Nat.beq pc 39) (some (.iload 4)) none) (cond (Nat.beq pc 41) (some (.iload 5)) none)))) (cond (Nat.blt pc 49) (cond (Nat.blt pc 46) (cond (Nat.beq pc 43) (some (.invokevirtual 116)) none) (cond (Nat.blt pc 47) (cond (Nat.beq pc 46) (some (.iload_n 3)) none) (cond (Nat.beq pc 47) (some (.bipush 31)) none))) (cond (Nat.blt pc 52) (cond (Nat.beq pc 49) (some (.invokestatic 120)) none) (cond (Nat.blt pc 55) (cond (Nat.beq pc 52) (some (.ifCond .eq 26)) none) (cond (Nat.beq pc 55) (some (.iload 4)) none))))) (cond (Nat.blt pc 68) (cond (Nat.blt pc 61) (cond (Nat.blt pc 58) (cond (Nat.beq pc 57) (some (.iconst 3)) none) (cond (Nat.beq pc 58) (some (.invokestatic 120)) none)) (cond (Nat.blt pc 64) (cond (Nat.beq pc 61) (some (.ifCond .eq 17)) none) (cond (Nat.blt pc 66) (cond (Nat.beq pc 64) (some (.iload 5)) none) (cond (Nat.beq pc 66) (some (.bipush 8)) none)))) (cond (Nat.blt pc 75) (cond (Nat.blt pc 71) (cond (Nat.beq pc 68) (some (.invokestatic 120)) none) (cond (Nat.blt pc 74) (cond (Nat.beq pc 71) (some (.ifCond .eq 7)) none) (cond (Nat.beq pc 74) (some (.iconst 1)) none))) (cond (Nat.blt pc 78) (cond (Nat.beq pc 75) (some (.goto 4)) none) (cond (Nat.blt pc 79) (cond (Nat.beq pc 78) (some (.iconst 0)) none) (cond (Nat.beq pc 79) (some (.ireturn)) none)))))))
theorem tb_i45 : tb_okI 6 prog_5_method_7_code tb_f45 := tb_okI_of 80 tb_cut_out (by decide +kernel)
theorem tb_p45 : tb_okP tb_cl tb_WA "VaultDevices$Seals" false tb_FL 2 tb_f45 := tb_okP_of 80 tb_cut_out (by decide +kernel)
/-- VaultDevices$Seals.readHeaderBox(LVaultDevices$Terms;I)I -/
def tb_f46 : Nat → Option Instr := tb_cut 81 (fun pc => cond (Nat.blt pc 38) (cond (Nat.blt pc 17) (cond (Nat.blt pc 7) (cond (Nat.blt pc 2) (cond (Nat.blt pc 1) (cond (Nat.beq pc 0) (some (.aload_n 0)) none) (cond (Nat.beq pc 1) (some (.iload_n 1)) none)) (cond (Nat.blt pc 5) (cond (Nat.beq pc 2) (some (.invokevirtual 97)) none) (cond (Nat.blt pc 6) (cond (Nat.beq pc 5) (some (.istore_n 2)) none) (cond (Nat.beq pc 6) (some (.aload_n 0)) none)))) (cond (Nat.blt pc 12) (cond (Nat.blt pc 8) (cond (Nat.beq pc 7) (some (.iload_n 1)) none) (cond (Nat.blt pc 11) (cond (Nat.beq pc 8) (some (.invokevirtual 91)) none) (cond (Nat.beq pc 11) (some (.iconst 3)) none))) (cond (Nat.blt pc 15) (cond (Nat.beq pc 12) (some (.if_icmp .ne 12)) none) (cond (Nat.blt pc 16) (cond (Nat.beq pc 15) (some (.aload_n 0)) none) (cond (Nat.beq pc 16) (some (.iload_n 2)) none))))) (cond (Nat.blt pc 27) (cond (Nat.blt pc 24) (cond (Nat.blt pc 20) (cond (Nat.beq pc 17) (some (.invokevirtual 91)) none) (cond (Nat.blt pc 21) (cond (Nat.beq pc 20) (some (.iconst 2)) none) (cond (Nat.beq pc 21) (some (.if_icmp .eq 5)) none))) (cond (Nat.blt pc 25) (cond (Nat.beq pc 24) (some (.iconst (-1))) none) (cond (Nat.blt pc 26) (cond (Nat.beq pc 25) (some (.ireturn)) none) (cond (Nat.beq pc 26) (some (.aload_n 0)) none)))) (cond (Nat.blt pc 32) (cond (Nat.blt pc 28) (cond (Nat.beq pc 27) (some (.aload_n 0)) none) (cond (Nat.blt pc 29) (cond (Nat.beq pc 28) (some (.iload_n 1)) none) (cond (Nat.beq pc 29) (some (.invokevirtual 94)) none))) (cond (Nat.blt pc 33) (cond (Nat.beq pc 32) (some (.iconst 0)) none) (cond (Nat.blt pc 36) (cond (Nat.beq pc 33) (some (.invokevirtual 100)) none) (cond (Nat.beq pc 36) (some (.bipush 9)) none)))))) (cond (Nat.blt pc 61) (cond (Nat.blt pc 48) (cond (Nat.blt pc 43) (cond (Nat.blt pc 41) (cond (Nat.beq pc 38) (some (.if_icmp .ne 22)) none) (cond (Nat.blt pc 42) (cond (Nat.beq pc 41) (some (.aload_n 0)) none) (cond (Nat.beq pc 42) (some (.aload_n 0)) none))) (cond (Nat.blt pc 44) (cond (Nat.beq pc 43) (some (.iload_n 2)) none) (cond (Nat.blt pc 47) (cond (Nat.beq pc 44) (some (.invokevirtual 94)) none) (cond (Nat.beq pc 47) (some (.iconst 0)) none)))) (cond (Nat.blt pc 56) (cond (Nat.blt pc 51) (cond (Nat.beq pc 48) (some (.invokevirtual 100)) none) (cond (Nat.blt pc 53) (cond (Nat.beq pc 51) (some (.bipush 8)) none) (cond (Nat.beq pc 53) (some (.if_icmp .ne 7)) none))) (cond (Nat.blt pc 57) (cond (Nat.beq pc 56) (some (.iconst 1)) none) (cond (Nat.blt pc 60) (cond (Nat.beq pc 57) (some (.goto 4)) none) (cond (Nat.beq pc 60) (some (.iconst 0)) none))))) (cond (Nat.blt pc 69) (cond (Nat.blt pc 66) (cond (Nat.blt pc 62) (cond (Nat.beq pc 61) (some (.istore_n 3)) none) (cond (Nat.blt pc 63) (cond (Nat.beq pc 62) (some (.iload_n 3)) none) (cond (Nat.beq pc 63) (some (.ifCond .eq 16)) none))) (cond (Nat.blt pc 67) (cond (Nat.beq pc 66) (some (.aload_n 0)) none) (cond (Nat.blt pc 68) (cond (Nat.beq pc 67) (some (.aload_n 0)) none) (cond (Nat.beq pc 68) (some (.iload_n 2)) none)))) (cond (Nat.blt pc 76) (cond (Nat.blt pc 72) (cond (Nat.beq pc 69) (some (.invokevirtual 97)) none) (cond (Nat.blt pc 73) (cond (Nat.beq pc 72) (some (.iconst 0)) none) (cond (Nat.beq pc 73) (some (.invokevirtual 100)) none))) (cond (Nat.blt pc 79) (cond (Nat.beq pc 76) (some (.goto 4)) none) (cond (Nat.blt pc 80) (cond (Nat.beq pc 79) (some (.iconst (-1))) none) (cond (Nat.beq pc 80) (some (.ireturn)) none)))))))
theorem tb_i46 : tb_okI 4 prog_5_method_8_code tb_f46 := tb_okI_of 81 tb_cut_out (by decide +kernel)
theorem tb_p46 : tb_okP tb_cl tb_WA "VaultDevices$Seals" false tb_FL 2 tb_f46 := tb_okP_of 81 tb_cut_out (by decide +kernel)
/-- VaultDevices$Seals.readVector(LVaultDevices$Terms;ILVaultDevices$State;)Z -/
def tb_f47 : Nat → Option Instr := tb_cut 50 (fun pc => cond (Nat.blt pc 22) (cond (Nat.blt pc 9) (cond (Nat.blt pc 3) (cond (Nat.blt pc 1) (cond (Nat.beq pc 0) (some (.iconst 0)) none) (cond (Nat.blt pc 2) (cond (Nat.beq pc 1) (some (.istore_n 3)) none) (cond (Nat.beq pc 2) (some (.iload_n 3)) none))) (cond (Nat.blt pc 7) (cond (Nat.blt pc 4) (cond (Nat.beq pc 3) (some (.iconst 3)) none) (cond (Nat.beq pc 4) (some (.if_icmp .ge 44)) none)) (cond (Nat.blt pc 8) (cond (Nat.beq pc 7) (some (.aload_n 0)) none) (cond (Nat.beq pc 8) (some (.aload_n 0)) none)))) (cond (Nat.blt pc 13) (cond (Nat.blt pc 11) (cond (Nat.blt pc 10) (cond (Nat.beq pc 9) (some (.iload_n 1)) none) (cond (Nat.beq pc 10) (some (.iconst 3)) none)) (cond (Nat.blt pc 12) (cond (Nat.beq pc 11) (some (.iload_n 3)) none) (cond (Nat.beq pc 12) (some (.iadd)) none))) (cond (Nat.blt pc 17) (cond (Nat.blt pc 16) (cond (Nat.beq pc 13) (some (.invokevirtual 84)) none) (cond (Nat.beq pc 16) (some (.iconst 1)) none)) (cond (Nat.blt pc 20) (cond (Nat.beq pc 17) (some (.invokevirtual 100)) none) (cond (Nat.beq pc 20) (some (.istore 4)) none))))) (cond (Nat.blt pc 35) (cond (Nat.blt pc 29) (cond (Nat.blt pc 24) (cond (Nat.beq pc 22) (some (.iload 4)) none) (cond (Nat.blt pc 26) (cond (Nat.beq pc 24) (some (.bipush 31)) none) (cond (Nat.beq pc 26) (some (.invokestatic 120)) none))) (cond (Nat.blt pc 33) (cond (Nat.blt pc 32) (cond (Nat.beq pc 29) (some (.ifCond .ne 5)) none) (cond (Nat.beq pc 32) (some (.iconst 0)) none)) (cond (Nat.blt pc 34) (cond (Nat.beq pc 33) (some (.ireturn)) none) (cond (Nat.beq pc 34) (some (.aload_n 2)) none)))) (cond (Nat.blt pc 42) (cond (Nat.blt pc 39) (cond (Nat.blt pc 38) (cond (Nat.beq pc 35) (some (.getfield 31)) none) (cond (Nat.beq pc 38) (some (.iload_n 3)) none)) (cond (Nat.blt pc 41) (cond (Nat.beq pc 39) (some (.iload 4)) none) (cond (Nat.beq pc 41) (some (.iastore)) none))) (cond (Nat.blt pc 48) (cond (Nat.blt pc 45) (cond (Nat.beq pc 42) (some (.iinc 3 1)) none) (cond (Nat.beq pc 45) (some (.goto (-43))) none)) (cond (Nat.blt pc 49) (cond (Nat.beq pc 48) (some (.iconst 1)) none) (cond (Nat.beq pc 49) (some (.ireturn)) none))))))
theorem tb_i47 : tb_okI 5 prog_5_method_9_code tb_f47 := tb_okI_of 50 tb_cut_out (by decide +kernel)
theorem tb_p47 : tb_okP tb_cl tb_WA "VaultDevices$Seals" false tb_FL 2 tb_f47 := tb_okP_of 50 tb_cut_out (by decide +kernel)
/-- VaultDevices$Seals.readEntries(LVaultDevices$Terms;ILVaultDevices$State;)Z -/
def tb_f48 : Nat → Option Instr := tb_cut 91 (fun pc => cond (Nat.blt pc 43) (cond (Nat.blt pc 20) (cond (Nat.blt pc 8) (cond (Nat.blt pc 5) (cond (Nat.blt pc 1) (cond (Nat.beq pc 0) (some (.aload_n 2)) none) (cond (Nat.blt pc 2) (cond (Nat.beq pc 1) (some (.iconst 0)) none) (cond (Nat.beq pc 2) (some (.putfield 61)) none))) (cond (Nat.blt pc 6) (cond (Nat.beq pc 5) (some (.iload_n 1)) none) (cond (Nat.blt pc 7) (cond (Nat.beq pc 6) (some (.istore_n 3)) none) (cond (Nat.beq pc 7) (some (.iconst 0)) none)))) (cond (Nat.blt pc 14) (cond (Nat.blt pc 10) (cond (Nat.beq pc 8) (some (.istore 4)) none) (cond (Nat.blt pc 12) (cond (Nat.beq pc 10) (some (.iload 4)) none) (cond (Nat.beq pc 12) (some (.bipush 12)) none))) (cond (Nat.blt pc 18) (cond (Nat.blt pc 17) (cond (Nat.beq pc 14) (some (.if_icmp .ge 62)) none) (cond (Nat.beq pc 17) (some (.aload_n 0)) none)) (cond (Nat.blt pc 19) (cond (Nat.beq pc 18) (some (.iload_n 3)) none) (cond (Nat.beq pc 19) (some (.iconst 1)) none))))) (cond (Nat.blt pc 30) (cond (Nat.blt pc 27) (cond (Nat.blt pc 23) (cond (Nat.beq pc 20) (some (.invokevirtual 100)) none) (cond (Nat.blt pc 26) (cond (Nat.beq pc 23) (some (.ifCond .ne 5)) none) (cond (Nat.beq pc 26) (some (.iconst 1)) none))) (cond (Nat.blt pc 28) (cond (Nat.beq pc 27) (some (.ireturn)) none) (cond (Nat.blt pc 29) (cond (Nat.beq pc 28) (some (.aload_n 0)) none) (cond (Nat.beq pc 29) (some (.aload_n 0)) none)))) (cond (Nat.blt pc 35) (cond (Nat.blt pc 31) (cond (Nat.beq pc 30) (some (.iload_n 3)) none) (cond (Nat.blt pc 32) (cond (Nat.beq pc 31) (some (.iconst 0)) none) (cond (Nat.beq pc 32) (some (.invokevirtual 84)) none))) (cond (Nat.blt pc 40) (cond (Nat.blt pc 38) (cond (Nat.beq pc 35) (some (.invokestatic 124)) none) (cond (Nat.beq pc 38) (some (.istore 5)) none)) (cond (Nat.blt pc 42) (cond (Nat.beq pc 40) (some (.iload 5)) none) (cond (Nat.beq pc 42) (some (.iconst (-1))) none)))))) (cond (Nat.blt pc 66) (cond (Nat.blt pc 56) (cond (Nat.blt pc 49) (cond (Nat.blt pc 46) (cond (Nat.beq pc 43) (some (.if_icmp .eq 12)) none) (cond (Nat.blt pc 47) (cond (Nat.beq pc 46) (some (.aload_n 2)) none) (cond (Nat.beq pc 47) (some (.iload 5)) none))) (cond (Nat.blt pc 52) (cond (Nat.beq pc 49) (some (.invokevirtual 127)) none) (cond (Nat.blt pc 55) (cond (Nat.beq pc 52) (some (.ifCond .ne 5)) none) (cond (Nat.beq pc 55) (some (.iconst 0)) none)))) (cond (Nat.blt pc 60) (cond (Nat.blt pc 57) (cond (Nat.beq pc 56) (some (.ireturn)) none) (cond (Nat.blt pc 58) (cond (Nat.beq pc 57) (some (.aload_n 2)) none) (cond (Nat.beq pc 58) (some (.iload 5)) none))) (cond (Nat.blt pc 64) (cond (Nat.blt pc 63) (cond (Nat.beq pc 60) (some (.invokevirtual 131)) none) (cond (Nat.beq pc 63) (some (.aload_n 0)) none)) (cond (Nat.blt pc 65) (cond (Nat.beq pc 64) (some (.iload_n 3)) none) (cond (Nat.beq pc 65) (some (.iconst 1)) none))))) (cond (Nat.blt pc 78) (cond (Nat.blt pc 73) (cond (Nat.blt pc 69) (cond (Nat.beq pc 66) (some (.invokevirtual 88)) none) (cond (Nat.blt pc 70) (cond (Nat.beq pc 69) (some (.istore_n 3)) none) (cond (Nat.beq pc 70) (some (.iinc 4 1)) none))) (cond (Nat.blt pc 76) (cond (Nat.beq pc 73) (some (.goto (-63))) none) (cond (Nat.blt pc 77) (cond (Nat.beq pc 76) (some (.aload_n 0)) none) (cond (Nat.beq pc 77) (some (.iload_n 3)) none)))) (cond (Nat.blt pc 85) (cond (Nat.blt pc 79) (cond (Nat.beq pc 78) (some (.iconst 1)) none) (cond (Nat.blt pc 82) (cond (Nat.beq pc 79) (some (.invokevirtual 100)) none) (cond (Nat.beq pc 82) (some (.ifCond .ne 7)) none))) (cond (Nat.blt pc 89) (cond (Nat.blt pc 86) (cond (Nat.beq pc 85) (some (.iconst 1)) none) (cond (Nat.beq pc 86) (some (.goto 4)) none)) (cond (Nat.blt pc 90) (cond (Nat.beq pc 89) (some (.iconst 0)) none) (cond (Nat.beq pc 90) (some (.ireturn)) none)))))))
theorem tb_i48 : tb_okI 6 prog_5_method_10_code tb_f48 := tb_okI_of 91 tb_cut_out (by decide +kernel)
theorem tb_p48 : tb_okP tb_cl tb_WA "VaultDevices$Seals" false tb_FL 2 tb_f48 := tb_okP_of 91 tb_cut_out (by decide +kernel)
/-- VaultDevices$Seals.readEntry(LVaultDevices$Terms;I)I -/
def tb_f49 : Nat → Option Instr := tb_cut 153 (fun pc => cond (Nat.blt pc 72) (cond (Nat.blt pc 31) (cond (Nat.blt pc 14) (cond (Nat.blt pc 7) (cond (Nat.blt pc 2) (cond (Nat.blt pc 1) (cond (Nat.beq pc 0) (some (.aload_n 0)) none) (cond (Nat.beq pc 1) (some (.aload_n 0)) none)) (cond (Nat.blt pc 3) (cond (Nat.beq pc 2) (some (.iload_n 1)) none) (cond (Nat.blt pc 4) (cond (Nat.beq pc 3) (some (.iconst 0)) none) (cond (Nat.beq pc 4) (some (.invokevirtual 84)) none)))) (cond (Nat.blt pc 11) (cond (Nat.blt pc 8) (cond (Nat.beq pc 7) (some (.iconst 1)) none) (cond (Nat.beq pc 8) (some (.invokevirtual 100)) none)) (cond (Nat.blt pc 12) (cond (Nat.beq pc 11) (some (.istore_n 2)) none) (cond (Nat.blt pc 13) (cond (Nat.beq pc 12) (some (.aload_n 0)) none) (cond (Nat.beq pc 13) (some (.aload_n 0)) none))))) (cond (Nat.blt pc 23) (cond (Nat.blt pc 16) (cond (Nat.blt pc 15) (cond (Nat.beq pc 14) (some (.iload_n 1)) none) (cond (Nat.beq pc 15) (some (.iconst 1)) none)) (cond (Nat.blt pc 19) (cond (Nat.beq pc 16) (some (.invokevirtual 84)) none) (cond (Nat.blt pc 20) (cond (Nat.beq pc 19) (some (.iconst 1)) none) (cond (Nat.beq pc 20) (some (.invokevirtual 100)) none)))) (cond (Nat.blt pc 26) (cond (Nat.blt pc 24) (cond (Nat.beq pc 23) (some (.istore_n 3)) none) (cond (Nat.blt pc 25) (cond (Nat.beq pc 24) (some (.aload_n 0)) none) (cond (Nat.beq pc 25) (some (.aload_n 0)) none))) (cond (Nat.blt pc 27) (cond (Nat.beq pc 26) (some (.iload_n 1)) none) (cond (Nat.blt pc 28) (cond (Nat.beq pc 27) (some (.iconst 2)) none) (cond (Nat.beq pc 28) (some (.invokevirtual 84)) none)))))) (cond (Nat.blt pc 47) (cond (Nat.blt pc 39) (cond (Nat.blt pc 35) (cond (Nat.blt pc 32) (cond (Nat.beq pc 31) (some (.iconst 1)) none) (cond (Nat.beq pc 32) (some (.invokevirtual 100)) none)) (cond (Nat.blt pc 37) (cond (Nat.beq pc 35) (some (.istore 4)) none) (cond (Nat.blt pc 38) (cond (Nat.beq pc 37) (some (.aload_n 0)) none) (cond (Nat.beq pc 38) (some (.iload_n 1)) none)))) (cond (Nat.blt pc 43) (cond (Nat.blt pc 40) (cond (Nat.beq pc 39) (some (.iconst 3)) none) (cond (Nat.beq pc 40) (some (.invokevirtual 88)) none)) (cond (Nat.blt pc 45) (cond (Nat.beq pc 43) (some (.istore 5)) none) (cond (Nat.blt pc 46) (cond (Nat.beq pc 45) (some (.iload_n 2)) none) (cond (Nat.beq pc 46) (some (.iconst 4)) none))))) (cond (Nat.blt pc 58) (cond (Nat.blt pc 53) (cond (Nat.blt pc 50) (cond (Nat.beq pc 47) (some (.invokestatic 120)) none) (cond (Nat.beq pc 50) (some (.ifCond .eq 21)) none)) (cond (Nat.blt pc 54) (cond (Nat.beq pc 53) (some (.iload_n 3)) none) (cond (Nat.blt pc 55) (cond (Nat.beq pc 54) (some (.iconst 3)) none) (cond (Nat.beq pc 55) (some (.invokestatic 120)) none)))) (cond (Nat.blt pc 65) (cond (Nat.blt pc 61) (cond (Nat.beq pc 58) (some (.ifCond .eq 13)) none) (cond (Nat.blt pc 63) (cond (Nat.beq pc 61) (some (.iload 4)) none) (cond (Nat.beq pc 63) (some (.bipush 31)) none))) (cond (Nat.blt pc 68) (cond (Nat.beq pc 65) (some (.invokestatic 120)) none) (cond (Nat.blt pc 71) (cond (Nat.beq pc 68) (some (.ifCond .ne 5)) none) (cond (Nat.beq pc 71) (some (.iconst (-1))) none))))))) (cond (Nat.blt pc 110) (cond (Nat.blt pc 89) (cond (Nat.blt pc 80) (cond (Nat.blt pc 74) (cond (Nat.blt pc 73) (cond (Nat.beq pc 72) (some (.ireturn)) none) (cond (Nat.beq pc 73) (some (.aload_n 0)) none)) (cond (Nat.blt pc 75) (cond (Nat.beq pc 74) (some (.aload_n 0)) none) (cond (Nat.blt pc 77) (cond (Nat.beq pc 75) (some (.iload 5)) none) (cond (Nat.beq pc 77) (some (.invokevirtual 94)) none)))) (cond (Nat.blt pc 84) (cond (Nat.blt pc 81) (cond (Nat.beq pc 80) (some (.iconst 0)) none) (cond (Nat.beq pc 81) (some (.invokevirtual 100)) none)) (cond (Nat.blt pc 86) (cond (Nat.beq pc 84) (some (.bipush 100)) none) (cond (Nat.blt pc 87) (cond (Nat.beq pc 86) (some (.isub)) none) (cond (Nat.beq pc 87) (some (.istore 6)) none))))) (cond (Nat.blt pc 99) (cond (Nat.blt pc 92) (cond (Nat.blt pc 90) (cond (Nat.beq pc 89) (some (.aload_n 0)) none) (cond (Nat.beq pc 90) (some (.iload 5)) none)) (cond (Nat.blt pc 95) (cond (Nat.beq pc 92) (some (.invokevirtual 91)) none) (cond (Nat.blt pc 96) (cond (Nat.beq pc 95) (some (.iconst 3)) none) (cond (Nat.beq pc 96) (some (.if_icmp .ne 35)) none)))) (cond (Nat.blt pc 103) (cond (Nat.blt pc 100) (cond (Nat.beq pc 99) (some (.aload_n 0)) none) (cond (Nat.blt pc 101) (cond (Nat.beq pc 100) (some (.aload_n 0)) none) (cond (Nat.beq pc 101) (some (.iload 5)) none))) (cond (Nat.blt pc 106) (cond (Nat.beq pc 103) (some (.invokevirtual 97)) none) (cond (Nat.blt pc 107) (cond (Nat.beq pc 106) (some (.iconst 0)) none) (cond (Nat.beq pc 107) (some (.invokevirtual 100)) none)))))) (cond (Nat.blt pc 132) (cond (Nat.blt pc 119) (cond (Nat.blt pc 113) (cond (Nat.blt pc 112) (cond (Nat.beq pc 110) (some (.bipush 10)) none) (cond (Nat.beq pc 112) (some (.iload_n 2)) none)) (cond (Nat.blt pc 114) (cond (Nat.beq pc 113) (some (.iadd)) none) (cond (Nat.blt pc 117) (cond (Nat.beq pc 114) (some (.if_icmp .ne 17)) none) (cond (Nat.beq pc 117) (some (.iload 6)) none)))) (cond (Nat.blt pc 127) (cond (Nat.blt pc 121) (cond (Nat.beq pc 119) (some (.bipush 64)) none) (cond (Nat.blt pc 124) (cond (Nat.beq pc 121) (some (.invokestatic 120)) none) (cond (Nat.beq pc 124) (some (.ifCond .eq 7)) none))) (cond (Nat.blt pc 128) (cond (Nat.beq pc 127) (some (.iconst 1)) none) (cond (Nat.blt pc 131) (cond (Nat.beq pc 128) (some (.goto 4)) none) (cond (Nat.beq pc 131) (some (.iconst 0)) none))))) (cond (Nat.blt pc 141) (cond (Nat.blt pc 136) (cond (Nat.blt pc 134) (cond (Nat.beq pc 132) (some (.istore 7)) none) (cond (Nat.beq pc 134) (some (.iload 7)) none)) (cond (Nat.blt pc 139) (cond (Nat.beq pc 136) (some (.ifCond .eq 15)) none) (cond (Nat.blt pc 140) (cond (Nat.beq pc 139) (some (.iload_n 2)) none) (cond (Nat.beq pc 140) (some (.iload_n 3)) none)))) (cond (Nat.blt pc 148) (cond (Nat.blt pc 143) (cond (Nat.beq pc 141) (some (.iload 4)) none) (cond (Nat.blt pc 145) (cond (Nat.beq pc 143) (some (.iload 6)) none) (cond (Nat.beq pc 145) (some (.invokestatic 134)) none))) (cond (Nat.blt pc 151) (cond (Nat.beq pc 148) (some (.goto 4)) none) (cond (Nat.blt pc 152) (cond (Nat.beq pc 151) (some (.iconst (-1))) none) (cond (Nat.beq pc 152) (some (.ireturn)) none))))))))
theorem tb_i49 : tb_okI 8 prog_5_method_11_code tb_f49 := tb_okI_of 153 tb_cut_out (by decide +kernel)
theorem tb_p49 : tb_okP tb_cl tb_WA "VaultDevices$Seals" false tb_FL 2 tb_f49 := tb_okP_of 153 tb_cut_out (by decide +kernel)
/-- VaultDevices$Seals.write(LVaultDevices$Terms;LVaultDevices$State;)I -/
def tb_f50 : Nat → Option Instr := tb_cut 112 (fun pc => cond (Nat.blt pc 54) (cond (Nat.blt pc 27) (cond (Nat.blt pc 12) (cond (Nat.blt pc 6) (cond (Nat.blt pc 4) (cond (Nat.blt pc 1) (cond (Nat.beq pc 0) (some (.aload_n 1)) none) (cond (Nat.beq pc 1) (some (.getfield 21)) none)) (cond (Nat.blt pc 5) (cond (Nat.beq pc 4) (some (.istore_n 3)) none) (cond (Nat.beq pc 5) (some (.aload_n 0)) none))) (cond (Nat.blt pc 8) (cond (Nat.blt pc 7) (cond (Nat.beq pc 6) (some (.aload_n 1)) none) (cond (Nat.beq pc 7) (some (.aload_n 2)) none)) (cond (Nat.blt pc 11) (cond (Nat.beq pc 8) (some (.invokevirtual 27)) none) (cond (Nat.beq pc 11) (some (.iconst 0)) none)))) (cond (Nat.blt pc 20) (cond (Nat.blt pc 16) (cond (Nat.blt pc 14) (cond (Nat.beq pc 12) (some (.istore 4)) none) (cond (Nat.beq pc 14) (some (.iload 4)) none)) (cond (Nat.blt pc 17) (cond (Nat.beq pc 16) (some (.iconst 3)) none) (cond (Nat.beq pc 17) (some (.if_icmp .ge 31)) none))) (cond (Nat.blt pc 24) (cond (Nat.blt pc 21) (cond (Nat.beq pc 20) (some (.aload_n 0)) none) (cond (Nat.beq pc 21) (some (.getfield 11)) none)) (cond (Nat.blt pc 25) (cond (Nat.beq pc 24) (some (.iconst 3)) none) (cond (Nat.beq pc 25) (some (.iload 4)) none))))) (cond (Nat.blt pc 38) (cond (Nat.blt pc 31) (cond (Nat.blt pc 29) (cond (Nat.blt pc 28) (cond (Nat.beq pc 27) (some (.iadd)) none) (cond (Nat.beq pc 28) (some (.aload_n 1)) none)) (cond (Nat.blt pc 30) (cond (Nat.beq pc 29) (some (.iconst 1)) none) (cond (Nat.beq pc 30) (some (.aload_n 2)) none))) (cond (Nat.blt pc 36) (cond (Nat.blt pc 34) (cond (Nat.beq pc 31) (some (.getfield 31)) none) (cond (Nat.beq pc 34) (some (.iload 4)) none)) (cond (Nat.blt pc 37) (cond (Nat.beq pc 36) (some (.iaload)) none) (cond (Nat.beq pc 37) (some (.iconst (-1))) none)))) (cond (Nat.blt pc 48) (cond (Nat.blt pc 42) (cond (Nat.blt pc 41) (cond (Nat.beq pc 38) (some (.invokevirtual 36)) none) (cond (Nat.beq pc 41) (some (.iastore)) none)) (cond (Nat.blt pc 45) (cond (Nat.beq pc 42) (some (.iinc 4 1)) none) (cond (Nat.beq pc 45) (some (.goto (-31))) none))) (cond (Nat.blt pc 50) (cond (Nat.blt pc 49) (cond (Nat.beq pc 48) (some (.aload_n 1)) none) (cond (Nat.beq pc 49) (some (.aload_n 0)) none)) (cond (Nat.blt pc 53) (cond (Nat.beq pc 50) (some (.getfield 11)) none) (cond (Nat.beq pc 53) (some (.aload_n 0)) none)))))) (cond (Nat.blt pc 81) (cond (Nat.blt pc 69) (cond (Nat.blt pc 60) (cond (Nat.blt pc 58) (cond (Nat.blt pc 57) (cond (Nat.beq pc 54) (some (.getfield 11)) none) (cond (Nat.beq pc 57) (some (.arraylength)) none)) (cond (Nat.blt pc 59) (cond (Nat.beq pc 58) (some (.aload_n 0)) none) (cond (Nat.beq pc 59) (some (.aload_n 1)) none))) (cond (Nat.blt pc 64) (cond (Nat.blt pc 61) (cond (Nat.beq pc 60) (some (.aload_n 2)) none) (cond (Nat.beq pc 61) (some (.invokevirtual 40)) none)) (cond (Nat.blt pc 67) (cond (Nat.beq pc 64) (some (.invokevirtual 44)) none) (cond (Nat.beq pc 67) (some (.istore 4)) none)))) (cond (Nat.blt pc 73) (cond (Nat.blt pc 71) (cond (Nat.blt pc 70) (cond (Nat.beq pc 69) (some (.aload_n 1)) none) (cond (Nat.beq pc 70) (some (.iconst 5)) none)) (cond (Nat.blt pc 72) (cond (Nat.beq pc 71) (some (.aload_n 1)) none) (cond (Nat.beq pc 72) (some (.iconst 0)) none))) (cond (Nat.blt pc 76) (cond (Nat.blt pc 75) (cond (Nat.beq pc 73) (some (.bipush 9)) none) (cond (Nat.beq pc 75) (some (.iconst (-1))) none)) (cond (Nat.blt pc 79) (cond (Nat.beq pc 76) (some (.invokevirtual 36)) none) (cond (Nat.beq pc 79) (some (.iload 4)) none))))) (cond (Nat.blt pc 97) (cond (Nat.blt pc 88) (cond (Nat.blt pc 86) (cond (Nat.blt pc 84) (cond (Nat.beq pc 81) (some (.invokevirtual 36)) none) (cond (Nat.beq pc 84) (some (.istore 5)) none)) (cond (Nat.blt pc 87) (cond (Nat.beq pc 86) (some (.aload_n 1)) none) (cond (Nat.beq pc 87) (some (.iconst 4)) none))) (cond (Nat.blt pc 92) (cond (Nat.blt pc 90) (cond (Nat.beq pc 88) (some (.iload 4)) none) (cond (Nat.beq pc 90) (some (.iload 5)) none)) (cond (Nat.blt pc 95) (cond (Nat.beq pc 92) (some (.invokevirtual 36)) none) (cond (Nat.beq pc 95) (some (.istore 6)) none)))) (cond (Nat.blt pc 105) (cond (Nat.blt pc 101) (cond (Nat.blt pc 99) (cond (Nat.beq pc 97) (some (.iload 6)) none) (cond (Nat.beq pc 99) (some (.bipush (-2))) none)) (cond (Nat.blt pc 104) (cond (Nat.beq pc 101) (some (.if_icmp .ne 8)) none) (cond (Nat.beq pc 104) (some (.aload_n 1)) none))) (cond (Nat.blt pc 109) (cond (Nat.blt pc 106) (cond (Nat.beq pc 105) (some (.iload_n 3)) none) (cond (Nat.beq pc 106) (some (.invokevirtual 48)) none)) (cond (Nat.blt pc 111) (cond (Nat.beq pc 109) (some (.iload 6)) none) (cond (Nat.beq pc 111) (some (.ireturn)) none)))))))
theorem tb_i50 : tb_okI 7 prog_5_method_2_code tb_f50 := tb_okI_of 112 tb_cut_out (by decide +kernel)
theorem tb_p50 : tb_okP tb_cl tb_WA "VaultDevices$Seals" false tb_FL 2 tb_f50 := tb_okP_of 112 tb_cut_out (by decide +kernel)
/-- VaultDevices$Seals.writeHeader(LVaultDevices$Terms;LVaultDevices$State;)V -/
def tb_f51 : Nat → Option Instr := tb_cut 85 (fun pc => cond (Nat.blt pc 42) (cond (Nat.blt pc 21) (cond (Nat.blt pc 8) (cond (Nat.blt pc 5) (cond (Nat.blt pc 1) (cond (Nat.beq pc 0) (some (.aload_n 0)) none) (cond (Nat.blt pc 4) (cond (Nat.beq pc 1) (some (.getfield 11)) none) (cond (Nat.beq pc 4) (some (.iconst 0)) none))) (cond (Nat.blt pc 6) (cond (Nat.beq pc 5) (some (.aload_n 1)) none) (cond (Nat.blt pc 7) (cond (Nat.beq pc 6) (some (.iconst 1)) none) (cond (Nat.beq pc 7) (some (.aload_n 2)) none)))) (cond (Nat.blt pc 15) (cond (Nat.blt pc 11) (cond (Nat.beq pc 8) (some (.getfield 52)) none) (cond (Nat.blt pc 12) (cond (Nat.beq pc 11) (some (.iconst (-1))) none) (cond (Nat.beq pc 12) (some (.invokevirtual 36)) none))) (cond (Nat.blt pc 17) (cond (Nat.blt pc 16) (cond (Nat.beq pc 15) (some (.iastore)) none) (cond (Nat.beq pc 16) (some (.aload_n 0)) none)) (cond (Nat.blt pc 20) (cond (Nat.beq pc 17) (some (.getfield 11)) none) (cond (Nat.beq pc 20) (some (.iconst 1)) none))))) (cond (Nat.blt pc 31) (cond (Nat.blt pc 24) (cond (Nat.blt pc 22) (cond (Nat.beq pc 21) (some (.aload_n 1)) none) (cond (Nat.blt pc 23) (cond (Nat.beq pc 22) (some (.iconst 1)) none) (cond (Nat.beq pc 23) (some (.aload_n 2)) none))) (cond (Nat.blt pc 27) (cond (Nat.beq pc 24) (some (.getfield 55)) none) (cond (Nat.blt pc 28) (cond (Nat.beq pc 27) (some (.iconst (-1))) none) (cond (Nat.beq pc 28) (some (.invokevirtual 36)) none)))) (cond (Nat.blt pc 34) (cond (Nat.blt pc 32) (cond (Nat.beq pc 31) (some (.iastore)) none) (cond (Nat.blt pc 33) (cond (Nat.beq pc 32) (some (.aload_n 1)) none) (cond (Nat.beq pc 33) (some (.iconst 0)) none))) (cond (Nat.blt pc 38) (cond (Nat.blt pc 35) (cond (Nat.beq pc 34) (some (.aload_n 2)) none) (cond (Nat.beq pc 35) (some (.getfield 58)) none)) (cond (Nat.blt pc 39) (cond (Nat.beq pc 38) (some (.iconst (-1))) none) (cond (Nat.beq pc 39) (some (.invokevirtual 36)) none)))))) (cond (Nat.blt pc 63) (cond (Nat.blt pc 51) (cond (Nat.blt pc 45) (cond (Nat.blt pc 43) (cond (Nat.beq pc 42) (some (.istore_n 3)) none) (cond (Nat.blt pc 44) (cond (Nat.beq pc 43) (some (.aload_n 1)) none) (cond (Nat.beq pc 44) (some (.iconst 0)) none))) (cond (Nat.blt pc 47) (cond (Nat.beq pc 45) (some (.bipush 8)) none) (cond (Nat.blt pc 48) (cond (Nat.beq pc 47) (some (.iconst (-1))) none) (cond (Nat.beq pc 48) (some (.invokevirtual 36)) none)))) (cond (Nat.blt pc 55) (cond (Nat.blt pc 53) (cond (Nat.beq pc 51) (some (.istore 4)) none) (cond (Nat.blt pc 54) (cond (Nat.beq pc 53) (some (.aload_n 1)) none) (cond (Nat.beq pc 54) (some (.iconst 2)) none))) (cond (Nat.blt pc 58) (cond (Nat.blt pc 56) (cond (Nat.beq pc 55) (some (.iload_n 3)) none) (cond (Nat.beq pc 56) (some (.iload 4)) none)) (cond (Nat.blt pc 61) (cond (Nat.beq pc 58) (some (.invokevirtual 36)) none) (cond (Nat.beq pc 61) (some (.istore 5)) none))))) (cond (Nat.blt pc 73) (cond (Nat.blt pc 68) (cond (Nat.blt pc 64) (cond (Nat.beq pc 63) (some (.aload_n 0)) none) (cond (Nat.blt pc 67) (cond (Nat.beq pc 64) (some (.getfield 11)) none) (cond (Nat.beq pc 67) (some (.iconst 2)) none))) (cond (Nat.blt pc 70) (cond (Nat.blt pc 69) (cond (Nat.beq pc 68) (some (.aload_n 1)) none) (cond (Nat.beq pc 69) (some (.iconst 3)) none)) (cond (Nat.blt pc 72) (cond (Nat.beq pc 70) (some (.iload 5)) none) (cond (Nat.beq pc 72) (some (.aload_n 1)) none)))) (cond (Nat.blt pc 77) (cond (Nat.blt pc 74) (cond (Nat.beq pc 73) (some (.iconst 0)) none) (cond (Nat.blt pc 76) (cond (Nat.beq pc 74) (some (.bipush 9)) none) (cond (Nat.beq pc 76) (some (.iconst (-1))) none))) (cond (Nat.blt pc 83) (cond (Nat.blt pc 80) (cond (Nat.beq pc 77) (some (.invokevirtual 36)) none) (cond (Nat.beq pc 80) (some (.invokevirtual 36)) none)) (cond (Nat.blt pc 84) (cond (Nat.beq pc 83) (some (.iastore)) none) (cond (Nat.beq pc 84) (some (.return_)) none)))))))
theorem tb_i51 : tb_okI 6 prog_5_method_3_code tb_f51 := tb_okI_of 85 tb_cut_out (by decide +kernel)
theorem tb_p51 : tb_okP tb_cl tb_WA "VaultDevices$Seals" false tb_FL 2 tb_f51 := tb_okP_of 85 tb_cut_out (by decide +kernel)
/-- VaultDevices$Seals.writeEntries(LVaultDevices$Terms;LVaultDevices$State;)I -/
def tb_f52 : Nat → Option Instr := tb_cut 55 (fun pc => cond (Nat.blt pc 26) (cond (Nat.blt pc 14) (cond (Nat.blt pc 4) (cond (Nat.blt pc 2) (cond (Nat.blt pc 1) (cond (Nat.beq pc 0) (some (.iconst 0)) none) (cond (Nat.beq pc 1) (some (.istore_n 3)) none)) (cond (Nat.blt pc 3) (cond (Nat.beq pc 2) (some (.iload_n 3)) none) (cond (Nat.beq pc 3) (some (.aload_n 2)) none))) (cond (Nat.blt pc 10) (cond (Nat.blt pc 7) (cond (Nat.beq pc 4) (some (.getfield 61)) none) (cond (Nat.beq pc 7) (some (.if_icmp .ge 26)) none)) (cond (Nat.blt pc 11) (cond (Nat.beq pc 10) (some (.aload_n 0)) none) (cond (Nat.beq pc 11) (some (.getfield 15)) none)))) (cond (Nat.blt pc 18) (cond (Nat.blt pc 16) (cond (Nat.blt pc 15) (cond (Nat.beq pc 14) (some (.iload_n 3)) none) (cond (Nat.beq pc 15) (some (.aload_n 0)) none)) (cond (Nat.blt pc 17) (cond (Nat.beq pc 16) (some (.aload_n 1)) none) (cond (Nat.beq pc 17) (some (.aload_n 2)) none))) (cond (Nat.blt pc 22) (cond (Nat.blt pc 21) (cond (Nat.beq pc 18) (some (.getfield 62)) none) (cond (Nat.beq pc 21) (some (.iload_n 3)) none)) (cond (Nat.blt pc 23) (cond (Nat.beq pc 22) (some (.iaload)) none) (cond (Nat.beq pc 23) (some (.invokevirtual 65)) none))))) (cond (Nat.blt pc 40) (cond (Nat.blt pc 34) (cond (Nat.blt pc 30) (cond (Nat.blt pc 27) (cond (Nat.beq pc 26) (some (.iastore)) none) (cond (Nat.beq pc 27) (some (.iinc 3 1)) none)) (cond (Nat.blt pc 33) (cond (Nat.beq pc 30) (some (.goto (-28))) none) (cond (Nat.beq pc 33) (some (.aload_n 1)) none))) (cond (Nat.blt pc 36) (cond (Nat.blt pc 35) (cond (Nat.beq pc 34) (some (.iconst 1)) none) (cond (Nat.beq pc 35) (some (.iconst 0)) none)) (cond (Nat.blt pc 37) (cond (Nat.beq pc 36) (some (.iconst (-1))) none) (cond (Nat.beq pc 37) (some (.invokevirtual 36)) none)))) (cond (Nat.blt pc 46) (cond (Nat.blt pc 42) (cond (Nat.blt pc 41) (cond (Nat.beq pc 40) (some (.istore_n 3)) none) (cond (Nat.beq pc 41) (some (.aload_n 1)) none)) (cond (Nat.blt pc 43) (cond (Nat.beq pc 42) (some (.aload_n 0)) none) (cond (Nat.beq pc 43) (some (.getfield 15)) none))) (cond (Nat.blt pc 50) (cond (Nat.blt pc 47) (cond (Nat.beq pc 46) (some (.aload_n 2)) none) (cond (Nat.beq pc 47) (some (.getfield 61)) none)) (cond (Nat.blt pc 51) (cond (Nat.beq pc 50) (some (.iload_n 3)) none) (cond (Nat.blt pc 54) (cond (Nat.beq pc 51) (some (.invokevirtual 44)) none) (cond (Nat.beq pc 54) (some (.ireturn)) none)))))))
theorem tb_i52 : tb_okI 4 prog_5_method_4_code tb_f52 := tb_okI_of 55 tb_cut_out (by decide +kernel)
theorem tb_p52 : tb_okP tb_cl tb_WA "VaultDevices$Seals" false tb_FL 2 tb_f52 := tb_okP_of 55 tb_cut_out (by decide +kernel)
/-- VaultDevices$Seals.writeEntry(LVaultDevices$Terms;I)I -/
def tb_f53 : Nat → Option Instr := tb_cut 99 (fun pc => cond (Nat.blt pc 48) (cond (Nat.blt pc 23) (cond (Nat.blt pc 11) (cond (Nat.blt pc 5) (cond (Nat.blt pc 1) (cond (Nat.beq pc 0) (some (.aload_n 0)) none) (cond (Nat.blt pc 4) (cond (Nat.beq pc 1) (some (.getfield 18)) none) (cond (Nat.beq pc 4) (some (.iconst 0)) none))) (cond (Nat.blt pc 7) (cond (Nat.blt pc 6) (cond (Nat.beq pc 5) (some (.aload_n 1)) none) (cond (Nat.beq pc 6) (some (.iconst 1)) none)) (cond (Nat.blt pc 8) (cond (Nat.beq pc 7) (some (.iload_n 2)) none) (cond (Nat.beq pc 8) (some (.invokestatic 69)) none)))) (cond (Nat.blt pc 17) (cond (Nat.blt pc 15) (cond (Nat.blt pc 12) (cond (Nat.beq pc 11) (some (.iconst (-1))) none) (cond (Nat.beq pc 12) (some (.invokevirtual 36)) none)) (cond (Nat.blt pc 16) (cond (Nat.beq pc 15) (some (.iastore)) none) (cond (Nat.beq pc 16) (some (.aload_n 0)) none))) (cond (Nat.blt pc 21) (cond (Nat.blt pc 20) (cond (Nat.beq pc 17) (some (.getfield 18)) none) (cond (Nat.beq pc 20) (some (.iconst 1)) none)) (cond (Nat.blt pc 22) (cond (Nat.beq pc 21) (some (.aload_n 1)) none) (cond (Nat.beq pc 22) (some (.iconst 1)) none))))) (cond (Nat.blt pc 36) (cond (Nat.blt pc 28) (cond (Nat.blt pc 24) (cond (Nat.beq pc 23) (some (.iload_n 2)) none) (cond (Nat.blt pc 27) (cond (Nat.beq pc 24) (some (.invokestatic 75)) none) (cond (Nat.beq pc 27) (some (.iconst (-1))) none))) (cond (Nat.blt pc 32) (cond (Nat.blt pc 31) (cond (Nat.beq pc 28) (some (.invokevirtual 36)) none) (cond (Nat.beq pc 31) (some (.iastore)) none)) (cond (Nat.blt pc 33) (cond (Nat.beq pc 32) (some (.aload_n 0)) none) (cond (Nat.beq pc 33) (some (.getfield 18)) none)))) (cond (Nat.blt pc 40) (cond (Nat.blt pc 38) (cond (Nat.blt pc 37) (cond (Nat.beq pc 36) (some (.iconst 2)) none) (cond (Nat.beq pc 37) (some (.aload_n 1)) none)) (cond (Nat.blt pc 39) (cond (Nat.beq pc 38) (some (.iconst 1)) none) (cond (Nat.beq pc 39) (some (.iload_n 2)) none))) (cond (Nat.blt pc 44) (cond (Nat.blt pc 43) (cond (Nat.beq pc 40) (some (.invokestatic 78)) none) (cond (Nat.beq pc 43) (some (.iconst (-1))) none)) (cond (Nat.blt pc 47) (cond (Nat.beq pc 44) (some (.invokevirtual 36)) none) (cond (Nat.beq pc 47) (some (.iastore)) none)))))) (cond (Nat.blt pc 71) (cond (Nat.blt pc 58) (cond (Nat.blt pc 52) (cond (Nat.blt pc 49) (cond (Nat.beq pc 48) (some (.aload_n 1)) none) (cond (Nat.blt pc 50) (cond (Nat.beq pc 49) (some (.iconst 0)) none) (cond (Nat.beq pc 50) (some (.bipush 10)) none))) (cond (Nat.blt pc 56) (cond (Nat.blt pc 53) (cond (Nat.beq pc 52) (some (.iload_n 2)) none) (cond (Nat.beq pc 53) (some (.invokestatic 69)) none)) (cond (Nat.blt pc 57) (cond (Nat.beq pc 56) (some (.iadd)) none) (cond (Nat.beq pc 57) (some (.iconst (-1))) none)))) (cond (Nat.blt pc 64) (cond (Nat.blt pc 62) (cond (Nat.blt pc 61) (cond (Nat.beq pc 58) (some (.invokevirtual 36)) none) (cond (Nat.beq pc 61) (some (.istore_n 3)) none)) (cond (Nat.blt pc 63) (cond (Nat.beq pc 62) (some (.aload_n 1)) none) (cond (Nat.beq pc 63) (some (.iconst 0)) none))) (cond (Nat.blt pc 67) (cond (Nat.blt pc 66) (cond (Nat.beq pc 64) (some (.bipush 100)) none) (cond (Nat.beq pc 66) (some (.iload_n 2)) none)) (cond (Nat.blt pc 70) (cond (Nat.beq pc 67) (some (.invokestatic 81)) none) (cond (Nat.beq pc 70) (some (.iadd)) none))))) (cond (Nat.blt pc 86) (cond (Nat.blt pc 78) (cond (Nat.blt pc 75) (cond (Nat.blt pc 72) (cond (Nat.beq pc 71) (some (.iconst (-1))) none) (cond (Nat.beq pc 72) (some (.invokevirtual 36)) none)) (cond (Nat.blt pc 77) (cond (Nat.beq pc 75) (some (.istore 4)) none) (cond (Nat.beq pc 77) (some (.aload_n 1)) none))) (cond (Nat.blt pc 82) (cond (Nat.blt pc 79) (cond (Nat.beq pc 78) (some (.aload_n 0)) none) (cond (Nat.beq pc 79) (some (.getfield 18)) none)) (cond (Nat.blt pc 83) (cond (Nat.beq pc 82) (some (.aload_n 0)) none) (cond (Nat.beq pc 83) (some (.getfield 18)) none)))) (cond (Nat.blt pc 90) (cond (Nat.blt pc 88) (cond (Nat.blt pc 87) (cond (Nat.beq pc 86) (some (.arraylength)) none) (cond (Nat.beq pc 87) (some (.aload_n 1)) none)) (cond (Nat.blt pc 89) (cond (Nat.beq pc 88) (some (.iconst 3)) none) (cond (Nat.beq pc 89) (some (.iload_n 3)) none))) (cond (Nat.blt pc 95) (cond (Nat.blt pc 92) (cond (Nat.beq pc 90) (some (.iload 4)) none) (cond (Nat.beq pc 92) (some (.invokevirtual 36)) none)) (cond (Nat.blt pc 98) (cond (Nat.beq pc 95) (some (.invokevirtual 44)) none) (cond (Nat.beq pc 98) (some (.ireturn)) none)))))))
theorem tb_i53 : tb_okI 5 prog_5_method_5_code tb_f53 := tb_okI_of 99 tb_cut_out (by decide +kernel)
theorem tb_p53 : tb_okP tb_cl tb_WA "VaultDevices$Seals" false tb_FL 2 tb_f53 := tb_okP_of 99 tb_cut_out (by decide +kernel)
/-- VaultDevices$Mail.<init>()V -/
def tb_f54 : Nat → Option Instr := tb_cut 37 (fun pc => cond (Nat.blt pc 17) (cond (Nat.blt pc 7) (cond (Nat.blt pc 4) (cond (Nat.blt pc 1) (cond (Nat.beq pc 0) (some (.aload_n 0)) none) (cond (Nat.beq pc 1) (some (.invokespecial 3)) none)) (cond (Nat.blt pc 5) (cond (Nat.beq pc 4) (some (.aload_n 0)) none) (cond (Nat.beq pc 5) (some (.bipush 12)) none))) (cond (Nat.blt pc 12) (cond (Nat.blt pc 9) (cond (Nat.beq pc 7) (some (.newarray .int)) none) (cond (Nat.beq pc 9) (some (.putfield 9)) none)) (cond (Nat.blt pc 13) (cond (Nat.beq pc 12) (some (.aload_n 0)) none) (cond (Nat.blt pc 15) (cond (Nat.beq pc 13) (some (.bipush 12)) none) (cond (Nat.beq pc 15) (some (.newarray .int)) none))))) (cond (Nat.blt pc 28) (cond (Nat.blt pc 21) (cond (Nat.blt pc 20) (cond (Nat.beq pc 17) (some (.putfield 15)) none) (cond (Nat.beq pc 20) (some (.aload_n 0)) none)) (cond (Nat.blt pc 23) (cond (Nat.beq pc 21) (some (.bipush 12)) none) (cond (Nat.blt pc 25) (cond (Nat.beq pc 23) (some (.newarray .int)) none) (cond (Nat.beq pc 25) (some (.putfield 18)) none)))) (cond (Nat.blt pc 31) (cond (Nat.blt pc 29) (cond (Nat.beq pc 28) (some (.aload_n 0)) none) (cond (Nat.beq pc 29) (some (.bipush 12)) none)) (cond (Nat.blt pc 33) (cond (Nat.beq pc 31) (some (.newarray .int)) none) (cond (Nat.blt pc 36) (cond (Nat.beq pc 33) (some (.putfield 21)) none) (cond (Nat.beq pc 36) (some (.return_)) none))))))
theorem tb_i54 : tb_okI 1 prog_4_method_1_code tb_f54 := tb_okI_of 37 tb_cut_out (by decide +kernel)
theorem tb_p54 : tb_okP tb_cl tb_WA "VaultDevices$Mail" true tb_FL 3 tb_f54 := tb_okP_of 37 tb_cut_out (by decide +kernel)
/-- VaultDevices$Mail.remove(I)V -/
def tb_f55 : Nat → Option Instr := tb_cut 83 (fun pc => cond (Nat.blt pc 43) (cond (Nat.blt pc 21) (cond (Nat.blt pc 10) (cond (Nat.blt pc 5) (cond (Nat.blt pc 1) (cond (Nat.beq pc 0) (some (.aload_n 0)) none) (cond (Nat.blt pc 2) (cond (Nat.beq pc 1) (some (.dup)) none) (cond (Nat.beq pc 2) (some (.getfield 24)) none))) (cond (Nat.blt pc 6) (cond (Nat.beq pc 5) (some (.iconst 1)) none) (cond (Nat.blt pc 7) (cond (Nat.beq pc 6) (some (.isub)) none) (cond (Nat.beq pc 7) (some (.putfield 24)) none)))) (cond (Nat.blt pc 13) (cond (Nat.blt pc 11) (cond (Nat.beq pc 10) (some (.iload_n 1)) none) (cond (Nat.blt pc 12) (cond (Nat.beq pc 11) (some (.istore_n 2)) none) (cond (Nat.beq pc 12) (some (.iload_n 2)) none))) (cond (Nat.blt pc 17) (cond (Nat.blt pc 14) (cond (Nat.beq pc 13) (some (.aload_n 0)) none) (cond (Nat.beq pc 14) (some (.getfield 24)) none)) (cond (Nat.blt pc 20) (cond (Nat.beq pc 17) (some (.if_icmp .ge 65)) none) (cond (Nat.beq pc 20) (some (.aload_n 0)) none))))) (cond (Nat.blt pc 32) (cond (Nat.blt pc 26) (cond (Nat.blt pc 24) (cond (Nat.beq pc 21) (some (.getfield 9)) none) (cond (Nat.blt pc 25) (cond (Nat.beq pc 24) (some (.iload_n 2)) none) (cond (Nat.beq pc 25) (some (.aload_n 0)) none))) (cond (Nat.blt pc 30) (cond (Nat.blt pc 29) (cond (Nat.beq pc 26) (some (.getfield 9)) none) (cond (Nat.beq pc 29) (some (.iload_n 2)) none)) (cond (Nat.blt pc 31) (cond (Nat.beq pc 30) (some (.iconst 1)) none) (cond (Nat.beq pc 31) (some (.iadd)) none)))) (cond (Nat.blt pc 35) (cond (Nat.blt pc 33) (cond (Nat.beq pc 32) (some (.iaload)) none) (cond (Nat.blt pc 34) (cond (Nat.beq pc 33) (some (.iastore)) none) (cond (Nat.beq pc 34) (some (.aload_n 0)) none))) (cond (Nat.blt pc 39) (cond (Nat.blt pc 38) (cond (Nat.beq pc 35) (some (.getfield 15)) none) (cond (Nat.beq pc 38) (some (.iload_n 2)) none)) (cond (Nat.blt pc 40) (cond (Nat.beq pc 39) (some (.aload_n 0)) none) (cond (Nat.beq pc 40) (some (.getfield 15)) none)))))) (cond (Nat.blt pc 61) (cond (Nat.blt pc 52) (cond (Nat.blt pc 46) (cond (Nat.blt pc 44) (cond (Nat.beq pc 43) (some (.iload_n 2)) none) (cond (Nat.blt pc 45) (cond (Nat.beq pc 44) (some (.iconst 1)) none) (cond (Nat.beq pc 45) (some (.iadd)) none))) (cond (Nat.blt pc 48) (cond (Nat.blt pc 47) (cond (Nat.beq pc 46) (some (.iaload)) none) (cond (Nat.beq pc 47) (some (.iastore)) none)) (cond (Nat.blt pc 49) (cond (Nat.beq pc 48) (some (.aload_n 0)) none) (cond (Nat.beq pc 49) (some (.getfield 18)) none)))) (cond (Nat.blt pc 57) (cond (Nat.blt pc 53) (cond (Nat.beq pc 52) (some (.iload_n 2)) none) (cond (Nat.blt pc 54) (cond (Nat.beq pc 53) (some (.aload_n 0)) none) (cond (Nat.beq pc 54) (some (.getfield 18)) none))) (cond (Nat.blt pc 59) (cond (Nat.blt pc 58) (cond (Nat.beq pc 57) (some (.iload_n 2)) none) (cond (Nat.beq pc 58) (some (.iconst 1)) none)) (cond (Nat.blt pc 60) (cond (Nat.beq pc 59) (some (.iadd)) none) (cond (Nat.beq pc 60) (some (.iaload)) none))))) (cond (Nat.blt pc 72) (cond (Nat.blt pc 66) (cond (Nat.blt pc 62) (cond (Nat.beq pc 61) (some (.iastore)) none) (cond (Nat.blt pc 63) (cond (Nat.beq pc 62) (some (.aload_n 0)) none) (cond (Nat.beq pc 63) (some (.getfield 21)) none))) (cond (Nat.blt pc 68) (cond (Nat.blt pc 67) (cond (Nat.beq pc 66) (some (.iload_n 2)) none) (cond (Nat.beq pc 67) (some (.aload_n 0)) none)) (cond (Nat.blt pc 71) (cond (Nat.beq pc 68) (some (.getfield 21)) none) (cond (Nat.beq pc 71) (some (.iload_n 2)) none)))) (cond (Nat.blt pc 75) (cond (Nat.blt pc 73) (cond (Nat.beq pc 72) (some (.iconst 1)) none) (cond (Nat.blt pc 74) (cond (Nat.beq pc 73) (some (.iadd)) none) (cond (Nat.beq pc 74) (some (.iaload)) none))) (cond (Nat.blt pc 79) (cond (Nat.blt pc 76) (cond (Nat.beq pc 75) (some (.iastore)) none) (cond (Nat.beq pc 76) (some (.iinc 2 1)) none)) (cond (Nat.blt pc 82) (cond (Nat.beq pc 79) (some (.goto (-67))) none) (cond (Nat.beq pc 82) (some (.return_)) none)))))))
theorem tb_i55 : tb_okI 3 prog_4_method_3_code tb_f55 := tb_okI_of 83 tb_cut_out (by decide +kernel)
theorem tb_p55 : tb_okP tb_cl tb_WA "VaultDevices$Mail" false tb_FL 3 tb_f55 := tb_okP_of 83 tb_cut_out (by decide +kernel)
/-- VaultDevices$Mail.send(IIII)V -/
def tb_f56 : Nat → Option Instr := tb_cut 62 (fun pc => cond (Nat.blt pc 31) (cond (Nat.blt pc 18) (cond (Nat.blt pc 9) (cond (Nat.blt pc 4) (cond (Nat.blt pc 1) (cond (Nat.beq pc 0) (some (.aload_n 0)) none) (cond (Nat.beq pc 1) (some (.getfield 24)) none)) (cond (Nat.blt pc 6) (cond (Nat.beq pc 4) (some (.bipush 12)) none) (cond (Nat.beq pc 6) (some (.if_icmp .lt 4)) none))) (cond (Nat.blt pc 11) (cond (Nat.blt pc 10) (cond (Nat.beq pc 9) (some (.return_)) none) (cond (Nat.beq pc 10) (some (.aload_n 0)) none)) (cond (Nat.blt pc 14) (cond (Nat.beq pc 11) (some (.getfield 9)) none) (cond (Nat.blt pc 15) (cond (Nat.beq pc 14) (some (.aload_n 0)) none) (cond (Nat.beq pc 15) (some (.getfield 24)) none))))) (cond (Nat.blt pc 24) (cond (Nat.blt pc 20) (cond (Nat.blt pc 19) (cond (Nat.beq pc 18) (some (.iload_n 1)) none) (cond (Nat.beq pc 19) (some (.iastore)) none)) (cond (Nat.blt pc 21) (cond (Nat.beq pc 20) (some (.aload_n 0)) none) (cond (Nat.beq pc 21) (some (.getfield 15)) none))) (cond (Nat.blt pc 28) (cond (Nat.blt pc 25) (cond (Nat.beq pc 24) (some (.aload_n 0)) none) (cond (Nat.beq pc 25) (some (.getfield 24)) none)) (cond (Nat.blt pc 29) (cond (Nat.beq pc 28) (some (.iload_n 2)) none) (cond (Nat.blt pc 30) (cond (Nat.beq pc 29) (some (.iastore)) none) (cond (Nat.beq pc 30) (some (.aload_n 0)) none)))))) (cond (Nat.blt pc 48) (cond (Nat.blt pc 39) (cond (Nat.blt pc 35) (cond (Nat.blt pc 34) (cond (Nat.beq pc 31) (some (.getfield 18)) none) (cond (Nat.beq pc 34) (some (.aload_n 0)) none)) (cond (Nat.blt pc 38) (cond (Nat.beq pc 35) (some (.getfield 24)) none) (cond (Nat.beq pc 38) (some (.iload_n 3)) none))) (cond (Nat.blt pc 41) (cond (Nat.blt pc 40) (cond (Nat.beq pc 39) (some (.iastore)) none) (cond (Nat.beq pc 40) (some (.aload_n 0)) none)) (cond (Nat.blt pc 44) (cond (Nat.beq pc 41) (some (.getfield 21)) none) (cond (Nat.blt pc 45) (cond (Nat.beq pc 44) (some (.aload_n 0)) none) (cond (Nat.beq pc 45) (some (.getfield 24)) none))))) (cond (Nat.blt pc 53) (cond (Nat.blt pc 51) (cond (Nat.blt pc 50) (cond (Nat.beq pc 48) (some (.iload 4)) none) (cond (Nat.beq pc 50) (some (.iastore)) none)) (cond (Nat.blt pc 52) (cond (Nat.beq pc 51) (some (.aload_n 0)) none) (cond (Nat.beq pc 52) (some (.dup)) none))) (cond (Nat.blt pc 57) (cond (Nat.blt pc 56) (cond (Nat.beq pc 53) (some (.getfield 24)) none) (cond (Nat.beq pc 56) (some (.iconst 1)) none)) (cond (Nat.blt pc 58) (cond (Nat.beq pc 57) (some (.iadd)) none) (cond (Nat.blt pc 61) (cond (Nat.beq pc 58) (some (.putfield 24)) none) (cond (Nat.beq pc 61) (some (.return_)) none)))))))
theorem tb_i56 : tb_okI 5 prog_4_method_2_code tb_f56 := tb_okI_of 62 tb_cut_out (by decide +kernel)
theorem tb_p56 : tb_okP tb_cl tb_WA "VaultDevices$Mail" false tb_FL 3 tb_f56 := tb_okP_of 62 tb_cut_out (by decide +kernel)
/-- VaultDevices$Device.<init>()V -/
def tb_f57 : Nat → Option Instr := tb_cut 33 (fun pc => cond (Nat.blt pc 17) (cond (Nat.blt pc 8) (cond (Nat.blt pc 4) (cond (Nat.blt pc 1) (cond (Nat.beq pc 0) (some (.aload_n 0)) none) (cond (Nat.beq pc 1) (some (.invokespecial 3)) none)) (cond (Nat.blt pc 5) (cond (Nat.beq pc 4) (some (.aload_n 0)) none) (cond (Nat.beq pc 5) (some (.new 9)) none))) (cond (Nat.blt pc 12) (cond (Nat.blt pc 9) (cond (Nat.beq pc 8) (some (.dup)) none) (cond (Nat.beq pc 9) (some (.invokespecial 11)) none)) (cond (Nat.blt pc 15) (cond (Nat.beq pc 12) (some (.putfield 12)) none) (cond (Nat.blt pc 16) (cond (Nat.beq pc 15) (some (.aload_n 0)) none) (cond (Nat.beq pc 16) (some (.iconst 3)) none))))) (cond (Nat.blt pc 24) (cond (Nat.blt pc 22) (cond (Nat.blt pc 19) (cond (Nat.beq pc 17) (some (.newarray .int)) none) (cond (Nat.beq pc 19) (some (.putfield 18)) none)) (cond (Nat.blt pc 23) (cond (Nat.beq pc 22) (some (.aload_n 0)) none) (cond (Nat.beq pc 23) (some (.iconst (-1))) none))) (cond (Nat.blt pc 28) (cond (Nat.blt pc 27) (cond (Nat.beq pc 24) (some (.putfield 22)) none) (cond (Nat.beq pc 27) (some (.aload_n 0)) none)) (cond (Nat.blt pc 29) (cond (Nat.beq pc 28) (some (.iconst 1)) none) (cond (Nat.blt pc 32) (cond (Nat.beq pc 29) (some (.putfield 26)) none) (cond (Nat.beq pc 32) (some (.return_)) none))))))
theorem tb_i57 : tb_okI 1 prog_2_method_1_code tb_f57 := tb_okI_of 33 tb_cut_out (by decide +kernel)
theorem tb_p57 : tb_okP tb_cl tb_WA "VaultDevices$Device" true tb_FL 4 tb_f57 := tb_okP_of 33 tb_cut_out (by decide +kernel)
/-- VaultDevices$State.<init>()V -/
def tb_f58 : Nat → Option Instr := tb_cut 28 (fun pc => cond (Nat.blt pc 12) (cond (Nat.blt pc 5) (cond (Nat.blt pc 1) (cond (Nat.beq pc 0) (some (.aload_n 0)) none) (cond (Nat.blt pc 4) (cond (Nat.beq pc 1) (some (.invokespecial 3)) none) (cond (Nat.beq pc 4) (some (.aload_n 0)) none))) (cond (Nat.blt pc 8) (cond (Nat.blt pc 6) (cond (Nat.beq pc 5) (some (.iconst 3)) none) (cond (Nat.beq pc 6) (some (.newarray .int)) none)) (cond (Nat.blt pc 11) (cond (Nat.beq pc 8) (some (.putfield 9)) none) (cond (Nat.beq pc 11) (some (.aload_n 0)) none)))) (cond (Nat.blt pc 20) (cond (Nat.blt pc 16) (cond (Nat.blt pc 14) (cond (Nat.beq pc 12) (some (.bipush 12)) none) (cond (Nat.beq pc 14) (some (.newarray .int)) none)) (cond (Nat.blt pc 19) (cond (Nat.beq pc 16) (some (.putfield 15)) none) (cond (Nat.beq pc 19) (some (.aload_n 0)) none))) (cond (Nat.blt pc 24) (cond (Nat.blt pc 22) (cond (Nat.beq pc 20) (some (.bipush 24)) none) (cond (Nat.beq pc 22) (some (.newarray .int)) none)) (cond (Nat.blt pc 27) (cond (Nat.beq pc 24) (some (.putfield 18)) none) (cond (Nat.beq pc 27) (some (.return_)) none)))))
theorem tb_i58 : tb_okI 1 prog_6_method_1_code tb_f58 := tb_okI_of 28 tb_cut_out (by decide +kernel)
theorem tb_p58 : tb_okP tb_cl tb_WA "VaultDevices$State" true tb_FL 5 tb_f58 := tb_okP_of 28 tb_cut_out (by decide +kernel)
/-- VaultDevices$State.takeHeader(III)V -/
def tb_f59 : Nat → Option Instr := tb_cut 16 (fun pc => cond (Nat.blt pc 7) (cond (Nat.blt pc 2) (cond (Nat.blt pc 1) (cond (Nat.beq pc 0) (some (.aload_n 0)) none) (cond (Nat.beq pc 1) (some (.iload_n 1)) none)) (cond (Nat.blt pc 5) (cond (Nat.beq pc 2) (some (.putfield 21)) none) (cond (Nat.blt pc 6) (cond (Nat.beq pc 5) (some (.aload_n 0)) none) (cond (Nat.beq pc 6) (some (.iload_n 2)) none)))) (cond (Nat.blt pc 11) (cond (Nat.blt pc 10) (cond (Nat.beq pc 7) (some (.putfield 25)) none) (cond (Nat.beq pc 10) (some (.aload_n 0)) none)) (cond (Nat.blt pc 12) (cond (Nat.beq pc 11) (some (.iload_n 3)) none) (cond (Nat.blt pc 15) (cond (Nat.beq pc 12) (some (.putfield 28)) none) (cond (Nat.beq pc 15) (some (.return_)) none)))))
theorem tb_i59 : tb_okI 4 prog_6_method_2_code tb_f59 := tb_okI_of 16 tb_cut_out (by decide +kernel)
theorem tb_p59 : tb_okP tb_cl tb_WA "VaultDevices$State" false tb_FL 5 tb_f59 := tb_okP_of 16 tb_cut_out (by decide +kernel)
/-- VaultDevices$State.mayFollow(I)Z -/
def tb_f60 : Nat → Option Instr := tb_cut 73 (fun pc => cond (Nat.blt pc 37) (cond (Nat.blt pc 20) (cond (Nat.blt pc 9) (cond (Nat.blt pc 4) (cond (Nat.blt pc 1) (cond (Nat.beq pc 0) (some (.iload_n 1)) none) (cond (Nat.beq pc 1) (some (.invokestatic 54)) none)) (cond (Nat.blt pc 5) (cond (Nat.beq pc 4) (some (.iconst 1)) none) (cond (Nat.blt pc 8) (cond (Nat.beq pc 5) (some (.if_icmp .lt 20)) none) (cond (Nat.beq pc 8) (some (.aload_n 0)) none)))) (cond (Nat.blt pc 13) (cond (Nat.blt pc 10) (cond (Nat.beq pc 9) (some (.iload_n 1)) none) (cond (Nat.beq pc 10) (some (.invokevirtual 61)) none)) (cond (Nat.blt pc 16) (cond (Nat.beq pc 13) (some (.ifCond .eq 12)) none) (cond (Nat.blt pc 17) (cond (Nat.beq pc 16) (some (.aload_n 0)) none) (cond (Nat.beq pc 17) (some (.getfield 31)) none))))) (cond (Nat.blt pc 28) (cond (Nat.blt pc 25) (cond (Nat.blt pc 22) (cond (Nat.beq pc 20) (some (.bipush 12)) none) (cond (Nat.beq pc 22) (some (.if_icmp .lt 5)) none)) (cond (Nat.blt pc 26) (cond (Nat.beq pc 25) (some (.iconst 0)) none) (cond (Nat.blt pc 27) (cond (Nat.beq pc 26) (some (.ireturn)) none) (cond (Nat.beq pc 27) (some (.iconst 0)) none)))) (cond (Nat.blt pc 30) (cond (Nat.blt pc 29) (cond (Nat.beq pc 28) (some (.istore_n 2)) none) (cond (Nat.beq pc 29) (some (.iload_n 2)) none)) (cond (Nat.blt pc 31) (cond (Nat.beq pc 30) (some (.aload_n 0)) none) (cond (Nat.blt pc 34) (cond (Nat.beq pc 31) (some (.getfield 31)) none) (cond (Nat.beq pc 34) (some (.if_icmp .ge 37)) none)))))) (cond (Nat.blt pc 53) (cond (Nat.blt pc 44) (cond (Nat.blt pc 41) (cond (Nat.blt pc 38) (cond (Nat.beq pc 37) (some (.aload_n 0)) none) (cond (Nat.beq pc 38) (some (.getfield 15)) none)) (cond (Nat.blt pc 42) (cond (Nat.beq pc 41) (some (.iload_n 2)) none) (cond (Nat.blt pc 43) (cond (Nat.beq pc 42) (some (.iaload)) none) (cond (Nat.beq pc 43) (some (.iload_n 1)) none)))) (cond (Nat.blt pc 48) (cond (Nat.blt pc 47) (cond (Nat.beq pc 44) (some (.if_icmp .gt 19)) none) (cond (Nat.beq pc 47) (some (.aload_n 0)) none)) (cond (Nat.blt pc 51) (cond (Nat.beq pc 48) (some (.getfield 15)) none) (cond (Nat.blt pc 52) (cond (Nat.beq pc 51) (some (.iload_n 2)) none) (cond (Nat.beq pc 52) (some (.iaload)) none))))) (cond (Nat.blt pc 64) (cond (Nat.blt pc 57) (cond (Nat.blt pc 56) (cond (Nat.beq pc 53) (some (.invokestatic 87)) none) (cond (Nat.beq pc 56) (some (.iload_n 1)) none)) (cond (Nat.blt pc 60) (cond (Nat.beq pc 57) (some (.invokestatic 87)) none) (cond (Nat.blt pc 63) (cond (Nat.beq pc 60) (some (.if_icmp .ne 5)) none) (cond (Nat.beq pc 63) (some (.iconst 0)) none)))) (cond (Nat.blt pc 68) (cond (Nat.blt pc 65) (cond (Nat.beq pc 64) (some (.ireturn)) none) (cond (Nat.beq pc 65) (some (.iinc 2 1)) none)) (cond (Nat.blt pc 71) (cond (Nat.beq pc 68) (some (.goto (-39))) none) (cond (Nat.blt pc 72) (cond (Nat.beq pc 71) (some (.iconst 1)) none) (cond (Nat.beq pc 72) (some (.ireturn)) none)))))))
theorem tb_i60 : tb_okI 3 prog_6_method_13_code tb_f60 := tb_okI_of 73 tb_cut_out (by decide +kernel)
theorem tb_p60 : tb_okP tb_cl tb_WA "VaultDevices$State" false tb_FL 5 tb_f60 := tb_okP_of 73 tb_cut_out (by decide +kernel)
/-- VaultDevices$State.knowsDotOf(I)Z -/
def tb_f61 : Nat → Option Instr := tb_cut 32 (fun pc => cond (Nat.blt pc 17) (cond (Nat.blt pc 6) (cond (Nat.blt pc 4) (cond (Nat.blt pc 1) (cond (Nat.beq pc 0) (some (.iload_n 1)) none) (cond (Nat.beq pc 1) (some (.invokestatic 47)) none)) (cond (Nat.blt pc 5) (cond (Nat.beq pc 4) (some (.istore_n 2)) none) (cond (Nat.beq pc 5) (some (.iload_n 2)) none))) (cond (Nat.blt pc 10) (cond (Nat.blt pc 7) (cond (Nat.beq pc 6) (some (.iconst 3)) none) (cond (Nat.beq pc 7) (some (.invokestatic 50)) none)) (cond (Nat.blt pc 13) (cond (Nat.beq pc 10) (some (.ifCond .eq 20)) none) (cond (Nat.blt pc 14) (cond (Nat.beq pc 13) (some (.aload_n 0)) none) (cond (Nat.beq pc 14) (some (.getfield 9)) none))))) (cond (Nat.blt pc 23) (cond (Nat.blt pc 19) (cond (Nat.blt pc 18) (cond (Nat.beq pc 17) (some (.iload_n 2)) none) (cond (Nat.beq pc 18) (some (.iaload)) none)) (cond (Nat.blt pc 20) (cond (Nat.beq pc 19) (some (.iload_n 1)) none) (cond (Nat.beq pc 20) (some (.invokestatic 54)) none))) (cond (Nat.blt pc 27) (cond (Nat.blt pc 26) (cond (Nat.beq pc 23) (some (.if_icmp .lt 7)) none) (cond (Nat.beq pc 26) (some (.iconst 1)) none)) (cond (Nat.blt pc 30) (cond (Nat.beq pc 27) (some (.goto 4)) none) (cond (Nat.blt pc 31) (cond (Nat.beq pc 30) (some (.iconst 0)) none) (cond (Nat.beq pc 31) (some (.ireturn)) none))))))
theorem tb_i61 : tb_okI 3 prog_6_method_8_code tb_f61 := tb_okI_of 32 tb_cut_out (by decide +kernel)
theorem tb_p61 : tb_okP tb_cl tb_WA "VaultDevices$State" false tb_FL 5 tb_f61 := tb_okP_of 32 tb_cut_out (by decide +kernel)
/-- VaultDevices$State.insert(I)V -/
def tb_f62 : Nat → Option Instr := tb_cut 32 (fun pc => cond (Nat.blt pc 17) (cond (Nat.blt pc 9) (cond (Nat.blt pc 4) (cond (Nat.blt pc 1) (cond (Nat.beq pc 0) (some (.aload_n 0)) none) (cond (Nat.beq pc 1) (some (.getfield 31)) none)) (cond (Nat.blt pc 6) (cond (Nat.beq pc 4) (some (.bipush 12)) none) (cond (Nat.beq pc 6) (some (.if_icmp .ge 25)) none))) (cond (Nat.blt pc 13) (cond (Nat.blt pc 10) (cond (Nat.beq pc 9) (some (.aload_n 0)) none) (cond (Nat.beq pc 10) (some (.getfield 15)) none)) (cond (Nat.blt pc 14) (cond (Nat.beq pc 13) (some (.aload_n 0)) none) (cond (Nat.beq pc 14) (some (.getfield 31)) none)))) (cond (Nat.blt pc 23) (cond (Nat.blt pc 21) (cond (Nat.blt pc 18) (cond (Nat.beq pc 17) (some (.iload_n 1)) none) (cond (Nat.beq pc 18) (some (.invokestatic 43)) none)) (cond (Nat.blt pc 22) (cond (Nat.beq pc 21) (some (.aload_n 0)) none) (cond (Nat.beq pc 22) (some (.dup)) none))) (cond (Nat.blt pc 27) (cond (Nat.blt pc 26) (cond (Nat.beq pc 23) (some (.getfield 31)) none) (cond (Nat.beq pc 26) (some (.iconst 1)) none)) (cond (Nat.blt pc 28) (cond (Nat.beq pc 27) (some (.iadd)) none) (cond (Nat.blt pc 31) (cond (Nat.beq pc 28) (some (.putfield 31)) none) (cond (Nat.beq pc 31) (some (.return_)) none))))))
theorem tb_i62 : tb_okI 2 prog_6_method_6_code tb_f62 := tb_okI_of 32 tb_cut_out (by decide +kernel)
theorem tb_p62 : tb_okP tb_cl tb_WA "VaultDevices$State" false tb_FL 5 tb_f62 := tb_okP_of 32 tb_cut_out (by decide +kernel)
/-- VaultDevices$State.insertInOrder([III)V -/
def tb_f63 : Nat → Option Instr := tb_cut 34 (fun pc => cond (Nat.blt pc 17) (cond (Nat.blt pc 8) (cond (Nat.blt pc 3) (cond (Nat.blt pc 1) (cond (Nat.beq pc 0) (some (.iload_n 1)) none) (cond (Nat.blt pc 2) (cond (Nat.beq pc 1) (some (.istore_n 3)) none) (cond (Nat.beq pc 2) (some (.iload_n 3)) none))) (cond (Nat.blt pc 6) (cond (Nat.beq pc 3) (some (.ifCond .le 26)) none) (cond (Nat.blt pc 7) (cond (Nat.beq pc 6) (some (.aload_n 0)) none) (cond (Nat.beq pc 7) (some (.iload_n 3)) none)))) (cond (Nat.blt pc 11) (cond (Nat.blt pc 9) (cond (Nat.beq pc 8) (some (.iconst 1)) none) (cond (Nat.blt pc 10) (cond (Nat.beq pc 9) (some (.isub)) none) (cond (Nat.beq pc 10) (some (.iaload)) none))) (cond (Nat.blt pc 15) (cond (Nat.blt pc 12) (cond (Nat.beq pc 11) (some (.iload_n 2)) none) (cond (Nat.beq pc 12) (some (.if_icmp .le 17)) none)) (cond (Nat.blt pc 16) (cond (Nat.beq pc 15) (some (.aload_n 0)) none) (cond (Nat.beq pc 16) (some (.iload_n 3)) none))))) (cond (Nat.blt pc 23) (cond (Nat.blt pc 20) (cond (Nat.blt pc 18) (cond (Nat.beq pc 17) (some (.aload_n 0)) none) (cond (Nat.blt pc 19) (cond (Nat.beq pc 18) (some (.iload_n 3)) none) (cond (Nat.beq pc 19) (some (.iconst 1)) none))) (cond (Nat.blt pc 21) (cond (Nat.beq pc 20) (some (.isub)) none) (cond (Nat.blt pc 22) (cond (Nat.beq pc 21) (some (.iaload)) none) (cond (Nat.beq pc 22) (some (.iastore)) none)))) (cond (Nat.blt pc 30) (cond (Nat.blt pc 26) (cond (Nat.beq pc 23) (some (.iinc 3 (-1))) none) (cond (Nat.blt pc 29) (cond (Nat.beq pc 26) (some (.goto (-24))) none) (cond (Nat.beq pc 29) (some (.aload_n 0)) none))) (cond (Nat.blt pc 32) (cond (Nat.blt pc 31) (cond (Nat.beq pc 30) (some (.iload_n 3)) none) (cond (Nat.beq pc 31) (some (.iload_n 2)) none)) (cond (Nat.blt pc 33) (cond (Nat.beq pc 32) (some (.iastore)) none) (cond (Nat.beq pc 33) (some (.return_)) none))))))
theorem tb_i63 : tb_okI 4 prog_6_method_14_code tb_f63 := tb_okI_of 34 tb_cut_out (by decide +kernel)
theorem tb_p63 : tb_okP tb_cl tb_WA "VaultDevices$State" false tb_FL 5 tb_f63 := tb_okP_of 34 tb_cut_out (by decide +kernel)
/-- VaultDevices$State.isAbove([I)Z -/
def tb_f64 : Nat → Option Instr := tb_cut 29 (fun pc => cond (Nat.blt pc 13) (cond (Nat.blt pc 4) (cond (Nat.blt pc 2) (cond (Nat.blt pc 1) (cond (Nat.beq pc 0) (some (.iconst 0)) none) (cond (Nat.beq pc 1) (some (.istore_n 2)) none)) (cond (Nat.blt pc 3) (cond (Nat.beq pc 2) (some (.iload_n 2)) none) (cond (Nat.beq pc 3) (some (.iconst 3)) none))) (cond (Nat.blt pc 8) (cond (Nat.blt pc 7) (cond (Nat.beq pc 4) (some (.if_icmp .ge 23)) none) (cond (Nat.beq pc 7) (some (.aload_n 0)) none)) (cond (Nat.blt pc 11) (cond (Nat.beq pc 8) (some (.getfield 9)) none) (cond (Nat.blt pc 12) (cond (Nat.beq pc 11) (some (.iload_n 2)) none) (cond (Nat.beq pc 12) (some (.iaload)) none))))) (cond (Nat.blt pc 20) (cond (Nat.blt pc 15) (cond (Nat.blt pc 14) (cond (Nat.beq pc 13) (some (.aload_n 1)) none) (cond (Nat.beq pc 14) (some (.iload_n 2)) none)) (cond (Nat.blt pc 16) (cond (Nat.beq pc 15) (some (.iaload)) none) (cond (Nat.blt pc 19) (cond (Nat.beq pc 16) (some (.if_icmp .ge 5)) none) (cond (Nat.beq pc 19) (some (.iconst 0)) none)))) (cond (Nat.blt pc 24) (cond (Nat.blt pc 21) (cond (Nat.beq pc 20) (some (.ireturn)) none) (cond (Nat.beq pc 21) (some (.iinc 2 1)) none)) (cond (Nat.blt pc 27) (cond (Nat.beq pc 24) (some (.goto (-22))) none) (cond (Nat.blt pc 28) (cond (Nat.beq pc 27) (some (.iconst 1)) none) (cond (Nat.beq pc 28) (some (.ireturn)) none))))))
theorem tb_i64 : tb_okI 3 prog_6_method_7_code tb_f64 := tb_okI_of 29 tb_cut_out (by decide +kernel)
theorem tb_p64 : tb_okP tb_cl tb_WA "VaultDevices$State" false tb_FL 5 tb_f64 := tb_okP_of 29 tb_cut_out (by decide +kernel)
/-- VaultDevices$State.merge(LVaultDevices$State;)Z -/
def tb_f65 : Nat → Option Instr := tb_cut 146 (fun pc => cond (Nat.blt pc 72) (cond (Nat.blt pc 32) (cond (Nat.blt pc 14) (cond (Nat.blt pc 5) (cond (Nat.blt pc 2) (cond (Nat.blt pc 1) (cond (Nat.beq pc 0) (some (.iconst 0)) none) (cond (Nat.beq pc 1) (some (.istore_n 2)) none)) (cond (Nat.blt pc 3) (cond (Nat.beq pc 2) (some (.iconst 0)) none) (cond (Nat.blt pc 4) (cond (Nat.beq pc 3) (some (.istore_n 3)) none) (cond (Nat.beq pc 4) (some (.iload_n 3)) none)))) (cond (Nat.blt pc 9) (cond (Nat.blt pc 6) (cond (Nat.beq pc 5) (some (.aload_n 0)) none) (cond (Nat.beq pc 6) (some (.getfield 31)) none)) (cond (Nat.blt pc 12) (cond (Nat.beq pc 9) (some (.if_icmp .ge 52)) none) (cond (Nat.blt pc 13) (cond (Nat.beq pc 12) (some (.aload_n 1)) none) (cond (Nat.beq pc 13) (some (.aload_n 0)) none))))) (cond (Nat.blt pc 25) (cond (Nat.blt pc 18) (cond (Nat.blt pc 17) (cond (Nat.beq pc 14) (some (.getfield 15)) none) (cond (Nat.beq pc 17) (some (.iload_n 3)) none)) (cond (Nat.blt pc 19) (cond (Nat.beq pc 18) (some (.iaload)) none) (cond (Nat.blt pc 22) (cond (Nat.beq pc 19) (some (.invokevirtual 57)) none) (cond (Nat.beq pc 22) (some (.ifCond .ne 16)) none)))) (cond (Nat.blt pc 27) (cond (Nat.blt pc 26) (cond (Nat.beq pc 25) (some (.aload_n 1)) none) (cond (Nat.beq pc 26) (some (.aload_n 0)) none)) (cond (Nat.blt pc 30) (cond (Nat.beq pc 27) (some (.getfield 15)) none) (cond (Nat.blt pc 31) (cond (Nat.beq pc 30) (some (.iload_n 3)) none) (cond (Nat.beq pc 31) (some (.iaload)) none)))))) (cond (Nat.blt pc 52) (cond (Nat.blt pc 43) (cond (Nat.blt pc 38) (cond (Nat.blt pc 35) (cond (Nat.beq pc 32) (some (.invokevirtual 61)) none) (cond (Nat.beq pc 35) (some (.ifCond .ne 20)) none)) (cond (Nat.blt pc 39) (cond (Nat.beq pc 38) (some (.aload_n 0)) none) (cond (Nat.blt pc 42) (cond (Nat.beq pc 39) (some (.getfield 18)) none) (cond (Nat.beq pc 42) (some (.iload_n 2)) none)))) (cond (Nat.blt pc 47) (cond (Nat.blt pc 44) (cond (Nat.beq pc 43) (some (.aload_n 0)) none) (cond (Nat.beq pc 44) (some (.getfield 15)) none)) (cond (Nat.blt pc 48) (cond (Nat.beq pc 47) (some (.iload_n 3)) none) (cond (Nat.blt pc 49) (cond (Nat.beq pc 48) (some (.iaload)) none) (cond (Nat.beq pc 49) (some (.invokestatic 43)) none))))) (cond (Nat.blt pc 63) (cond (Nat.blt pc 58) (cond (Nat.blt pc 55) (cond (Nat.beq pc 52) (some (.iinc 2 1)) none) (cond (Nat.beq pc 55) (some (.iinc 3 1)) none)) (cond (Nat.blt pc 61) (cond (Nat.beq pc 58) (some (.goto (-54))) none) (cond (Nat.blt pc 62) (cond (Nat.beq pc 61) (some (.iconst 0)) none) (cond (Nat.beq pc 62) (some (.istore_n 3)) none)))) (cond (Nat.blt pc 65) (cond (Nat.blt pc 64) (cond (Nat.beq pc 63) (some (.iload_n 3)) none) (cond (Nat.beq pc 64) (some (.aload_n 1)) none)) (cond (Nat.blt pc 68) (cond (Nat.beq pc 65) (some (.getfield 31)) none) (cond (Nat.blt pc 71) (cond (Nat.beq pc 68) (some (.if_icmp .ge 39)) none) (cond (Nat.beq pc 71) (some (.aload_n 0)) none))))))) (cond (Nat.blt pc 113) (cond (Nat.blt pc 90) (cond (Nat.blt pc 81) (cond (Nat.blt pc 76) (cond (Nat.blt pc 73) (cond (Nat.beq pc 72) (some (.aload_n 1)) none) (cond (Nat.beq pc 73) (some (.getfield 15)) none)) (cond (Nat.blt pc 77) (cond (Nat.beq pc 76) (some (.iload_n 3)) none) (cond (Nat.blt pc 78) (cond (Nat.beq pc 77) (some (.iaload)) none) (cond (Nat.beq pc 78) (some (.invokevirtual 61)) none)))) (cond (Nat.blt pc 85) (cond (Nat.blt pc 84) (cond (Nat.beq pc 81) (some (.ifCond .ne 20)) none) (cond (Nat.beq pc 84) (some (.aload_n 0)) none)) (cond (Nat.blt pc 88) (cond (Nat.beq pc 85) (some (.getfield 18)) none) (cond (Nat.blt pc 89) (cond (Nat.beq pc 88) (some (.iload_n 2)) none) (cond (Nat.beq pc 89) (some (.aload_n 1)) none))))) (cond (Nat.blt pc 101) (cond (Nat.blt pc 94) (cond (Nat.blt pc 93) (cond (Nat.beq pc 90) (some (.getfield 15)) none) (cond (Nat.beq pc 93) (some (.iload_n 3)) none)) (cond (Nat.blt pc 95) (cond (Nat.beq pc 94) (some (.iaload)) none) (cond (Nat.blt pc 98) (cond (Nat.beq pc 95) (some (.invokestatic 43)) none) (cond (Nat.beq pc 98) (some (.iinc 2 1)) none)))) (cond (Nat.blt pc 107) (cond (Nat.blt pc 104) (cond (Nat.beq pc 101) (some (.iinc 3 1)) none) (cond (Nat.beq pc 104) (some (.goto (-41))) none)) (cond (Nat.blt pc 108) (cond (Nat.beq pc 107) (some (.iload_n 2)) none) (cond (Nat.blt pc 110) (cond (Nat.beq pc 108) (some (.bipush 12)) none) (cond (Nat.beq pc 110) (some (.if_icmp .le 5)) none)))))) (cond (Nat.blt pc 129) (cond (Nat.blt pc 120) (cond (Nat.blt pc 115) (cond (Nat.blt pc 114) (cond (Nat.beq pc 113) (some (.iconst 0)) none) (cond (Nat.beq pc 114) (some (.ireturn)) none)) (cond (Nat.blt pc 116) (cond (Nat.beq pc 115) (some (.aload_n 0)) none) (cond (Nat.blt pc 119) (cond (Nat.beq pc 116) (some (.getfield 18)) none) (cond (Nat.beq pc 119) (some (.iconst 0)) none)))) (cond (Nat.blt pc 124) (cond (Nat.blt pc 121) (cond (Nat.beq pc 120) (some (.aload_n 0)) none) (cond (Nat.beq pc 121) (some (.getfield 15)) none)) (cond (Nat.blt pc 125) (cond (Nat.beq pc 124) (some (.iconst 0)) none) (cond (Nat.blt pc 126) (cond (Nat.beq pc 125) (some (.iload_n 2)) none) (cond (Nat.beq pc 126) (some (.invokestatic 64)) none))))) (cond (Nat.blt pc 136) (cond (Nat.blt pc 131) (cond (Nat.blt pc 130) (cond (Nat.beq pc 129) (some (.aload_n 0)) none) (cond (Nat.beq pc 130) (some (.iload_n 2)) none)) (cond (Nat.blt pc 134) (cond (Nat.beq pc 131) (some (.putfield 31)) none) (cond (Nat.blt pc 135) (cond (Nat.beq pc 134) (some (.aload_n 0)) none) (cond (Nat.beq pc 135) (some (.aload_n 1)) none)))) (cond (Nat.blt pc 141) (cond (Nat.blt pc 139) (cond (Nat.beq pc 136) (some (.invokevirtual 70)) none) (cond (Nat.blt pc 140) (cond (Nat.beq pc 139) (some (.aload_n 0)) none) (cond (Nat.beq pc 140) (some (.aload_n 1)) none))) (cond (Nat.blt pc 144) (cond (Nat.beq pc 141) (some (.invokevirtual 74)) none) (cond (Nat.blt pc 145) (cond (Nat.beq pc 144) (some (.iconst 1)) none) (cond (Nat.beq pc 145) (some (.ireturn)) none))))))))
theorem tb_i65 : tb_okI 4 prog_6_method_10_code tb_f65 := tb_okI_of 146 tb_cut_out (by decide +kernel)
theorem tb_p65 : tb_okP tb_cl tb_WA "VaultDevices$State" false tb_FL 5 tb_f65 := tb_okP_of 146 tb_cut_out (by decide +kernel)
/-- VaultDevices$State.has(I)Z -/
def tb_f66 : Nat → Option Instr := tb_cut 30 (fun pc => cond (Nat.blt pc 15) (cond (Nat.blt pc 4) (cond (Nat.blt pc 2) (cond (Nat.blt pc 1) (cond (Nat.beq pc 0) (some (.iconst 0)) none) (cond (Nat.beq pc 1) (some (.istore_n 2)) none)) (cond (Nat.blt pc 3) (cond (Nat.beq pc 2) (some (.iload_n 2)) none) (cond (Nat.beq pc 3) (some (.aload_n 0)) none))) (cond (Nat.blt pc 10) (cond (Nat.blt pc 7) (cond (Nat.beq pc 4) (some (.getfield 31)) none) (cond (Nat.beq pc 7) (some (.if_icmp .ge 21)) none)) (cond (Nat.blt pc 11) (cond (Nat.beq pc 10) (some (.aload_n 0)) none) (cond (Nat.blt pc 14) (cond (Nat.beq pc 11) (some (.getfield 15)) none) (cond (Nat.beq pc 14) (some (.iload_n 2)) none))))) (cond (Nat.blt pc 21) (cond (Nat.blt pc 17) (cond (Nat.blt pc 16) (cond (Nat.beq pc 15) (some (.iaload)) none) (cond (Nat.beq pc 16) (some (.iload_n 1)) none)) (cond (Nat.blt pc 20) (cond (Nat.beq pc 17) (some (.if_icmp .ne 5)) none) (cond (Nat.beq pc 20) (some (.iconst 1)) none))) (cond (Nat.blt pc 25) (cond (Nat.blt pc 22) (cond (Nat.beq pc 21) (some (.ireturn)) none) (cond (Nat.beq pc 22) (some (.iinc 2 1)) none)) (cond (Nat.blt pc 28) (cond (Nat.beq pc 25) (some (.goto (-23))) none) (cond (Nat.blt pc 29) (cond (Nat.beq pc 28) (some (.iconst 0)) none) (cond (Nat.beq pc 29) (some (.ireturn)) none))))))
theorem tb_i66 : tb_okI 3 prog_6_method_9_code tb_f66 := tb_okI_of 30 tb_cut_out (by decide +kernel)
theorem tb_p66 : tb_okP tb_cl tb_WA "VaultDevices$State" false tb_FL 5 tb_f66 := tb_okP_of 30 tb_cut_out (by decide +kernel)
/-- VaultDevices$State.mergeVector(LVaultDevices$State;)V -/
def tb_f67 : Nat → Option Instr := tb_cut 35 (fun pc => cond (Nat.blt pc 16) (cond (Nat.blt pc 7) (cond (Nat.blt pc 2) (cond (Nat.blt pc 1) (cond (Nat.beq pc 0) (some (.iconst 0)) none) (cond (Nat.beq pc 1) (some (.istore_n 2)) none)) (cond (Nat.blt pc 3) (cond (Nat.beq pc 2) (some (.iload_n 2)) none) (cond (Nat.blt pc 4) (cond (Nat.beq pc 3) (some (.iconst 3)) none) (cond (Nat.beq pc 4) (some (.if_icmp .ge 30)) none)))) (cond (Nat.blt pc 11) (cond (Nat.blt pc 8) (cond (Nat.beq pc 7) (some (.aload_n 0)) none) (cond (Nat.beq pc 8) (some (.getfield 9)) none)) (cond (Nat.blt pc 12) (cond (Nat.beq pc 11) (some (.iload_n 2)) none) (cond (Nat.blt pc 13) (cond (Nat.beq pc 12) (some (.aload_n 0)) none) (cond (Nat.beq pc 13) (some (.getfield 9)) none))))) (cond (Nat.blt pc 23) (cond (Nat.blt pc 18) (cond (Nat.blt pc 17) (cond (Nat.beq pc 16) (some (.iload_n 2)) none) (cond (Nat.beq pc 17) (some (.iaload)) none)) (cond (Nat.blt pc 19) (cond (Nat.beq pc 18) (some (.aload_n 1)) none) (cond (Nat.blt pc 22) (cond (Nat.beq pc 19) (some (.getfield 9)) none) (cond (Nat.beq pc 22) (some (.iload_n 2)) none)))) (cond (Nat.blt pc 28) (cond (Nat.blt pc 24) (cond (Nat.beq pc 23) (some (.iaload)) none) (cond (Nat.blt pc 27) (cond (Nat.beq pc 24) (some (.invokestatic 77)) none) (cond (Nat.beq pc 27) (some (.iastore)) none))) (cond (Nat.blt pc 31) (cond (Nat.beq pc 28) (some (.iinc 2 1)) none) (cond (Nat.blt pc 34) (cond (Nat.beq pc 31) (some (.goto (-29))) none) (cond (Nat.beq pc 34) (some (.return_)) none))))))
theorem tb_i67 : tb_okI 3 prog_6_method_11_code tb_f67 := tb_okI_of 35 tb_cut_out (by decide +kernel)
theorem tb_p67 : tb_okP tb_cl tb_WA "VaultDevices$State" false tb_FL 5 tb_f67 := tb_okP_of 35 tb_cut_out (by decide +kernel)
/-- VaultDevices$State.mergeHeader(LVaultDevices$State;)V -/
def tb_f68 : Nat → Option Instr := tb_cut 60 (fun pc => cond (Nat.blt pc 29) (cond (Nat.blt pc 15) (cond (Nat.blt pc 5) (cond (Nat.blt pc 1) (cond (Nat.beq pc 0) (some (.aload_n 1)) none) (cond (Nat.blt pc 4) (cond (Nat.beq pc 1) (some (.getfield 21)) none) (cond (Nat.beq pc 4) (some (.aload_n 0)) none))) (cond (Nat.blt pc 11) (cond (Nat.blt pc 8) (cond (Nat.beq pc 5) (some (.getfield 21)) none) (cond (Nat.beq pc 8) (some (.if_icmp .le 7)) none)) (cond (Nat.blt pc 12) (cond (Nat.beq pc 11) (some (.iconst 1)) none) (cond (Nat.beq pc 12) (some (.goto 4)) none)))) (cond (Nat.blt pc 21) (cond (Nat.blt pc 17) (cond (Nat.blt pc 16) (cond (Nat.beq pc 15) (some (.iconst 0)) none) (cond (Nat.beq pc 16) (some (.istore_n 2)) none)) (cond (Nat.blt pc 18) (cond (Nat.beq pc 17) (some (.iload_n 2)) none) (cond (Nat.beq pc 18) (some (.ifCond .ne 25)) none))) (cond (Nat.blt pc 25) (cond (Nat.blt pc 22) (cond (Nat.beq pc 21) (some (.aload_n 1)) none) (cond (Nat.beq pc 22) (some (.getfield 21)) none)) (cond (Nat.blt pc 26) (cond (Nat.beq pc 25) (some (.aload_n 0)) none) (cond (Nat.beq pc 26) (some (.getfield 21)) none))))) (cond (Nat.blt pc 44) (cond (Nat.blt pc 36) (cond (Nat.blt pc 32) (cond (Nat.beq pc 29) (some (.if_icmp .ne 30)) none) (cond (Nat.blt pc 33) (cond (Nat.beq pc 32) (some (.aload_n 1)) none) (cond (Nat.beq pc 33) (some (.getfield 25)) none))) (cond (Nat.blt pc 40) (cond (Nat.blt pc 37) (cond (Nat.beq pc 36) (some (.aload_n 0)) none) (cond (Nat.beq pc 37) (some (.getfield 25)) none)) (cond (Nat.blt pc 43) (cond (Nat.beq pc 40) (some (.if_icmp .ge 19)) none) (cond (Nat.beq pc 43) (some (.aload_n 0)) none)))) (cond (Nat.blt pc 52) (cond (Nat.blt pc 48) (cond (Nat.blt pc 45) (cond (Nat.beq pc 44) (some (.aload_n 1)) none) (cond (Nat.beq pc 45) (some (.getfield 21)) none)) (cond (Nat.blt pc 49) (cond (Nat.beq pc 48) (some (.aload_n 1)) none) (cond (Nat.beq pc 49) (some (.getfield 25)) none))) (cond (Nat.blt pc 56) (cond (Nat.blt pc 53) (cond (Nat.beq pc 52) (some (.aload_n 1)) none) (cond (Nat.beq pc 53) (some (.getfield 28)) none)) (cond (Nat.blt pc 59) (cond (Nat.beq pc 56) (some (.invokevirtual 83)) none) (cond (Nat.beq pc 59) (some (.return_)) none))))))
theorem tb_i68 : tb_okI 3 prog_6_method_12_code tb_f68 := tb_okI_of 60 tb_cut_out (by decide +kernel)
theorem tb_p68 : tb_okP tb_cl tb_WA "VaultDevices$State" false tb_FL 5 tb_f68 := tb_okP_of 60 tb_cut_out (by decide +kernel)
/-- VaultDevices$State.countOf(I)I -/
def tb_f69 : Nat → Option Instr := tb_cut 36 (fun pc => cond (Nat.blt pc 16) (cond (Nat.blt pc 5) (cond (Nat.blt pc 2) (cond (Nat.blt pc 1) (cond (Nat.beq pc 0) (some (.iconst 0)) none) (cond (Nat.beq pc 1) (some (.istore_n 2)) none)) (cond (Nat.blt pc 3) (cond (Nat.beq pc 2) (some (.iconst 0)) none) (cond (Nat.blt pc 4) (cond (Nat.beq pc 3) (some (.istore_n 3)) none) (cond (Nat.beq pc 4) (some (.iload_n 3)) none)))) (cond (Nat.blt pc 9) (cond (Nat.blt pc 6) (cond (Nat.beq pc 5) (some (.aload_n 0)) none) (cond (Nat.beq pc 6) (some (.getfield 31)) none)) (cond (Nat.blt pc 12) (cond (Nat.beq pc 9) (some (.if_icmp .ge 25)) none) (cond (Nat.blt pc 13) (cond (Nat.beq pc 12) (some (.aload_n 0)) none) (cond (Nat.beq pc 13) (some (.getfield 15)) none))))) (cond (Nat.blt pc 25) (cond (Nat.blt pc 18) (cond (Nat.blt pc 17) (cond (Nat.beq pc 16) (some (.iload_n 3)) none) (cond (Nat.beq pc 17) (some (.iaload)) none)) (cond (Nat.blt pc 21) (cond (Nat.beq pc 18) (some (.invokestatic 34)) none) (cond (Nat.blt pc 22) (cond (Nat.beq pc 21) (some (.iload_n 1)) none) (cond (Nat.beq pc 22) (some (.if_icmp .ne 6)) none)))) (cond (Nat.blt pc 31) (cond (Nat.blt pc 28) (cond (Nat.beq pc 25) (some (.iinc 2 1)) none) (cond (Nat.beq pc 28) (some (.iinc 3 1)) none)) (cond (Nat.blt pc 34) (cond (Nat.beq pc 31) (some (.goto (-27))) none) (cond (Nat.blt pc 35) (cond (Nat.beq pc 34) (some (.iload_n 2)) none) (cond (Nat.beq pc 35) (some (.ireturn)) none))))))
theorem tb_i69 : tb_okI 4 prog_6_method_3_code tb_f69 := tb_okI_of 36 tb_cut_out (by decide +kernel)
theorem tb_p69 : tb_okP tb_cl tb_WA "VaultDevices$State" false tb_FL 5 tb_f69 := tb_okP_of 36 tb_cut_out (by decide +kernel)
/-- VaultDevices$State.removeAll(I)V -/
def tb_f70 : Nat → Option Instr := tb_cut 52 (fun pc => cond (Nat.blt pc 25) (cond (Nat.blt pc 9) (cond (Nat.blt pc 3) (cond (Nat.blt pc 1) (cond (Nat.beq pc 0) (some (.iconst 0)) none) (cond (Nat.blt pc 2) (cond (Nat.beq pc 1) (some (.istore_n 2)) none) (cond (Nat.beq pc 2) (some (.iconst 0)) none))) (cond (Nat.blt pc 5) (cond (Nat.blt pc 4) (cond (Nat.beq pc 3) (some (.istore_n 3)) none) (cond (Nat.beq pc 4) (some (.iload_n 3)) none)) (cond (Nat.blt pc 6) (cond (Nat.beq pc 5) (some (.aload_n 0)) none) (cond (Nat.beq pc 6) (some (.getfield 31)) none)))) (cond (Nat.blt pc 17) (cond (Nat.blt pc 13) (cond (Nat.blt pc 12) (cond (Nat.beq pc 9) (some (.if_icmp .ge 37)) none) (cond (Nat.beq pc 12) (some (.aload_n 0)) none)) (cond (Nat.blt pc 16) (cond (Nat.beq pc 13) (some (.getfield 15)) none) (cond (Nat.beq pc 16) (some (.iload_n 3)) none))) (cond (Nat.blt pc 21) (cond (Nat.blt pc 18) (cond (Nat.beq pc 17) (some (.iaload)) none) (cond (Nat.beq pc 18) (some (.invokestatic 34)) none)) (cond (Nat.blt pc 22) (cond (Nat.beq pc 21) (some (.iload_n 1)) none) (cond (Nat.beq pc 22) (some (.if_icmp .eq 18)) none))))) (cond (Nat.blt pc 36) (cond (Nat.blt pc 30) (cond (Nat.blt pc 26) (cond (Nat.beq pc 25) (some (.aload_n 0)) none) (cond (Nat.blt pc 29) (cond (Nat.beq pc 26) (some (.getfield 15)) none) (cond (Nat.beq pc 29) (some (.iload_n 2)) none))) (cond (Nat.blt pc 34) (cond (Nat.blt pc 31) (cond (Nat.beq pc 30) (some (.aload_n 0)) none) (cond (Nat.beq pc 31) (some (.getfield 15)) none)) (cond (Nat.blt pc 35) (cond (Nat.beq pc 34) (some (.iload_n 3)) none) (cond (Nat.beq pc 35) (some (.iaload)) none)))) (cond (Nat.blt pc 46) (cond (Nat.blt pc 40) (cond (Nat.blt pc 37) (cond (Nat.beq pc 36) (some (.iastore)) none) (cond (Nat.beq pc 37) (some (.iinc 2 1)) none)) (cond (Nat.blt pc 43) (cond (Nat.beq pc 40) (some (.iinc 3 1)) none) (cond (Nat.beq pc 43) (some (.goto (-39))) none))) (cond (Nat.blt pc 48) (cond (Nat.blt pc 47) (cond (Nat.beq pc 46) (some (.aload_n 0)) none) (cond (Nat.beq pc 47) (some (.iload_n 2)) none)) (cond (Nat.blt pc 51) (cond (Nat.beq pc 48) (some (.putfield 31)) none) (cond (Nat.beq pc 51) (some (.return_)) none))))))
theorem tb_i70 : tb_okI 4 prog_6_method_5_code tb_f70 := tb_okI_of 52 tb_cut_out (by decide +kernel)
theorem tb_p70 : tb_okP tb_cl tb_WA "VaultDevices$State" false tb_FL 5 tb_f70 := tb_okP_of 52 tb_cut_out (by decide +kernel)
/-- VaultDevices$State.contentAt(II)I -/
def tb_f71 : Nat → Option Instr := tb_cut 55 (fun pc => cond (Nat.blt pc 25) (cond (Nat.blt pc 11) (cond (Nat.blt pc 3) (cond (Nat.blt pc 1) (cond (Nat.beq pc 0) (some (.iconst 0)) none) (cond (Nat.blt pc 2) (cond (Nat.beq pc 1) (some (.istore_n 3)) none) (cond (Nat.beq pc 2) (some (.iconst 0)) none))) (cond (Nat.blt pc 7) (cond (Nat.blt pc 5) (cond (Nat.beq pc 3) (some (.istore 4)) none) (cond (Nat.beq pc 5) (some (.iload 4)) none)) (cond (Nat.blt pc 8) (cond (Nat.beq pc 7) (some (.aload_n 0)) none) (cond (Nat.beq pc 8) (some (.getfield 31)) none)))) (cond (Nat.blt pc 18) (cond (Nat.blt pc 14) (cond (Nat.beq pc 11) (some (.if_icmp .ge 42)) none) (cond (Nat.blt pc 15) (cond (Nat.beq pc 14) (some (.aload_n 0)) none) (cond (Nat.beq pc 15) (some (.getfield 15)) none))) (cond (Nat.blt pc 21) (cond (Nat.blt pc 20) (cond (Nat.beq pc 18) (some (.iload 4)) none) (cond (Nat.beq pc 20) (some (.iaload)) none)) (cond (Nat.blt pc 24) (cond (Nat.beq pc 21) (some (.invokestatic 34)) none) (cond (Nat.beq pc 24) (some (.iload_n 1)) none))))) (cond (Nat.blt pc 39) (cond (Nat.blt pc 30) (cond (Nat.blt pc 28) (cond (Nat.beq pc 25) (some (.if_icmp .ne 22)) none) (cond (Nat.blt pc 29) (cond (Nat.beq pc 28) (some (.iload_n 3)) none) (cond (Nat.beq pc 29) (some (.iload_n 2)) none))) (cond (Nat.blt pc 34) (cond (Nat.blt pc 33) (cond (Nat.beq pc 30) (some (.if_icmp .ne 14)) none) (cond (Nat.beq pc 33) (some (.aload_n 0)) none)) (cond (Nat.blt pc 37) (cond (Nat.beq pc 34) (some (.getfield 15)) none) (cond (Nat.beq pc 37) (some (.iload 4)) none)))) (cond (Nat.blt pc 47) (cond (Nat.blt pc 43) (cond (Nat.blt pc 40) (cond (Nat.beq pc 39) (some (.iaload)) none) (cond (Nat.beq pc 40) (some (.invokestatic 40)) none)) (cond (Nat.blt pc 44) (cond (Nat.beq pc 43) (some (.ireturn)) none) (cond (Nat.beq pc 44) (some (.iinc 3 1)) none))) (cond (Nat.blt pc 53) (cond (Nat.blt pc 50) (cond (Nat.beq pc 47) (some (.iinc 4 1)) none) (cond (Nat.beq pc 50) (some (.goto (-45))) none)) (cond (Nat.blt pc 54) (cond (Nat.beq pc 53) (some (.iconst (-1))) none) (cond (Nat.beq pc 54) (some (.ireturn)) none))))))
theorem tb_i71 : tb_okI 5 prog_6_method_4_code tb_f71 := tb_okI_of 55 tb_cut_out (by decide +kernel)
theorem tb_p71 : tb_okP tb_cl tb_WA "VaultDevices$State" false tb_FL 5 tb_f71 := tb_okP_of 55 tb_cut_out (by decide +kernel)
end
section
/-- VaultDevicesModel.<init>()V -/
def tb_f72 : Nat → Option Instr := tb_cut 197 (fun pc => cond (Nat.blt pc 102) (cond (Nat.blt pc 53) (cond (Nat.blt pc 26) (cond (Nat.blt pc 13) (cond (Nat.blt pc 5) (cond (Nat.blt pc 1) (cond (Nat.beq pc 0) (some (.aload_n 0)) none) (cond (Nat.blt pc 4) (cond (Nat.beq pc 1) (some (.invokespecial 1)) none) (cond (Nat.beq pc 4) (some (.aload_n 0)) none))) (cond (Nat.blt pc 8) (cond (Nat.beq pc 5) (some (.sipush 900)) none) (cond (Nat.blt pc 10) (cond (Nat.beq pc 8) (some (.newarray .int)) none) (cond (Nat.beq pc 10) (some (.putfield 7)) none)))) (cond (Nat.blt pc 19) (cond (Nat.blt pc 14) (cond (Nat.beq pc 13) (some (.aload_n 0)) none) (cond (Nat.blt pc 17) (cond (Nat.beq pc 14) (some (.sipush 900)) none) (cond (Nat.beq pc 17) (some (.newarray .int)) none))) (cond (Nat.blt pc 22) (cond (Nat.beq pc 19) (some (.putfield 13)) none) (cond (Nat.blt pc 23) (cond (Nat.beq pc 22) (some (.aload_n 0)) none) (cond (Nat.beq pc 23) (some (.sipush 900)) none))))) (cond (Nat.blt pc 40) (cond (Nat.blt pc 32) (cond (Nat.blt pc 28) (cond (Nat.beq pc 26) (some (.newarray .int)) none) (cond (Nat.blt pc 31) (cond (Nat.beq pc 28) (some (.putfield 16)) none) (cond (Nat.beq pc 31) (some (.aload_n 0)) none))) (cond (Nat.blt pc 35) (cond (Nat.beq pc 32) (some (.sipush 900)) none) (cond (Nat.blt pc 37) (cond (Nat.beq pc 35) (some (.newarray .boolean)) none) (cond (Nat.beq pc 37) (some (.putfield 19)) none)))) (cond (Nat.blt pc 46) (cond (Nat.blt pc 41) (cond (Nat.beq pc 40) (some (.aload_n 0)) none) (cond (Nat.blt pc 44) (cond (Nat.beq pc 41) (some (.sipush 900)) none) (cond (Nat.beq pc 44) (some (.newarray .boolean)) none))) (cond (Nat.blt pc 50) (cond (Nat.blt pc 49) (cond (Nat.beq pc 46) (some (.putfield 23)) none) (cond (Nat.beq pc 49) (some (.aload_n 0)) none)) (cond (Nat.blt pc 51) (cond (Nat.beq pc 50) (some (.iconst 5)) none) (cond (Nat.beq pc 51) (some (.newarray .int)) none)))))) (cond (Nat.blt pc 78) (cond (Nat.blt pc 64) (cond (Nat.blt pc 58) (cond (Nat.blt pc 56) (cond (Nat.beq pc 53) (some (.putfield 26)) none) (cond (Nat.blt pc 57) (cond (Nat.beq pc 56) (some (.aload_n 0)) none) (cond (Nat.beq pc 57) (some (.iconst 5)) none))) (cond (Nat.blt pc 60) (cond (Nat.beq pc 58) (some (.newarray .int)) none) (cond (Nat.blt pc 63) (cond (Nat.beq pc 60) (some (.putfield 29)) none) (cond (Nat.beq pc 63) (some (.aload_n 0)) none)))) (cond (Nat.blt pc 70) (cond (Nat.blt pc 65) (cond (Nat.beq pc 64) (some (.iconst 5)) none) (cond (Nat.blt pc 67) (cond (Nat.beq pc 65) (some (.newarray .int)) none) (cond (Nat.beq pc 67) (some (.putfield 32)) none))) (cond (Nat.blt pc 73) (cond (Nat.blt pc 71) (cond (Nat.beq pc 70) (some (.aload_n 0)) none) (cond (Nat.beq pc 71) (some (.bipush 15)) none)) (cond (Nat.blt pc 75) (cond (Nat.beq pc 73) (some (.newarray .int)) none) (cond (Nat.beq pc 75) (some (.putfield 35)) none))))) (cond (Nat.blt pc 88) (cond (Nat.blt pc 82) (cond (Nat.blt pc 79) (cond (Nat.beq pc 78) (some (.aload_n 0)) none) (cond (Nat.blt pc 80) (cond (Nat.beq pc 79) (some (.iconst 5)) none) (cond (Nat.beq pc 80) (some (.newarray .int)) none))) (cond (Nat.blt pc 85) (cond (Nat.beq pc 82) (some (.putfield 38)) none) (cond (Nat.blt pc 86) (cond (Nat.beq pc 85) (some (.aload_n 0)) none) (cond (Nat.beq pc 86) (some (.bipush 72)) none)))) (cond (Nat.blt pc 94) (cond (Nat.blt pc 90) (cond (Nat.beq pc 88) (some (.newarray .int)) none) (cond (Nat.blt pc 93) (cond (Nat.beq pc 90) (some (.putfield 41)) none) (cond (Nat.beq pc 93) (some (.aload_n 0)) none))) (cond (Nat.blt pc 98) (cond (Nat.blt pc 96) (cond (Nat.beq pc 94) (some (.bipush 72)) none) (cond (Nat.beq pc 96) (some (.newarray .int)) none)) (cond (Nat.blt pc 101) (cond (Nat.beq pc 98) (some (.putfield 44)) none) (cond (Nat.beq pc 101) (some (.aload_n 0)) none))))))) (cond (Nat.blt pc 150) (cond (Nat.blt pc 125) (cond (Nat.blt pc 114) (cond (Nat.blt pc 109) (cond (Nat.blt pc 104) (cond (Nat.beq pc 102) (some (.bipush 72)) none) (cond (Nat.blt pc 106) (cond (Nat.beq pc 104) (some (.newarray .int)) none) (cond (Nat.beq pc 106) (some (.putfield 47)) none))) (cond (Nat.blt pc 110) (cond (Nat.beq pc 109) (some (.aload_n 0)) none) (cond (Nat.blt pc 112) (cond (Nat.beq pc 110) (some (.bipush 72)) none) (cond (Nat.beq pc 112) (some (.newarray .int)) none)))) (cond (Nat.blt pc 119) (cond (Nat.blt pc 117) (cond (Nat.beq pc 114) (some (.putfield 50)) none) (cond (Nat.blt pc 118) (cond (Nat.beq pc 117) (some (.aload_n 0)) none) (cond (Nat.beq pc 118) (some (.iconst 3)) none))) (cond (Nat.blt pc 121) (cond (Nat.beq pc 119) (some (.newarray .boolean)) none) (cond (Nat.blt pc 124) (cond (Nat.beq pc 121) (some (.putfield 53)) none) (cond (Nat.beq pc 124) (some (.aload_n 0)) none))))) (cond (Nat.blt pc 136) (cond (Nat.blt pc 132) (cond (Nat.blt pc 127) (cond (Nat.beq pc 125) (some (.bipush 9)) none) (cond (Nat.blt pc 129) (cond (Nat.beq pc 127) (some (.newarray .int)) none) (cond (Nat.beq pc 129) (some (.putfield 56)) none))) (cond (Nat.blt pc 133) (cond (Nat.beq pc 132) (some (.aload_n 0)) none) (cond (Nat.blt pc 134) (cond (Nat.beq pc 133) (some (.iconst 3)) none) (cond (Nat.beq pc 134) (some (.newarray .int)) none)))) (cond (Nat.blt pc 142) (cond (Nat.blt pc 139) (cond (Nat.beq pc 136) (some (.putfield 59)) none) (cond (Nat.blt pc 140) (cond (Nat.beq pc 139) (some (.aload_n 0)) none) (cond (Nat.beq pc 140) (some (.bipush 12)) none))) (cond (Nat.blt pc 147) (cond (Nat.blt pc 144) (cond (Nat.beq pc 142) (some (.newarray .int)) none) (cond (Nat.beq pc 144) (some (.putfield 62)) none)) (cond (Nat.blt pc 148) (cond (Nat.beq pc 147) (some (.aload_n 0)) none) (cond (Nat.beq pc 148) (some (.bipush 12)) none)))))) (cond (Nat.blt pc 176) (cond (Nat.blt pc 163) (cond (Nat.blt pc 156) (cond (Nat.blt pc 152) (cond (Nat.beq pc 150) (some (.newarray .int)) none) (cond (Nat.blt pc 155) (cond (Nat.beq pc 152) (some (.putfield 65)) none) (cond (Nat.beq pc 155) (some (.aload_n 0)) none))) (cond (Nat.blt pc 158) (cond (Nat.beq pc 156) (some (.bipush 12)) none) (cond (Nat.blt pc 160) (cond (Nat.beq pc 158) (some (.newarray .int)) none) (cond (Nat.beq pc 160) (some (.putfield 68)) none)))) (cond (Nat.blt pc 168) (cond (Nat.blt pc 164) (cond (Nat.beq pc 163) (some (.aload_n 0)) none) (cond (Nat.blt pc 166) (cond (Nat.beq pc 164) (some (.bipush 12)) none) (cond (Nat.beq pc 166) (some (.newarray .int)) none))) (cond (Nat.blt pc 172) (cond (Nat.blt pc 171) (cond (Nat.beq pc 168) (some (.putfield 71)) none) (cond (Nat.beq pc 171) (some (.aload_n 0)) none)) (cond (Nat.blt pc 173) (cond (Nat.beq pc 172) (some (.iconst (-1))) none) (cond (Nat.beq pc 173) (some (.putfield 74)) none))))) (cond (Nat.blt pc 184) (cond (Nat.blt pc 179) (cond (Nat.blt pc 177) (cond (Nat.beq pc 176) (some (.iconst 0)) none) (cond (Nat.blt pc 178) (cond (Nat.beq pc 177) (some (.istore_n 1)) none) (cond (Nat.beq pc 178) (some (.iload_n 1)) none))) (cond (Nat.blt pc 180) (cond (Nat.beq pc 179) (some (.iconst 3)) none) (cond (Nat.blt pc 183) (cond (Nat.beq pc 180) (some (.if_icmp .ge 16)) none) (cond (Nat.beq pc 183) (some (.aload_n 0)) none)))) (cond (Nat.blt pc 189) (cond (Nat.blt pc 187) (cond (Nat.beq pc 184) (some (.getfield 59)) none) (cond (Nat.blt pc 188) (cond (Nat.beq pc 187) (some (.iload_n 1)) none) (cond (Nat.beq pc 188) (some (.iconst (-1))) none))) (cond (Nat.blt pc 193) (cond (Nat.blt pc 190) (cond (Nat.beq pc 189) (some (.iastore)) none) (cond (Nat.beq pc 190) (some (.iinc 1 1)) none)) (cond (Nat.blt pc 196) (cond (Nat.beq pc 193) (some (.goto (-15))) none) (cond (Nat.beq pc 196) (some (.return_)) none))))))))
theorem tb_i72 : tb_okI 2 prog_9_method_1_code tb_f72 := tb_okI_of 197 tb_cut_out (by decide +kernel)
theorem tb_p72 : tb_okP tb_cl tb_WA "VaultDevicesModel" true tb_FL 6 tb_f72 := tb_okP_of 197 tb_cut_out (by decide +kernel)
/-- VaultDevicesModel.thrown()I -/
def tb_f73 : Nat → Option Instr := tb_cut 5 (fun pc => cond (Nat.blt pc 1) (cond (Nat.beq pc 0) (some (.aload_n 0)) none) (cond (Nat.blt pc 4) (cond (Nat.beq pc 1) (some (.getfield 78)) none) (cond (Nat.beq pc 4) (some (.ireturn)) none)))
theorem tb_i73 : tb_okI 1 prog_9_method_2_code tb_f73 := tb_okI_of 5 tb_cut_out (by decide +kernel)
theorem tb_p73 : tb_okP tb_cl tb_WA "VaultDevicesModel" false tb_FL 6 tb_f73 := tb_okP_of 5 tb_cut_out (by decide +kernel)
/-- VaultDevicesModel.unlock(II)Z -/
def tb_f74 : Nat → Option Instr := tb_cut 65 (fun pc => cond (Nat.blt pc 36) (cond (Nat.blt pc 18) (cond (Nat.blt pc 8) (cond (Nat.blt pc 2) (cond (Nat.blt pc 1) (cond (Nat.beq pc 0) (some (.aload_n 0)) none) (cond (Nat.beq pc 1) (some (.iload_n 1)) none)) (cond (Nat.blt pc 5) (cond (Nat.beq pc 2) (some (.invokestatic 158)) none) (cond (Nat.beq pc 5) (some (.ifCond .eq 17)) none))) (cond (Nat.blt pc 12) (cond (Nat.blt pc 9) (cond (Nat.beq pc 8) (some (.iload_n 2)) none) (cond (Nat.beq pc 9) (some (.ifCond .lt 13)) none)) (cond (Nat.blt pc 13) (cond (Nat.beq pc 12) (some (.iload_n 2)) none) (cond (Nat.blt pc 15) (cond (Nat.beq pc 13) (some (.bipush 7)) none) (cond (Nat.beq pc 15) (some (.if_icmp .gt 7)) none))))) (cond (Nat.blt pc 27) (cond (Nat.blt pc 22) (cond (Nat.blt pc 19) (cond (Nat.beq pc 18) (some (.iconst 0)) none) (cond (Nat.beq pc 19) (some (.goto 4)) none)) (cond (Nat.blt pc 23) (cond (Nat.beq pc 22) (some (.iconst 1)) none) (cond (Nat.blt pc 26) (cond (Nat.beq pc 23) (some (.putfield 78)) none) (cond (Nat.beq pc 26) (some (.aload_n 0)) none)))) (cond (Nat.blt pc 33) (cond (Nat.blt pc 30) (cond (Nat.beq pc 27) (some (.getfield 78)) none) (cond (Nat.beq pc 30) (some (.ifCond .le 5)) none)) (cond (Nat.blt pc 34) (cond (Nat.beq pc 33) (some (.iconst 0)) none) (cond (Nat.blt pc 35) (cond (Nat.beq pc 34) (some (.ireturn)) none) (cond (Nat.beq pc 35) (some (.aload_n 0)) none)))))) (cond (Nat.blt pc 51) (cond (Nat.blt pc 44) (cond (Nat.blt pc 40) (cond (Nat.blt pc 39) (cond (Nat.beq pc 36) (some (.getfield 53)) none) (cond (Nat.beq pc 39) (some (.iload_n 1)) none)) (cond (Nat.blt pc 41) (cond (Nat.beq pc 40) (some (.baload)) none) (cond (Nat.beq pc 41) (some (.ifCond .ne 13)) none))) (cond (Nat.blt pc 48) (cond (Nat.blt pc 45) (cond (Nat.beq pc 44) (some (.aload_n 0)) none) (cond (Nat.beq pc 45) (some (.getfield 32)) none)) (cond (Nat.blt pc 49) (cond (Nat.beq pc 48) (some (.iload_n 1)) none) (cond (Nat.blt pc 50) (cond (Nat.beq pc 49) (some (.iaload)) none) (cond (Nat.beq pc 50) (some (.iload_n 2)) none))))) (cond (Nat.blt pc 60) (cond (Nat.blt pc 55) (cond (Nat.blt pc 54) (cond (Nat.beq pc 51) (some (.if_icmp .eq 5)) none) (cond (Nat.beq pc 54) (some (.iconst 0)) none)) (cond (Nat.blt pc 56) (cond (Nat.beq pc 55) (some (.ireturn)) none) (cond (Nat.blt pc 57) (cond (Nat.beq pc 56) (some (.aload_n 0)) none) (cond (Nat.beq pc 57) (some (.getfield 53)) none)))) (cond (Nat.blt pc 62) (cond (Nat.blt pc 61) (cond (Nat.beq pc 60) (some (.iload_n 1)) none) (cond (Nat.beq pc 61) (some (.iconst 1)) none)) (cond (Nat.blt pc 63) (cond (Nat.beq pc 62) (some (.bastore)) none) (cond (Nat.blt pc 64) (cond (Nat.beq pc 63) (some (.iconst 1)) none) (cond (Nat.beq pc 64) (some (.ireturn)) none)))))))
theorem tb_i74 : tb_okI 3 prog_9_method_29_code tb_f74 := tb_okI_of 65 tb_cut_out (by decide +kernel)
theorem tb_p74 : tb_okP tb_cl tb_WA "VaultDevicesModel" false tb_FL 6 tb_f74 := tb_okP_of 65 tb_cut_out (by decide +kernel)
/-- VaultDevicesModel.isDevice(I)Z -/
def tb_f75 : Nat → Option Instr := tb_cut 15 (fun pc => cond (Nat.blt pc 6) (cond (Nat.blt pc 4) (cond (Nat.blt pc 1) (cond (Nat.beq pc 0) (some (.iload_n 0)) none) (cond (Nat.beq pc 1) (some (.ifCond .lt 12)) none)) (cond (Nat.blt pc 5) (cond (Nat.beq pc 4) (some (.iload_n 0)) none) (cond (Nat.beq pc 5) (some (.iconst 3)) none))) (cond (Nat.blt pc 10) (cond (Nat.blt pc 9) (cond (Nat.beq pc 6) (some (.if_icmp .ge 7)) none) (cond (Nat.beq pc 9) (some (.iconst 1)) none)) (cond (Nat.blt pc 13) (cond (Nat.beq pc 10) (some (.goto 4)) none) (cond (Nat.blt pc 14) (cond (Nat.beq pc 13) (some (.iconst 0)) none) (cond (Nat.beq pc 14) (some (.ireturn)) none)))))
theorem tb_i75 : tb_okI 1 prog_9_method_27_code tb_f75 := tb_okI_of 15 tb_cut_out (by decide +kernel)
theorem tb_p75 : tb_okP tb_cl tb_WA "VaultDevicesModel" false tb_FL 6 tb_f75 := tb_okP_of 15 tb_cut_out (by decide +kernel)
/-- VaultDevicesModel.lock(I)Z -/
def tb_f76 : Nat → Option Instr := tb_cut 41 (fun pc => cond (Nat.blt pc 24) (cond (Nat.blt pc 12) (cond (Nat.blt pc 5) (cond (Nat.blt pc 1) (cond (Nat.beq pc 0) (some (.aload_n 0)) none) (cond (Nat.blt pc 2) (cond (Nat.beq pc 1) (some (.iload_n 1)) none) (cond (Nat.beq pc 2) (some (.invokestatic 158)) none))) (cond (Nat.blt pc 8) (cond (Nat.beq pc 5) (some (.ifCond .eq 7)) none) (cond (Nat.blt pc 9) (cond (Nat.beq pc 8) (some (.iconst 0)) none) (cond (Nat.beq pc 9) (some (.goto 4)) none)))) (cond (Nat.blt pc 17) (cond (Nat.blt pc 13) (cond (Nat.beq pc 12) (some (.iconst 1)) none) (cond (Nat.blt pc 16) (cond (Nat.beq pc 13) (some (.putfield 78)) none) (cond (Nat.beq pc 16) (some (.aload_n 0)) none))) (cond (Nat.blt pc 20) (cond (Nat.beq pc 17) (some (.getfield 78)) none) (cond (Nat.blt pc 23) (cond (Nat.beq pc 20) (some (.ifCond .le 5)) none) (cond (Nat.beq pc 23) (some (.iconst 0)) none))))) (cond (Nat.blt pc 32) (cond (Nat.blt pc 29) (cond (Nat.blt pc 25) (cond (Nat.beq pc 24) (some (.ireturn)) none) (cond (Nat.blt pc 26) (cond (Nat.beq pc 25) (some (.aload_n 0)) none) (cond (Nat.beq pc 26) (some (.getfield 53)) none))) (cond (Nat.blt pc 30) (cond (Nat.beq pc 29) (some (.iload_n 1)) none) (cond (Nat.blt pc 31) (cond (Nat.beq pc 30) (some (.baload)) none) (cond (Nat.beq pc 31) (some (.istore_n 2)) none)))) (cond (Nat.blt pc 37) (cond (Nat.blt pc 33) (cond (Nat.beq pc 32) (some (.aload_n 0)) none) (cond (Nat.blt pc 36) (cond (Nat.beq pc 33) (some (.getfield 53)) none) (cond (Nat.beq pc 36) (some (.iload_n 1)) none))) (cond (Nat.blt pc 39) (cond (Nat.blt pc 38) (cond (Nat.beq pc 37) (some (.iconst 0)) none) (cond (Nat.beq pc 38) (some (.bastore)) none)) (cond (Nat.blt pc 40) (cond (Nat.beq pc 39) (some (.iload_n 2)) none) (cond (Nat.beq pc 40) (some (.ireturn)) none))))))
theorem tb_i76 : tb_okI 3 prog_9_method_30_code tb_f76 := tb_okI_of 41 tb_cut_out (by decide +kernel)
theorem tb_p76 : tb_okP tb_cl tb_WA "VaultDevicesModel" false tb_FL 6 tb_f76 := tb_okP_of 41 tb_cut_out (by decide +kernel)
/-- VaultDevicesModel.put(III)I -/
def tb_f77 : Nat → Option Instr := tb_cut 139 (fun pc => cond (Nat.blt pc 76) (cond (Nat.blt pc 41) (cond (Nat.blt pc 21) (cond (Nat.blt pc 9) (cond (Nat.blt pc 2) (cond (Nat.blt pc 1) (cond (Nat.beq pc 0) (some (.aload_n 0)) none) (cond (Nat.beq pc 1) (some (.iload_n 1)) none)) (cond (Nat.blt pc 5) (cond (Nat.beq pc 2) (some (.invokestatic 158)) none) (cond (Nat.blt pc 8) (cond (Nat.beq pc 5) (some (.ifCond .eq 26)) none) (cond (Nat.beq pc 8) (some (.iload_n 2)) none)))) (cond (Nat.blt pc 14) (cond (Nat.blt pc 12) (cond (Nat.beq pc 9) (some (.ifCond .lt 22)) none) (cond (Nat.blt pc 13) (cond (Nat.beq pc 12) (some (.iload_n 2)) none) (cond (Nat.beq pc 13) (some (.iconst 4)) none))) (cond (Nat.blt pc 17) (cond (Nat.beq pc 14) (some (.if_icmp .ge 17)) none) (cond (Nat.blt pc 18) (cond (Nat.beq pc 17) (some (.iload_n 3)) none) (cond (Nat.beq pc 18) (some (.ifCond .lt 13)) none))))) (cond (Nat.blt pc 31) (cond (Nat.blt pc 24) (cond (Nat.blt pc 22) (cond (Nat.beq pc 21) (some (.iload_n 3)) none) (cond (Nat.beq pc 22) (some (.bipush 64)) none)) (cond (Nat.blt pc 27) (cond (Nat.beq pc 24) (some (.if_icmp .ge 7)) none) (cond (Nat.blt pc 28) (cond (Nat.beq pc 27) (some (.iconst 1)) none) (cond (Nat.beq pc 28) (some (.goto 4)) none)))) (cond (Nat.blt pc 36) (cond (Nat.blt pc 32) (cond (Nat.beq pc 31) (some (.iconst 0)) none) (cond (Nat.blt pc 33) (cond (Nat.beq pc 32) (some (.iload_n 1)) none) (cond (Nat.beq pc 33) (some (.invokevirtual 161)) none))) (cond (Nat.blt pc 39) (cond (Nat.beq pc 36) (some (.ifCond .ne 5)) none) (cond (Nat.blt pc 40) (cond (Nat.beq pc 39) (some (.iconst 0)) none) (cond (Nat.beq pc 40) (some (.ireturn)) none)))))) (cond (Nat.blt pc 55) (cond (Nat.blt pc 48) (cond (Nat.blt pc 45) (cond (Nat.blt pc 42) (cond (Nat.beq pc 41) (some (.aload_n 0)) none) (cond (Nat.beq pc 42) (some (.getfield 35)) none)) (cond (Nat.blt pc 46) (cond (Nat.beq pc 45) (some (.iconst 4)) none) (cond (Nat.blt pc 47) (cond (Nat.beq pc 46) (some (.iload_n 1)) none) (cond (Nat.beq pc 47) (some (.imul)) none)))) (cond (Nat.blt pc 52) (cond (Nat.blt pc 49) (cond (Nat.beq pc 48) (some (.iaload)) none) (cond (Nat.blt pc 51) (cond (Nat.beq pc 49) (some (.istore 4)) none) (cond (Nat.beq pc 51) (some (.aload_n 0)) none))) (cond (Nat.blt pc 53) (cond (Nat.beq pc 52) (some (.iload_n 1)) none) (cond (Nat.blt pc 54) (cond (Nat.beq pc 53) (some (.iload_n 2)) none) (cond (Nat.beq pc 54) (some (.iconst 0)) none))))) (cond (Nat.blt pc 67) (cond (Nat.blt pc 60) (cond (Nat.blt pc 58) (cond (Nat.beq pc 55) (some (.invokevirtual 165)) none) (cond (Nat.beq pc 58) (some (.istore 5)) none)) (cond (Nat.blt pc 62) (cond (Nat.beq pc 60) (some (.iload 4)) none) (cond (Nat.blt pc 64) (cond (Nat.beq pc 62) (some (.bipush 30)) none) (cond (Nat.beq pc 64) (some (.if_icmp .eq 19)) none)))) (cond (Nat.blt pc 72) (cond (Nat.blt pc 68) (cond (Nat.beq pc 67) (some (.aload_n 0)) none) (cond (Nat.blt pc 71) (cond (Nat.beq pc 68) (some (.getfield 38)) none) (cond (Nat.beq pc 71) (some (.iload_n 1)) none))) (cond (Nat.blt pc 73) (cond (Nat.beq pc 72) (some (.iaload)) none) (cond (Nat.blt pc 75) (cond (Nat.beq pc 73) (some (.iload 5)) none) (cond (Nat.beq pc 75) (some (.isub)) none))))))) (cond (Nat.blt pc 107) (cond (Nat.blt pc 93) (cond (Nat.blt pc 85) (cond (Nat.blt pc 78) (cond (Nat.blt pc 77) (cond (Nat.beq pc 76) (some (.iconst 1)) none) (cond (Nat.beq pc 77) (some (.iadd)) none)) (cond (Nat.blt pc 80) (cond (Nat.beq pc 78) (some (.bipush 12)) none) (cond (Nat.blt pc 83) (cond (Nat.beq pc 80) (some (.if_icmp .le 6)) none) (cond (Nat.beq pc 83) (some (.bipush (-2))) none)))) (cond (Nat.blt pc 88) (cond (Nat.blt pc 86) (cond (Nat.beq pc 85) (some (.ireturn)) none) (cond (Nat.blt pc 87) (cond (Nat.beq pc 86) (some (.aload_n 0)) none) (cond (Nat.beq pc 87) (some (.iload_n 1)) none))) (cond (Nat.blt pc 89) (cond (Nat.beq pc 88) (some (.iload_n 2)) none) (cond (Nat.blt pc 90) (cond (Nat.beq pc 89) (some (.iconst 1)) none) (cond (Nat.beq pc 90) (some (.invokevirtual 165)) none))))) (cond (Nat.blt pc 101) (cond (Nat.blt pc 96) (cond (Nat.blt pc 95) (cond (Nat.beq pc 93) (some (.istore 6)) none) (cond (Nat.beq pc 95) (some (.aload_n 0)) none)) (cond (Nat.blt pc 99) (cond (Nat.beq pc 96) (some (.getfield 35)) none) (cond (Nat.blt pc 100) (cond (Nat.beq pc 99) (some (.iconst 4)) none) (cond (Nat.beq pc 100) (some (.iload_n 1)) none)))) (cond (Nat.blt pc 104) (cond (Nat.blt pc 102) (cond (Nat.beq pc 101) (some (.imul)) none) (cond (Nat.blt pc 103) (cond (Nat.beq pc 102) (some (.dup2)) none) (cond (Nat.beq pc 103) (some (.iaload)) none))) (cond (Nat.blt pc 105) (cond (Nat.beq pc 104) (some (.iconst 1)) none) (cond (Nat.blt pc 106) (cond (Nat.beq pc 105) (some (.iadd)) none) (cond (Nat.beq pc 106) (some (.iastore)) none)))))) (cond (Nat.blt pc 121) (cond (Nat.blt pc 113) (cond (Nat.blt pc 110) (cond (Nat.blt pc 108) (cond (Nat.beq pc 107) (some (.aload_n 0)) none) (cond (Nat.beq pc 108) (some (.bipush 12)) none)) (cond (Nat.blt pc 111) (cond (Nat.beq pc 110) (some (.iload_n 1)) none) (cond (Nat.blt pc 112) (cond (Nat.beq pc 111) (some (.imul)) none) (cond (Nat.beq pc 112) (some (.aload_n 0)) none)))) (cond (Nat.blt pc 118) (cond (Nat.blt pc 116) (cond (Nat.beq pc 113) (some (.getfield 38)) none) (cond (Nat.blt pc 117) (cond (Nat.beq pc 116) (some (.iload_n 1)) none) (cond (Nat.beq pc 117) (some (.iaload)) none))) (cond (Nat.blt pc 119) (cond (Nat.beq pc 118) (some (.iadd)) none) (cond (Nat.blt pc 120) (cond (Nat.beq pc 119) (some (.iload_n 2)) none) (cond (Nat.beq pc 120) (some (.iload_n 3)) none))))) (cond (Nat.blt pc 130) (cond (Nat.blt pc 125) (cond (Nat.blt pc 122) (cond (Nat.beq pc 121) (some (.iload_n 1)) none) (cond (Nat.blt pc 124) (cond (Nat.beq pc 122) (some (.iload 4)) none) (cond (Nat.beq pc 124) (some (.iconst 1)) none))) (cond (Nat.blt pc 126) (cond (Nat.beq pc 125) (some (.iadd)) none) (cond (Nat.blt pc 129) (cond (Nat.beq pc 126) (some (.invokevirtual 99)) none) (cond (Nat.beq pc 129) (some (.aload_n 0)) none)))) (cond (Nat.blt pc 136) (cond (Nat.blt pc 131) (cond (Nat.beq pc 130) (some (.iload_n 1)) none) (cond (Nat.blt pc 134) (cond (Nat.beq pc 131) (some (.invokevirtual 118)) none) (cond (Nat.beq pc 134) (some (.iload 4)) none))) (cond (Nat.blt pc 137) (cond (Nat.beq pc 136) (some (.iconst 1)) none) (cond (Nat.blt pc 138) (cond (Nat.beq pc 137) (some (.iadd)) none) (cond (Nat.beq pc 138) (some (.ireturn)) none))))))))
theorem tb_i77 : tb_okI 7 prog_9_method_32_code tb_f77 := tb_okI_of 139 tb_cut_out (by decide +kernel)
theorem tb_p77 : tb_okP tb_cl tb_WA "VaultDevicesModel" false tb_FL 6 tb_f77 := tb_okP_of 139 tb_cut_out (by decide +kernel)
/-- VaultDevicesModel.may(ZI)Z -/
def tb_f78 : Nat → Option Instr := tb_cut 39 (fun pc => cond (Nat.blt pc 18) (cond (Nat.blt pc 9) (cond (Nat.blt pc 2) (cond (Nat.blt pc 1) (cond (Nat.beq pc 0) (some (.aload_n 0)) none) (cond (Nat.beq pc 1) (some (.iload_n 1)) none)) (cond (Nat.blt pc 5) (cond (Nat.beq pc 2) (some (.ifCond .ne 7)) none) (cond (Nat.blt pc 6) (cond (Nat.beq pc 5) (some (.iconst 1)) none) (cond (Nat.beq pc 6) (some (.goto 17)) none)))) (cond (Nat.blt pc 13) (cond (Nat.blt pc 10) (cond (Nat.beq pc 9) (some (.aload_n 0)) none) (cond (Nat.beq pc 10) (some (.getfield 53)) none)) (cond (Nat.blt pc 14) (cond (Nat.beq pc 13) (some (.iload_n 2)) none) (cond (Nat.blt pc 15) (cond (Nat.beq pc 14) (some (.baload)) none) (cond (Nat.beq pc 15) (some (.ifCond .eq 7)) none))))) (cond (Nat.blt pc 27) (cond (Nat.blt pc 22) (cond (Nat.blt pc 19) (cond (Nat.beq pc 18) (some (.iconst 0)) none) (cond (Nat.beq pc 19) (some (.goto 4)) none)) (cond (Nat.blt pc 23) (cond (Nat.beq pc 22) (some (.iconst 2)) none) (cond (Nat.blt pc 26) (cond (Nat.beq pc 23) (some (.putfield 78)) none) (cond (Nat.beq pc 26) (some (.aload_n 0)) none)))) (cond (Nat.blt pc 34) (cond (Nat.blt pc 30) (cond (Nat.beq pc 27) (some (.getfield 78)) none) (cond (Nat.blt pc 33) (cond (Nat.beq pc 30) (some (.ifCond .ne 7)) none) (cond (Nat.beq pc 33) (some (.iconst 1)) none))) (cond (Nat.blt pc 37) (cond (Nat.beq pc 34) (some (.goto 4)) none) (cond (Nat.blt pc 38) (cond (Nat.beq pc 37) (some (.iconst 0)) none) (cond (Nat.beq pc 38) (some (.ireturn)) none))))))
theorem tb_i78 : tb_okI 3 prog_9_method_28_code tb_f78 := tb_okI_of 39 tb_cut_out (by decide +kernel)
theorem tb_p78 : tb_okP tb_cl tb_WA "VaultDevicesModel" false tb_FL 6 tb_f78 := tb_okP_of 39 tb_cut_out (by decide +kernel)
/-- VaultDevicesModel.count(IIZ)I -/
def tb_f79 : Nat → Option Instr := tb_cut 98 (fun pc => cond (Nat.blt pc 45) (cond (Nat.blt pc 20) (cond (Nat.blt pc 9) (cond (Nat.blt pc 5) (cond (Nat.blt pc 1) (cond (Nat.beq pc 0) (some (.iconst 0)) none) (cond (Nat.blt pc 3) (cond (Nat.beq pc 1) (some (.istore 4)) none) (cond (Nat.beq pc 3) (some (.bipush 12)) none))) (cond (Nat.blt pc 6) (cond (Nat.beq pc 5) (some (.iload_n 1)) none) (cond (Nat.blt pc 7) (cond (Nat.beq pc 6) (some (.imul)) none) (cond (Nat.beq pc 7) (some (.istore 5)) none)))) (cond (Nat.blt pc 13) (cond (Nat.blt pc 11) (cond (Nat.beq pc 9) (some (.bipush 12)) none) (cond (Nat.blt pc 12) (cond (Nat.beq pc 11) (some (.iload_n 1)) none) (cond (Nat.beq pc 12) (some (.imul)) none))) (cond (Nat.blt pc 17) (cond (Nat.blt pc 15) (cond (Nat.beq pc 13) (some (.istore 6)) none) (cond (Nat.beq pc 15) (some (.iload 6)) none)) (cond (Nat.blt pc 19) (cond (Nat.beq pc 17) (some (.bipush 12)) none) (cond (Nat.beq pc 19) (some (.iload_n 1)) none))))) (cond (Nat.blt pc 31) (cond (Nat.blt pc 25) (cond (Nat.blt pc 21) (cond (Nat.beq pc 20) (some (.imul)) none) (cond (Nat.blt pc 22) (cond (Nat.beq pc 21) (some (.aload_n 0)) none) (cond (Nat.beq pc 22) (some (.getfield 38)) none))) (cond (Nat.blt pc 27) (cond (Nat.blt pc 26) (cond (Nat.beq pc 25) (some (.iload_n 1)) none) (cond (Nat.beq pc 26) (some (.iaload)) none)) (cond (Nat.blt pc 28) (cond (Nat.beq pc 27) (some (.iadd)) none) (cond (Nat.beq pc 28) (some (.if_icmp .ge 41)) none)))) (cond (Nat.blt pc 37) (cond (Nat.blt pc 32) (cond (Nat.beq pc 31) (some (.aload_n 0)) none) (cond (Nat.blt pc 35) (cond (Nat.beq pc 32) (some (.getfield 41)) none) (cond (Nat.beq pc 35) (some (.iload 6)) none))) (cond (Nat.blt pc 39) (cond (Nat.blt pc 38) (cond (Nat.beq pc 37) (some (.iaload)) none) (cond (Nat.beq pc 38) (some (.iload_n 2)) none)) (cond (Nat.blt pc 42) (cond (Nat.beq pc 39) (some (.if_icmp .ne 9)) none) (cond (Nat.beq pc 42) (some (.iinc 4 1)) none)))))) (cond (Nat.blt pc 75) (cond (Nat.blt pc 60) (cond (Nat.blt pc 52) (cond (Nat.blt pc 48) (cond (Nat.beq pc 45) (some (.goto 18)) none) (cond (Nat.blt pc 49) (cond (Nat.beq pc 48) (some (.iload_n 3)) none) (cond (Nat.beq pc 49) (some (.ifCond .eq 14)) none))) (cond (Nat.blt pc 55) (cond (Nat.blt pc 53) (cond (Nat.beq pc 52) (some (.aload_n 0)) none) (cond (Nat.beq pc 53) (some (.iload 6)) none)) (cond (Nat.blt pc 57) (cond (Nat.beq pc 55) (some (.iload 5)) none) (cond (Nat.beq pc 57) (some (.invokevirtual 107)) none)))) (cond (Nat.blt pc 69) (cond (Nat.blt pc 63) (cond (Nat.beq pc 60) (some (.iinc 5 1)) none) (cond (Nat.blt pc 66) (cond (Nat.beq pc 63) (some (.iinc 6 1)) none) (cond (Nat.beq pc 66) (some (.goto (-51))) none))) (cond (Nat.blt pc 73) (cond (Nat.blt pc 70) (cond (Nat.beq pc 69) (some (.aload_n 0)) none) (cond (Nat.beq pc 70) (some (.getfield 38)) none)) (cond (Nat.blt pc 74) (cond (Nat.beq pc 73) (some (.iload_n 1)) none) (cond (Nat.beq pc 74) (some (.iload_n 3)) none))))) (cond (Nat.blt pc 88) (cond (Nat.blt pc 82) (cond (Nat.blt pc 78) (cond (Nat.beq pc 75) (some (.ifCond .eq 13)) none) (cond (Nat.blt pc 80) (cond (Nat.beq pc 78) (some (.iload 5)) none) (cond (Nat.beq pc 80) (some (.bipush 12)) none))) (cond (Nat.blt pc 84) (cond (Nat.blt pc 83) (cond (Nat.beq pc 82) (some (.iload_n 1)) none) (cond (Nat.beq pc 83) (some (.imul)) none)) (cond (Nat.blt pc 85) (cond (Nat.beq pc 84) (some (.isub)) none) (cond (Nat.beq pc 85) (some (.goto 9)) none)))) (cond (Nat.blt pc 93) (cond (Nat.blt pc 89) (cond (Nat.beq pc 88) (some (.aload_n 0)) none) (cond (Nat.blt pc 92) (cond (Nat.beq pc 89) (some (.getfield 38)) none) (cond (Nat.beq pc 92) (some (.iload_n 1)) none))) (cond (Nat.blt pc 95) (cond (Nat.blt pc 94) (cond (Nat.beq pc 93) (some (.iaload)) none) (cond (Nat.beq pc 94) (some (.iastore)) none)) (cond (Nat.blt pc 97) (cond (Nat.beq pc 95) (some (.iload 4)) none) (cond (Nat.beq pc 97) (some (.ireturn)) none)))))))
theorem tb_i79 : tb_okI 7 prog_9_method_31_code tb_f79 := tb_okI_of 98 tb_cut_out (by decide +kernel)
theorem tb_p79 : tb_okP tb_cl tb_WA "VaultDevicesModel" false tb_FL 6 tb_f79 := tb_okP_of 98 tb_cut_out (by decide +kernel)
/-- VaultDevicesModel.copy(II)V -/
def tb_f80 : Nat → Option Instr := tb_cut 30 (fun pc => cond (Nat.blt pc 14) (cond (Nat.blt pc 7) (cond (Nat.blt pc 2) (cond (Nat.blt pc 1) (cond (Nat.beq pc 0) (some (.aload_n 0)) none) (cond (Nat.beq pc 1) (some (.iload_n 2)) none)) (cond (Nat.blt pc 3) (cond (Nat.beq pc 2) (some (.aload_n 0)) none) (cond (Nat.blt pc 6) (cond (Nat.beq pc 3) (some (.getfield 41)) none) (cond (Nat.beq pc 6) (some (.iload_n 1)) none)))) (cond (Nat.blt pc 9) (cond (Nat.blt pc 8) (cond (Nat.beq pc 7) (some (.iaload)) none) (cond (Nat.beq pc 8) (some (.aload_n 0)) none)) (cond (Nat.blt pc 12) (cond (Nat.beq pc 9) (some (.getfield 44)) none) (cond (Nat.blt pc 13) (cond (Nat.beq pc 12) (some (.iload_n 1)) none) (cond (Nat.beq pc 13) (some (.iaload)) none))))) (cond (Nat.blt pc 21) (cond (Nat.blt pc 18) (cond (Nat.blt pc 15) (cond (Nat.beq pc 14) (some (.aload_n 0)) none) (cond (Nat.beq pc 15) (some (.getfield 47)) none)) (cond (Nat.blt pc 19) (cond (Nat.beq pc 18) (some (.iload_n 1)) none) (cond (Nat.blt pc 20) (cond (Nat.beq pc 19) (some (.iaload)) none) (cond (Nat.beq pc 20) (some (.aload_n 0)) none)))) (cond (Nat.blt pc 25) (cond (Nat.blt pc 24) (cond (Nat.beq pc 21) (some (.getfield 50)) none) (cond (Nat.beq pc 24) (some (.iload_n 1)) none)) (cond (Nat.blt pc 26) (cond (Nat.beq pc 25) (some (.iaload)) none) (cond (Nat.blt pc 29) (cond (Nat.beq pc 26) (some (.invokevirtual 99)) none) (cond (Nat.beq pc 29) (some (.return_)) none))))))
theorem tb_i80 : tb_okI 3 prog_9_method_14_code tb_f80 := tb_okI_of 30 tb_cut_out (by decide +kernel)
theorem tb_p80 : tb_okP tb_cl tb_WA "VaultDevicesModel" false tb_FL 6 tb_f80 := tb_okP_of 30 tb_cut_out (by decide +kernel)
/-- VaultDevicesModel.set(IIIII)V -/
def tb_f81 : Nat → Option Instr := tb_cut 31 (fun pc => cond (Nat.blt pc 14) (cond (Nat.blt pc 7) (cond (Nat.blt pc 4) (cond (Nat.blt pc 1) (cond (Nat.beq pc 0) (some (.aload_n 0)) none) (cond (Nat.beq pc 1) (some (.getfield 41)) none)) (cond (Nat.blt pc 5) (cond (Nat.beq pc 4) (some (.iload_n 1)) none) (cond (Nat.blt pc 6) (cond (Nat.beq pc 5) (some (.iload_n 2)) none) (cond (Nat.beq pc 6) (some (.iastore)) none)))) (cond (Nat.blt pc 11) (cond (Nat.blt pc 8) (cond (Nat.beq pc 7) (some (.aload_n 0)) none) (cond (Nat.beq pc 8) (some (.getfield 44)) none)) (cond (Nat.blt pc 12) (cond (Nat.beq pc 11) (some (.iload_n 1)) none) (cond (Nat.blt pc 13) (cond (Nat.beq pc 12) (some (.iload_n 3)) none) (cond (Nat.beq pc 13) (some (.iastore)) none))))) (cond (Nat.blt pc 22) (cond (Nat.blt pc 18) (cond (Nat.blt pc 15) (cond (Nat.beq pc 14) (some (.aload_n 0)) none) (cond (Nat.beq pc 15) (some (.getfield 47)) none)) (cond (Nat.blt pc 19) (cond (Nat.beq pc 18) (some (.iload_n 1)) none) (cond (Nat.blt pc 21) (cond (Nat.beq pc 19) (some (.iload 4)) none) (cond (Nat.beq pc 21) (some (.iastore)) none)))) (cond (Nat.blt pc 27) (cond (Nat.blt pc 23) (cond (Nat.beq pc 22) (some (.aload_n 0)) none) (cond (Nat.blt pc 26) (cond (Nat.beq pc 23) (some (.getfield 50)) none) (cond (Nat.beq pc 26) (some (.iload_n 1)) none))) (cond (Nat.blt pc 29) (cond (Nat.beq pc 27) (some (.iload 5)) none) (cond (Nat.blt pc 30) (cond (Nat.beq pc 29) (some (.iastore)) none) (cond (Nat.beq pc 30) (some (.return_)) none))))))
theorem tb_i81 : tb_okI 6 prog_9_method_13_code tb_f81 := tb_okI_of 31 tb_cut_out (by decide +kernel)
theorem tb_p81 : tb_okP tb_cl tb_WA "VaultDevicesModel" false tb_FL 6 tb_f81 := tb_okP_of 31 tb_cut_out (by decide +kernel)
/-- VaultDevicesModel.sink(I)V -/
def tb_f82 : Nat → Option Instr := tb_cut 101 (fun pc => cond (Nat.blt pc 47) (cond (Nat.blt pc 21) (cond (Nat.blt pc 11) (cond (Nat.blt pc 5) (cond (Nat.blt pc 3) (cond (Nat.blt pc 2) (cond (Nat.beq pc 0) (some (.bipush 12)) none) (cond (Nat.beq pc 2) (some (.iload_n 1)) none)) (cond (Nat.blt pc 4) (cond (Nat.beq pc 3) (some (.imul)) none) (cond (Nat.beq pc 4) (some (.aload_n 0)) none))) (cond (Nat.blt pc 9) (cond (Nat.blt pc 8) (cond (Nat.beq pc 5) (some (.getfield 38)) none) (cond (Nat.beq pc 8) (some (.iload_n 1)) none)) (cond (Nat.blt pc 10) (cond (Nat.beq pc 9) (some (.iaload)) none) (cond (Nat.beq pc 10) (some (.iadd)) none)))) (cond (Nat.blt pc 17) (cond (Nat.blt pc 13) (cond (Nat.blt pc 12) (cond (Nat.beq pc 11) (some (.istore_n 2)) none) (cond (Nat.beq pc 12) (some (.aload_n 0)) none)) (cond (Nat.blt pc 16) (cond (Nat.beq pc 13) (some (.getfield 38)) none) (cond (Nat.beq pc 16) (some (.iload_n 1)) none))) (cond (Nat.blt pc 19) (cond (Nat.blt pc 18) (cond (Nat.beq pc 17) (some (.dup2)) none) (cond (Nat.beq pc 18) (some (.iaload)) none)) (cond (Nat.blt pc 20) (cond (Nat.beq pc 19) (some (.iconst 1)) none) (cond (Nat.beq pc 20) (some (.iadd)) none))))) (cond (Nat.blt pc 32) (cond (Nat.blt pc 26) (cond (Nat.blt pc 23) (cond (Nat.blt pc 22) (cond (Nat.beq pc 21) (some (.iastore)) none) (cond (Nat.beq pc 22) (some (.iload_n 2)) none)) (cond (Nat.blt pc 25) (cond (Nat.beq pc 23) (some (.bipush 12)) none) (cond (Nat.beq pc 25) (some (.iload_n 1)) none))) (cond (Nat.blt pc 30) (cond (Nat.blt pc 27) (cond (Nat.beq pc 26) (some (.imul)) none) (cond (Nat.beq pc 27) (some (.if_icmp .le 73)) none)) (cond (Nat.blt pc 31) (cond (Nat.beq pc 30) (some (.aload_n 0)) none) (cond (Nat.beq pc 31) (some (.iload_n 2)) none)))) (cond (Nat.blt pc 38) (cond (Nat.blt pc 34) (cond (Nat.blt pc 33) (cond (Nat.beq pc 32) (some (.iload_n 2)) none) (cond (Nat.beq pc 33) (some (.iconst 1)) none)) (cond (Nat.blt pc 35) (cond (Nat.beq pc 34) (some (.isub)) none) (cond (Nat.beq pc 35) (some (.invokevirtual 103)) none))) (cond (Nat.blt pc 42) (cond (Nat.blt pc 41) (cond (Nat.beq pc 38) (some (.ifCond .eq 62)) none) (cond (Nat.beq pc 41) (some (.aload_n 0)) none)) (cond (Nat.blt pc 45) (cond (Nat.beq pc 42) (some (.getfield 41)) none) (cond (Nat.blt pc 46) (cond (Nat.beq pc 45) (some (.iload_n 2)) none) (cond (Nat.beq pc 46) (some (.iaload)) none))))))) (cond (Nat.blt pc 73) (cond (Nat.blt pc 60) (cond (Nat.blt pc 53) (cond (Nat.blt pc 49) (cond (Nat.blt pc 48) (cond (Nat.beq pc 47) (some (.istore_n 3)) none) (cond (Nat.beq pc 48) (some (.aload_n 0)) none)) (cond (Nat.blt pc 52) (cond (Nat.beq pc 49) (some (.getfield 44)) none) (cond (Nat.beq pc 52) (some (.iload_n 2)) none))) (cond (Nat.blt pc 56) (cond (Nat.blt pc 54) (cond (Nat.beq pc 53) (some (.iaload)) none) (cond (Nat.beq pc 54) (some (.istore 4)) none)) (cond (Nat.blt pc 57) (cond (Nat.beq pc 56) (some (.aload_n 0)) none) (cond (Nat.beq pc 57) (some (.getfield 47)) none)))) (cond (Nat.blt pc 65) (cond (Nat.blt pc 62) (cond (Nat.blt pc 61) (cond (Nat.beq pc 60) (some (.iload_n 2)) none) (cond (Nat.beq pc 61) (some (.iaload)) none)) (cond (Nat.blt pc 64) (cond (Nat.beq pc 62) (some (.istore 5)) none) (cond (Nat.beq pc 64) (some (.aload_n 0)) none))) (cond (Nat.blt pc 69) (cond (Nat.blt pc 68) (cond (Nat.beq pc 65) (some (.getfield 50)) none) (cond (Nat.beq pc 68) (some (.iload_n 2)) none)) (cond (Nat.blt pc 70) (cond (Nat.beq pc 69) (some (.iaload)) none) (cond (Nat.blt pc 72) (cond (Nat.beq pc 70) (some (.istore 6)) none) (cond (Nat.beq pc 72) (some (.aload_n 0)) none)))))) (cond (Nat.blt pc 83) (cond (Nat.blt pc 77) (cond (Nat.blt pc 75) (cond (Nat.blt pc 74) (cond (Nat.beq pc 73) (some (.iload_n 2)) none) (cond (Nat.beq pc 74) (some (.iconst 1)) none)) (cond (Nat.blt pc 76) (cond (Nat.beq pc 75) (some (.isub)) none) (cond (Nat.beq pc 76) (some (.iload_n 2)) none))) (cond (Nat.blt pc 81) (cond (Nat.blt pc 80) (cond (Nat.beq pc 77) (some (.invokevirtual 107)) none) (cond (Nat.beq pc 80) (some (.aload_n 0)) none)) (cond (Nat.blt pc 82) (cond (Nat.beq pc 81) (some (.iload_n 2)) none) (cond (Nat.beq pc 82) (some (.iconst 1)) none)))) (cond (Nat.blt pc 89) (cond (Nat.blt pc 85) (cond (Nat.blt pc 84) (cond (Nat.beq pc 83) (some (.isub)) none) (cond (Nat.beq pc 84) (some (.iload_n 3)) none)) (cond (Nat.blt pc 87) (cond (Nat.beq pc 85) (some (.iload 4)) none) (cond (Nat.beq pc 87) (some (.iload 5)) none))) (cond (Nat.blt pc 94) (cond (Nat.blt pc 91) (cond (Nat.beq pc 89) (some (.iload 6)) none) (cond (Nat.beq pc 91) (some (.invokevirtual 99)) none)) (cond (Nat.blt pc 97) (cond (Nat.beq pc 94) (some (.iinc 2 (-1))) none) (cond (Nat.blt pc 100) (cond (Nat.beq pc 97) (some (.goto (-75))) none) (cond (Nat.beq pc 100) (some (.return_)) none))))))))
theorem tb_i82 : tb_okI 7 prog_9_method_15_code tb_f82 := tb_okI_of 101 tb_cut_out (by decide +kernel)
theorem tb_p82 : tb_okP tb_cl tb_WA "VaultDevicesModel" false tb_FL 6 tb_f82 := tb_okP_of 101 tb_cut_out (by decide +kernel)
/-- VaultDevicesModel.before(II)Z -/
def tb_f83 : Nat → Option Instr := tb_cut 87 (fun pc => cond (Nat.blt pc 42) (cond (Nat.blt pc 21) (cond (Nat.blt pc 10) (cond (Nat.blt pc 5) (cond (Nat.blt pc 1) (cond (Nat.beq pc 0) (some (.aload_n 0)) none) (cond (Nat.blt pc 4) (cond (Nat.beq pc 1) (some (.getfield 41)) none) (cond (Nat.beq pc 4) (some (.iload_n 1)) none))) (cond (Nat.blt pc 6) (cond (Nat.beq pc 5) (some (.iaload)) none) (cond (Nat.blt pc 7) (cond (Nat.beq pc 6) (some (.aload_n 0)) none) (cond (Nat.beq pc 7) (some (.getfield 41)) none)))) (cond (Nat.blt pc 15) (cond (Nat.blt pc 11) (cond (Nat.beq pc 10) (some (.iload_n 2)) none) (cond (Nat.blt pc 12) (cond (Nat.beq pc 11) (some (.iaload)) none) (cond (Nat.beq pc 12) (some (.if_icmp .eq 24)) none))) (cond (Nat.blt pc 19) (cond (Nat.blt pc 16) (cond (Nat.beq pc 15) (some (.aload_n 0)) none) (cond (Nat.beq pc 16) (some (.getfield 41)) none)) (cond (Nat.blt pc 20) (cond (Nat.beq pc 19) (some (.iload_n 1)) none) (cond (Nat.beq pc 20) (some (.iaload)) none))))) (cond (Nat.blt pc 31) (cond (Nat.blt pc 26) (cond (Nat.blt pc 22) (cond (Nat.beq pc 21) (some (.aload_n 0)) none) (cond (Nat.blt pc 25) (cond (Nat.beq pc 22) (some (.getfield 41)) none) (cond (Nat.beq pc 25) (some (.iload_n 2)) none))) (cond (Nat.blt pc 27) (cond (Nat.beq pc 26) (some (.iaload)) none) (cond (Nat.blt pc 30) (cond (Nat.beq pc 27) (some (.if_icmp .ge 7)) none) (cond (Nat.beq pc 30) (some (.iconst 1)) none)))) (cond (Nat.blt pc 36) (cond (Nat.blt pc 34) (cond (Nat.beq pc 31) (some (.goto 4)) none) (cond (Nat.blt pc 35) (cond (Nat.beq pc 34) (some (.iconst 0)) none) (cond (Nat.beq pc 35) (some (.ireturn)) none))) (cond (Nat.blt pc 40) (cond (Nat.blt pc 37) (cond (Nat.beq pc 36) (some (.aload_n 0)) none) (cond (Nat.beq pc 37) (some (.getfield 47)) none)) (cond (Nat.blt pc 41) (cond (Nat.beq pc 40) (some (.iload_n 1)) none) (cond (Nat.beq pc 41) (some (.iaload)) none)))))) (cond (Nat.blt pc 63) (cond (Nat.blt pc 52) (cond (Nat.blt pc 47) (cond (Nat.blt pc 43) (cond (Nat.beq pc 42) (some (.aload_n 0)) none) (cond (Nat.blt pc 46) (cond (Nat.beq pc 43) (some (.getfield 47)) none) (cond (Nat.beq pc 46) (some (.iload_n 2)) none))) (cond (Nat.blt pc 48) (cond (Nat.beq pc 47) (some (.iaload)) none) (cond (Nat.blt pc 51) (cond (Nat.beq pc 48) (some (.if_icmp .lt 33)) none) (cond (Nat.beq pc 51) (some (.aload_n 0)) none)))) (cond (Nat.blt pc 57) (cond (Nat.blt pc 55) (cond (Nat.beq pc 52) (some (.getfield 47)) none) (cond (Nat.blt pc 56) (cond (Nat.beq pc 55) (some (.iload_n 1)) none) (cond (Nat.beq pc 56) (some (.iaload)) none))) (cond (Nat.blt pc 61) (cond (Nat.blt pc 58) (cond (Nat.beq pc 57) (some (.aload_n 0)) none) (cond (Nat.beq pc 58) (some (.getfield 47)) none)) (cond (Nat.blt pc 62) (cond (Nat.beq pc 61) (some (.iload_n 2)) none) (cond (Nat.beq pc 62) (some (.iaload)) none))))) (cond (Nat.blt pc 76) (cond (Nat.blt pc 70) (cond (Nat.blt pc 66) (cond (Nat.beq pc 63) (some (.if_icmp .ne 22)) none) (cond (Nat.blt pc 67) (cond (Nat.beq pc 66) (some (.aload_n 0)) none) (cond (Nat.beq pc 67) (some (.getfield 50)) none))) (cond (Nat.blt pc 72) (cond (Nat.blt pc 71) (cond (Nat.beq pc 70) (some (.iload_n 1)) none) (cond (Nat.beq pc 71) (some (.iaload)) none)) (cond (Nat.blt pc 73) (cond (Nat.beq pc 72) (some (.aload_n 0)) none) (cond (Nat.beq pc 73) (some (.getfield 50)) none)))) (cond (Nat.blt pc 81) (cond (Nat.blt pc 77) (cond (Nat.beq pc 76) (some (.iload_n 2)) none) (cond (Nat.blt pc 78) (cond (Nat.beq pc 77) (some (.iaload)) none) (cond (Nat.beq pc 78) (some (.if_icmp .ge 7)) none))) (cond (Nat.blt pc 85) (cond (Nat.blt pc 82) (cond (Nat.beq pc 81) (some (.iconst 1)) none) (cond (Nat.beq pc 82) (some (.goto 4)) none)) (cond (Nat.blt pc 86) (cond (Nat.beq pc 85) (some (.iconst 0)) none) (cond (Nat.beq pc 86) (some (.ireturn)) none)))))))
theorem tb_i83 : tb_okI 3 prog_9_method_12_code tb_f83 := tb_okI_of 87 tb_cut_out (by decide +kernel)
theorem tb_p83 : tb_okP tb_cl tb_WA "VaultDevicesModel" false tb_FL 6 tb_f83 := tb_okP_of 87 tb_cut_out (by decide +kernel)
/-- VaultDevicesModel.erase(II)I -/
def tb_f84 : Nat → Option Instr := tb_cut 81 (fun pc => cond (Nat.blt pc 46) (cond (Nat.blt pc 23) (cond (Nat.blt pc 12) (cond (Nat.blt pc 5) (cond (Nat.blt pc 1) (cond (Nat.beq pc 0) (some (.aload_n 0)) none) (cond (Nat.blt pc 2) (cond (Nat.beq pc 1) (some (.iload_n 1)) none) (cond (Nat.beq pc 2) (some (.invokestatic 158)) none))) (cond (Nat.blt pc 8) (cond (Nat.beq pc 5) (some (.ifCond .eq 16)) none) (cond (Nat.blt pc 9) (cond (Nat.beq pc 8) (some (.iload_n 2)) none) (cond (Nat.beq pc 9) (some (.ifCond .lt 12)) none)))) (cond (Nat.blt pc 17) (cond (Nat.blt pc 13) (cond (Nat.beq pc 12) (some (.iload_n 2)) none) (cond (Nat.blt pc 14) (cond (Nat.beq pc 13) (some (.iconst 4)) none) (cond (Nat.beq pc 14) (some (.if_icmp .ge 7)) none))) (cond (Nat.blt pc 21) (cond (Nat.blt pc 18) (cond (Nat.beq pc 17) (some (.iconst 1)) none) (cond (Nat.beq pc 18) (some (.goto 4)) none)) (cond (Nat.blt pc 22) (cond (Nat.beq pc 21) (some (.iconst 0)) none) (cond (Nat.beq pc 22) (some (.iload_n 1)) none))))) (cond (Nat.blt pc 35) (cond (Nat.blt pc 30) (cond (Nat.blt pc 26) (cond (Nat.beq pc 23) (some (.invokevirtual 161)) none) (cond (Nat.blt pc 29) (cond (Nat.beq pc 26) (some (.ifCond .ne 5)) none) (cond (Nat.beq pc 29) (some (.iconst 0)) none))) (cond (Nat.blt pc 31) (cond (Nat.beq pc 30) (some (.ireturn)) none) (cond (Nat.blt pc 32) (cond (Nat.beq pc 31) (some (.aload_n 0)) none) (cond (Nat.beq pc 32) (some (.getfield 35)) none)))) (cond (Nat.blt pc 38) (cond (Nat.blt pc 36) (cond (Nat.beq pc 35) (some (.iconst 4)) none) (cond (Nat.blt pc 37) (cond (Nat.beq pc 36) (some (.iload_n 1)) none) (cond (Nat.beq pc 37) (some (.imul)) none))) (cond (Nat.blt pc 41) (cond (Nat.blt pc 39) (cond (Nat.beq pc 38) (some (.iaload)) none) (cond (Nat.beq pc 39) (some (.bipush 30)) none)) (cond (Nat.blt pc 44) (cond (Nat.beq pc 41) (some (.if_icmp .ne 6)) none) (cond (Nat.beq pc 44) (some (.bipush (-2))) none)))))) (cond (Nat.blt pc 65) (cond (Nat.blt pc 54) (cond (Nat.blt pc 49) (cond (Nat.blt pc 47) (cond (Nat.beq pc 46) (some (.ireturn)) none) (cond (Nat.blt pc 48) (cond (Nat.beq pc 47) (some (.aload_n 0)) none) (cond (Nat.beq pc 48) (some (.iload_n 1)) none))) (cond (Nat.blt pc 50) (cond (Nat.beq pc 49) (some (.iload_n 2)) none) (cond (Nat.blt pc 51) (cond (Nat.beq pc 50) (some (.iconst 0)) none) (cond (Nat.beq pc 51) (some (.invokevirtual 165)) none)))) (cond (Nat.blt pc 59) (cond (Nat.blt pc 55) (cond (Nat.beq pc 54) (some (.istore_n 3)) none) (cond (Nat.blt pc 56) (cond (Nat.beq pc 55) (some (.iload_n 3)) none) (cond (Nat.beq pc 56) (some (.ifCond .ne 5)) none))) (cond (Nat.blt pc 61) (cond (Nat.blt pc 60) (cond (Nat.beq pc 59) (some (.iconst (-1))) none) (cond (Nat.beq pc 60) (some (.ireturn)) none)) (cond (Nat.blt pc 62) (cond (Nat.beq pc 61) (some (.aload_n 0)) none) (cond (Nat.beq pc 62) (some (.getfield 35)) none))))) (cond (Nat.blt pc 72) (cond (Nat.blt pc 68) (cond (Nat.blt pc 66) (cond (Nat.beq pc 65) (some (.iconst 4)) none) (cond (Nat.blt pc 67) (cond (Nat.beq pc 66) (some (.iload_n 1)) none) (cond (Nat.beq pc 67) (some (.imul)) none))) (cond (Nat.blt pc 70) (cond (Nat.blt pc 69) (cond (Nat.beq pc 68) (some (.dup2)) none) (cond (Nat.beq pc 69) (some (.iaload)) none)) (cond (Nat.blt pc 71) (cond (Nat.beq pc 70) (some (.iconst 1)) none) (cond (Nat.beq pc 71) (some (.iadd)) none)))) (cond (Nat.blt pc 75) (cond (Nat.blt pc 73) (cond (Nat.beq pc 72) (some (.iastore)) none) (cond (Nat.blt pc 74) (cond (Nat.beq pc 73) (some (.aload_n 0)) none) (cond (Nat.beq pc 74) (some (.iload_n 1)) none))) (cond (Nat.blt pc 77) (cond (Nat.blt pc 76) (cond (Nat.beq pc 75) (some (.iload_n 2)) none) (cond (Nat.beq pc 76) (some (.iconst 1)) none)) (cond (Nat.blt pc 80) (cond (Nat.beq pc 77) (some (.invokevirtual 165)) none) (cond (Nat.beq pc 80) (some (.ireturn)) none)))))))
theorem tb_i84 : tb_okI 4 prog_9_method_33_code tb_f84 := tb_okI_of 81 tb_cut_out (by decide +kernel)
theorem tb_p84 : tb_okP tb_cl tb_WA "VaultDevicesModel" false tb_FL 6 tb_f84 := tb_okP_of 81 tb_cut_out (by decide +kernel)
/-- VaultDevicesModel.get(III)I -/
def tb_f85 : Nat → Option Instr := tb_cut 93 (fun pc => cond (Nat.blt pc 47) (cond (Nat.blt pc 23) (cond (Nat.blt pc 12) (cond (Nat.blt pc 5) (cond (Nat.blt pc 1) (cond (Nat.beq pc 0) (some (.aload_n 0)) none) (cond (Nat.blt pc 2) (cond (Nat.beq pc 1) (some (.iload_n 1)) none) (cond (Nat.beq pc 2) (some (.invokestatic 158)) none))) (cond (Nat.blt pc 8) (cond (Nat.beq pc 5) (some (.ifCond .eq 16)) none) (cond (Nat.blt pc 9) (cond (Nat.beq pc 8) (some (.iload_n 2)) none) (cond (Nat.beq pc 9) (some (.ifCond .lt 12)) none)))) (cond (Nat.blt pc 17) (cond (Nat.blt pc 13) (cond (Nat.beq pc 12) (some (.iload_n 2)) none) (cond (Nat.blt pc 14) (cond (Nat.beq pc 13) (some (.iconst 4)) none) (cond (Nat.beq pc 14) (some (.if_icmp .ge 7)) none))) (cond (Nat.blt pc 21) (cond (Nat.blt pc 18) (cond (Nat.beq pc 17) (some (.iconst 1)) none) (cond (Nat.beq pc 18) (some (.goto 4)) none)) (cond (Nat.blt pc 22) (cond (Nat.beq pc 21) (some (.iconst 0)) none) (cond (Nat.beq pc 22) (some (.iload_n 1)) none))))) (cond (Nat.blt pc 34) (cond (Nat.blt pc 30) (cond (Nat.blt pc 26) (cond (Nat.beq pc 23) (some (.invokevirtual 161)) none) (cond (Nat.blt pc 29) (cond (Nat.beq pc 26) (some (.ifCond .ne 5)) none) (cond (Nat.beq pc 29) (some (.iconst 0)) none))) (cond (Nat.blt pc 32) (cond (Nat.blt pc 31) (cond (Nat.beq pc 30) (some (.ireturn)) none) (cond (Nat.beq pc 31) (some (.aload_n 0)) none)) (cond (Nat.blt pc 33) (cond (Nat.beq pc 32) (some (.iload_n 1)) none) (cond (Nat.beq pc 33) (some (.iload_n 2)) none)))) (cond (Nat.blt pc 40) (cond (Nat.blt pc 35) (cond (Nat.beq pc 34) (some (.iconst 0)) none) (cond (Nat.blt pc 38) (cond (Nat.beq pc 35) (some (.invokevirtual 165)) none) (cond (Nat.beq pc 38) (some (.istore 4)) none))) (cond (Nat.blt pc 42) (cond (Nat.blt pc 41) (cond (Nat.beq pc 40) (some (.iload_n 3)) none) (cond (Nat.beq pc 41) (some (.iconst (-1))) none)) (cond (Nat.blt pc 45) (cond (Nat.beq pc 42) (some (.if_icmp .ne 6)) none) (cond (Nat.beq pc 45) (some (.iload 4)) none)))))) (cond (Nat.blt pc 67) (cond (Nat.blt pc 58) (cond (Nat.blt pc 52) (cond (Nat.blt pc 48) (cond (Nat.beq pc 47) (some (.ireturn)) none) (cond (Nat.blt pc 49) (cond (Nat.beq pc 48) (some (.iload_n 3)) none) (cond (Nat.beq pc 49) (some (.ifCond .lt 9)) none))) (cond (Nat.blt pc 53) (cond (Nat.beq pc 52) (some (.iload_n 3)) none) (cond (Nat.blt pc 55) (cond (Nat.beq pc 53) (some (.iload 4)) none) (cond (Nat.beq pc 55) (some (.if_icmp .lt 5)) none)))) (cond (Nat.blt pc 62) (cond (Nat.blt pc 59) (cond (Nat.beq pc 58) (some (.iconst (-1))) none) (cond (Nat.blt pc 60) (cond (Nat.beq pc 59) (some (.ireturn)) none) (cond (Nat.beq pc 60) (some (.bipush 12)) none))) (cond (Nat.blt pc 64) (cond (Nat.blt pc 63) (cond (Nat.beq pc 62) (some (.iload_n 1)) none) (cond (Nat.beq pc 63) (some (.imul)) none)) (cond (Nat.blt pc 66) (cond (Nat.beq pc 64) (some (.istore 5)) none) (cond (Nat.beq pc 66) (some (.aload_n 0)) none))))) (cond (Nat.blt pc 83) (cond (Nat.blt pc 73) (cond (Nat.blt pc 70) (cond (Nat.beq pc 67) (some (.getfield 41)) none) (cond (Nat.blt pc 72) (cond (Nat.beq pc 70) (some (.iload 5)) none) (cond (Nat.beq pc 72) (some (.iaload)) none))) (cond (Nat.blt pc 77) (cond (Nat.blt pc 74) (cond (Nat.beq pc 73) (some (.iload_n 2)) none) (cond (Nat.beq pc 74) (some (.if_icmp .ge 9)) none)) (cond (Nat.blt pc 80) (cond (Nat.beq pc 77) (some (.iinc 5 1)) none) (cond (Nat.beq pc 80) (some (.goto (-14))) none)))) (cond (Nat.blt pc 89) (cond (Nat.blt pc 84) (cond (Nat.beq pc 83) (some (.aload_n 0)) none) (cond (Nat.blt pc 87) (cond (Nat.beq pc 84) (some (.getfield 44)) none) (cond (Nat.beq pc 87) (some (.iload 5)) none))) (cond (Nat.blt pc 91) (cond (Nat.blt pc 90) (cond (Nat.beq pc 89) (some (.iload_n 3)) none) (cond (Nat.beq pc 90) (some (.iadd)) none)) (cond (Nat.blt pc 92) (cond (Nat.beq pc 91) (some (.iaload)) none) (cond (Nat.beq pc 92) (some (.ireturn)) none)))))))
theorem tb_i85 : tb_okI 6 prog_9_method_34_code tb_f85 := tb_okI_of 93 tb_cut_out (by decide +kernel)
theorem tb_p85 : tb_okP tb_cl tb_WA "VaultDevicesModel" false tb_FL 6 tb_f85 := tb_okP_of 93 tb_cut_out (by decide +kernel)
/-- VaultDevicesModel.change(II)I -/
def tb_f86 : Nat → Option Instr := tb_cut 77 (fun pc => cond (Nat.blt pc 45) (cond (Nat.blt pc 23) (cond (Nat.blt pc 12) (cond (Nat.blt pc 5) (cond (Nat.blt pc 1) (cond (Nat.beq pc 0) (some (.aload_n 0)) none) (cond (Nat.blt pc 2) (cond (Nat.beq pc 1) (some (.iload_n 1)) none) (cond (Nat.beq pc 2) (some (.invokestatic 158)) none))) (cond (Nat.blt pc 8) (cond (Nat.beq pc 5) (some (.ifCond .eq 17)) none) (cond (Nat.blt pc 9) (cond (Nat.beq pc 8) (some (.iload_n 2)) none) (cond (Nat.beq pc 9) (some (.ifCond .lt 13)) none)))) (cond (Nat.blt pc 18) (cond (Nat.blt pc 13) (cond (Nat.beq pc 12) (some (.iload_n 2)) none) (cond (Nat.blt pc 15) (cond (Nat.beq pc 13) (some (.bipush 7)) none) (cond (Nat.beq pc 15) (some (.if_icmp .gt 7)) none))) (cond (Nat.blt pc 19) (cond (Nat.beq pc 18) (some (.iconst 1)) none) (cond (Nat.blt pc 22) (cond (Nat.beq pc 19) (some (.goto 4)) none) (cond (Nat.beq pc 22) (some (.iconst 0)) none))))) (cond (Nat.blt pc 33) (cond (Nat.blt pc 30) (cond (Nat.blt pc 24) (cond (Nat.beq pc 23) (some (.iload_n 1)) none) (cond (Nat.blt pc 27) (cond (Nat.beq pc 24) (some (.invokevirtual 161)) none) (cond (Nat.beq pc 27) (some (.ifCond .ne 5)) none))) (cond (Nat.blt pc 31) (cond (Nat.beq pc 30) (some (.iconst 0)) none) (cond (Nat.blt pc 32) (cond (Nat.beq pc 31) (some (.ireturn)) none) (cond (Nat.beq pc 32) (some (.aload_n 0)) none)))) (cond (Nat.blt pc 38) (cond (Nat.blt pc 36) (cond (Nat.beq pc 33) (some (.getfield 26)) none) (cond (Nat.blt pc 37) (cond (Nat.beq pc 36) (some (.iload_n 1)) none) (cond (Nat.beq pc 37) (some (.iaload)) none))) (cond (Nat.blt pc 40) (cond (Nat.beq pc 38) (some (.bipush 30)) none) (cond (Nat.blt pc 43) (cond (Nat.beq pc 40) (some (.if_icmp .ne 6)) none) (cond (Nat.beq pc 43) (some (.bipush (-2))) none)))))) (cond (Nat.blt pc 61) (cond (Nat.blt pc 53) (cond (Nat.blt pc 50) (cond (Nat.blt pc 46) (cond (Nat.beq pc 45) (some (.ireturn)) none) (cond (Nat.blt pc 47) (cond (Nat.beq pc 46) (some (.aload_n 0)) none) (cond (Nat.beq pc 47) (some (.getfield 26)) none))) (cond (Nat.blt pc 51) (cond (Nat.beq pc 50) (some (.iload_n 1)) none) (cond (Nat.blt pc 52) (cond (Nat.beq pc 51) (some (.dup2)) none) (cond (Nat.beq pc 52) (some (.iaload)) none)))) (cond (Nat.blt pc 56) (cond (Nat.blt pc 54) (cond (Nat.beq pc 53) (some (.iconst 1)) none) (cond (Nat.blt pc 55) (cond (Nat.beq pc 54) (some (.iadd)) none) (cond (Nat.beq pc 55) (some (.iastore)) none))) (cond (Nat.blt pc 57) (cond (Nat.beq pc 56) (some (.aload_n 0)) none) (cond (Nat.blt pc 60) (cond (Nat.beq pc 57) (some (.getfield 29)) none) (cond (Nat.beq pc 60) (some (.iload_n 1)) none))))) (cond (Nat.blt pc 69) (cond (Nat.blt pc 64) (cond (Nat.blt pc 62) (cond (Nat.beq pc 61) (some (.iload_n 1)) none) (cond (Nat.blt pc 63) (cond (Nat.beq pc 62) (some (.iastore)) none) (cond (Nat.beq pc 63) (some (.aload_n 0)) none))) (cond (Nat.blt pc 67) (cond (Nat.beq pc 64) (some (.getfield 32)) none) (cond (Nat.blt pc 68) (cond (Nat.beq pc 67) (some (.iload_n 1)) none) (cond (Nat.beq pc 68) (some (.iload_n 2)) none)))) (cond (Nat.blt pc 74) (cond (Nat.blt pc 70) (cond (Nat.beq pc 69) (some (.iastore)) none) (cond (Nat.blt pc 71) (cond (Nat.beq pc 70) (some (.aload_n 0)) none) (cond (Nat.beq pc 71) (some (.getfield 26)) none))) (cond (Nat.blt pc 75) (cond (Nat.beq pc 74) (some (.iload_n 1)) none) (cond (Nat.blt pc 76) (cond (Nat.beq pc 75) (some (.iaload)) none) (cond (Nat.beq pc 76) (some (.ireturn)) none)))))))
theorem tb_i86 : tb_okI 3 prog_9_method_35_code tb_f86 := tb_okI_of 77 tb_cut_out (by decide +kernel)
theorem tb_p86 : tb_okP tb_cl tb_WA "VaultDevicesModel" false tb_FL 6 tb_f86 := tb_okP_of 77 tb_cut_out (by decide +kernel)
/-- VaultDevicesModel.pull(I)Z -/
def tb_f87 : Nat → Option Instr := tb_cut 25 (fun pc => cond (Nat.blt pc 14) (cond (Nat.blt pc 6) (cond (Nat.blt pc 2) (cond (Nat.blt pc 1) (cond (Nat.beq pc 0) (some (.aload_n 0)) none) (cond (Nat.beq pc 1) (some (.iload_n 1)) none)) (cond (Nat.blt pc 5) (cond (Nat.beq pc 2) (some (.invokestatic 158)) none) (cond (Nat.beq pc 5) (some (.iload_n 1)) none))) (cond (Nat.blt pc 12) (cond (Nat.blt pc 9) (cond (Nat.beq pc 6) (some (.invokevirtual 161)) none) (cond (Nat.beq pc 9) (some (.ifCond .ne 5)) none)) (cond (Nat.blt pc 13) (cond (Nat.beq pc 12) (some (.iconst 0)) none) (cond (Nat.beq pc 13) (some (.ireturn)) none)))) (cond (Nat.blt pc 18) (cond (Nat.blt pc 16) (cond (Nat.blt pc 15) (cond (Nat.beq pc 14) (some (.aload_n 0)) none) (cond (Nat.beq pc 15) (some (.iconst 0)) none)) (cond (Nat.blt pc 17) (cond (Nat.beq pc 16) (some (.iload_n 1)) none) (cond (Nat.beq pc 17) (some (.iconst (-1))) none))) (cond (Nat.blt pc 22) (cond (Nat.blt pc 19) (cond (Nat.beq pc 18) (some (.iconst (-1))) none) (cond (Nat.beq pc 19) (some (.invokevirtual 169)) none)) (cond (Nat.blt pc 23) (cond (Nat.beq pc 22) (some (.istore_n 2)) none) (cond (Nat.blt pc 24) (cond (Nat.beq pc 23) (some (.iconst 1)) none) (cond (Nat.beq pc 24) (some (.ireturn)) none))))))
theorem tb_i87 : tb_okI 3 prog_9_method_36_code tb_f87 := tb_okI_of 25 tb_cut_out (by decide +kernel)
theorem tb_p87 : tb_okP tb_cl tb_WA "VaultDevicesModel" false tb_FL 6 tb_f87 := tb_okP_of 25 tb_cut_out (by decide +kernel)
/-- VaultDevicesModel.send(IIII)Z -/
def tb_f88 : Nat → Option Instr := tb_cut 88 (fun pc => cond (Nat.blt pc 45) (cond (Nat.blt pc 23) (cond (Nat.blt pc 10) (cond (Nat.blt pc 5) (cond (Nat.blt pc 1) (cond (Nat.beq pc 0) (some (.iload_n 3)) none) (cond (Nat.blt pc 4) (cond (Nat.beq pc 1) (some (.ifCond .lt 10)) none) (cond (Nat.beq pc 4) (some (.aload_n 0)) none))) (cond (Nat.blt pc 8) (cond (Nat.beq pc 5) (some (.getfield 19)) none) (cond (Nat.blt pc 9) (cond (Nat.beq pc 8) (some (.iload_n 3)) none) (cond (Nat.beq pc 9) (some (.iconst 1)) none)))) (cond (Nat.blt pc 16) (cond (Nat.blt pc 11) (cond (Nat.beq pc 10) (some (.bastore)) none) (cond (Nat.blt pc 13) (cond (Nat.beq pc 11) (some (.iload 4)) none) (cond (Nat.beq pc 13) (some (.ifCond .lt 11)) none))) (cond (Nat.blt pc 20) (cond (Nat.blt pc 17) (cond (Nat.beq pc 16) (some (.aload_n 0)) none) (cond (Nat.beq pc 17) (some (.getfield 19)) none)) (cond (Nat.blt pc 22) (cond (Nat.beq pc 20) (some (.iload 4)) none) (cond (Nat.beq pc 22) (some (.iconst 1)) none))))) (cond (Nat.blt pc 34) (cond (Nat.blt pc 28) (cond (Nat.blt pc 24) (cond (Nat.beq pc 23) (some (.bastore)) none) (cond (Nat.blt pc 25) (cond (Nat.beq pc 24) (some (.aload_n 0)) none) (cond (Nat.beq pc 25) (some (.getfield 145)) none))) (cond (Nat.blt pc 30) (cond (Nat.beq pc 28) (some (.bipush 12)) none) (cond (Nat.blt pc 33) (cond (Nat.beq pc 30) (some (.if_icmp .ne 5)) none) (cond (Nat.beq pc 33) (some (.iconst 0)) none)))) (cond (Nat.blt pc 39) (cond (Nat.blt pc 35) (cond (Nat.beq pc 34) (some (.ireturn)) none) (cond (Nat.blt pc 36) (cond (Nat.beq pc 35) (some (.aload_n 0)) none) (cond (Nat.beq pc 36) (some (.getfield 62)) none))) (cond (Nat.blt pc 43) (cond (Nat.blt pc 40) (cond (Nat.beq pc 39) (some (.aload_n 0)) none) (cond (Nat.beq pc 40) (some (.getfield 145)) none)) (cond (Nat.blt pc 44) (cond (Nat.beq pc 43) (some (.iload_n 1)) none) (cond (Nat.beq pc 44) (some (.iastore)) none)))))) (cond (Nat.blt pc 66) (cond (Nat.blt pc 55) (cond (Nat.blt pc 50) (cond (Nat.blt pc 46) (cond (Nat.beq pc 45) (some (.aload_n 0)) none) (cond (Nat.blt pc 49) (cond (Nat.beq pc 46) (some (.getfield 65)) none) (cond (Nat.beq pc 49) (some (.aload_n 0)) none))) (cond (Nat.blt pc 53) (cond (Nat.beq pc 50) (some (.getfield 145)) none) (cond (Nat.blt pc 54) (cond (Nat.beq pc 53) (some (.iload_n 2)) none) (cond (Nat.beq pc 54) (some (.iastore)) none)))) (cond (Nat.blt pc 60) (cond (Nat.blt pc 56) (cond (Nat.beq pc 55) (some (.aload_n 0)) none) (cond (Nat.blt pc 59) (cond (Nat.beq pc 56) (some (.getfield 68)) none) (cond (Nat.beq pc 59) (some (.aload_n 0)) none))) (cond (Nat.blt pc 64) (cond (Nat.blt pc 63) (cond (Nat.beq pc 60) (some (.getfield 145)) none) (cond (Nat.beq pc 63) (some (.iload_n 3)) none)) (cond (Nat.blt pc 65) (cond (Nat.beq pc 64) (some (.iastore)) none) (cond (Nat.beq pc 65) (some (.aload_n 0)) none))))) (cond (Nat.blt pc 77) (cond (Nat.blt pc 73) (cond (Nat.blt pc 69) (cond (Nat.beq pc 66) (some (.getfield 71)) none) (cond (Nat.blt pc 70) (cond (Nat.beq pc 69) (some (.aload_n 0)) none) (cond (Nat.beq pc 70) (some (.getfield 145)) none))) (cond (Nat.blt pc 75) (cond (Nat.beq pc 73) (some (.iload 4)) none) (cond (Nat.blt pc 76) (cond (Nat.beq pc 75) (some (.iastore)) none) (cond (Nat.beq pc 76) (some (.aload_n 0)) none)))) (cond (Nat.blt pc 82) (cond (Nat.blt pc 78) (cond (Nat.beq pc 77) (some (.dup)) none) (cond (Nat.blt pc 81) (cond (Nat.beq pc 78) (some (.getfield 145)) none) (cond (Nat.beq pc 81) (some (.iconst 1)) none))) (cond (Nat.blt pc 86) (cond (Nat.blt pc 83) (cond (Nat.beq pc 82) (some (.iadd)) none) (cond (Nat.beq pc 83) (some (.putfield 145)) none)) (cond (Nat.blt pc 87) (cond (Nat.beq pc 86) (some (.iconst 1)) none) (cond (Nat.beq pc 87) (some (.ireturn)) none)))))))
theorem tb_i88 : tb_okI 5 prog_9_method_24_code tb_f88 := tb_okI_of 88 tb_cut_out (by decide +kernel)
theorem tb_p88 : tb_okP tb_cl tb_WA "VaultDevicesModel" false tb_FL 6 tb_f88 := tb_okP_of 88 tb_cut_out (by decide +kernel)
/-- VaultDevicesModel.push(I)I -/
def tb_f89 : Nat → Option Instr := tb_cut 40 (fun pc => cond (Nat.blt pc 21) (cond (Nat.blt pc 12) (cond (Nat.blt pc 5) (cond (Nat.blt pc 1) (cond (Nat.beq pc 0) (some (.aload_n 0)) none) (cond (Nat.blt pc 2) (cond (Nat.beq pc 1) (some (.iload_n 1)) none) (cond (Nat.beq pc 2) (some (.invokestatic 158)) none))) (cond (Nat.blt pc 6) (cond (Nat.beq pc 5) (some (.iload_n 1)) none) (cond (Nat.blt pc 9) (cond (Nat.beq pc 6) (some (.invokevirtual 161)) none) (cond (Nat.beq pc 9) (some (.ifCond .ne 5)) none)))) (cond (Nat.blt pc 15) (cond (Nat.blt pc 13) (cond (Nat.beq pc 12) (some (.iconst 0)) none) (cond (Nat.blt pc 14) (cond (Nat.beq pc 13) (some (.ireturn)) none) (cond (Nat.beq pc 14) (some (.aload_n 0)) none))) (cond (Nat.blt pc 19) (cond (Nat.blt pc 16) (cond (Nat.beq pc 15) (some (.iload_n 1)) none) (cond (Nat.beq pc 16) (some (.invokevirtual 179)) none)) (cond (Nat.blt pc 20) (cond (Nat.beq pc 19) (some (.istore_n 2)) none) (cond (Nat.beq pc 20) (some (.iload_n 2)) none))))) (cond (Nat.blt pc 31) (cond (Nat.blt pc 26) (cond (Nat.blt pc 24) (cond (Nat.beq pc 21) (some (.ifCond .lt 17)) none) (cond (Nat.blt pc 25) (cond (Nat.beq pc 24) (some (.aload_n 0)) none) (cond (Nat.beq pc 25) (some (.iconst 1)) none))) (cond (Nat.blt pc 27) (cond (Nat.beq pc 26) (some (.iload_n 1)) none) (cond (Nat.blt pc 28) (cond (Nat.beq pc 27) (some (.aload_n 0)) none) (cond (Nat.beq pc 28) (some (.getfield 59)) none)))) (cond (Nat.blt pc 34) (cond (Nat.blt pc 32) (cond (Nat.beq pc 31) (some (.iload_n 1)) none) (cond (Nat.blt pc 33) (cond (Nat.beq pc 32) (some (.iaload)) none) (cond (Nat.beq pc 33) (some (.iload_n 2)) none))) (cond (Nat.blt pc 38) (cond (Nat.blt pc 37) (cond (Nat.beq pc 34) (some (.invokevirtual 169)) none) (cond (Nat.beq pc 37) (some (.istore_n 3)) none)) (cond (Nat.blt pc 39) (cond (Nat.beq pc 38) (some (.iload_n 2)) none) (cond (Nat.beq pc 39) (some (.ireturn)) none))))))
theorem tb_i89 : tb_okI 4 prog_9_method_38_code tb_f89 := tb_okI_of 40 tb_cut_out (by decide +kernel)
theorem tb_p89 : tb_okP tb_cl tb_WA "VaultDevicesModel" false tb_FL 6 tb_f89 := tb_okP_of 40 tb_cut_out (by decide +kernel)
/-- VaultDevicesModel.seal(I)I -/
def tb_f90 : Nat → Option Instr := tb_cut 18 (fun pc => cond (Nat.blt pc 10) (cond (Nat.blt pc 5) (cond (Nat.blt pc 1) (cond (Nat.beq pc 0) (some (.aload_n 0)) none) (cond (Nat.blt pc 4) (cond (Nat.beq pc 1) (some (.getfield 81)) none) (cond (Nat.beq pc 4) (some (.istore_n 2)) none))) (cond (Nat.blt pc 6) (cond (Nat.beq pc 5) (some (.aload_n 0)) none) (cond (Nat.blt pc 7) (cond (Nat.beq pc 6) (some (.iload_n 1)) none) (cond (Nat.beq pc 7) (some (.invokevirtual 173)) none)))) (cond (Nat.blt pc 13) (cond (Nat.blt pc 11) (cond (Nat.beq pc 10) (some (.istore_n 3)) none) (cond (Nat.blt pc 12) (cond (Nat.beq pc 11) (some (.aload_n 0)) none) (cond (Nat.beq pc 12) (some (.iload_n 2)) none))) (cond (Nat.blt pc 14) (cond (Nat.beq pc 13) (some (.iload_n 3)) none) (cond (Nat.blt pc 17) (cond (Nat.beq pc 14) (some (.invokevirtual 176)) none) (cond (Nat.beq pc 17) (some (.ireturn)) none)))))
theorem tb_i90 : tb_okI 4 prog_9_method_37_code tb_f90 := tb_okI_of 18 tb_cut_out (by decide +kernel)
theorem tb_p90 : tb_okP tb_cl tb_WA "VaultDevicesModel" false tb_FL 6 tb_f90 := tb_okP_of 18 tb_cut_out (by decide +kernel)
/-- VaultDevicesModel.makeSeal(I)I -/
def tb_f91 : Nat → Option Instr := tb_cut 313 (fun pc => cond (Nat.blt pc 145) (cond (Nat.blt pc 73) (cond (Nat.blt pc 33) (cond (Nat.blt pc 15) (cond (Nat.blt pc 7) (cond (Nat.blt pc 2) (cond (Nat.blt pc 1) (cond (Nat.beq pc 0) (some (.aload_n 0)) none) (cond (Nat.beq pc 1) (some (.iconst 1)) none)) (cond (Nat.blt pc 3) (cond (Nat.beq pc 2) (some (.aload_n 0)) none) (cond (Nat.blt pc 6) (cond (Nat.beq pc 3) (some (.getfield 26)) none) (cond (Nat.beq pc 6) (some (.iload_n 1)) none)))) (cond (Nat.blt pc 12) (cond (Nat.blt pc 8) (cond (Nat.beq pc 7) (some (.iaload)) none) (cond (Nat.blt pc 9) (cond (Nat.beq pc 8) (some (.iconst (-1))) none) (cond (Nat.beq pc 9) (some (.invokevirtual 92)) none))) (cond (Nat.blt pc 13) (cond (Nat.beq pc 12) (some (.istore_n 2)) none) (cond (Nat.blt pc 14) (cond (Nat.beq pc 13) (some (.aload_n 0)) none) (cond (Nat.beq pc 14) (some (.iconst 1)) none))))) (cond (Nat.blt pc 25) (cond (Nat.blt pc 20) (cond (Nat.blt pc 16) (cond (Nat.beq pc 15) (some (.aload_n 0)) none) (cond (Nat.blt pc 19) (cond (Nat.beq pc 16) (some (.getfield 29)) none) (cond (Nat.beq pc 19) (some (.iload_n 1)) none))) (cond (Nat.blt pc 21) (cond (Nat.beq pc 20) (some (.iaload)) none) (cond (Nat.blt pc 22) (cond (Nat.beq pc 21) (some (.iconst (-1))) none) (cond (Nat.beq pc 22) (some (.invokevirtual 92)) none)))) (cond (Nat.blt pc 28) (cond (Nat.blt pc 26) (cond (Nat.beq pc 25) (some (.istore_n 3)) none) (cond (Nat.blt pc 27) (cond (Nat.beq pc 26) (some (.aload_n 0)) none) (cond (Nat.beq pc 27) (some (.iconst 0)) none))) (cond (Nat.blt pc 29) (cond (Nat.beq pc 28) (some (.aload_n 0)) none) (cond (Nat.blt pc 32) (cond (Nat.beq pc 29) (some (.getfield 32)) none) (cond (Nat.beq pc 32) (some (.iload_n 1)) none)))))) (cond (Nat.blt pc 52) (cond (Nat.blt pc 42) (cond (Nat.blt pc 38) (cond (Nat.blt pc 34) (cond (Nat.beq pc 33) (some (.iaload)) none) (cond (Nat.blt pc 35) (cond (Nat.beq pc 34) (some (.iconst (-1))) none) (cond (Nat.beq pc 35) (some (.invokevirtual 92)) none))) (cond (Nat.blt pc 40) (cond (Nat.beq pc 38) (some (.istore 4)) none) (cond (Nat.blt pc 41) (cond (Nat.beq pc 40) (some (.aload_n 0)) none) (cond (Nat.beq pc 41) (some (.iconst 0)) none)))) (cond (Nat.blt pc 48) (cond (Nat.blt pc 44) (cond (Nat.beq pc 42) (some (.bipush 8)) none) (cond (Nat.blt pc 45) (cond (Nat.beq pc 44) (some (.iconst (-1))) none) (cond (Nat.beq pc 45) (some (.invokevirtual 92)) none))) (cond (Nat.blt pc 50) (cond (Nat.beq pc 48) (some (.istore 5)) none) (cond (Nat.blt pc 51) (cond (Nat.beq pc 50) (some (.aload_n 0)) none) (cond (Nat.beq pc 51) (some (.iconst 2)) none))))) (cond (Nat.blt pc 63) (cond (Nat.blt pc 59) (cond (Nat.blt pc 54) (cond (Nat.beq pc 52) (some (.iload 4)) none) (cond (Nat.blt pc 56) (cond (Nat.beq pc 54) (some (.iload 5)) none) (cond (Nat.beq pc 56) (some (.invokevirtual 92)) none))) (cond (Nat.blt pc 61) (cond (Nat.beq pc 59) (some (.istore 6)) none) (cond (Nat.blt pc 62) (cond (Nat.beq pc 61) (some (.aload_n 0)) none) (cond (Nat.beq pc 62) (some (.iconst 0)) none)))) (cond (Nat.blt pc 69) (cond (Nat.blt pc 65) (cond (Nat.beq pc 63) (some (.bipush 9)) none) (cond (Nat.blt pc 66) (cond (Nat.beq pc 65) (some (.iconst (-1))) none) (cond (Nat.beq pc 66) (some (.invokevirtual 92)) none))) (cond (Nat.blt pc 71) (cond (Nat.beq pc 69) (some (.istore 7)) none) (cond (Nat.blt pc 72) (cond (Nat.beq pc 71) (some (.aload_n 0)) none) (cond (Nat.beq pc 72) (some (.iconst 3)) none))))))) (cond (Nat.blt pc 109) (cond (Nat.blt pc 92) (cond (Nat.blt pc 84) (cond (Nat.blt pc 80) (cond (Nat.blt pc 75) (cond (Nat.beq pc 73) (some (.iload 6)) none) (cond (Nat.blt pc 77) (cond (Nat.beq pc 75) (some (.iload 7)) none) (cond (Nat.beq pc 77) (some (.invokevirtual 92)) none))) (cond (Nat.blt pc 82) (cond (Nat.beq pc 80) (some (.istore 8)) none) (cond (Nat.blt pc 83) (cond (Nat.beq pc 82) (some (.aload_n 0)) none) (cond (Nat.beq pc 83) (some (.iconst 1)) none)))) (cond (Nat.blt pc 89) (cond (Nat.blt pc 85) (cond (Nat.beq pc 84) (some (.aload_n 0)) none) (cond (Nat.blt pc 88) (cond (Nat.beq pc 85) (some (.getfield 35)) none) (cond (Nat.beq pc 88) (some (.iconst 3)) none))) (cond (Nat.blt pc 90) (cond (Nat.beq pc 89) (some (.iload_n 1)) none) (cond (Nat.blt pc 91) (cond (Nat.beq pc 90) (some (.imul)) none) (cond (Nat.beq pc 91) (some (.iaload)) none))))) (cond (Nat.blt pc 101) (cond (Nat.blt pc 98) (cond (Nat.blt pc 93) (cond (Nat.beq pc 92) (some (.iconst (-1))) none) (cond (Nat.blt pc 96) (cond (Nat.beq pc 93) (some (.invokevirtual 92)) none) (cond (Nat.beq pc 96) (some (.istore 9)) none))) (cond (Nat.blt pc 99) (cond (Nat.beq pc 98) (some (.aload_n 0)) none) (cond (Nat.blt pc 100) (cond (Nat.beq pc 99) (some (.iconst 1)) none) (cond (Nat.beq pc 100) (some (.aload_n 0)) none)))) (cond (Nat.blt pc 106) (cond (Nat.blt pc 104) (cond (Nat.beq pc 101) (some (.getfield 35)) none) (cond (Nat.blt pc 105) (cond (Nat.beq pc 104) (some (.iconst 3)) none) (cond (Nat.beq pc 105) (some (.iload_n 1)) none))) (cond (Nat.blt pc 107) (cond (Nat.beq pc 106) (some (.imul)) none) (cond (Nat.blt pc 108) (cond (Nat.beq pc 107) (some (.iconst 1)) none) (cond (Nat.beq pc 108) (some (.iadd)) none)))))) (cond (Nat.blt pc 126) (cond (Nat.blt pc 118) (cond (Nat.blt pc 114) (cond (Nat.blt pc 110) (cond (Nat.beq pc 109) (some (.iaload)) none) (cond (Nat.blt pc 111) (cond (Nat.beq pc 110) (some (.iconst (-1))) none) (cond (Nat.beq pc 111) (some (.invokevirtual 92)) none))) (cond (Nat.blt pc 116) (cond (Nat.beq pc 114) (some (.istore 10)) none) (cond (Nat.blt pc 117) (cond (Nat.beq pc 116) (some (.aload_n 0)) none) (cond (Nat.beq pc 117) (some (.iconst 1)) none)))) (cond (Nat.blt pc 123) (cond (Nat.blt pc 119) (cond (Nat.beq pc 118) (some (.aload_n 0)) none) (cond (Nat.blt pc 122) (cond (Nat.beq pc 119) (some (.getfield 35)) none) (cond (Nat.beq pc 122) (some (.iconst 3)) none))) (cond (Nat.blt pc 124) (cond (Nat.beq pc 123) (some (.iload_n 1)) none) (cond (Nat.blt pc 125) (cond (Nat.beq pc 124) (some (.imul)) none) (cond (Nat.beq pc 125) (some (.iconst 2)) none))))) (cond (Nat.blt pc 136) (cond (Nat.blt pc 129) (cond (Nat.blt pc 127) (cond (Nat.beq pc 126) (some (.iadd)) none) (cond (Nat.blt pc 128) (cond (Nat.beq pc 127) (some (.iaload)) none) (cond (Nat.beq pc 128) (some (.iconst (-1))) none))) (cond (Nat.blt pc 132) (cond (Nat.beq pc 129) (some (.invokevirtual 92)) none) (cond (Nat.blt pc 134) (cond (Nat.beq pc 132) (some (.istore 11)) none) (cond (Nat.beq pc 134) (some (.bipush 12)) none)))) (cond (Nat.blt pc 140) (cond (Nat.blt pc 137) (cond (Nat.beq pc 136) (some (.iload_n 1)) none) (cond (Nat.blt pc 138) (cond (Nat.beq pc 137) (some (.imul)) none) (cond (Nat.beq pc 138) (some (.istore 12)) none))) (cond (Nat.blt pc 142) (cond (Nat.beq pc 140) (some (.iload 12)) none) (cond (Nat.blt pc 144) (cond (Nat.beq pc 142) (some (.bipush 12)) none) (cond (Nat.beq pc 144) (some (.iload_n 1)) none)))))))) (cond (Nat.blt pc 228) (cond (Nat.blt pc 184) (cond (Nat.blt pc 164) (cond (Nat.blt pc 152) (cond (Nat.blt pc 147) (cond (Nat.blt pc 146) (cond (Nat.beq pc 145) (some (.imul)) none) (cond (Nat.beq pc 146) (some (.aload_n 0)) none)) (cond (Nat.blt pc 150) (cond (Nat.beq pc 147) (some (.getfield 38)) none) (cond (Nat.blt pc 151) (cond (Nat.beq pc 150) (some (.iload_n 1)) none) (cond (Nat.beq pc 151) (some (.iaload)) none)))) (cond (Nat.blt pc 157) (cond (Nat.blt pc 153) (cond (Nat.beq pc 152) (some (.iadd)) none) (cond (Nat.blt pc 156) (cond (Nat.beq pc 153) (some (.if_icmp .ge 17)) none) (cond (Nat.beq pc 156) (some (.aload_n 0)) none))) (cond (Nat.blt pc 159) (cond (Nat.beq pc 157) (some (.iload 12)) none) (cond (Nat.blt pc 162) (cond (Nat.beq pc 159) (some (.invokevirtual 95)) none) (cond (Nat.beq pc 162) (some (.istore 13)) none))))) (cond (Nat.blt pc 174) (cond (Nat.blt pc 171) (cond (Nat.blt pc 167) (cond (Nat.beq pc 164) (some (.iinc 12 1)) none) (cond (Nat.blt pc 170) (cond (Nat.beq pc 167) (some (.goto (-27))) none) (cond (Nat.beq pc 170) (some (.aload_n 0)) none))) (cond (Nat.blt pc 172) (cond (Nat.beq pc 171) (some (.iconst 1)) none) (cond (Nat.blt pc 173) (cond (Nat.beq pc 172) (some (.iconst 0)) none) (cond (Nat.beq pc 173) (some (.iconst (-1))) none)))) (cond (Nat.blt pc 181) (cond (Nat.blt pc 177) (cond (Nat.beq pc 174) (some (.invokevirtual 92)) none) (cond (Nat.blt pc 179) (cond (Nat.beq pc 177) (some (.istore 12)) none) (cond (Nat.beq pc 179) (some (.bipush 12)) none))) (cond (Nat.blt pc 182) (cond (Nat.beq pc 181) (some (.iload_n 1)) none) (cond (Nat.blt pc 183) (cond (Nat.beq pc 182) (some (.imul)) none) (cond (Nat.beq pc 183) (some (.aload_n 0)) none)))))) (cond (Nat.blt pc 203) (cond (Nat.blt pc 192) (cond (Nat.blt pc 189) (cond (Nat.blt pc 187) (cond (Nat.beq pc 184) (some (.getfield 38)) none) (cond (Nat.blt pc 188) (cond (Nat.beq pc 187) (some (.iload_n 1)) none) (cond (Nat.beq pc 188) (some (.iaload)) none))) (cond (Nat.blt pc 190) (cond (Nat.beq pc 189) (some (.iadd)) none) (cond (Nat.blt pc 191) (cond (Nat.beq pc 190) (some (.iconst 1)) none) (cond (Nat.beq pc 191) (some (.isub)) none)))) (cond (Nat.blt pc 198) (cond (Nat.blt pc 194) (cond (Nat.beq pc 192) (some (.istore 13)) none) (cond (Nat.blt pc 196) (cond (Nat.beq pc 194) (some (.iload 13)) none) (cond (Nat.beq pc 196) (some (.bipush 12)) none))) (cond (Nat.blt pc 199) (cond (Nat.beq pc 198) (some (.iload_n 1)) none) (cond (Nat.blt pc 200) (cond (Nat.beq pc 199) (some (.imul)) none) (cond (Nat.beq pc 200) (some (.if_icmp .lt 28)) none))))) (cond (Nat.blt pc 213) (cond (Nat.blt pc 209) (cond (Nat.blt pc 204) (cond (Nat.beq pc 203) (some (.aload_n 0)) none) (cond (Nat.blt pc 206) (cond (Nat.beq pc 204) (some (.iload 13)) none) (cond (Nat.beq pc 206) (some (.invokevirtual 95)) none))) (cond (Nat.blt pc 211) (cond (Nat.beq pc 209) (some (.istore 14)) none) (cond (Nat.blt pc 212) (cond (Nat.beq pc 211) (some (.aload_n 0)) none) (cond (Nat.beq pc 212) (some (.iconst 4)) none)))) (cond (Nat.blt pc 220) (cond (Nat.blt pc 215) (cond (Nat.beq pc 213) (some (.iload 14)) none) (cond (Nat.blt pc 217) (cond (Nat.beq pc 215) (some (.iload 12)) none) (cond (Nat.beq pc 217) (some (.invokevirtual 92)) none))) (cond (Nat.blt pc 222) (cond (Nat.beq pc 220) (some (.istore 12)) none) (cond (Nat.blt pc 225) (cond (Nat.beq pc 222) (some (.iinc 13 (-1))) none) (cond (Nat.beq pc 225) (some (.goto (-31))) none))))))) (cond (Nat.blt pc 272) (cond (Nat.blt pc 250) (cond (Nat.blt pc 239) (cond (Nat.blt pc 232) (cond (Nat.blt pc 229) (cond (Nat.beq pc 228) (some (.aload_n 0)) none) (cond (Nat.blt pc 230) (cond (Nat.beq pc 229) (some (.iconst 4)) none) (cond (Nat.beq pc 230) (some (.iload 11)) none))) (cond (Nat.blt pc 234) (cond (Nat.beq pc 232) (some (.iload 12)) none) (cond (Nat.blt pc 237) (cond (Nat.beq pc 234) (some (.invokevirtual 92)) none) (cond (Nat.beq pc 237) (some (.istore 12)) none)))) (cond (Nat.blt pc 243) (cond (Nat.blt pc 240) (cond (Nat.beq pc 239) (some (.aload_n 0)) none) (cond (Nat.blt pc 241) (cond (Nat.beq pc 240) (some (.iconst 4)) none) (cond (Nat.beq pc 241) (some (.iload 10)) none))) (cond (Nat.blt pc 245) (cond (Nat.beq pc 243) (some (.iload 12)) none) (cond (Nat.blt pc 248) (cond (Nat.beq pc 245) (some (.invokevirtual 92)) none) (cond (Nat.beq pc 248) (some (.istore 12)) none))))) (cond (Nat.blt pc 261) (cond (Nat.blt pc 254) (cond (Nat.blt pc 251) (cond (Nat.beq pc 250) (some (.aload_n 0)) none) (cond (Nat.blt pc 252) (cond (Nat.beq pc 251) (some (.iconst 4)) none) (cond (Nat.beq pc 252) (some (.iload 9)) none))) (cond (Nat.blt pc 256) (cond (Nat.beq pc 254) (some (.iload 12)) none) (cond (Nat.blt pc 259) (cond (Nat.beq pc 256) (some (.invokevirtual 92)) none) (cond (Nat.beq pc 259) (some (.istore 12)) none)))) (cond (Nat.blt pc 265) (cond (Nat.blt pc 262) (cond (Nat.beq pc 261) (some (.aload_n 0)) none) (cond (Nat.blt pc 263) (cond (Nat.beq pc 262) (some (.iconst 4)) none) (cond (Nat.beq pc 263) (some (.iload 8)) none))) (cond (Nat.blt pc 267) (cond (Nat.beq pc 265) (some (.iload 12)) none) (cond (Nat.blt pc 270) (cond (Nat.beq pc 267) (some (.invokevirtual 92)) none) (cond (Nat.beq pc 270) (some (.istore 12)) none)))))) (cond (Nat.blt pc 292) (cond (Nat.blt pc 282) (cond (Nat.blt pc 275) (cond (Nat.blt pc 273) (cond (Nat.beq pc 272) (some (.aload_n 0)) none) (cond (Nat.blt pc 274) (cond (Nat.beq pc 273) (some (.iconst 4)) none) (cond (Nat.beq pc 274) (some (.iload_n 3)) none))) (cond (Nat.blt pc 277) (cond (Nat.beq pc 275) (some (.iload 12)) none) (cond (Nat.blt pc 280) (cond (Nat.beq pc 277) (some (.invokevirtual 92)) none) (cond (Nat.beq pc 280) (some (.istore 12)) none)))) (cond (Nat.blt pc 285) (cond (Nat.blt pc 283) (cond (Nat.beq pc 282) (some (.aload_n 0)) none) (cond (Nat.blt pc 284) (cond (Nat.beq pc 283) (some (.iconst 4)) none) (cond (Nat.beq pc 284) (some (.iload_n 2)) none))) (cond (Nat.blt pc 287) (cond (Nat.beq pc 285) (some (.iload 12)) none) (cond (Nat.blt pc 290) (cond (Nat.beq pc 287) (some (.invokevirtual 92)) none) (cond (Nat.beq pc 290) (some (.istore 12)) none))))) (cond (Nat.blt pc 303) (cond (Nat.blt pc 296) (cond (Nat.blt pc 293) (cond (Nat.beq pc 292) (some (.aload_n 0)) none) (cond (Nat.blt pc 294) (cond (Nat.beq pc 293) (some (.iconst 5)) none) (cond (Nat.beq pc 294) (some (.iload 7)) none))) (cond (Nat.blt pc 298) (cond (Nat.beq pc 296) (some (.iload 12)) none) (cond (Nat.blt pc 301) (cond (Nat.beq pc 298) (some (.invokevirtual 92)) none) (cond (Nat.beq pc 301) (some (.istore 13)) none)))) (cond (Nat.blt pc 307) (cond (Nat.blt pc 304) (cond (Nat.beq pc 303) (some (.aload_n 0)) none) (cond (Nat.blt pc 305) (cond (Nat.beq pc 304) (some (.iconst 4)) none) (cond (Nat.beq pc 305) (some (.iload 12)) none))) (cond (Nat.blt pc 309) (cond (Nat.beq pc 307) (some (.iload 13)) none) (cond (Nat.blt pc 312) (cond (Nat.beq pc 309) (some (.invokevirtual 92)) none) (cond (Nat.beq pc 312) (some (.ireturn)) none)))))))))
theorem tb_i91 : tb_okI 15 prog_9_method_8_code tb_f91 := tb_okI_of 313 tb_cut_out (by decide +kernel)
theorem tb_p91 : tb_okP tb_cl tb_WA "VaultDevicesModel" false tb_FL 6 tb_f91 := tb_okP_of 313 tb_cut_out (by decide +kernel)
/-- VaultDevicesModel.make(III)I -/
def tb_f92 : Nat → Option Instr := tb_cut 98 (fun pc => cond (Nat.blt pc 51) (cond (Nat.blt pc 25) (cond (Nat.blt pc 11) (cond (Nat.blt pc 3) (cond (Nat.blt pc 1) (cond (Nat.beq pc 0) (some (.aload_n 0)) none) (cond (Nat.blt pc 2) (cond (Nat.beq pc 1) (some (.iload_n 1)) none) (cond (Nat.beq pc 2) (some (.iload_n 2)) none))) (cond (Nat.blt pc 7) (cond (Nat.blt pc 4) (cond (Nat.beq pc 3) (some (.iload_n 3)) none) (cond (Nat.beq pc 4) (some (.invokevirtual 84)) none)) (cond (Nat.blt pc 9) (cond (Nat.beq pc 7) (some (.istore 4)) none) (cond (Nat.beq pc 9) (some (.iload 4)) none)))) (cond (Nat.blt pc 18) (cond (Nat.blt pc 14) (cond (Nat.beq pc 11) (some (.ifCond .ge 10)) none) (cond (Nat.blt pc 15) (cond (Nat.beq pc 14) (some (.aload_n 0)) none) (cond (Nat.beq pc 15) (some (.getfield 88)) none))) (cond (Nat.blt pc 23) (cond (Nat.blt pc 21) (cond (Nat.beq pc 18) (some (.ifCond .eq 6)) none) (cond (Nat.beq pc 21) (some (.iload 4)) none)) (cond (Nat.blt pc 24) (cond (Nat.beq pc 23) (some (.ireturn)) none) (cond (Nat.beq pc 24) (some (.aload_n 0)) none))))) (cond (Nat.blt pc 40) (cond (Nat.blt pc 34) (cond (Nat.blt pc 28) (cond (Nat.beq pc 25) (some (.getfield 81)) none) (cond (Nat.blt pc 31) (cond (Nat.beq pc 28) (some (.sipush 900)) none) (cond (Nat.beq pc 31) (some (.if_icmp .ne 10)) none))) (cond (Nat.blt pc 36) (cond (Nat.blt pc 35) (cond (Nat.beq pc 34) (some (.aload_n 0)) none) (cond (Nat.beq pc 35) (some (.iconst 1)) none)) (cond (Nat.blt pc 39) (cond (Nat.beq pc 36) (some (.putfield 88)) none) (cond (Nat.beq pc 39) (some (.iconst (-1))) none)))) (cond (Nat.blt pc 45) (cond (Nat.blt pc 41) (cond (Nat.beq pc 40) (some (.ireturn)) none) (cond (Nat.blt pc 42) (cond (Nat.beq pc 41) (some (.aload_n 0)) none) (cond (Nat.beq pc 42) (some (.getfield 7)) none))) (cond (Nat.blt pc 49) (cond (Nat.blt pc 46) (cond (Nat.beq pc 45) (some (.aload_n 0)) none) (cond (Nat.beq pc 46) (some (.getfield 81)) none)) (cond (Nat.blt pc 50) (cond (Nat.beq pc 49) (some (.iload_n 1)) none) (cond (Nat.beq pc 50) (some (.iastore)) none)))))) (cond (Nat.blt pc 75) (cond (Nat.blt pc 62) (cond (Nat.blt pc 56) (cond (Nat.blt pc 52) (cond (Nat.beq pc 51) (some (.aload_n 0)) none) (cond (Nat.blt pc 55) (cond (Nat.beq pc 52) (some (.getfield 13)) none) (cond (Nat.beq pc 55) (some (.aload_n 0)) none))) (cond (Nat.blt pc 60) (cond (Nat.blt pc 59) (cond (Nat.beq pc 56) (some (.getfield 81)) none) (cond (Nat.beq pc 59) (some (.iload_n 2)) none)) (cond (Nat.blt pc 61) (cond (Nat.beq pc 60) (some (.iastore)) none) (cond (Nat.beq pc 61) (some (.aload_n 0)) none)))) (cond (Nat.blt pc 69) (cond (Nat.blt pc 65) (cond (Nat.beq pc 62) (some (.getfield 16)) none) (cond (Nat.blt pc 66) (cond (Nat.beq pc 65) (some (.aload_n 0)) none) (cond (Nat.beq pc 66) (some (.getfield 81)) none))) (cond (Nat.blt pc 71) (cond (Nat.blt pc 70) (cond (Nat.beq pc 69) (some (.iload_n 3)) none) (cond (Nat.beq pc 70) (some (.iastore)) none)) (cond (Nat.blt pc 72) (cond (Nat.beq pc 71) (some (.aload_n 0)) none) (cond (Nat.beq pc 72) (some (.getfield 19)) none))))) (cond (Nat.blt pc 86) (cond (Nat.blt pc 80) (cond (Nat.blt pc 76) (cond (Nat.beq pc 75) (some (.aload_n 0)) none) (cond (Nat.blt pc 79) (cond (Nat.beq pc 76) (some (.getfield 81)) none) (cond (Nat.beq pc 79) (some (.iconst 0)) none))) (cond (Nat.blt pc 82) (cond (Nat.blt pc 81) (cond (Nat.beq pc 80) (some (.bastore)) none) (cond (Nat.beq pc 81) (some (.aload_n 0)) none)) (cond (Nat.blt pc 83) (cond (Nat.beq pc 82) (some (.dup)) none) (cond (Nat.beq pc 83) (some (.getfield 81)) none)))) (cond (Nat.blt pc 92) (cond (Nat.blt pc 88) (cond (Nat.blt pc 87) (cond (Nat.beq pc 86) (some (.iconst 1)) none) (cond (Nat.beq pc 87) (some (.iadd)) none)) (cond (Nat.blt pc 91) (cond (Nat.beq pc 88) (some (.putfield 81)) none) (cond (Nat.beq pc 91) (some (.aload_n 0)) none))) (cond (Nat.blt pc 96) (cond (Nat.blt pc 95) (cond (Nat.beq pc 92) (some (.getfield 81)) none) (cond (Nat.beq pc 95) (some (.iconst 1)) none)) (cond (Nat.blt pc 97) (cond (Nat.beq pc 96) (some (.isub)) none) (cond (Nat.beq pc 97) (some (.ireturn)) none)))))))
theorem tb_i92 : tb_okI 5 prog_9_method_5_code tb_f92 := tb_okI_of 98 tb_cut_out (by decide +kernel)
theorem tb_p92 : tb_okP tb_cl tb_WA "VaultDevicesModel" false tb_FL 6 tb_f92 := tb_okP_of 98 tb_cut_out (by decide +kernel)
/-- VaultDevicesModel.look(III)I -/
def tb_f93 : Nat → Option Instr := tb_cut 56 (fun pc => cond (Nat.blt pc 29) (cond (Nat.blt pc 13) (cond (Nat.blt pc 5) (cond (Nat.blt pc 1) (cond (Nat.beq pc 0) (some (.iconst 0)) none) (cond (Nat.blt pc 3) (cond (Nat.beq pc 1) (some (.istore 4)) none) (cond (Nat.beq pc 3) (some (.iload 4)) none))) (cond (Nat.blt pc 9) (cond (Nat.blt pc 6) (cond (Nat.beq pc 5) (some (.aload_n 0)) none) (cond (Nat.beq pc 6) (some (.getfield 81)) none)) (cond (Nat.blt pc 12) (cond (Nat.beq pc 9) (some (.if_icmp .ge 45)) none) (cond (Nat.beq pc 12) (some (.aload_n 0)) none)))) (cond (Nat.blt pc 20) (cond (Nat.blt pc 18) (cond (Nat.blt pc 16) (cond (Nat.beq pc 13) (some (.getfield 7)) none) (cond (Nat.beq pc 16) (some (.iload 4)) none)) (cond (Nat.blt pc 19) (cond (Nat.beq pc 18) (some (.iaload)) none) (cond (Nat.beq pc 19) (some (.iload_n 1)) none))) (cond (Nat.blt pc 24) (cond (Nat.blt pc 23) (cond (Nat.beq pc 20) (some (.if_icmp .ne 28)) none) (cond (Nat.beq pc 23) (some (.aload_n 0)) none)) (cond (Nat.blt pc 27) (cond (Nat.beq pc 24) (some (.getfield 13)) none) (cond (Nat.beq pc 27) (some (.iload 4)) none))))) (cond (Nat.blt pc 41) (cond (Nat.blt pc 34) (cond (Nat.blt pc 30) (cond (Nat.beq pc 29) (some (.iaload)) none) (cond (Nat.blt pc 31) (cond (Nat.beq pc 30) (some (.iload_n 2)) none) (cond (Nat.beq pc 31) (some (.if_icmp .ne 17)) none))) (cond (Nat.blt pc 38) (cond (Nat.blt pc 35) (cond (Nat.beq pc 34) (some (.aload_n 0)) none) (cond (Nat.beq pc 35) (some (.getfield 16)) none)) (cond (Nat.blt pc 40) (cond (Nat.beq pc 38) (some (.iload 4)) none) (cond (Nat.beq pc 40) (some (.iaload)) none)))) (cond (Nat.blt pc 48) (cond (Nat.blt pc 45) (cond (Nat.blt pc 42) (cond (Nat.beq pc 41) (some (.iload_n 3)) none) (cond (Nat.beq pc 42) (some (.if_icmp .ne 6)) none)) (cond (Nat.blt pc 47) (cond (Nat.beq pc 45) (some (.iload 4)) none) (cond (Nat.beq pc 47) (some (.ireturn)) none))) (cond (Nat.blt pc 54) (cond (Nat.blt pc 51) (cond (Nat.beq pc 48) (some (.iinc 4 1)) none) (cond (Nat.beq pc 51) (some (.goto (-48))) none)) (cond (Nat.blt pc 55) (cond (Nat.beq pc 54) (some (.iconst (-1))) none) (cond (Nat.beq pc 55) (some (.ireturn)) none))))))
theorem tb_i93 : tb_okI 5 prog_9_method_4_code tb_f93 := tb_okI_of 56 tb_cut_out (by decide +kernel)
theorem tb_p93 : tb_okP tb_cl tb_WA "VaultDevicesModel" false tb_FL 6 tb_f93 := tb_okP_of 56 tb_cut_out (by decide +kernel)
/-- VaultDevicesModel.makeEntry(I)I -/
def tb_f94 : Nat → Option Instr := tb_cut 115 (fun pc => cond (Nat.blt pc 52) (cond (Nat.blt pc 26) (cond (Nat.blt pc 13) (cond (Nat.blt pc 6) (cond (Nat.blt pc 2) (cond (Nat.blt pc 1) (cond (Nat.beq pc 0) (some (.aload_n 0)) none) (cond (Nat.beq pc 1) (some (.iconst 1)) none)) (cond (Nat.blt pc 3) (cond (Nat.beq pc 2) (some (.aload_n 0)) none) (cond (Nat.beq pc 3) (some (.getfield 41)) none))) (cond (Nat.blt pc 8) (cond (Nat.blt pc 7) (cond (Nat.beq pc 6) (some (.iload_n 1)) none) (cond (Nat.beq pc 7) (some (.iaload)) none)) (cond (Nat.blt pc 9) (cond (Nat.beq pc 8) (some (.iconst (-1))) none) (cond (Nat.blt pc 12) (cond (Nat.beq pc 9) (some (.invokevirtual 92)) none) (cond (Nat.beq pc 12) (some (.istore_n 2)) none))))) (cond (Nat.blt pc 19) (cond (Nat.blt pc 15) (cond (Nat.blt pc 14) (cond (Nat.beq pc 13) (some (.aload_n 0)) none) (cond (Nat.beq pc 14) (some (.iconst 1)) none)) (cond (Nat.blt pc 16) (cond (Nat.beq pc 15) (some (.aload_n 0)) none) (cond (Nat.beq pc 16) (some (.getfield 47)) none))) (cond (Nat.blt pc 21) (cond (Nat.blt pc 20) (cond (Nat.beq pc 19) (some (.iload_n 1)) none) (cond (Nat.beq pc 20) (some (.iaload)) none)) (cond (Nat.blt pc 22) (cond (Nat.beq pc 21) (some (.iconst (-1))) none) (cond (Nat.blt pc 25) (cond (Nat.beq pc 22) (some (.invokevirtual 92)) none) (cond (Nat.beq pc 25) (some (.istore_n 3)) none)))))) (cond (Nat.blt pc 40) (cond (Nat.blt pc 32) (cond (Nat.blt pc 28) (cond (Nat.blt pc 27) (cond (Nat.beq pc 26) (some (.aload_n 0)) none) (cond (Nat.beq pc 27) (some (.iconst 1)) none)) (cond (Nat.blt pc 29) (cond (Nat.beq pc 28) (some (.aload_n 0)) none) (cond (Nat.beq pc 29) (some (.getfield 50)) none))) (cond (Nat.blt pc 34) (cond (Nat.blt pc 33) (cond (Nat.beq pc 32) (some (.iload_n 1)) none) (cond (Nat.beq pc 33) (some (.iaload)) none)) (cond (Nat.blt pc 35) (cond (Nat.beq pc 34) (some (.iconst (-1))) none) (cond (Nat.blt pc 38) (cond (Nat.beq pc 35) (some (.invokevirtual 92)) none) (cond (Nat.beq pc 38) (some (.istore 4)) none))))) (cond (Nat.blt pc 45) (cond (Nat.blt pc 42) (cond (Nat.blt pc 41) (cond (Nat.beq pc 40) (some (.aload_n 0)) none) (cond (Nat.beq pc 41) (some (.iconst 0)) none)) (cond (Nat.blt pc 44) (cond (Nat.beq pc 42) (some (.bipush 10)) none) (cond (Nat.beq pc 44) (some (.aload_n 0)) none))) (cond (Nat.blt pc 49) (cond (Nat.blt pc 48) (cond (Nat.beq pc 45) (some (.getfield 41)) none) (cond (Nat.beq pc 48) (some (.iload_n 1)) none)) (cond (Nat.blt pc 50) (cond (Nat.beq pc 49) (some (.iaload)) none) (cond (Nat.blt pc 51) (cond (Nat.beq pc 50) (some (.iadd)) none) (cond (Nat.beq pc 51) (some (.iconst (-1))) none))))))) (cond (Nat.blt pc 83) (cond (Nat.blt pc 67) (cond (Nat.blt pc 59) (cond (Nat.blt pc 57) (cond (Nat.blt pc 55) (cond (Nat.beq pc 52) (some (.invokevirtual 92)) none) (cond (Nat.beq pc 55) (some (.istore 5)) none)) (cond (Nat.blt pc 58) (cond (Nat.beq pc 57) (some (.aload_n 0)) none) (cond (Nat.beq pc 58) (some (.iconst 0)) none))) (cond (Nat.blt pc 62) (cond (Nat.blt pc 61) (cond (Nat.beq pc 59) (some (.bipush 100)) none) (cond (Nat.beq pc 61) (some (.aload_n 0)) none)) (cond (Nat.blt pc 65) (cond (Nat.beq pc 62) (some (.getfield 44)) none) (cond (Nat.blt pc 66) (cond (Nat.beq pc 65) (some (.iload_n 1)) none) (cond (Nat.beq pc 66) (some (.iaload)) none))))) (cond (Nat.blt pc 74) (cond (Nat.blt pc 69) (cond (Nat.blt pc 68) (cond (Nat.beq pc 67) (some (.iadd)) none) (cond (Nat.beq pc 68) (some (.iconst (-1))) none)) (cond (Nat.blt pc 72) (cond (Nat.beq pc 69) (some (.invokevirtual 92)) none) (cond (Nat.beq pc 72) (some (.istore 6)) none))) (cond (Nat.blt pc 76) (cond (Nat.blt pc 75) (cond (Nat.beq pc 74) (some (.aload_n 0)) none) (cond (Nat.beq pc 75) (some (.iconst 3)) none)) (cond (Nat.blt pc 78) (cond (Nat.beq pc 76) (some (.iload 5)) none) (cond (Nat.blt pc 80) (cond (Nat.beq pc 78) (some (.iload 6)) none) (cond (Nat.beq pc 80) (some (.invokevirtual 92)) none)))))) (cond (Nat.blt pc 98) (cond (Nat.blt pc 89) (cond (Nat.blt pc 86) (cond (Nat.blt pc 85) (cond (Nat.beq pc 83) (some (.istore 7)) none) (cond (Nat.beq pc 85) (some (.aload_n 0)) none)) (cond (Nat.blt pc 87) (cond (Nat.beq pc 86) (some (.iconst 4)) none) (cond (Nat.beq pc 87) (some (.iload 4)) none))) (cond (Nat.blt pc 94) (cond (Nat.blt pc 91) (cond (Nat.beq pc 89) (some (.iload 7)) none) (cond (Nat.beq pc 91) (some (.invokevirtual 92)) none)) (cond (Nat.blt pc 96) (cond (Nat.beq pc 94) (some (.istore 8)) none) (cond (Nat.blt pc 97) (cond (Nat.beq pc 96) (some (.aload_n 0)) none) (cond (Nat.beq pc 97) (some (.iconst 4)) none))))) (cond (Nat.blt pc 107) (cond (Nat.blt pc 101) (cond (Nat.blt pc 99) (cond (Nat.beq pc 98) (some (.iload_n 3)) none) (cond (Nat.beq pc 99) (some (.iload 8)) none)) (cond (Nat.blt pc 104) (cond (Nat.beq pc 101) (some (.invokevirtual 92)) none) (cond (Nat.blt pc 106) (cond (Nat.beq pc 104) (some (.istore 8)) none) (cond (Nat.beq pc 106) (some (.aload_n 0)) none)))) (cond (Nat.blt pc 109) (cond (Nat.blt pc 108) (cond (Nat.beq pc 107) (some (.iconst 4)) none) (cond (Nat.beq pc 108) (some (.iload_n 2)) none)) (cond (Nat.blt pc 111) (cond (Nat.beq pc 109) (some (.iload 8)) none) (cond (Nat.blt pc 114) (cond (Nat.beq pc 111) (some (.invokevirtual 92)) none) (cond (Nat.beq pc 114) (some (.ireturn)) none))))))))
theorem tb_i94 : tb_okI 9 prog_9_method_7_code tb_f94 := tb_okI_of 115 tb_cut_out (by decide +kernel)
theorem tb_p94 : tb_okP tb_cl tb_WA "VaultDevicesModel" false tb_FL 6 tb_f94 := tb_okP_of 115 tb_cut_out (by decide +kernel)
/-- VaultDevicesModel.settle(II)I -/
def tb_f95 : Nat → Option Instr := tb_cut 22 (fun pc => cond (Nat.blt pc 12) (cond (Nat.blt pc 7) (cond (Nat.blt pc 1) (cond (Nat.beq pc 0) (some (.aload_n 0)) none) (cond (Nat.blt pc 4) (cond (Nat.beq pc 1) (some (.getfield 88)) none) (cond (Nat.beq pc 4) (some (.ifCond .eq 16)) none))) (cond (Nat.blt pc 8) (cond (Nat.beq pc 7) (some (.aload_n 0)) none) (cond (Nat.blt pc 9) (cond (Nat.beq pc 8) (some (.iload_n 1)) none) (cond (Nat.beq pc 9) (some (.putfield 81)) none)))) (cond (Nat.blt pc 17) (cond (Nat.blt pc 13) (cond (Nat.beq pc 12) (some (.aload_n 0)) none) (cond (Nat.blt pc 14) (cond (Nat.beq pc 13) (some (.iconst 0)) none) (cond (Nat.beq pc 14) (some (.putfield 88)) none))) (cond (Nat.blt pc 20) (cond (Nat.blt pc 19) (cond (Nat.beq pc 17) (some (.bipush (-2))) none) (cond (Nat.beq pc 19) (some (.ireturn)) none)) (cond (Nat.blt pc 21) (cond (Nat.beq pc 20) (some (.iload_n 2)) none) (cond (Nat.beq pc 21) (some (.ireturn)) none)))))
theorem tb_i95 : tb_okI 3 prog_9_method_6_code tb_f95 := tb_okI_of 22 tb_cut_out (by decide +kernel)
theorem tb_p95 : tb_okP tb_cl tb_WA "VaultDevicesModel" false tb_FL 6 tb_f95 := tb_okP_of 22 tb_cut_out (by decide +kernel)
/-- VaultDevicesModel.deliver(I)Z -/
def tb_f96 : Nat → Option Instr := tb_cut 103 (fun pc => cond (Nat.blt pc 49) (cond (Nat.blt pc 25) (cond (Nat.blt pc 11) (cond (Nat.blt pc 5) (cond (Nat.blt pc 1) (cond (Nat.beq pc 0) (some (.aload_n 0)) none) (cond (Nat.blt pc 2) (cond (Nat.beq pc 1) (some (.iconst 0)) none) (cond (Nat.beq pc 2) (some (.putfield 78)) none))) (cond (Nat.blt pc 9) (cond (Nat.blt pc 6) (cond (Nat.beq pc 5) (some (.iload_n 1)) none) (cond (Nat.beq pc 6) (some (.ifCond .lt 11)) none)) (cond (Nat.blt pc 10) (cond (Nat.beq pc 9) (some (.iload_n 1)) none) (cond (Nat.beq pc 10) (some (.aload_n 0)) none)))) (cond (Nat.blt pc 19) (cond (Nat.blt pc 17) (cond (Nat.blt pc 14) (cond (Nat.beq pc 11) (some (.getfield 145)) none) (cond (Nat.beq pc 14) (some (.if_icmp .lt 5)) none)) (cond (Nat.blt pc 18) (cond (Nat.beq pc 17) (some (.iconst 0)) none) (cond (Nat.beq pc 18) (some (.ireturn)) none))) (cond (Nat.blt pc 23) (cond (Nat.blt pc 20) (cond (Nat.beq pc 19) (some (.aload_n 0)) none) (cond (Nat.beq pc 20) (some (.getfield 62)) none)) (cond (Nat.blt pc 24) (cond (Nat.beq pc 23) (some (.iload_n 1)) none) (cond (Nat.beq pc 24) (some (.iaload)) none))))) (cond (Nat.blt pc 37) (cond (Nat.blt pc 31) (cond (Nat.blt pc 27) (cond (Nat.blt pc 26) (cond (Nat.beq pc 25) (some (.istore_n 2)) none) (cond (Nat.beq pc 26) (some (.aload_n 0)) none)) (cond (Nat.blt pc 30) (cond (Nat.beq pc 27) (some (.getfield 65)) none) (cond (Nat.beq pc 30) (some (.iload_n 1)) none))) (cond (Nat.blt pc 33) (cond (Nat.blt pc 32) (cond (Nat.beq pc 31) (some (.iaload)) none) (cond (Nat.beq pc 32) (some (.istore_n 3)) none)) (cond (Nat.blt pc 34) (cond (Nat.beq pc 33) (some (.aload_n 0)) none) (cond (Nat.beq pc 34) (some (.getfield 68)) none)))) (cond (Nat.blt pc 42) (cond (Nat.blt pc 39) (cond (Nat.blt pc 38) (cond (Nat.beq pc 37) (some (.iload_n 1)) none) (cond (Nat.beq pc 38) (some (.iaload)) none)) (cond (Nat.blt pc 41) (cond (Nat.beq pc 39) (some (.istore 4)) none) (cond (Nat.beq pc 41) (some (.aload_n 0)) none))) (cond (Nat.blt pc 46) (cond (Nat.blt pc 45) (cond (Nat.beq pc 42) (some (.getfield 71)) none) (cond (Nat.beq pc 45) (some (.iload_n 1)) none)) (cond (Nat.blt pc 47) (cond (Nat.beq pc 46) (some (.iaload)) none) (cond (Nat.beq pc 47) (some (.istore 5)) none)))))) (cond (Nat.blt pc 74) (cond (Nat.blt pc 61) (cond (Nat.blt pc 55) (cond (Nat.blt pc 51) (cond (Nat.blt pc 50) (cond (Nat.beq pc 49) (some (.aload_n 0)) none) (cond (Nat.beq pc 50) (some (.iload_n 1)) none)) (cond (Nat.blt pc 54) (cond (Nat.beq pc 51) (some (.invokevirtual 182)) none) (cond (Nat.beq pc 54) (some (.iload_n 2)) none))) (cond (Nat.blt pc 59) (cond (Nat.blt pc 56) (cond (Nat.beq pc 55) (some (.iconst 2)) none) (cond (Nat.beq pc 56) (some (.if_icmp .ne 12)) none)) (cond (Nat.blt pc 60) (cond (Nat.beq pc 59) (some (.aload_n 0)) none) (cond (Nat.beq pc 60) (some (.iload_n 3)) none)))) (cond (Nat.blt pc 68) (cond (Nat.blt pc 66) (cond (Nat.blt pc 63) (cond (Nat.beq pc 61) (some (.iload 5)) none) (cond (Nat.beq pc 63) (some (.invokevirtual 185)) none)) (cond (Nat.blt pc 67) (cond (Nat.beq pc 66) (some (.iconst 1)) none) (cond (Nat.beq pc 67) (some (.ireturn)) none))) (cond (Nat.blt pc 70) (cond (Nat.blt pc 69) (cond (Nat.beq pc 68) (some (.iload_n 2)) none) (cond (Nat.beq pc 69) (some (.iconst 1)) none)) (cond (Nat.blt pc 73) (cond (Nat.beq pc 70) (some (.if_icmp .ne 18)) none) (cond (Nat.beq pc 73) (some (.aload_n 0)) none))))) (cond (Nat.blt pc 90) (cond (Nat.blt pc 83) (cond (Nat.blt pc 79) (cond (Nat.blt pc 77) (cond (Nat.beq pc 74) (some (.getfield 74)) none) (cond (Nat.beq pc 77) (some (.iload 4)) none)) (cond (Nat.blt pc 82) (cond (Nat.beq pc 79) (some (.if_icmp .ne 9)) none) (cond (Nat.beq pc 82) (some (.aload_n 0)) none))) (cond (Nat.blt pc 88) (cond (Nat.blt pc 85) (cond (Nat.beq pc 83) (some (.iload 5)) none) (cond (Nat.beq pc 85) (some (.putfield 74)) none)) (cond (Nat.blt pc 89) (cond (Nat.beq pc 88) (some (.aload_n 0)) none) (cond (Nat.beq pc 89) (some (.iconst 2)) none)))) (cond (Nat.blt pc 96) (cond (Nat.blt pc 92) (cond (Nat.blt pc 91) (cond (Nat.beq pc 90) (some (.iload_n 3)) none) (cond (Nat.beq pc 91) (some (.iconst (-1))) none)) (cond (Nat.blt pc 93) (cond (Nat.beq pc 92) (some (.aload_n 0)) none) (cond (Nat.beq pc 93) (some (.getfield 74)) none))) (cond (Nat.blt pc 101) (cond (Nat.blt pc 99) (cond (Nat.beq pc 96) (some (.invokevirtual 169)) none) (cond (Nat.beq pc 99) (some (.istore 6)) none)) (cond (Nat.blt pc 102) (cond (Nat.beq pc 101) (some (.iconst 1)) none) (cond (Nat.beq pc 102) (some (.ireturn)) none)))))))
theorem tb_i96 : tb_okI 7 prog_9_method_39_code tb_f96 := tb_okI_of 103 tb_cut_out (by decide +kernel)
theorem tb_p96 : tb_okP tb_cl tb_WA "VaultDevicesModel" false tb_FL 6 tb_f96 := tb_okP_of 103 tb_cut_out (by decide +kernel)
/-- VaultDevicesModel.remove(I)V -/
def tb_f97 : Nat → Option Instr := tb_cut 83 (fun pc => cond (Nat.blt pc 43) (cond (Nat.blt pc 21) (cond (Nat.blt pc 10) (cond (Nat.blt pc 5) (cond (Nat.blt pc 1) (cond (Nat.beq pc 0) (some (.aload_n 0)) none) (cond (Nat.blt pc 2) (cond (Nat.beq pc 1) (some (.dup)) none) (cond (Nat.beq pc 2) (some (.getfield 145)) none))) (cond (Nat.blt pc 6) (cond (Nat.beq pc 5) (some (.iconst 1)) none) (cond (Nat.blt pc 7) (cond (Nat.beq pc 6) (some (.isub)) none) (cond (Nat.beq pc 7) (some (.putfield 145)) none)))) (cond (Nat.blt pc 13) (cond (Nat.blt pc 11) (cond (Nat.beq pc 10) (some (.iload_n 1)) none) (cond (Nat.blt pc 12) (cond (Nat.beq pc 11) (some (.istore_n 2)) none) (cond (Nat.beq pc 12) (some (.iload_n 2)) none))) (cond (Nat.blt pc 17) (cond (Nat.blt pc 14) (cond (Nat.beq pc 13) (some (.aload_n 0)) none) (cond (Nat.beq pc 14) (some (.getfield 145)) none)) (cond (Nat.blt pc 20) (cond (Nat.beq pc 17) (some (.if_icmp .ge 65)) none) (cond (Nat.beq pc 20) (some (.aload_n 0)) none))))) (cond (Nat.blt pc 32) (cond (Nat.blt pc 26) (cond (Nat.blt pc 24) (cond (Nat.beq pc 21) (some (.getfield 62)) none) (cond (Nat.blt pc 25) (cond (Nat.beq pc 24) (some (.iload_n 2)) none) (cond (Nat.beq pc 25) (some (.aload_n 0)) none))) (cond (Nat.blt pc 30) (cond (Nat.blt pc 29) (cond (Nat.beq pc 26) (some (.getfield 62)) none) (cond (Nat.beq pc 29) (some (.iload_n 2)) none)) (cond (Nat.blt pc 31) (cond (Nat.beq pc 30) (some (.iconst 1)) none) (cond (Nat.beq pc 31) (some (.iadd)) none)))) (cond (Nat.blt pc 35) (cond (Nat.blt pc 33) (cond (Nat.beq pc 32) (some (.iaload)) none) (cond (Nat.blt pc 34) (cond (Nat.beq pc 33) (some (.iastore)) none) (cond (Nat.beq pc 34) (some (.aload_n 0)) none))) (cond (Nat.blt pc 39) (cond (Nat.blt pc 38) (cond (Nat.beq pc 35) (some (.getfield 65)) none) (cond (Nat.beq pc 38) (some (.iload_n 2)) none)) (cond (Nat.blt pc 40) (cond (Nat.beq pc 39) (some (.aload_n 0)) none) (cond (Nat.beq pc 40) (some (.getfield 65)) none)))))) (cond (Nat.blt pc 61) (cond (Nat.blt pc 52) (cond (Nat.blt pc 46) (cond (Nat.blt pc 44) (cond (Nat.beq pc 43) (some (.iload_n 2)) none) (cond (Nat.blt pc 45) (cond (Nat.beq pc 44) (some (.iconst 1)) none) (cond (Nat.beq pc 45) (some (.iadd)) none))) (cond (Nat.blt pc 48) (cond (Nat.blt pc 47) (cond (Nat.beq pc 46) (some (.iaload)) none) (cond (Nat.beq pc 47) (some (.iastore)) none)) (cond (Nat.blt pc 49) (cond (Nat.beq pc 48) (some (.aload_n 0)) none) (cond (Nat.beq pc 49) (some (.getfield 68)) none)))) (cond (Nat.blt pc 57) (cond (Nat.blt pc 53) (cond (Nat.beq pc 52) (some (.iload_n 2)) none) (cond (Nat.blt pc 54) (cond (Nat.beq pc 53) (some (.aload_n 0)) none) (cond (Nat.beq pc 54) (some (.getfield 68)) none))) (cond (Nat.blt pc 59) (cond (Nat.blt pc 58) (cond (Nat.beq pc 57) (some (.iload_n 2)) none) (cond (Nat.beq pc 58) (some (.iconst 1)) none)) (cond (Nat.blt pc 60) (cond (Nat.beq pc 59) (some (.iadd)) none) (cond (Nat.beq pc 60) (some (.iaload)) none))))) (cond (Nat.blt pc 72) (cond (Nat.blt pc 66) (cond (Nat.blt pc 62) (cond (Nat.beq pc 61) (some (.iastore)) none) (cond (Nat.blt pc 63) (cond (Nat.beq pc 62) (some (.aload_n 0)) none) (cond (Nat.beq pc 63) (some (.getfield 71)) none))) (cond (Nat.blt pc 68) (cond (Nat.blt pc 67) (cond (Nat.beq pc 66) (some (.iload_n 2)) none) (cond (Nat.beq pc 67) (some (.aload_n 0)) none)) (cond (Nat.blt pc 71) (cond (Nat.beq pc 68) (some (.getfield 71)) none) (cond (Nat.beq pc 71) (some (.iload_n 2)) none)))) (cond (Nat.blt pc 75) (cond (Nat.blt pc 73) (cond (Nat.beq pc 72) (some (.iconst 1)) none) (cond (Nat.blt pc 74) (cond (Nat.beq pc 73) (some (.iadd)) none) (cond (Nat.beq pc 74) (some (.iaload)) none))) (cond (Nat.blt pc 79) (cond (Nat.blt pc 76) (cond (Nat.beq pc 75) (some (.iastore)) none) (cond (Nat.beq pc 76) (some (.iinc 2 1)) none)) (cond (Nat.blt pc 82) (cond (Nat.beq pc 79) (some (.goto (-67))) none) (cond (Nat.beq pc 82) (some (.return_)) none)))))))
theorem tb_i97 : tb_okI 3 prog_9_method_25_code tb_f97 := tb_okI_of 83 tb_cut_out (by decide +kernel)
theorem tb_p97 : tb_okP tb_cl tb_WA "VaultDevicesModel" false tb_FL 6 tb_f97 := tb_okP_of 83 tb_cut_out (by decide +kernel)
/-- VaultDevicesModel.reply(II)V -/
def tb_f98 : Nat → Option Instr := tb_cut 131 (fun pc => cond (Nat.blt pc 63) (cond (Nat.blt pc 33) (cond (Nat.blt pc 15) (cond (Nat.blt pc 6) (cond (Nat.blt pc 4) (cond (Nat.blt pc 1) (cond (Nat.beq pc 0) (some (.aload_n 0)) none) (cond (Nat.beq pc 1) (some (.getfield 53)) none)) (cond (Nat.blt pc 5) (cond (Nat.beq pc 4) (some (.iload_n 1)) none) (cond (Nat.beq pc 5) (some (.baload)) none))) (cond (Nat.blt pc 10) (cond (Nat.blt pc 9) (cond (Nat.beq pc 6) (some (.ifCond .eq 7)) none) (cond (Nat.beq pc 9) (some (.iload_n 2)) none)) (cond (Nat.blt pc 13) (cond (Nat.beq pc 10) (some (.ifCond .ge 4)) none) (cond (Nat.blt pc 14) (cond (Nat.beq pc 13) (some (.return_)) none) (cond (Nat.beq pc 14) (some (.aload_n 0)) none))))) (cond (Nat.blt pc 23) (cond (Nat.blt pc 19) (cond (Nat.blt pc 16) (cond (Nat.beq pc 15) (some (.iload_n 2)) none) (cond (Nat.beq pc 16) (some (.invokevirtual 148)) none)) (cond (Nat.blt pc 20) (cond (Nat.beq pc 19) (some (.istore_n 3)) none) (cond (Nat.blt pc 21) (cond (Nat.beq pc 20) (some (.iconst 0)) none) (cond (Nat.beq pc 21) (some (.istore 4)) none)))) (cond (Nat.blt pc 26) (cond (Nat.blt pc 25) (cond (Nat.beq pc 23) (some (.iload 4)) none) (cond (Nat.beq pc 25) (some (.iconst 3)) none)) (cond (Nat.blt pc 29) (cond (Nat.beq pc 26) (some (.if_icmp .ge 43)) none) (cond (Nat.blt pc 30) (cond (Nat.beq pc 29) (some (.iload_n 3)) none) (cond (Nat.beq pc 30) (some (.ifCond .eq 31)) none)))))) (cond (Nat.blt pc 48) (cond (Nat.blt pc 41) (cond (Nat.blt pc 37) (cond (Nat.blt pc 34) (cond (Nat.beq pc 33) (some (.aload_n 0)) none) (cond (Nat.beq pc 34) (some (.getfield 35)) none)) (cond (Nat.blt pc 39) (cond (Nat.beq pc 37) (some (.bipush 9)) none) (cond (Nat.beq pc 39) (some (.iload 4)) none))) (cond (Nat.blt pc 43) (cond (Nat.blt pc 42) (cond (Nat.beq pc 41) (some (.iadd)) none) (cond (Nat.beq pc 42) (some (.iaload)) none)) (cond (Nat.blt pc 44) (cond (Nat.beq pc 43) (some (.aload_n 0)) none) (cond (Nat.blt pc 47) (cond (Nat.beq pc 44) (some (.getfield 56)) none) (cond (Nat.beq pc 47) (some (.iconst 3)) none))))) (cond (Nat.blt pc 54) (cond (Nat.blt pc 50) (cond (Nat.blt pc 49) (cond (Nat.beq pc 48) (some (.iload_n 1)) none) (cond (Nat.beq pc 49) (some (.imul)) none)) (cond (Nat.blt pc 52) (cond (Nat.beq pc 50) (some (.iload 4)) none) (cond (Nat.blt pc 53) (cond (Nat.beq pc 52) (some (.iadd)) none) (cond (Nat.beq pc 53) (some (.iaload)) none)))) (cond (Nat.blt pc 58) (cond (Nat.blt pc 57) (cond (Nat.beq pc 54) (some (.if_icmp .lt 7)) none) (cond (Nat.beq pc 57) (some (.iconst 1)) none)) (cond (Nat.blt pc 61) (cond (Nat.beq pc 58) (some (.goto 4)) none) (cond (Nat.blt pc 62) (cond (Nat.beq pc 61) (some (.iconst 0)) none) (cond (Nat.beq pc 62) (some (.istore_n 3)) none))))))) (cond (Nat.blt pc 97) (cond (Nat.blt pc 82) (cond (Nat.blt pc 73) (cond (Nat.blt pc 69) (cond (Nat.blt pc 66) (cond (Nat.beq pc 63) (some (.iinc 4 1)) none) (cond (Nat.beq pc 66) (some (.goto (-43))) none)) (cond (Nat.blt pc 70) (cond (Nat.beq pc 69) (some (.iload_n 3)) none) (cond (Nat.beq pc 70) (some (.ifCond .eq 11)) none))) (cond (Nat.blt pc 75) (cond (Nat.blt pc 74) (cond (Nat.beq pc 73) (some (.aload_n 0)) none) (cond (Nat.beq pc 74) (some (.iload_n 1)) none)) (cond (Nat.blt pc 78) (cond (Nat.beq pc 75) (some (.invokevirtual 152)) none) (cond (Nat.blt pc 81) (cond (Nat.beq pc 78) (some (.ifCond .ne 4)) none) (cond (Nat.beq pc 81) (some (.return_)) none))))) (cond (Nat.blt pc 91) (cond (Nat.blt pc 84) (cond (Nat.blt pc 83) (cond (Nat.beq pc 82) (some (.aload_n 0)) none) (cond (Nat.beq pc 83) (some (.iload_n 1)) none)) (cond (Nat.blt pc 87) (cond (Nat.beq pc 84) (some (.invokevirtual 155)) none) (cond (Nat.blt pc 88) (cond (Nat.beq pc 87) (some (.aload_n 0)) none) (cond (Nat.beq pc 88) (some (.getfield 59)) none)))) (cond (Nat.blt pc 93) (cond (Nat.blt pc 92) (cond (Nat.beq pc 91) (some (.iload_n 1)) none) (cond (Nat.beq pc 92) (some (.iload_n 2)) none)) (cond (Nat.blt pc 94) (cond (Nat.beq pc 93) (some (.iastore)) none) (cond (Nat.blt pc 95) (cond (Nat.beq pc 94) (some (.iconst 0)) none) (cond (Nat.beq pc 95) (some (.istore 4)) none)))))) (cond (Nat.blt pc 113) (cond (Nat.blt pc 107) (cond (Nat.blt pc 100) (cond (Nat.blt pc 99) (cond (Nat.beq pc 97) (some (.iload 4)) none) (cond (Nat.beq pc 99) (some (.iconst 3)) none)) (cond (Nat.blt pc 103) (cond (Nat.beq pc 100) (some (.if_icmp .ge 30)) none) (cond (Nat.blt pc 104) (cond (Nat.beq pc 103) (some (.aload_n 0)) none) (cond (Nat.beq pc 104) (some (.getfield 56)) none)))) (cond (Nat.blt pc 109) (cond (Nat.blt pc 108) (cond (Nat.beq pc 107) (some (.iconst 3)) none) (cond (Nat.beq pc 108) (some (.iload_n 1)) none)) (cond (Nat.blt pc 110) (cond (Nat.beq pc 109) (some (.imul)) none) (cond (Nat.blt pc 112) (cond (Nat.beq pc 110) (some (.iload 4)) none) (cond (Nat.beq pc 112) (some (.iadd)) none))))) (cond (Nat.blt pc 122) (cond (Nat.blt pc 117) (cond (Nat.blt pc 114) (cond (Nat.beq pc 113) (some (.aload_n 0)) none) (cond (Nat.beq pc 114) (some (.getfield 35)) none)) (cond (Nat.blt pc 119) (cond (Nat.beq pc 117) (some (.bipush 9)) none) (cond (Nat.blt pc 121) (cond (Nat.beq pc 119) (some (.iload 4)) none) (cond (Nat.beq pc 121) (some (.iadd)) none)))) (cond (Nat.blt pc 124) (cond (Nat.blt pc 123) (cond (Nat.beq pc 122) (some (.iaload)) none) (cond (Nat.beq pc 123) (some (.iastore)) none)) (cond (Nat.blt pc 127) (cond (Nat.beq pc 124) (some (.iinc 4 1)) none) (cond (Nat.blt pc 130) (cond (Nat.beq pc 127) (some (.goto (-30))) none) (cond (Nat.beq pc 130) (some (.return_)) none))))))))
theorem tb_i98 : tb_okI 5 prog_9_method_26_code tb_f98 := tb_okI_of 131 tb_cut_out (by decide +kernel)
theorem tb_p98 : tb_okP tb_cl tb_WA "VaultDevicesModel" false tb_FL 6 tb_f98 := tb_okP_of 131 tb_cut_out (by decide +kernel)
/-- VaultDevicesModel.isSeal(I)Z -/
def tb_f99 : Nat → Option Instr := tb_cut 268 (fun pc => cond (Nat.blt pc 124) (cond (Nat.blt pc 61) (cond (Nat.blt pc 28) (cond (Nat.blt pc 17) (cond (Nat.blt pc 4) (cond (Nat.blt pc 2) (cond (Nat.blt pc 1) (cond (Nat.beq pc 0) (some (.aload_n 0)) none) (cond (Nat.beq pc 1) (some (.aload_n 0)) none)) (cond (Nat.blt pc 3) (cond (Nat.beq pc 2) (some (.iload_n 1)) none) (cond (Nat.beq pc 3) (some (.iconst 4)) none))) (cond (Nat.blt pc 10) (cond (Nat.blt pc 7) (cond (Nat.beq pc 4) (some (.invokevirtual 128)) none) (cond (Nat.beq pc 7) (some (.putfield 122)) none)) (cond (Nat.blt pc 11) (cond (Nat.beq pc 10) (some (.aload_n 0)) none) (cond (Nat.blt pc 14) (cond (Nat.beq pc 11) (some (.getfield 122)) none) (cond (Nat.beq pc 14) (some (.ifCond .ne 5)) none))))) (cond (Nat.blt pc 23) (cond (Nat.blt pc 19) (cond (Nat.blt pc 18) (cond (Nat.beq pc 17) (some (.iconst 0)) none) (cond (Nat.beq pc 18) (some (.ireturn)) none)) (cond (Nat.blt pc 20) (cond (Nat.beq pc 19) (some (.aload_n 0)) none) (cond (Nat.beq pc 20) (some (.getfield 16)) none))) (cond (Nat.blt pc 25) (cond (Nat.blt pc 24) (cond (Nat.beq pc 23) (some (.iload_n 1)) none) (cond (Nat.beq pc 24) (some (.iaload)) none)) (cond (Nat.blt pc 26) (cond (Nat.beq pc 25) (some (.istore_n 2)) none) (cond (Nat.blt pc 27) (cond (Nat.beq pc 26) (some (.aload_n 0)) none) (cond (Nat.beq pc 27) (some (.aload_n 0)) none)))))) (cond (Nat.blt pc 43) (cond (Nat.blt pc 36) (cond (Nat.blt pc 32) (cond (Nat.blt pc 31) (cond (Nat.beq pc 28) (some (.getfield 13)) none) (cond (Nat.beq pc 31) (some (.iload_n 1)) none)) (cond (Nat.blt pc 33) (cond (Nat.beq pc 32) (some (.iaload)) none) (cond (Nat.beq pc 33) (some (.putfield 125)) none))) (cond (Nat.blt pc 38) (cond (Nat.blt pc 37) (cond (Nat.beq pc 36) (some (.aload_n 0)) none) (cond (Nat.beq pc 37) (some (.aload_n 0)) none)) (cond (Nat.blt pc 39) (cond (Nat.beq pc 38) (some (.iload_n 2)) none) (cond (Nat.blt pc 40) (cond (Nat.beq pc 39) (some (.iconst 5)) none) (cond (Nat.beq pc 40) (some (.invokevirtual 128)) none))))) (cond (Nat.blt pc 52) (cond (Nat.blt pc 47) (cond (Nat.blt pc 46) (cond (Nat.beq pc 43) (some (.ifCond .eq 50)) none) (cond (Nat.beq pc 46) (some (.aload_n 0)) none)) (cond (Nat.blt pc 48) (cond (Nat.beq pc 47) (some (.aload_n 0)) none) (cond (Nat.blt pc 51) (cond (Nat.beq pc 48) (some (.getfield 13)) none) (cond (Nat.beq pc 51) (some (.iload_n 2)) none)))) (cond (Nat.blt pc 54) (cond (Nat.blt pc 53) (cond (Nat.beq pc 52) (some (.iaload)) none) (cond (Nat.beq pc 53) (some (.iconst 0)) none)) (cond (Nat.blt pc 57) (cond (Nat.beq pc 54) (some (.invokevirtual 128)) none) (cond (Nat.blt pc 60) (cond (Nat.beq pc 57) (some (.ifCond .eq 36)) none) (cond (Nat.beq pc 60) (some (.aload_n 0)) none))))))) (cond (Nat.blt pc 94) (cond (Nat.blt pc 77) (cond (Nat.blt pc 69) (cond (Nat.blt pc 65) (cond (Nat.blt pc 64) (cond (Nat.beq pc 61) (some (.getfield 13)) none) (cond (Nat.beq pc 64) (some (.aload_n 0)) none)) (cond (Nat.blt pc 68) (cond (Nat.beq pc 65) (some (.getfield 13)) none) (cond (Nat.beq pc 68) (some (.iload_n 2)) none))) (cond (Nat.blt pc 71) (cond (Nat.blt pc 70) (cond (Nat.beq pc 69) (some (.iaload)) none) (cond (Nat.beq pc 70) (some (.iaload)) none)) (cond (Nat.blt pc 73) (cond (Nat.beq pc 71) (some (.bipush 9)) none) (cond (Nat.blt pc 76) (cond (Nat.beq pc 73) (some (.if_icmp .ne 20)) none) (cond (Nat.beq pc 76) (some (.aload_n 0)) none))))) (cond (Nat.blt pc 83) (cond (Nat.blt pc 81) (cond (Nat.blt pc 80) (cond (Nat.beq pc 77) (some (.getfield 16)) none) (cond (Nat.beq pc 80) (some (.iload_n 2)) none)) (cond (Nat.blt pc 82) (cond (Nat.beq pc 81) (some (.iaload)) none) (cond (Nat.beq pc 82) (some (.aload_n 0)) none))) (cond (Nat.blt pc 89) (cond (Nat.blt pc 86) (cond (Nat.beq pc 83) (some (.getfield 125)) none) (cond (Nat.beq pc 86) (some (.if_icmp .ne 7)) none)) (cond (Nat.blt pc 90) (cond (Nat.beq pc 89) (some (.iconst 1)) none) (cond (Nat.blt pc 93) (cond (Nat.beq pc 90) (some (.goto 4)) none) (cond (Nat.beq pc 93) (some (.iconst 0)) none)))))) (cond (Nat.blt pc 109) (cond (Nat.blt pc 102) (cond (Nat.blt pc 98) (cond (Nat.blt pc 97) (cond (Nat.beq pc 94) (some (.putfield 122)) none) (cond (Nat.beq pc 97) (some (.aload_n 0)) none)) (cond (Nat.blt pc 101) (cond (Nat.beq pc 98) (some (.getfield 38)) none) (cond (Nat.beq pc 101) (some (.iconst 3)) none))) (cond (Nat.blt pc 104) (cond (Nat.blt pc 103) (cond (Nat.beq pc 102) (some (.iconst 0)) none) (cond (Nat.beq pc 103) (some (.iastore)) none)) (cond (Nat.blt pc 105) (cond (Nat.beq pc 104) (some (.aload_n 0)) none) (cond (Nat.blt pc 108) (cond (Nat.beq pc 105) (some (.getfield 26)) none) (cond (Nat.beq pc 108) (some (.iconst 3)) none))))) (cond (Nat.blt pc 117) (cond (Nat.blt pc 111) (cond (Nat.blt pc 110) (cond (Nat.beq pc 109) (some (.aload_n 0)) none) (cond (Nat.beq pc 110) (some (.iconst 0)) none)) (cond (Nat.blt pc 113) (cond (Nat.beq pc 111) (some (.bipush 30)) none) (cond (Nat.blt pc 116) (cond (Nat.beq pc 113) (some (.invokevirtual 135)) none) (cond (Nat.beq pc 116) (some (.iastore)) none)))) (cond (Nat.blt pc 121) (cond (Nat.blt pc 118) (cond (Nat.beq pc 117) (some (.aload_n 0)) none) (cond (Nat.beq pc 118) (some (.getfield 29)) none)) (cond (Nat.blt pc 122) (cond (Nat.beq pc 121) (some (.iconst 3)) none) (cond (Nat.blt pc 123) (cond (Nat.beq pc 122) (some (.aload_n 0)) none) (cond (Nat.beq pc 123) (some (.iconst 0)) none)))))))) (cond (Nat.blt pc 189) (cond (Nat.blt pc 154) (cond (Nat.blt pc 139) (cond (Nat.blt pc 130) (cond (Nat.blt pc 128) (cond (Nat.blt pc 125) (cond (Nat.beq pc 124) (some (.iconst 2)) none) (cond (Nat.beq pc 125) (some (.invokevirtual 135)) none)) (cond (Nat.blt pc 129) (cond (Nat.beq pc 128) (some (.iastore)) none) (cond (Nat.beq pc 129) (some (.aload_n 0)) none))) (cond (Nat.blt pc 134) (cond (Nat.blt pc 133) (cond (Nat.beq pc 130) (some (.invokevirtual 131)) none) (cond (Nat.beq pc 133) (some (.istore_n 3)) none)) (cond (Nat.blt pc 135) (cond (Nat.beq pc 134) (some (.aload_n 0)) none) (cond (Nat.blt pc 138) (cond (Nat.beq pc 135) (some (.getfield 32)) none) (cond (Nat.beq pc 138) (some (.iconst 3)) none))))) (cond (Nat.blt pc 145) (cond (Nat.blt pc 141) (cond (Nat.blt pc 140) (cond (Nat.beq pc 139) (some (.aload_n 0)) none) (cond (Nat.beq pc 140) (some (.iload_n 3)) none)) (cond (Nat.blt pc 144) (cond (Nat.beq pc 141) (some (.invokevirtual 139)) none) (cond (Nat.beq pc 144) (some (.iastore)) none))) (cond (Nat.blt pc 147) (cond (Nat.blt pc 146) (cond (Nat.beq pc 145) (some (.aload_n 0)) none) (cond (Nat.beq pc 146) (some (.aload_n 0)) none)) (cond (Nat.blt pc 150) (cond (Nat.beq pc 147) (some (.getfield 122)) none) (cond (Nat.blt pc 153) (cond (Nat.beq pc 150) (some (.ifCond .eq 16)) none) (cond (Nat.beq pc 153) (some (.aload_n 0)) none)))))) (cond (Nat.blt pc 171) (cond (Nat.blt pc 162) (cond (Nat.blt pc 158) (cond (Nat.blt pc 157) (cond (Nat.beq pc 154) (some (.getfield 32)) none) (cond (Nat.beq pc 157) (some (.iconst 3)) none)) (cond (Nat.blt pc 159) (cond (Nat.beq pc 158) (some (.iaload)) none) (cond (Nat.beq pc 159) (some (.ifCond .lt 7)) none))) (cond (Nat.blt pc 166) (cond (Nat.blt pc 163) (cond (Nat.beq pc 162) (some (.iconst 1)) none) (cond (Nat.beq pc 163) (some (.goto 4)) none)) (cond (Nat.blt pc 167) (cond (Nat.beq pc 166) (some (.iconst 0)) none) (cond (Nat.blt pc 170) (cond (Nat.beq pc 167) (some (.putfield 122)) none) (cond (Nat.beq pc 170) (some (.iconst 0)) none))))) (cond (Nat.blt pc 180) (cond (Nat.blt pc 175) (cond (Nat.blt pc 173) (cond (Nat.beq pc 171) (some (.istore 4)) none) (cond (Nat.beq pc 173) (some (.iload 4)) none)) (cond (Nat.blt pc 176) (cond (Nat.beq pc 175) (some (.iconst 3)) none) (cond (Nat.blt pc 179) (cond (Nat.beq pc 176) (some (.if_icmp .ge 26)) none) (cond (Nat.beq pc 179) (some (.aload_n 0)) none)))) (cond (Nat.blt pc 185) (cond (Nat.blt pc 183) (cond (Nat.beq pc 180) (some (.getfield 35)) none) (cond (Nat.beq pc 183) (some (.bipush 9)) none)) (cond (Nat.blt pc 187) (cond (Nat.beq pc 185) (some (.iload 4)) none) (cond (Nat.blt pc 188) (cond (Nat.beq pc 187) (some (.iadd)) none) (cond (Nat.beq pc 188) (some (.aload_n 0)) none))))))) (cond (Nat.blt pc 228) (cond (Nat.blt pc 209) (cond (Nat.blt pc 196) (cond (Nat.blt pc 192) (cond (Nat.blt pc 190) (cond (Nat.beq pc 189) (some (.iconst 0)) none) (cond (Nat.beq pc 190) (some (.bipush 30)) none)) (cond (Nat.blt pc 195) (cond (Nat.beq pc 192) (some (.invokevirtual 135)) none) (cond (Nat.beq pc 195) (some (.iastore)) none))) (cond (Nat.blt pc 202) (cond (Nat.blt pc 199) (cond (Nat.beq pc 196) (some (.iinc 4 1)) none) (cond (Nat.beq pc 199) (some (.goto (-26))) none)) (cond (Nat.blt pc 203) (cond (Nat.beq pc 202) (some (.aload_n 0)) none) (cond (Nat.blt pc 206) (cond (Nat.beq pc 203) (some (.getfield 122)) none) (cond (Nat.beq pc 206) (some (.ifCond .eq 37)) none))))) (cond (Nat.blt pc 218) (cond (Nat.blt pc 211) (cond (Nat.blt pc 210) (cond (Nat.beq pc 209) (some (.aload_n 0)) none) (cond (Nat.beq pc 210) (some (.aload_n 0)) none)) (cond (Nat.blt pc 214) (cond (Nat.beq pc 211) (some (.getfield 125)) none) (cond (Nat.blt pc 215) (cond (Nat.beq pc 214) (some (.iconst 1)) none) (cond (Nat.beq pc 215) (some (.invokevirtual 128)) none)))) (cond (Nat.blt pc 222) (cond (Nat.blt pc 221) (cond (Nat.beq pc 218) (some (.ifCond .ne 25)) none) (cond (Nat.beq pc 221) (some (.aload_n 0)) none)) (cond (Nat.blt pc 225) (cond (Nat.beq pc 222) (some (.invokevirtual 131)) none) (cond (Nat.blt pc 227) (cond (Nat.beq pc 225) (some (.istore 4)) none) (cond (Nat.beq pc 227) (some (.aload_n 0)) none)))))) (cond (Nat.blt pc 250) (cond (Nat.blt pc 237) (cond (Nat.blt pc 234) (cond (Nat.blt pc 231) (cond (Nat.beq pc 228) (some (.getfield 122)) none) (cond (Nat.beq pc 231) (some (.ifCond .eq 9)) none)) (cond (Nat.blt pc 235) (cond (Nat.beq pc 234) (some (.aload_n 0)) none) (cond (Nat.beq pc 235) (some (.iload 4)) none))) (cond (Nat.blt pc 243) (cond (Nat.blt pc 240) (cond (Nat.beq pc 237) (some (.invokevirtual 142)) none) (cond (Nat.beq pc 240) (some (.goto (-38))) none)) (cond (Nat.blt pc 244) (cond (Nat.beq pc 243) (some (.aload_n 0)) none) (cond (Nat.blt pc 247) (cond (Nat.beq pc 244) (some (.getfield 122)) none) (cond (Nat.beq pc 247) (some (.ifCond .eq 19)) none))))) (cond (Nat.blt pc 259) (cond (Nat.blt pc 254) (cond (Nat.blt pc 251) (cond (Nat.beq pc 250) (some (.aload_n 0)) none) (cond (Nat.beq pc 251) (some (.getfield 13)) none)) (cond (Nat.blt pc 255) (cond (Nat.beq pc 254) (some (.aload_n 0)) none) (cond (Nat.blt pc 258) (cond (Nat.beq pc 255) (some (.getfield 125)) none) (cond (Nat.beq pc 258) (some (.iaload)) none)))) (cond (Nat.blt pc 263) (cond (Nat.blt pc 262) (cond (Nat.beq pc 259) (some (.ifCond .ne 7)) none) (cond (Nat.beq pc 262) (some (.iconst 1)) none)) (cond (Nat.blt pc 266) (cond (Nat.beq pc 263) (some (.goto 4)) none) (cond (Nat.blt pc 267) (cond (Nat.beq pc 266) (some (.iconst 0)) none) (cond (Nat.beq pc 267) (some (.ireturn)) none)))))))))
theorem tb_i99 : tb_okI 5 prog_9_method_23_code tb_f99 := tb_okI_of 268 tb_cut_out (by decide +kernel)
theorem tb_p99 : tb_okP tb_cl tb_WA "VaultDevicesModel" false tb_FL 6 tb_f99 := tb_okP_of 268 tb_cut_out (by decide +kernel)
/-- VaultDevicesModel.is(II)Z -/
def tb_f100 : Nat → Option Instr := tb_cut 20 (fun pc => cond (Nat.blt pc 10) (cond (Nat.blt pc 5) (cond (Nat.blt pc 1) (cond (Nat.beq pc 0) (some (.iload_n 1)) none) (cond (Nat.blt pc 4) (cond (Nat.beq pc 1) (some (.ifCond .lt 17)) none) (cond (Nat.beq pc 4) (some (.aload_n 0)) none))) (cond (Nat.blt pc 8) (cond (Nat.beq pc 5) (some (.getfield 7)) none) (cond (Nat.blt pc 9) (cond (Nat.beq pc 8) (some (.iload_n 1)) none) (cond (Nat.beq pc 9) (some (.iaload)) none)))) (cond (Nat.blt pc 15) (cond (Nat.blt pc 11) (cond (Nat.beq pc 10) (some (.iload_n 2)) none) (cond (Nat.blt pc 14) (cond (Nat.beq pc 11) (some (.if_icmp .ne 7)) none) (cond (Nat.beq pc 14) (some (.iconst 1)) none))) (cond (Nat.blt pc 18) (cond (Nat.beq pc 15) (some (.goto 4)) none) (cond (Nat.blt pc 19) (cond (Nat.beq pc 18) (some (.iconst 0)) none) (cond (Nat.beq pc 19) (some (.ireturn)) none)))))
theorem tb_i100 : tb_okI 3 prog_9_method_18_code tb_f100 := tb_okI_of 20 tb_cut_out (by decide +kernel)
theorem tb_p100 : tb_okP tb_cl tb_WA "VaultDevicesModel" false tb_FL 6 tb_f100 := tb_okP_of 20 tb_cut_out (by decide +kernel)
/-- VaultDevicesModel.figure(II)I -/
def tb_f101 : Nat → Option Instr := tb_cut 68 (fun pc => cond (Nat.blt pc 33) (cond (Nat.blt pc 15) (cond (Nat.blt pc 6) (cond (Nat.blt pc 4) (cond (Nat.blt pc 1) (cond (Nat.beq pc 0) (some (.aload_n 0)) none) (cond (Nat.beq pc 1) (some (.invokevirtual 131)) none)) (cond (Nat.blt pc 5) (cond (Nat.beq pc 4) (some (.istore_n 3)) none) (cond (Nat.beq pc 5) (some (.aload_n 0)) none))) (cond (Nat.blt pc 10) (cond (Nat.blt pc 7) (cond (Nat.beq pc 6) (some (.aload_n 0)) none) (cond (Nat.beq pc 7) (some (.getfield 122)) none)) (cond (Nat.blt pc 13) (cond (Nat.beq pc 10) (some (.ifCond .eq 36)) none) (cond (Nat.blt pc 14) (cond (Nat.beq pc 13) (some (.aload_n 0)) none) (cond (Nat.beq pc 14) (some (.iload_n 3)) none))))) (cond (Nat.blt pc 26) (cond (Nat.blt pc 19) (cond (Nat.blt pc 16) (cond (Nat.beq pc 15) (some (.iconst 1)) none) (cond (Nat.beq pc 16) (some (.invokevirtual 128)) none)) (cond (Nat.blt pc 22) (cond (Nat.beq pc 19) (some (.ifCond .eq 27)) none) (cond (Nat.blt pc 23) (cond (Nat.beq pc 22) (some (.aload_n 0)) none) (cond (Nat.beq pc 23) (some (.getfield 13)) none)))) (cond (Nat.blt pc 28) (cond (Nat.blt pc 27) (cond (Nat.beq pc 26) (some (.iload_n 3)) none) (cond (Nat.beq pc 27) (some (.iaload)) none)) (cond (Nat.blt pc 29) (cond (Nat.beq pc 28) (some (.iload_n 1)) none) (cond (Nat.blt pc 32) (cond (Nat.beq pc 29) (some (.if_icmp .lt 17)) none) (cond (Nat.beq pc 32) (some (.aload_n 0)) none)))))) (cond (Nat.blt pc 50) (cond (Nat.blt pc 39) (cond (Nat.blt pc 37) (cond (Nat.blt pc 36) (cond (Nat.beq pc 33) (some (.getfield 13)) none) (cond (Nat.beq pc 36) (some (.iload_n 3)) none)) (cond (Nat.blt pc 38) (cond (Nat.beq pc 37) (some (.iaload)) none) (cond (Nat.beq pc 38) (some (.iload_n 2)) none))) (cond (Nat.blt pc 43) (cond (Nat.blt pc 42) (cond (Nat.beq pc 39) (some (.if_icmp .gt 7)) none) (cond (Nat.beq pc 42) (some (.iconst 1)) none)) (cond (Nat.blt pc 46) (cond (Nat.beq pc 43) (some (.goto 4)) none) (cond (Nat.blt pc 47) (cond (Nat.beq pc 46) (some (.iconst 0)) none) (cond (Nat.beq pc 47) (some (.putfield 122)) none))))) (cond (Nat.blt pc 61) (cond (Nat.blt pc 54) (cond (Nat.blt pc 51) (cond (Nat.beq pc 50) (some (.aload_n 0)) none) (cond (Nat.beq pc 51) (some (.getfield 122)) none)) (cond (Nat.blt pc 57) (cond (Nat.beq pc 54) (some (.ifCond .eq 12)) none) (cond (Nat.blt pc 58) (cond (Nat.beq pc 57) (some (.aload_n 0)) none) (cond (Nat.beq pc 58) (some (.getfield 13)) none)))) (cond (Nat.blt pc 63) (cond (Nat.blt pc 62) (cond (Nat.beq pc 61) (some (.iload_n 3)) none) (cond (Nat.beq pc 62) (some (.iaload)) none)) (cond (Nat.blt pc 66) (cond (Nat.beq pc 63) (some (.goto 4)) none) (cond (Nat.blt pc 67) (cond (Nat.beq pc 66) (some (.iconst 0)) none) (cond (Nat.beq pc 67) (some (.ireturn)) none)))))))
theorem tb_i101 : tb_okI 4 prog_9_method_20_code tb_f101 := tb_okI_of 68 tb_cut_out (by decide +kernel)
theorem tb_p101 : tb_okP tb_cl tb_WA "VaultDevicesModel" false tb_FL 6 tb_f101 := tb_okP_of 68 tb_cut_out (by decide +kernel)
/-- VaultDevicesModel.part()I -/
def tb_f102 : Nat → Option Instr := tb_cut 62 (fun pc => cond (Nat.blt pc 35) (cond (Nat.blt pc 14) (cond (Nat.blt pc 8) (cond (Nat.blt pc 2) (cond (Nat.blt pc 1) (cond (Nat.beq pc 0) (some (.aload_n 0)) none) (cond (Nat.beq pc 1) (some (.aload_n 0)) none)) (cond (Nat.blt pc 5) (cond (Nat.beq pc 2) (some (.getfield 122)) none) (cond (Nat.beq pc 5) (some (.ifCond .eq 19)) none))) (cond (Nat.blt pc 10) (cond (Nat.blt pc 9) (cond (Nat.beq pc 8) (some (.aload_n 0)) none) (cond (Nat.beq pc 9) (some (.aload_n 0)) none)) (cond (Nat.blt pc 13) (cond (Nat.beq pc 10) (some (.getfield 125)) none) (cond (Nat.beq pc 13) (some (.iconst 4)) none)))) (cond (Nat.blt pc 24) (cond (Nat.blt pc 20) (cond (Nat.blt pc 17) (cond (Nat.beq pc 14) (some (.invokevirtual 128)) none) (cond (Nat.beq pc 17) (some (.ifCond .eq 7)) none)) (cond (Nat.blt pc 21) (cond (Nat.beq pc 20) (some (.iconst 1)) none) (cond (Nat.beq pc 21) (some (.goto 4)) none))) (cond (Nat.blt pc 28) (cond (Nat.blt pc 25) (cond (Nat.beq pc 24) (some (.iconst 0)) none) (cond (Nat.beq pc 25) (some (.putfield 122)) none)) (cond (Nat.blt pc 29) (cond (Nat.beq pc 28) (some (.aload_n 0)) none) (cond (Nat.blt pc 32) (cond (Nat.beq pc 29) (some (.getfield 122)) none) (cond (Nat.beq pc 32) (some (.ifCond .ne 5)) none)))))) (cond (Nat.blt pc 47) (cond (Nat.blt pc 41) (cond (Nat.blt pc 37) (cond (Nat.blt pc 36) (cond (Nat.beq pc 35) (some (.iconst (-1))) none) (cond (Nat.beq pc 36) (some (.ireturn)) none)) (cond (Nat.blt pc 38) (cond (Nat.beq pc 37) (some (.aload_n 0)) none) (cond (Nat.beq pc 38) (some (.getfield 13)) none))) (cond (Nat.blt pc 45) (cond (Nat.blt pc 42) (cond (Nat.beq pc 41) (some (.aload_n 0)) none) (cond (Nat.beq pc 42) (some (.getfield 125)) none)) (cond (Nat.blt pc 46) (cond (Nat.beq pc 45) (some (.iaload)) none) (cond (Nat.beq pc 46) (some (.istore_n 1)) none)))) (cond (Nat.blt pc 53) (cond (Nat.blt pc 49) (cond (Nat.blt pc 48) (cond (Nat.beq pc 47) (some (.aload_n 0)) none) (cond (Nat.beq pc 48) (some (.aload_n 0)) none)) (cond (Nat.blt pc 52) (cond (Nat.beq pc 49) (some (.getfield 16)) none) (cond (Nat.beq pc 52) (some (.aload_n 0)) none))) (cond (Nat.blt pc 57) (cond (Nat.blt pc 56) (cond (Nat.beq pc 53) (some (.getfield 125)) none) (cond (Nat.beq pc 56) (some (.iaload)) none)) (cond (Nat.blt pc 60) (cond (Nat.beq pc 57) (some (.putfield 125)) none) (cond (Nat.blt pc 61) (cond (Nat.beq pc 60) (some (.iload_n 1)) none) (cond (Nat.beq pc 61) (some (.ireturn)) none)))))))
theorem tb_i102 : tb_okI 2 prog_9_method_19_code tb_f102 := tb_okI_of 62 tb_cut_out (by decide +kernel)
theorem tb_p102 : tb_okP tb_cl tb_WA "VaultDevicesModel" false tb_FL 6 tb_f102 := tb_okP_of 62 tb_cut_out (by decide +kernel)
/-- VaultDevicesModel.boxed(I)I -/
def tb_f103 : Nat → Option Instr := tb_cut 153 (fun pc => cond (Nat.blt pc 70) (cond (Nat.blt pc 33) (cond (Nat.blt pc 16) (cond (Nat.blt pc 9) (cond (Nat.blt pc 2) (cond (Nat.blt pc 1) (cond (Nat.beq pc 0) (some (.aload_n 0)) none) (cond (Nat.beq pc 1) (some (.iload_n 1)) none)) (cond (Nat.blt pc 3) (cond (Nat.beq pc 2) (some (.iconst 3)) none) (cond (Nat.blt pc 6) (cond (Nat.beq pc 3) (some (.invokevirtual 128)) none) (cond (Nat.beq pc 6) (some (.ifCond .ne 5)) none)))) (cond (Nat.blt pc 11) (cond (Nat.blt pc 10) (cond (Nat.beq pc 9) (some (.iconst (-1))) none) (cond (Nat.beq pc 10) (some (.ireturn)) none)) (cond (Nat.blt pc 12) (cond (Nat.beq pc 11) (some (.aload_n 0)) none) (cond (Nat.blt pc 15) (cond (Nat.beq pc 12) (some (.getfield 13)) none) (cond (Nat.beq pc 15) (some (.iload_n 1)) none))))) (cond (Nat.blt pc 21) (cond (Nat.blt pc 18) (cond (Nat.blt pc 17) (cond (Nat.beq pc 16) (some (.iaload)) none) (cond (Nat.beq pc 17) (some (.istore_n 2)) none)) (cond (Nat.blt pc 19) (cond (Nat.beq pc 18) (some (.aload_n 0)) none) (cond (Nat.blt pc 20) (cond (Nat.beq pc 19) (some (.iload_n 2)) none) (cond (Nat.beq pc 20) (some (.iconst 2)) none)))) (cond (Nat.blt pc 28) (cond (Nat.blt pc 24) (cond (Nat.beq pc 21) (some (.invokevirtual 128)) none) (cond (Nat.blt pc 27) (cond (Nat.beq pc 24) (some (.ifCond .eq 37)) none) (cond (Nat.beq pc 27) (some (.aload_n 0)) none))) (cond (Nat.blt pc 29) (cond (Nat.beq pc 28) (some (.aload_n 0)) none) (cond (Nat.blt pc 32) (cond (Nat.beq pc 29) (some (.getfield 16)) none) (cond (Nat.beq pc 32) (some (.iload_n 1)) none)))))) (cond (Nat.blt pc 52) (cond (Nat.blt pc 42) (cond (Nat.blt pc 35) (cond (Nat.blt pc 34) (cond (Nat.beq pc 33) (some (.iaload)) none) (cond (Nat.beq pc 34) (some (.iconst 0)) none)) (cond (Nat.blt pc 38) (cond (Nat.beq pc 35) (some (.invokevirtual 128)) none) (cond (Nat.blt pc 41) (cond (Nat.beq pc 38) (some (.ifCond .eq 23)) none) (cond (Nat.beq pc 41) (some (.aload_n 0)) none)))) (cond (Nat.blt pc 49) (cond (Nat.blt pc 45) (cond (Nat.beq pc 42) (some (.getfield 13)) none) (cond (Nat.blt pc 46) (cond (Nat.beq pc 45) (some (.aload_n 0)) none) (cond (Nat.beq pc 46) (some (.getfield 16)) none))) (cond (Nat.blt pc 50) (cond (Nat.beq pc 49) (some (.iload_n 1)) none) (cond (Nat.blt pc 51) (cond (Nat.beq pc 50) (some (.iaload)) none) (cond (Nat.beq pc 51) (some (.iaload)) none))))) (cond (Nat.blt pc 62) (cond (Nat.blt pc 57) (cond (Nat.blt pc 54) (cond (Nat.beq pc 52) (some (.bipush 9)) none) (cond (Nat.beq pc 54) (some (.if_icmp .ne 7)) none)) (cond (Nat.blt pc 58) (cond (Nat.beq pc 57) (some (.iconst 1)) none) (cond (Nat.blt pc 61) (cond (Nat.beq pc 58) (some (.goto 4)) none) (cond (Nat.beq pc 61) (some (.iconst 0)) none)))) (cond (Nat.blt pc 67) (cond (Nat.blt pc 63) (cond (Nat.beq pc 62) (some (.istore_n 3)) none) (cond (Nat.blt pc 64) (cond (Nat.beq pc 63) (some (.iload_n 3)) none) (cond (Nat.beq pc 64) (some (.ifCond .ne 5)) none))) (cond (Nat.blt pc 68) (cond (Nat.beq pc 67) (some (.iconst (-1))) none) (cond (Nat.blt pc 69) (cond (Nat.beq pc 68) (some (.ireturn)) none) (cond (Nat.beq pc 69) (some (.aload_n 0)) none))))))) (cond (Nat.blt pc 111) (cond (Nat.blt pc 88) (cond (Nat.blt pc 78) (cond (Nat.blt pc 74) (cond (Nat.blt pc 73) (cond (Nat.beq pc 70) (some (.getfield 13)) none) (cond (Nat.beq pc 73) (some (.iload_n 2)) none)) (cond (Nat.blt pc 75) (cond (Nat.beq pc 74) (some (.iaload)) none) (cond (Nat.blt pc 77) (cond (Nat.beq pc 75) (some (.istore 4)) none) (cond (Nat.beq pc 77) (some (.aload_n 0)) none)))) (cond (Nat.blt pc 83) (cond (Nat.blt pc 81) (cond (Nat.beq pc 78) (some (.getfield 16)) none) (cond (Nat.blt pc 82) (cond (Nat.beq pc 81) (some (.iload_n 2)) none) (cond (Nat.beq pc 82) (some (.iaload)) none))) (cond (Nat.blt pc 85) (cond (Nat.beq pc 83) (some (.istore 5)) none) (cond (Nat.blt pc 86) (cond (Nat.beq pc 85) (some (.aload_n 0)) none) (cond (Nat.beq pc 86) (some (.iload 4)) none))))) (cond (Nat.blt pc 98) (cond (Nat.blt pc 92) (cond (Nat.blt pc 89) (cond (Nat.beq pc 88) (some (.iconst 0)) none) (cond (Nat.beq pc 89) (some (.invokevirtual 128)) none)) (cond (Nat.blt pc 95) (cond (Nat.beq pc 92) (some (.ifCond .eq 41)) none) (cond (Nat.blt pc 96) (cond (Nat.beq pc 95) (some (.aload_n 0)) none) (cond (Nat.beq pc 96) (some (.iload 5)) none)))) (cond (Nat.blt pc 105) (cond (Nat.blt pc 99) (cond (Nat.beq pc 98) (some (.iconst 0)) none) (cond (Nat.blt pc 102) (cond (Nat.beq pc 99) (some (.invokevirtual 128)) none) (cond (Nat.beq pc 102) (some (.ifCond .eq 31)) none))) (cond (Nat.blt pc 106) (cond (Nat.beq pc 105) (some (.aload_n 0)) none) (cond (Nat.blt pc 109) (cond (Nat.beq pc 106) (some (.getfield 13)) none) (cond (Nat.beq pc 109) (some (.iload 4)) none)))))) (cond (Nat.blt pc 133) (cond (Nat.blt pc 121) (cond (Nat.blt pc 114) (cond (Nat.blt pc 112) (cond (Nat.beq pc 111) (some (.iaload)) none) (cond (Nat.beq pc 112) (some (.bipush 7)) none)) (cond (Nat.blt pc 117) (cond (Nat.beq pc 114) (some (.if_icmp .gt 19)) none) (cond (Nat.blt pc 118) (cond (Nat.beq pc 117) (some (.aload_n 0)) none) (cond (Nat.beq pc 118) (some (.getfield 13)) none)))) (cond (Nat.blt pc 126) (cond (Nat.blt pc 123) (cond (Nat.beq pc 121) (some (.iload 5)) none) (cond (Nat.blt pc 124) (cond (Nat.beq pc 123) (some (.iaload)) none) (cond (Nat.beq pc 124) (some (.bipush 8)) none))) (cond (Nat.blt pc 129) (cond (Nat.beq pc 126) (some (.if_icmp .ne 7)) none) (cond (Nat.blt pc 130) (cond (Nat.beq pc 129) (some (.iconst 1)) none) (cond (Nat.beq pc 130) (some (.goto 4)) none))))) (cond (Nat.blt pc 142) (cond (Nat.blt pc 136) (cond (Nat.blt pc 134) (cond (Nat.beq pc 133) (some (.iconst 0)) none) (cond (Nat.beq pc 134) (some (.istore 6)) none)) (cond (Nat.blt pc 138) (cond (Nat.beq pc 136) (some (.iload 6)) none) (cond (Nat.blt pc 141) (cond (Nat.beq pc 138) (some (.ifCond .eq 13)) none) (cond (Nat.beq pc 141) (some (.aload_n 0)) none)))) (cond (Nat.blt pc 148) (cond (Nat.blt pc 145) (cond (Nat.beq pc 142) (some (.getfield 13)) none) (cond (Nat.blt pc 147) (cond (Nat.beq pc 145) (some (.iload 4)) none) (cond (Nat.beq pc 147) (some (.iaload)) none))) (cond (Nat.blt pc 151) (cond (Nat.beq pc 148) (some (.goto 4)) none) (cond (Nat.blt pc 152) (cond (Nat.beq pc 151) (some (.iconst (-1))) none) (cond (Nat.beq pc 152) (some (.ireturn)) none))))))))
theorem tb_i103 : tb_okI 7 prog_9_method_21_code tb_f103 := tb_okI_of 153 tb_cut_out (by decide +kernel)
theorem tb_p103 : tb_okP tb_cl tb_WA "VaultDevicesModel" false tb_FL 6 tb_f103 := tb_okP_of 153 tb_cut_out (by decide +kernel)
/-- VaultDevicesModel.readEntry(I)V -/
def tb_f104 : Nat → Option Instr := tb_cut 327 (fun pc => cond (Nat.blt pc 161) (cond (Nat.blt pc 74) (cond (Nat.blt pc 31) (cond (Nat.blt pc 17) (cond (Nat.blt pc 7) (cond (Nat.blt pc 4) (cond (Nat.blt pc 1) (cond (Nat.beq pc 0) (some (.aload_n 0)) none) (cond (Nat.beq pc 1) (some (.getfield 125)) none)) (cond (Nat.blt pc 5) (cond (Nat.beq pc 4) (some (.istore_n 2)) none) (cond (Nat.blt pc 6) (cond (Nat.beq pc 5) (some (.aload_n 0)) none) (cond (Nat.beq pc 6) (some (.iload_n 1)) none)))) (cond (Nat.blt pc 12) (cond (Nat.blt pc 10) (cond (Nat.beq pc 7) (some (.putfield 125)) none) (cond (Nat.beq pc 10) (some (.bipush 36)) none)) (cond (Nat.blt pc 13) (cond (Nat.beq pc 12) (some (.aload_n 0)) none) (cond (Nat.blt pc 16) (cond (Nat.beq pc 13) (some (.getfield 38)) none) (cond (Nat.beq pc 16) (some (.iconst 3)) none))))) (cond (Nat.blt pc 22) (cond (Nat.blt pc 19) (cond (Nat.blt pc 18) (cond (Nat.beq pc 17) (some (.iaload)) none) (cond (Nat.beq pc 18) (some (.iadd)) none)) (cond (Nat.blt pc 20) (cond (Nat.beq pc 19) (some (.istore_n 3)) none) (cond (Nat.blt pc 21) (cond (Nat.beq pc 20) (some (.aload_n 0)) none) (cond (Nat.beq pc 21) (some (.iconst 0)) none)))) (cond (Nat.blt pc 28) (cond (Nat.blt pc 23) (cond (Nat.beq pc 22) (some (.iconst 3)) none) (cond (Nat.blt pc 26) (cond (Nat.beq pc 23) (some (.invokevirtual 135)) none) (cond (Nat.beq pc 26) (some (.istore 4)) none))) (cond (Nat.blt pc 29) (cond (Nat.beq pc 28) (some (.aload_n 0)) none) (cond (Nat.blt pc 30) (cond (Nat.beq pc 29) (some (.iconst 0)) none) (cond (Nat.beq pc 30) (some (.iconst 2)) none)))))) (cond (Nat.blt pc 53) (cond (Nat.blt pc 40) (cond (Nat.blt pc 36) (cond (Nat.blt pc 34) (cond (Nat.beq pc 31) (some (.invokevirtual 135)) none) (cond (Nat.beq pc 34) (some (.istore 5)) none)) (cond (Nat.blt pc 37) (cond (Nat.beq pc 36) (some (.aload_n 0)) none) (cond (Nat.blt pc 38) (cond (Nat.beq pc 37) (some (.iconst 1)) none) (cond (Nat.beq pc 38) (some (.bipush 30)) none)))) (cond (Nat.blt pc 46) (cond (Nat.blt pc 43) (cond (Nat.beq pc 40) (some (.invokevirtual 135)) none) (cond (Nat.blt pc 45) (cond (Nat.beq pc 43) (some (.istore 6)) none) (cond (Nat.beq pc 45) (some (.aload_n 0)) none))) (cond (Nat.blt pc 47) (cond (Nat.beq pc 46) (some (.aload_n 0)) none) (cond (Nat.blt pc 50) (cond (Nat.beq pc 47) (some (.getfield 122)) none) (cond (Nat.beq pc 50) (some (.ifCond .eq 19)) none))))) (cond (Nat.blt pc 62) (cond (Nat.blt pc 55) (cond (Nat.blt pc 54) (cond (Nat.beq pc 53) (some (.aload_n 0)) none) (cond (Nat.beq pc 54) (some (.aload_n 0)) none)) (cond (Nat.blt pc 58) (cond (Nat.beq pc 55) (some (.getfield 125)) none) (cond (Nat.blt pc 59) (cond (Nat.beq pc 58) (some (.iconst 3)) none) (cond (Nat.beq pc 59) (some (.invokevirtual 128)) none)))) (cond (Nat.blt pc 69) (cond (Nat.blt pc 65) (cond (Nat.beq pc 62) (some (.ifCond .eq 7)) none) (cond (Nat.blt pc 66) (cond (Nat.beq pc 65) (some (.iconst 1)) none) (cond (Nat.beq pc 66) (some (.goto 4)) none))) (cond (Nat.blt pc 70) (cond (Nat.beq pc 69) (some (.iconst 0)) none) (cond (Nat.blt pc 73) (cond (Nat.beq pc 70) (some (.putfield 122)) none) (cond (Nat.beq pc 73) (some (.aload_n 0)) none))))))) (cond (Nat.blt pc 118) (cond (Nat.blt pc 96) (cond (Nat.blt pc 85) (cond (Nat.blt pc 80) (cond (Nat.blt pc 77) (cond (Nat.beq pc 74) (some (.getfield 122)) none) (cond (Nat.beq pc 77) (some (.ifCond .eq 15)) none)) (cond (Nat.blt pc 81) (cond (Nat.beq pc 80) (some (.aload_n 0)) none) (cond (Nat.blt pc 84) (cond (Nat.beq pc 81) (some (.getfield 13)) none) (cond (Nat.beq pc 84) (some (.aload_n 0)) none)))) (cond (Nat.blt pc 92) (cond (Nat.blt pc 88) (cond (Nat.beq pc 85) (some (.getfield 125)) none) (cond (Nat.blt pc 89) (cond (Nat.beq pc 88) (some (.iaload)) none) (cond (Nat.beq pc 89) (some (.goto 4)) none))) (cond (Nat.blt pc 93) (cond (Nat.beq pc 92) (some (.iconst (-1))) none) (cond (Nat.blt pc 95) (cond (Nat.beq pc 93) (some (.istore 7)) none) (cond (Nat.beq pc 95) (some (.aload_n 0)) none))))) (cond (Nat.blt pc 107) (cond (Nat.blt pc 102) (cond (Nat.blt pc 99) (cond (Nat.beq pc 96) (some (.getfield 122)) none) (cond (Nat.beq pc 99) (some (.ifCond .eq 15)) none)) (cond (Nat.blt pc 103) (cond (Nat.beq pc 102) (some (.aload_n 0)) none) (cond (Nat.blt pc 106) (cond (Nat.beq pc 103) (some (.getfield 16)) none) (cond (Nat.beq pc 106) (some (.aload_n 0)) none)))) (cond (Nat.blt pc 114) (cond (Nat.blt pc 110) (cond (Nat.beq pc 107) (some (.getfield 125)) none) (cond (Nat.blt pc 111) (cond (Nat.beq pc 110) (some (.iaload)) none) (cond (Nat.beq pc 111) (some (.goto 4)) none))) (cond (Nat.blt pc 115) (cond (Nat.beq pc 114) (some (.iconst (-1))) none) (cond (Nat.blt pc 117) (cond (Nat.beq pc 115) (some (.istore 8)) none) (cond (Nat.beq pc 117) (some (.aload_n 0)) none)))))) (cond (Nat.blt pc 141) (cond (Nat.blt pc 128) (cond (Nat.blt pc 122) (cond (Nat.blt pc 119) (cond (Nat.beq pc 118) (some (.aload_n 0)) none) (cond (Nat.beq pc 119) (some (.getfield 122)) none)) (cond (Nat.blt pc 125) (cond (Nat.beq pc 122) (some (.ifCond .eq 90)) none) (cond (Nat.blt pc 126) (cond (Nat.beq pc 125) (some (.aload_n 0)) none) (cond (Nat.beq pc 126) (some (.iload 7)) none)))) (cond (Nat.blt pc 135) (cond (Nat.blt pc 129) (cond (Nat.beq pc 128) (some (.iconst 0)) none) (cond (Nat.blt pc 132) (cond (Nat.beq pc 129) (some (.invokevirtual 128)) none) (cond (Nat.beq pc 132) (some (.ifCond .eq 80)) none))) (cond (Nat.blt pc 136) (cond (Nat.beq pc 135) (some (.aload_n 0)) none) (cond (Nat.blt pc 139) (cond (Nat.beq pc 136) (some (.getfield 13)) none) (cond (Nat.beq pc 139) (some (.iload 7)) none))))) (cond (Nat.blt pc 150) (cond (Nat.blt pc 144) (cond (Nat.blt pc 142) (cond (Nat.beq pc 141) (some (.iaload)) none) (cond (Nat.beq pc 142) (some (.bipush 10)) none)) (cond (Nat.blt pc 146) (cond (Nat.beq pc 144) (some (.iload 4)) none) (cond (Nat.blt pc 147) (cond (Nat.beq pc 146) (some (.iadd)) none) (cond (Nat.beq pc 147) (some (.if_icmp .ne 65)) none)))) (cond (Nat.blt pc 154) (cond (Nat.blt pc 151) (cond (Nat.beq pc 150) (some (.aload_n 0)) none) (cond (Nat.blt pc 153) (cond (Nat.beq pc 151) (some (.iload 8)) none) (cond (Nat.beq pc 153) (some (.iconst 0)) none))) (cond (Nat.blt pc 157) (cond (Nat.beq pc 154) (some (.invokevirtual 128)) none) (cond (Nat.blt pc 160) (cond (Nat.beq pc 157) (some (.ifCond .eq 55)) none) (cond (Nat.beq pc 160) (some (.aload_n 0)) none)))))))) (cond (Nat.blt pc 243) (cond (Nat.blt pc 203) (cond (Nat.blt pc 182) (cond (Nat.blt pc 172) (cond (Nat.blt pc 166) (cond (Nat.blt pc 164) (cond (Nat.beq pc 161) (some (.getfield 13)) none) (cond (Nat.beq pc 164) (some (.iload 8)) none)) (cond (Nat.blt pc 167) (cond (Nat.beq pc 166) (some (.iaload)) none) (cond (Nat.blt pc 169) (cond (Nat.beq pc 167) (some (.bipush 100)) none) (cond (Nat.beq pc 169) (some (.if_icmp .lt 43)) none)))) (cond (Nat.blt pc 176) (cond (Nat.blt pc 173) (cond (Nat.beq pc 172) (some (.aload_n 0)) none) (cond (Nat.beq pc 173) (some (.getfield 13)) none)) (cond (Nat.blt pc 178) (cond (Nat.beq pc 176) (some (.iload 8)) none) (cond (Nat.blt pc 179) (cond (Nat.beq pc 178) (some (.iaload)) none) (cond (Nat.beq pc 179) (some (.sipush 163)) none))))) (cond (Nat.blt pc 191) (cond (Nat.blt pc 186) (cond (Nat.blt pc 185) (cond (Nat.beq pc 182) (some (.if_icmp .gt 30)) none) (cond (Nat.beq pc 185) (some (.aload_n 0)) none)) (cond (Nat.blt pc 187) (cond (Nat.beq pc 186) (some (.iconst 3)) none) (cond (Nat.blt pc 189) (cond (Nat.beq pc 187) (some (.iload 5)) none) (cond (Nat.beq pc 189) (some (.iload 6)) none)))) (cond (Nat.blt pc 198) (cond (Nat.blt pc 194) (cond (Nat.beq pc 191) (some (.invokevirtual 114)) none) (cond (Nat.blt pc 197) (cond (Nat.beq pc 194) (some (.ifCond .eq 18)) none) (cond (Nat.beq pc 197) (some (.aload_n 0)) none))) (cond (Nat.blt pc 201) (cond (Nat.beq pc 198) (some (.getfield 38)) none) (cond (Nat.blt pc 202) (cond (Nat.beq pc 201) (some (.iconst 3)) none) (cond (Nat.beq pc 202) (some (.iaload)) none)))))) (cond (Nat.blt pc 225) (cond (Nat.blt pc 213) (cond (Nat.blt pc 208) (cond (Nat.blt pc 205) (cond (Nat.beq pc 203) (some (.bipush 12)) none) (cond (Nat.beq pc 205) (some (.if_icmp .ge 7)) none)) (cond (Nat.blt pc 209) (cond (Nat.beq pc 208) (some (.iconst 1)) none) (cond (Nat.blt pc 212) (cond (Nat.beq pc 209) (some (.goto 4)) none) (cond (Nat.beq pc 212) (some (.iconst 0)) none)))) (cond (Nat.blt pc 218) (cond (Nat.blt pc 216) (cond (Nat.beq pc 213) (some (.putfield 122)) none) (cond (Nat.blt pc 217) (cond (Nat.beq pc 216) (some (.aload_n 0)) none) (cond (Nat.beq pc 217) (some (.iload_n 2)) none))) (cond (Nat.blt pc 221) (cond (Nat.beq pc 218) (some (.putfield 125)) none) (cond (Nat.blt pc 222) (cond (Nat.beq pc 221) (some (.aload_n 0)) none) (cond (Nat.beq pc 222) (some (.getfield 122)) none))))) (cond (Nat.blt pc 233) (cond (Nat.blt pc 229) (cond (Nat.blt pc 228) (cond (Nat.beq pc 225) (some (.ifCond .ne 4)) none) (cond (Nat.beq pc 228) (some (.return_)) none)) (cond (Nat.blt pc 230) (cond (Nat.beq pc 229) (some (.aload_n 0)) none) (cond (Nat.blt pc 231) (cond (Nat.beq pc 230) (some (.iload_n 3)) none) (cond (Nat.beq pc 231) (some (.iload 4)) none)))) (cond (Nat.blt pc 239) (cond (Nat.blt pc 234) (cond (Nat.beq pc 233) (some (.aload_n 0)) none) (cond (Nat.blt pc 237) (cond (Nat.beq pc 234) (some (.getfield 13)) none) (cond (Nat.beq pc 237) (some (.iload 8)) none))) (cond (Nat.blt pc 240) (cond (Nat.beq pc 239) (some (.iaload)) none) (cond (Nat.blt pc 242) (cond (Nat.beq pc 240) (some (.bipush 100)) none) (cond (Nat.beq pc 242) (some (.isub)) none))))))) (cond (Nat.blt pc 287) (cond (Nat.blt pc 265) (cond (Nat.blt pc 254) (cond (Nat.blt pc 247) (cond (Nat.blt pc 245) (cond (Nat.beq pc 243) (some (.iload 5)) none) (cond (Nat.beq pc 245) (some (.iload 6)) none)) (cond (Nat.blt pc 250) (cond (Nat.beq pc 247) (some (.invokevirtual 99)) none) (cond (Nat.blt pc 252) (cond (Nat.beq pc 250) (some (.bipush 36)) none) (cond (Nat.beq pc 252) (some (.istore 9)) none)))) (cond (Nat.blt pc 260) (cond (Nat.blt pc 256) (cond (Nat.beq pc 254) (some (.iload 9)) none) (cond (Nat.blt pc 257) (cond (Nat.beq pc 256) (some (.iload_n 3)) none) (cond (Nat.beq pc 257) (some (.if_icmp .ge 59)) none))) (cond (Nat.blt pc 261) (cond (Nat.beq pc 260) (some (.aload_n 0)) none) (cond (Nat.blt pc 262) (cond (Nat.beq pc 261) (some (.aload_n 0)) none) (cond (Nat.beq pc 262) (some (.getfield 122)) none))))) (cond (Nat.blt pc 275) (cond (Nat.blt pc 269) (cond (Nat.blt pc 268) (cond (Nat.beq pc 265) (some (.ifCond .eq 41)) none) (cond (Nat.beq pc 268) (some (.aload_n 0)) none)) (cond (Nat.blt pc 271) (cond (Nat.beq pc 269) (some (.iload 9)) none) (cond (Nat.blt pc 272) (cond (Nat.beq pc 271) (some (.iload_n 3)) none) (cond (Nat.beq pc 272) (some (.invokevirtual 103)) none)))) (cond (Nat.blt pc 282) (cond (Nat.blt pc 278) (cond (Nat.beq pc 275) (some (.ifCond .eq 31)) none) (cond (Nat.blt pc 279) (cond (Nat.beq pc 278) (some (.aload_n 0)) none) (cond (Nat.beq pc 279) (some (.getfield 47)) none))) (cond (Nat.blt pc 284) (cond (Nat.beq pc 282) (some (.iload 9)) none) (cond (Nat.blt pc 285) (cond (Nat.beq pc 284) (some (.iaload)) none) (cond (Nat.beq pc 285) (some (.iload 5)) none)))))) (cond (Nat.blt pc 310) (cond (Nat.blt pc 297) (cond (Nat.blt pc 291) (cond (Nat.blt pc 290) (cond (Nat.beq pc 287) (some (.if_icmp .ne 15)) none) (cond (Nat.beq pc 290) (some (.aload_n 0)) none)) (cond (Nat.blt pc 294) (cond (Nat.beq pc 291) (some (.getfield 50)) none) (cond (Nat.blt pc 296) (cond (Nat.beq pc 294) (some (.iload 9)) none) (cond (Nat.beq pc 296) (some (.iaload)) none)))) (cond (Nat.blt pc 303) (cond (Nat.blt pc 299) (cond (Nat.beq pc 297) (some (.iload 6)) none) (cond (Nat.blt pc 302) (cond (Nat.beq pc 299) (some (.if_icmp .eq 7)) none) (cond (Nat.beq pc 302) (some (.iconst 1)) none))) (cond (Nat.blt pc 306) (cond (Nat.beq pc 303) (some (.goto 4)) none) (cond (Nat.blt pc 307) (cond (Nat.beq pc 306) (some (.iconst 0)) none) (cond (Nat.beq pc 307) (some (.putfield 122)) none))))) (cond (Nat.blt pc 321) (cond (Nat.blt pc 316) (cond (Nat.blt pc 313) (cond (Nat.beq pc 310) (some (.iinc 9 1)) none) (cond (Nat.beq pc 313) (some (.goto (-59))) none)) (cond (Nat.blt pc 317) (cond (Nat.beq pc 316) (some (.aload_n 0)) none) (cond (Nat.blt pc 320) (cond (Nat.beq pc 317) (some (.getfield 38)) none) (cond (Nat.beq pc 320) (some (.iconst 3)) none)))) (cond (Nat.blt pc 324) (cond (Nat.blt pc 322) (cond (Nat.beq pc 321) (some (.dup2)) none) (cond (Nat.blt pc 323) (cond (Nat.beq pc 322) (some (.iaload)) none) (cond (Nat.beq pc 323) (some (.iconst 1)) none))) (cond (Nat.blt pc 325) (cond (Nat.beq pc 324) (some (.iadd)) none) (cond (Nat.blt pc 326) (cond (Nat.beq pc 325) (some (.iastore)) none) (cond (Nat.beq pc 326) (some (.return_)) none)))))))))
theorem tb_i104 : tb_okI 10 prog_9_method_22_code tb_f104 := tb_okI_of 327 tb_cut_out (by decide +kernel)
theorem tb_p104 : tb_okP tb_cl tb_WA "VaultDevicesModel" false tb_FL 6 tb_f104 := tb_okP_of 327 tb_cut_out (by decide +kernel)
/-- VaultDevicesModel.knows(III)Z -/
def tb_f105 : Nat → Option Instr := tb_cut 20 (fun pc => cond (Nat.blt pc 9) (cond (Nat.blt pc 5) (cond (Nat.blt pc 1) (cond (Nat.beq pc 0) (some (.aload_n 0)) none) (cond (Nat.blt pc 4) (cond (Nat.beq pc 1) (some (.getfield 35)) none) (cond (Nat.beq pc 4) (some (.iconst 3)) none))) (cond (Nat.blt pc 7) (cond (Nat.blt pc 6) (cond (Nat.beq pc 5) (some (.iload_n 1)) none) (cond (Nat.beq pc 6) (some (.imul)) none)) (cond (Nat.blt pc 8) (cond (Nat.beq pc 7) (some (.iload_n 2)) none) (cond (Nat.beq pc 8) (some (.iadd)) none)))) (cond (Nat.blt pc 14) (cond (Nat.blt pc 10) (cond (Nat.beq pc 9) (some (.iaload)) none) (cond (Nat.blt pc 11) (cond (Nat.beq pc 10) (some (.iload_n 3)) none) (cond (Nat.beq pc 11) (some (.if_icmp .lt 7)) none))) (cond (Nat.blt pc 18) (cond (Nat.blt pc 15) (cond (Nat.beq pc 14) (some (.iconst 1)) none) (cond (Nat.beq pc 15) (some (.goto 4)) none)) (cond (Nat.blt pc 19) (cond (Nat.beq pc 18) (some (.iconst 0)) none) (cond (Nat.beq pc 19) (some (.ireturn)) none)))))
theorem tb_i105 : tb_okI 4 prog_9_method_10_code tb_f105 := tb_okI_of 20 tb_cut_out (by decide +kernel)
theorem tb_p105 : tb_okP tb_cl tb_WA "VaultDevicesModel" false tb_FL 6 tb_f105 := tb_okP_of 20 tb_cut_out (by decide +kernel)
/-- VaultDevicesModel.merge(I)Z -/
def tb_f106 : Nat → Option Instr := tb_cut 168 (fun pc => cond (Nat.blt pc 81) (cond (Nat.blt pc 37) (cond (Nat.blt pc 16) (cond (Nat.blt pc 9) (cond (Nat.blt pc 5) (cond (Nat.blt pc 1) (cond (Nat.beq pc 0) (some (.aload_n 0)) none) (cond (Nat.blt pc 4) (cond (Nat.beq pc 1) (some (.getfield 38)) none) (cond (Nat.beq pc 4) (some (.iconst 4)) none))) (cond (Nat.blt pc 6) (cond (Nat.beq pc 5) (some (.iconst 0)) none) (cond (Nat.blt pc 7) (cond (Nat.beq pc 6) (some (.iastore)) none) (cond (Nat.beq pc 7) (some (.bipush 12)) none)))) (cond (Nat.blt pc 12) (cond (Nat.blt pc 10) (cond (Nat.beq pc 9) (some (.iload_n 1)) none) (cond (Nat.blt pc 11) (cond (Nat.beq pc 10) (some (.imul)) none) (cond (Nat.beq pc 11) (some (.istore_n 2)) none))) (cond (Nat.blt pc 13) (cond (Nat.beq pc 12) (some (.iload_n 2)) none) (cond (Nat.blt pc 15) (cond (Nat.beq pc 13) (some (.bipush 12)) none) (cond (Nat.beq pc 15) (some (.iload_n 1)) none))))) (cond (Nat.blt pc 24) (cond (Nat.blt pc 21) (cond (Nat.blt pc 17) (cond (Nat.beq pc 16) (some (.imul)) none) (cond (Nat.blt pc 18) (cond (Nat.beq pc 17) (some (.aload_n 0)) none) (cond (Nat.beq pc 18) (some (.getfield 38)) none))) (cond (Nat.blt pc 22) (cond (Nat.beq pc 21) (some (.iload_n 1)) none) (cond (Nat.blt pc 23) (cond (Nat.beq pc 22) (some (.iaload)) none) (cond (Nat.beq pc 23) (some (.iadd)) none)))) (cond (Nat.blt pc 29) (cond (Nat.blt pc 27) (cond (Nat.beq pc 24) (some (.if_icmp .ge 57)) none) (cond (Nat.blt pc 28) (cond (Nat.beq pc 27) (some (.aload_n 0)) none) (cond (Nat.beq pc 28) (some (.iconst 3)) none))) (cond (Nat.blt pc 33) (cond (Nat.blt pc 30) (cond (Nat.beq pc 29) (some (.iload_n 2)) none) (cond (Nat.beq pc 30) (some (.invokevirtual 111)) none)) (cond (Nat.blt pc 36) (cond (Nat.beq pc 33) (some (.ifCond .ne 23)) none) (cond (Nat.beq pc 36) (some (.aload_n 0)) none)))))) (cond (Nat.blt pc 57) (cond (Nat.blt pc 45) (cond (Nat.blt pc 42) (cond (Nat.blt pc 38) (cond (Nat.beq pc 37) (some (.iconst 3)) none) (cond (Nat.blt pc 39) (cond (Nat.beq pc 38) (some (.aload_n 0)) none) (cond (Nat.beq pc 39) (some (.getfield 47)) none))) (cond (Nat.blt pc 43) (cond (Nat.beq pc 42) (some (.iload_n 2)) none) (cond (Nat.blt pc 44) (cond (Nat.beq pc 43) (some (.iaload)) none) (cond (Nat.beq pc 44) (some (.aload_n 0)) none)))) (cond (Nat.blt pc 50) (cond (Nat.blt pc 48) (cond (Nat.beq pc 45) (some (.getfield 50)) none) (cond (Nat.blt pc 49) (cond (Nat.beq pc 48) (some (.iload_n 2)) none) (cond (Nat.beq pc 49) (some (.iaload)) none))) (cond (Nat.blt pc 53) (cond (Nat.beq pc 50) (some (.invokevirtual 114)) none) (cond (Nat.blt pc 56) (cond (Nat.beq pc 53) (some (.ifCond .ne 22)) none) (cond (Nat.beq pc 56) (some (.aload_n 0)) none))))) (cond (Nat.blt pc 66) (cond (Nat.blt pc 61) (cond (Nat.blt pc 58) (cond (Nat.beq pc 57) (some (.iload_n 2)) none) (cond (Nat.blt pc 60) (cond (Nat.beq pc 58) (some (.bipush 48)) none) (cond (Nat.beq pc 60) (some (.aload_n 0)) none))) (cond (Nat.blt pc 64) (cond (Nat.beq pc 61) (some (.getfield 38)) none) (cond (Nat.blt pc 65) (cond (Nat.beq pc 64) (some (.iconst 4)) none) (cond (Nat.beq pc 65) (some (.iaload)) none)))) (cond (Nat.blt pc 71) (cond (Nat.blt pc 67) (cond (Nat.beq pc 66) (some (.iadd)) none) (cond (Nat.blt pc 70) (cond (Nat.beq pc 67) (some (.invokevirtual 107)) none) (cond (Nat.beq pc 70) (some (.aload_n 0)) none))) (cond (Nat.blt pc 75) (cond (Nat.blt pc 72) (cond (Nat.beq pc 71) (some (.iconst 4)) none) (cond (Nat.beq pc 72) (some (.invokevirtual 118)) none)) (cond (Nat.blt pc 78) (cond (Nat.beq pc 75) (some (.iinc 2 1)) none) (cond (Nat.beq pc 78) (some (.goto (-66))) none))))))) (cond (Nat.blt pc 120) (cond (Nat.blt pc 99) (cond (Nat.blt pc 91) (cond (Nat.blt pc 85) (cond (Nat.blt pc 83) (cond (Nat.beq pc 81) (some (.bipush 36)) none) (cond (Nat.blt pc 84) (cond (Nat.beq pc 83) (some (.istore_n 2)) none) (cond (Nat.beq pc 84) (some (.iload_n 2)) none))) (cond (Nat.blt pc 87) (cond (Nat.beq pc 85) (some (.bipush 36)) none) (cond (Nat.blt pc 88) (cond (Nat.beq pc 87) (some (.aload_n 0)) none) (cond (Nat.beq pc 88) (some (.getfield 38)) none)))) (cond (Nat.blt pc 94) (cond (Nat.blt pc 92) (cond (Nat.beq pc 91) (some (.iconst 3)) none) (cond (Nat.blt pc 93) (cond (Nat.beq pc 92) (some (.iaload)) none) (cond (Nat.beq pc 93) (some (.iadd)) none))) (cond (Nat.blt pc 97) (cond (Nat.beq pc 94) (some (.if_icmp .ge 57)) none) (cond (Nat.blt pc 98) (cond (Nat.beq pc 97) (some (.aload_n 0)) none) (cond (Nat.beq pc 98) (some (.iload_n 1)) none))))) (cond (Nat.blt pc 109) (cond (Nat.blt pc 106) (cond (Nat.blt pc 100) (cond (Nat.beq pc 99) (some (.iload_n 2)) none) (cond (Nat.blt pc 103) (cond (Nat.beq pc 100) (some (.invokevirtual 111)) none) (cond (Nat.beq pc 103) (some (.ifCond .ne 42)) none))) (cond (Nat.blt pc 107) (cond (Nat.beq pc 106) (some (.aload_n 0)) none) (cond (Nat.blt pc 108) (cond (Nat.beq pc 107) (some (.iload_n 1)) none) (cond (Nat.beq pc 108) (some (.aload_n 0)) none)))) (cond (Nat.blt pc 114) (cond (Nat.blt pc 112) (cond (Nat.beq pc 109) (some (.getfield 47)) none) (cond (Nat.blt pc 113) (cond (Nat.beq pc 112) (some (.iload_n 2)) none) (cond (Nat.beq pc 113) (some (.iaload)) none))) (cond (Nat.blt pc 118) (cond (Nat.blt pc 115) (cond (Nat.beq pc 114) (some (.aload_n 0)) none) (cond (Nat.beq pc 115) (some (.getfield 50)) none)) (cond (Nat.blt pc 119) (cond (Nat.beq pc 118) (some (.iload_n 2)) none) (cond (Nat.beq pc 119) (some (.iaload)) none)))))) (cond (Nat.blt pc 142) (cond (Nat.blt pc 131) (cond (Nat.blt pc 127) (cond (Nat.blt pc 123) (cond (Nat.beq pc 120) (some (.invokevirtual 114)) none) (cond (Nat.blt pc 126) (cond (Nat.beq pc 123) (some (.ifCond .ne 22)) none) (cond (Nat.beq pc 126) (some (.aload_n 0)) none))) (cond (Nat.blt pc 128) (cond (Nat.beq pc 127) (some (.iload_n 2)) none) (cond (Nat.blt pc 130) (cond (Nat.beq pc 128) (some (.bipush 48)) none) (cond (Nat.beq pc 130) (some (.aload_n 0)) none)))) (cond (Nat.blt pc 136) (cond (Nat.blt pc 134) (cond (Nat.beq pc 131) (some (.getfield 38)) none) (cond (Nat.blt pc 135) (cond (Nat.beq pc 134) (some (.iconst 4)) none) (cond (Nat.beq pc 135) (some (.iaload)) none))) (cond (Nat.blt pc 140) (cond (Nat.blt pc 137) (cond (Nat.beq pc 136) (some (.iadd)) none) (cond (Nat.beq pc 137) (some (.invokevirtual 107)) none)) (cond (Nat.blt pc 141) (cond (Nat.beq pc 140) (some (.aload_n 0)) none) (cond (Nat.beq pc 141) (some (.iconst 4)) none))))) (cond (Nat.blt pc 156) (cond (Nat.blt pc 151) (cond (Nat.blt pc 145) (cond (Nat.beq pc 142) (some (.invokevirtual 118)) none) (cond (Nat.blt pc 148) (cond (Nat.beq pc 145) (some (.iinc 2 1)) none) (cond (Nat.beq pc 148) (some (.goto (-64))) none))) (cond (Nat.blt pc 152) (cond (Nat.beq pc 151) (some (.aload_n 0)) none) (cond (Nat.blt pc 155) (cond (Nat.beq pc 152) (some (.getfield 38)) none) (cond (Nat.beq pc 155) (some (.iconst 4)) none)))) (cond (Nat.blt pc 162) (cond (Nat.blt pc 157) (cond (Nat.beq pc 156) (some (.iaload)) none) (cond (Nat.blt pc 159) (cond (Nat.beq pc 157) (some (.bipush 12)) none) (cond (Nat.beq pc 159) (some (.if_icmp .gt 7)) none))) (cond (Nat.blt pc 166) (cond (Nat.blt pc 163) (cond (Nat.beq pc 162) (some (.iconst 1)) none) (cond (Nat.beq pc 163) (some (.goto 4)) none)) (cond (Nat.blt pc 167) (cond (Nat.beq pc 166) (some (.iconst 0)) none) (cond (Nat.beq pc 167) (some (.ireturn)) none))))))))
theorem tb_i106 : tb_okI 3 prog_9_method_16_code tb_f106 := tb_okI_of 168 tb_cut_out (by decide +kernel)
theorem tb_p106 : tb_okP tb_cl tb_WA "VaultDevicesModel" false tb_FL 6 tb_f106 := tb_okP_of 168 tb_cut_out (by decide +kernel)
/-- VaultDevicesModel.holds(II)Z -/
def tb_f107 : Nat → Option Instr := tb_cut 90 (fun pc => cond (Nat.blt pc 42) (cond (Nat.blt pc 20) (cond (Nat.blt pc 9) (cond (Nat.blt pc 4) (cond (Nat.blt pc 2) (cond (Nat.beq pc 0) (some (.bipush 12)) none) (cond (Nat.blt pc 3) (cond (Nat.beq pc 2) (some (.iload_n 1)) none) (cond (Nat.beq pc 3) (some (.imul)) none))) (cond (Nat.blt pc 6) (cond (Nat.blt pc 5) (cond (Nat.beq pc 4) (some (.istore_n 3)) none) (cond (Nat.beq pc 5) (some (.iload_n 3)) none)) (cond (Nat.blt pc 8) (cond (Nat.beq pc 6) (some (.bipush 12)) none) (cond (Nat.beq pc 8) (some (.iload_n 1)) none)))) (cond (Nat.blt pc 14) (cond (Nat.blt pc 10) (cond (Nat.beq pc 9) (some (.imul)) none) (cond (Nat.blt pc 11) (cond (Nat.beq pc 10) (some (.aload_n 0)) none) (cond (Nat.beq pc 11) (some (.getfield 38)) none))) (cond (Nat.blt pc 16) (cond (Nat.blt pc 15) (cond (Nat.beq pc 14) (some (.iload_n 1)) none) (cond (Nat.beq pc 15) (some (.iaload)) none)) (cond (Nat.blt pc 17) (cond (Nat.beq pc 16) (some (.iadd)) none) (cond (Nat.beq pc 17) (some (.if_icmp .ge 71)) none))))) (cond (Nat.blt pc 31) (cond (Nat.blt pc 25) (cond (Nat.blt pc 21) (cond (Nat.beq pc 20) (some (.aload_n 0)) none) (cond (Nat.blt pc 24) (cond (Nat.beq pc 21) (some (.getfield 41)) none) (cond (Nat.beq pc 24) (some (.iload_n 3)) none))) (cond (Nat.blt pc 27) (cond (Nat.blt pc 26) (cond (Nat.beq pc 25) (some (.iaload)) none) (cond (Nat.beq pc 26) (some (.aload_n 0)) none)) (cond (Nat.blt pc 30) (cond (Nat.beq pc 27) (some (.getfield 41)) none) (cond (Nat.beq pc 30) (some (.iload_n 2)) none)))) (cond (Nat.blt pc 36) (cond (Nat.blt pc 32) (cond (Nat.beq pc 31) (some (.iaload)) none) (cond (Nat.blt pc 35) (cond (Nat.beq pc 32) (some (.if_icmp .ne 50)) none) (cond (Nat.beq pc 35) (some (.aload_n 0)) none))) (cond (Nat.blt pc 40) (cond (Nat.blt pc 39) (cond (Nat.beq pc 36) (some (.getfield 44)) none) (cond (Nat.beq pc 39) (some (.iload_n 3)) none)) (cond (Nat.blt pc 41) (cond (Nat.beq pc 40) (some (.iaload)) none) (cond (Nat.beq pc 41) (some (.aload_n 0)) none)))))) (cond (Nat.blt pc 66) (cond (Nat.blt pc 55) (cond (Nat.blt pc 47) (cond (Nat.blt pc 45) (cond (Nat.beq pc 42) (some (.getfield 44)) none) (cond (Nat.blt pc 46) (cond (Nat.beq pc 45) (some (.iload_n 2)) none) (cond (Nat.beq pc 46) (some (.iaload)) none))) (cond (Nat.blt pc 51) (cond (Nat.blt pc 50) (cond (Nat.beq pc 47) (some (.if_icmp .ne 35)) none) (cond (Nat.beq pc 50) (some (.aload_n 0)) none)) (cond (Nat.blt pc 54) (cond (Nat.beq pc 51) (some (.getfield 47)) none) (cond (Nat.beq pc 54) (some (.iload_n 3)) none)))) (cond (Nat.blt pc 60) (cond (Nat.blt pc 56) (cond (Nat.beq pc 55) (some (.iaload)) none) (cond (Nat.blt pc 57) (cond (Nat.beq pc 56) (some (.aload_n 0)) none) (cond (Nat.beq pc 57) (some (.getfield 47)) none))) (cond (Nat.blt pc 62) (cond (Nat.blt pc 61) (cond (Nat.beq pc 60) (some (.iload_n 2)) none) (cond (Nat.beq pc 61) (some (.iaload)) none)) (cond (Nat.blt pc 65) (cond (Nat.beq pc 62) (some (.if_icmp .ne 20)) none) (cond (Nat.beq pc 65) (some (.aload_n 0)) none))))) (cond (Nat.blt pc 77) (cond (Nat.blt pc 71) (cond (Nat.blt pc 69) (cond (Nat.beq pc 66) (some (.getfield 50)) none) (cond (Nat.blt pc 70) (cond (Nat.beq pc 69) (some (.iload_n 3)) none) (cond (Nat.beq pc 70) (some (.iaload)) none))) (cond (Nat.blt pc 75) (cond (Nat.blt pc 72) (cond (Nat.beq pc 71) (some (.aload_n 0)) none) (cond (Nat.beq pc 72) (some (.getfield 50)) none)) (cond (Nat.blt pc 76) (cond (Nat.beq pc 75) (some (.iload_n 2)) none) (cond (Nat.beq pc 76) (some (.iaload)) none)))) (cond (Nat.blt pc 82) (cond (Nat.blt pc 80) (cond (Nat.beq pc 77) (some (.if_icmp .ne 5)) none) (cond (Nat.blt pc 81) (cond (Nat.beq pc 80) (some (.iconst 1)) none) (cond (Nat.beq pc 81) (some (.ireturn)) none))) (cond (Nat.blt pc 88) (cond (Nat.blt pc 85) (cond (Nat.beq pc 82) (some (.iinc 3 1)) none) (cond (Nat.beq pc 85) (some (.goto (-80))) none)) (cond (Nat.blt pc 89) (cond (Nat.beq pc 88) (some (.iconst 0)) none) (cond (Nat.beq pc 89) (some (.ireturn)) none)))))))
theorem tb_i107 : tb_okI 4 prog_9_method_11_code tb_f107 := tb_okI_of 90 tb_cut_out (by decide +kernel)
theorem tb_p107 : tb_okP tb_cl tb_WA "VaultDevicesModel" false tb_FL 6 tb_f107 := tb_okP_of 90 tb_cut_out (by decide +kernel)
/-- VaultDevicesModel.adopt(I)V -/
def tb_f108 : Nat → Option Instr := tb_cut 197 (fun pc => cond (Nat.blt pc 95) (cond (Nat.blt pc 48) (cond (Nat.blt pc 24) (cond (Nat.blt pc 12) (cond (Nat.blt pc 6) (cond (Nat.blt pc 4) (cond (Nat.blt pc 1) (cond (Nat.beq pc 0) (some (.aload_n 0)) none) (cond (Nat.beq pc 1) (some (.getfield 38)) none)) (cond (Nat.blt pc 5) (cond (Nat.beq pc 4) (some (.iload_n 1)) none) (cond (Nat.beq pc 5) (some (.aload_n 0)) none))) (cond (Nat.blt pc 10) (cond (Nat.blt pc 9) (cond (Nat.beq pc 6) (some (.getfield 38)) none) (cond (Nat.beq pc 9) (some (.iconst 4)) none)) (cond (Nat.blt pc 11) (cond (Nat.beq pc 10) (some (.iaload)) none) (cond (Nat.beq pc 11) (some (.iastore)) none)))) (cond (Nat.blt pc 16) (cond (Nat.blt pc 14) (cond (Nat.blt pc 13) (cond (Nat.beq pc 12) (some (.iconst 0)) none) (cond (Nat.beq pc 13) (some (.istore_n 2)) none)) (cond (Nat.blt pc 15) (cond (Nat.beq pc 14) (some (.iload_n 2)) none) (cond (Nat.beq pc 15) (some (.aload_n 0)) none))) (cond (Nat.blt pc 20) (cond (Nat.blt pc 19) (cond (Nat.beq pc 16) (some (.getfield 38)) none) (cond (Nat.beq pc 19) (some (.iconst 4)) none)) (cond (Nat.blt pc 21) (cond (Nat.beq pc 20) (some (.iaload)) none) (cond (Nat.beq pc 21) (some (.if_icmp .ge 23)) none))))) (cond (Nat.blt pc 34) (cond (Nat.blt pc 29) (cond (Nat.blt pc 27) (cond (Nat.blt pc 25) (cond (Nat.beq pc 24) (some (.aload_n 0)) none) (cond (Nat.beq pc 25) (some (.bipush 48)) none)) (cond (Nat.blt pc 28) (cond (Nat.beq pc 27) (some (.iload_n 2)) none) (cond (Nat.beq pc 28) (some (.iadd)) none))) (cond (Nat.blt pc 32) (cond (Nat.blt pc 31) (cond (Nat.beq pc 29) (some (.bipush 12)) none) (cond (Nat.beq pc 31) (some (.iload_n 1)) none)) (cond (Nat.blt pc 33) (cond (Nat.beq pc 32) (some (.imul)) none) (cond (Nat.beq pc 33) (some (.iload_n 2)) none)))) (cond (Nat.blt pc 44) (cond (Nat.blt pc 38) (cond (Nat.blt pc 35) (cond (Nat.beq pc 34) (some (.iadd)) none) (cond (Nat.beq pc 35) (some (.invokevirtual 107)) none)) (cond (Nat.blt pc 41) (cond (Nat.beq pc 38) (some (.iinc 2 1)) none) (cond (Nat.beq pc 41) (some (.goto (-27))) none))) (cond (Nat.blt pc 46) (cond (Nat.blt pc 45) (cond (Nat.beq pc 44) (some (.iconst 0)) none) (cond (Nat.beq pc 45) (some (.istore_n 2)) none)) (cond (Nat.blt pc 47) (cond (Nat.beq pc 46) (some (.iload_n 2)) none) (cond (Nat.beq pc 47) (some (.iconst 3)) none)))))) (cond (Nat.blt pc 71) (cond (Nat.blt pc 61) (cond (Nat.blt pc 57) (cond (Nat.blt pc 52) (cond (Nat.blt pc 51) (cond (Nat.beq pc 48) (some (.if_icmp .ge 57)) none) (cond (Nat.beq pc 51) (some (.aload_n 0)) none)) (cond (Nat.blt pc 55) (cond (Nat.beq pc 52) (some (.getfield 35)) none) (cond (Nat.beq pc 55) (some (.bipush 9)) none))) (cond (Nat.blt pc 59) (cond (Nat.blt pc 58) (cond (Nat.beq pc 57) (some (.iload_n 2)) none) (cond (Nat.beq pc 58) (some (.iadd)) none)) (cond (Nat.blt pc 60) (cond (Nat.beq pc 59) (some (.iaload)) none) (cond (Nat.beq pc 60) (some (.istore_n 3)) none)))) (cond (Nat.blt pc 67) (cond (Nat.blt pc 65) (cond (Nat.blt pc 62) (cond (Nat.beq pc 61) (some (.aload_n 0)) none) (cond (Nat.beq pc 62) (some (.getfield 35)) none)) (cond (Nat.blt pc 66) (cond (Nat.beq pc 65) (some (.iconst 3)) none) (cond (Nat.beq pc 66) (some (.iload_n 1)) none))) (cond (Nat.blt pc 69) (cond (Nat.blt pc 68) (cond (Nat.beq pc 67) (some (.imul)) none) (cond (Nat.beq pc 68) (some (.iload_n 2)) none)) (cond (Nat.blt pc 70) (cond (Nat.beq pc 69) (some (.iadd)) none) (cond (Nat.beq pc 70) (some (.iload_n 3)) none))))) (cond (Nat.blt pc 81) (cond (Nat.blt pc 77) (cond (Nat.blt pc 75) (cond (Nat.blt pc 72) (cond (Nat.beq pc 71) (some (.aload_n 0)) none) (cond (Nat.beq pc 72) (some (.getfield 35)) none)) (cond (Nat.blt pc 76) (cond (Nat.beq pc 75) (some (.iconst 3)) none) (cond (Nat.beq pc 76) (some (.iload_n 1)) none))) (cond (Nat.blt pc 79) (cond (Nat.blt pc 78) (cond (Nat.beq pc 77) (some (.imul)) none) (cond (Nat.beq pc 78) (some (.iload_n 2)) none)) (cond (Nat.blt pc 80) (cond (Nat.beq pc 79) (some (.iadd)) none) (cond (Nat.beq pc 80) (some (.iaload)) none)))) (cond (Nat.blt pc 89) (cond (Nat.blt pc 85) (cond (Nat.blt pc 84) (cond (Nat.beq pc 81) (some (.if_icmp .le 7)) none) (cond (Nat.beq pc 84) (some (.iload_n 3)) none)) (cond (Nat.blt pc 88) (cond (Nat.beq pc 85) (some (.goto 13)) none) (cond (Nat.beq pc 88) (some (.aload_n 0)) none))) (cond (Nat.blt pc 93) (cond (Nat.blt pc 92) (cond (Nat.beq pc 89) (some (.getfield 35)) none) (cond (Nat.beq pc 92) (some (.iconst 3)) none)) (cond (Nat.blt pc 94) (cond (Nat.beq pc 93) (some (.iload_n 1)) none) (cond (Nat.beq pc 94) (some (.imul)) none))))))) (cond (Nat.blt pc 147) (cond (Nat.blt pc 121) (cond (Nat.blt pc 109) (cond (Nat.blt pc 99) (cond (Nat.blt pc 97) (cond (Nat.blt pc 96) (cond (Nat.beq pc 95) (some (.iload_n 2)) none) (cond (Nat.beq pc 96) (some (.iadd)) none)) (cond (Nat.blt pc 98) (cond (Nat.beq pc 97) (some (.iaload)) none) (cond (Nat.beq pc 98) (some (.iastore)) none))) (cond (Nat.blt pc 105) (cond (Nat.blt pc 102) (cond (Nat.beq pc 99) (some (.iinc 2 1)) none) (cond (Nat.beq pc 102) (some (.goto (-56))) none)) (cond (Nat.blt pc 106) (cond (Nat.beq pc 105) (some (.aload_n 0)) none) (cond (Nat.beq pc 106) (some (.getfield 26)) none)))) (cond (Nat.blt pc 115) (cond (Nat.blt pc 111) (cond (Nat.blt pc 110) (cond (Nat.beq pc 109) (some (.iconst 3)) none) (cond (Nat.beq pc 110) (some (.iaload)) none)) (cond (Nat.blt pc 112) (cond (Nat.beq pc 111) (some (.aload_n 0)) none) (cond (Nat.beq pc 112) (some (.getfield 26)) none))) (cond (Nat.blt pc 117) (cond (Nat.blt pc 116) (cond (Nat.beq pc 115) (some (.iload_n 1)) none) (cond (Nat.beq pc 116) (some (.iaload)) none)) (cond (Nat.blt pc 120) (cond (Nat.beq pc 117) (some (.if_icmp .gt 33)) none) (cond (Nat.beq pc 120) (some (.aload_n 0)) none))))) (cond (Nat.blt pc 135) (cond (Nat.blt pc 127) (cond (Nat.blt pc 125) (cond (Nat.blt pc 124) (cond (Nat.beq pc 121) (some (.getfield 26)) none) (cond (Nat.beq pc 124) (some (.iconst 3)) none)) (cond (Nat.blt pc 126) (cond (Nat.beq pc 125) (some (.iaload)) none) (cond (Nat.beq pc 126) (some (.aload_n 0)) none))) (cond (Nat.blt pc 131) (cond (Nat.blt pc 130) (cond (Nat.beq pc 127) (some (.getfield 26)) none) (cond (Nat.beq pc 130) (some (.iload_n 1)) none)) (cond (Nat.blt pc 132) (cond (Nat.beq pc 131) (some (.iaload)) none) (cond (Nat.beq pc 132) (some (.if_icmp .ne 22)) none)))) (cond (Nat.blt pc 141) (cond (Nat.blt pc 139) (cond (Nat.blt pc 136) (cond (Nat.beq pc 135) (some (.aload_n 0)) none) (cond (Nat.beq pc 136) (some (.getfield 29)) none)) (cond (Nat.blt pc 140) (cond (Nat.beq pc 139) (some (.iconst 3)) none) (cond (Nat.beq pc 140) (some (.iaload)) none))) (cond (Nat.blt pc 145) (cond (Nat.blt pc 142) (cond (Nat.beq pc 141) (some (.aload_n 0)) none) (cond (Nat.beq pc 142) (some (.getfield 29)) none)) (cond (Nat.blt pc 146) (cond (Nat.beq pc 145) (some (.iload_n 1)) none) (cond (Nat.beq pc 146) (some (.iaload)) none)))))) (cond (Nat.blt pc 173) (cond (Nat.blt pc 161) (cond (Nat.blt pc 155) (cond (Nat.blt pc 151) (cond (Nat.blt pc 150) (cond (Nat.beq pc 147) (some (.if_icmp .ge 7)) none) (cond (Nat.beq pc 150) (some (.iconst 1)) none)) (cond (Nat.blt pc 154) (cond (Nat.beq pc 151) (some (.goto 4)) none) (cond (Nat.beq pc 154) (some (.iconst 0)) none))) (cond (Nat.blt pc 157) (cond (Nat.blt pc 156) (cond (Nat.beq pc 155) (some (.istore_n 2)) none) (cond (Nat.beq pc 156) (some (.iload_n 2)) none)) (cond (Nat.blt pc 160) (cond (Nat.beq pc 157) (some (.ifCond .eq 39)) none) (cond (Nat.beq pc 160) (some (.aload_n 0)) none)))) (cond (Nat.blt pc 169) (cond (Nat.blt pc 165) (cond (Nat.blt pc 164) (cond (Nat.beq pc 161) (some (.getfield 26)) none) (cond (Nat.beq pc 164) (some (.iload_n 1)) none)) (cond (Nat.blt pc 166) (cond (Nat.beq pc 165) (some (.aload_n 0)) none) (cond (Nat.beq pc 166) (some (.getfield 26)) none))) (cond (Nat.blt pc 171) (cond (Nat.blt pc 170) (cond (Nat.beq pc 169) (some (.iconst 3)) none) (cond (Nat.beq pc 170) (some (.iaload)) none)) (cond (Nat.blt pc 172) (cond (Nat.beq pc 171) (some (.iastore)) none) (cond (Nat.beq pc 172) (some (.aload_n 0)) none))))) (cond (Nat.blt pc 185) (cond (Nat.blt pc 181) (cond (Nat.blt pc 177) (cond (Nat.blt pc 176) (cond (Nat.beq pc 173) (some (.getfield 29)) none) (cond (Nat.beq pc 176) (some (.iload_n 1)) none)) (cond (Nat.blt pc 178) (cond (Nat.beq pc 177) (some (.aload_n 0)) none) (cond (Nat.beq pc 178) (some (.getfield 29)) none))) (cond (Nat.blt pc 183) (cond (Nat.blt pc 182) (cond (Nat.beq pc 181) (some (.iconst 3)) none) (cond (Nat.beq pc 182) (some (.iaload)) none)) (cond (Nat.blt pc 184) (cond (Nat.beq pc 183) (some (.iastore)) none) (cond (Nat.beq pc 184) (some (.aload_n 0)) none)))) (cond (Nat.blt pc 193) (cond (Nat.blt pc 189) (cond (Nat.blt pc 188) (cond (Nat.beq pc 185) (some (.getfield 32)) none) (cond (Nat.beq pc 188) (some (.iload_n 1)) none)) (cond (Nat.blt pc 190) (cond (Nat.beq pc 189) (some (.aload_n 0)) none) (cond (Nat.beq pc 190) (some (.getfield 32)) none))) (cond (Nat.blt pc 195) (cond (Nat.blt pc 194) (cond (Nat.beq pc 193) (some (.iconst 3)) none) (cond (Nat.beq pc 194) (some (.iaload)) none)) (cond (Nat.blt pc 196) (cond (Nat.beq pc 195) (some (.iastore)) none) (cond (Nat.beq pc 196) (some (.return_)) none))))))))
theorem tb_i108 : tb_okI 4 prog_9_method_17_code tb_f108 := tb_okI_of 197 tb_cut_out (by decide +kernel)
theorem tb_p108 : tb_okP tb_cl tb_WA "VaultDevicesModel" false tb_FL 6 tb_f108 := tb_okP_of 197 tb_cut_out (by decide +kernel)
/-- VaultDevicesModel.drop(I)Z -/
def tb_f109 : Nat → Option Instr := tb_cut 26 (fun pc => cond (Nat.blt pc 14) (cond (Nat.blt pc 6) (cond (Nat.blt pc 2) (cond (Nat.blt pc 1) (cond (Nat.beq pc 0) (some (.aload_n 0)) none) (cond (Nat.beq pc 1) (some (.iconst 0)) none)) (cond (Nat.blt pc 5) (cond (Nat.beq pc 2) (some (.putfield 78)) none) (cond (Nat.beq pc 5) (some (.iload_n 1)) none))) (cond (Nat.blt pc 10) (cond (Nat.blt pc 9) (cond (Nat.beq pc 6) (some (.ifCond .lt 11)) none) (cond (Nat.beq pc 9) (some (.iload_n 1)) none)) (cond (Nat.blt pc 11) (cond (Nat.beq pc 10) (some (.aload_n 0)) none) (cond (Nat.beq pc 11) (some (.getfield 145)) none)))) (cond (Nat.blt pc 20) (cond (Nat.blt pc 18) (cond (Nat.blt pc 17) (cond (Nat.beq pc 14) (some (.if_icmp .lt 5)) none) (cond (Nat.beq pc 17) (some (.iconst 0)) none)) (cond (Nat.blt pc 19) (cond (Nat.beq pc 18) (some (.ireturn)) none) (cond (Nat.beq pc 19) (some (.aload_n 0)) none))) (cond (Nat.blt pc 24) (cond (Nat.blt pc 21) (cond (Nat.beq pc 20) (some (.iload_n 1)) none) (cond (Nat.beq pc 21) (some (.invokevirtual 182)) none)) (cond (Nat.blt pc 25) (cond (Nat.beq pc 24) (some (.iconst 1)) none) (cond (Nat.beq pc 25) (some (.ireturn)) none)))))
theorem tb_i109 : tb_okI 2 prog_9_method_40_code tb_f109 := tb_okI_of 26 tb_cut_out (by decide +kernel)
theorem tb_p109 : tb_okP tb_cl tb_WA "VaultDevicesModel" false tb_FL 6 tb_f109 := tb_okP_of 26 tb_cut_out (by decide +kernel)
/-- VaultDevicesModel.message(II)I -/
def tb_f110 : Nat → Option Instr := tb_cut 76 (fun pc => cond (Nat.blt pc 38) (cond (Nat.blt pc 19) (cond (Nat.blt pc 9) (cond (Nat.blt pc 2) (cond (Nat.blt pc 1) (cond (Nat.beq pc 0) (some (.aload_n 0)) none) (cond (Nat.beq pc 1) (some (.iconst 0)) none)) (cond (Nat.blt pc 5) (cond (Nat.beq pc 2) (some (.putfield 78)) none) (cond (Nat.blt pc 6) (cond (Nat.beq pc 5) (some (.iload_n 1)) none) (cond (Nat.beq pc 6) (some (.ifCond .lt 11)) none)))) (cond (Nat.blt pc 14) (cond (Nat.blt pc 10) (cond (Nat.beq pc 9) (some (.iload_n 1)) none) (cond (Nat.blt pc 11) (cond (Nat.beq pc 10) (some (.aload_n 0)) none) (cond (Nat.beq pc 11) (some (.getfield 145)) none))) (cond (Nat.blt pc 17) (cond (Nat.beq pc 14) (some (.if_icmp .lt 5)) none) (cond (Nat.blt pc 18) (cond (Nat.beq pc 17) (some (.iconst (-1))) none) (cond (Nat.beq pc 18) (some (.ireturn)) none))))) (cond (Nat.blt pc 28) (cond (Nat.blt pc 23) (cond (Nat.blt pc 20) (cond (Nat.beq pc 19) (some (.iload_n 2)) none) (cond (Nat.beq pc 20) (some (.ifCond .ne 12)) none)) (cond (Nat.blt pc 24) (cond (Nat.beq pc 23) (some (.aload_n 0)) none) (cond (Nat.blt pc 27) (cond (Nat.beq pc 24) (some (.getfield 62)) none) (cond (Nat.beq pc 27) (some (.iload_n 1)) none)))) (cond (Nat.blt pc 33) (cond (Nat.blt pc 29) (cond (Nat.beq pc 28) (some (.iaload)) none) (cond (Nat.blt pc 32) (cond (Nat.beq pc 29) (some (.goto 46)) none) (cond (Nat.beq pc 32) (some (.iload_n 2)) none))) (cond (Nat.blt pc 34) (cond (Nat.beq pc 33) (some (.iconst 1)) none) (cond (Nat.blt pc 37) (cond (Nat.beq pc 34) (some (.if_icmp .ne 12)) none) (cond (Nat.beq pc 37) (some (.aload_n 0)) none)))))) (cond (Nat.blt pc 57) (cond (Nat.blt pc 47) (cond (Nat.blt pc 42) (cond (Nat.blt pc 41) (cond (Nat.beq pc 38) (some (.getfield 65)) none) (cond (Nat.beq pc 41) (some (.iload_n 1)) none)) (cond (Nat.blt pc 43) (cond (Nat.beq pc 42) (some (.iaload)) none) (cond (Nat.blt pc 46) (cond (Nat.beq pc 43) (some (.goto 32)) none) (cond (Nat.beq pc 46) (some (.iload_n 2)) none)))) (cond (Nat.blt pc 52) (cond (Nat.blt pc 48) (cond (Nat.beq pc 47) (some (.iconst 2)) none) (cond (Nat.blt pc 51) (cond (Nat.beq pc 48) (some (.if_icmp .ne 12)) none) (cond (Nat.beq pc 51) (some (.aload_n 0)) none))) (cond (Nat.blt pc 55) (cond (Nat.beq pc 52) (some (.getfield 68)) none) (cond (Nat.blt pc 56) (cond (Nat.beq pc 55) (some (.iload_n 1)) none) (cond (Nat.beq pc 56) (some (.iaload)) none))))) (cond (Nat.blt pc 66) (cond (Nat.blt pc 61) (cond (Nat.blt pc 60) (cond (Nat.beq pc 57) (some (.goto 18)) none) (cond (Nat.beq pc 60) (some (.iload_n 2)) none)) (cond (Nat.blt pc 62) (cond (Nat.beq pc 61) (some (.iconst 3)) none) (cond (Nat.blt pc 65) (cond (Nat.beq pc 62) (some (.if_icmp .ne 12)) none) (cond (Nat.beq pc 65) (some (.aload_n 0)) none)))) (cond (Nat.blt pc 71) (cond (Nat.blt pc 69) (cond (Nat.beq pc 66) (some (.getfield 71)) none) (cond (Nat.blt pc 70) (cond (Nat.beq pc 69) (some (.iload_n 1)) none) (cond (Nat.beq pc 70) (some (.iaload)) none))) (cond (Nat.blt pc 74) (cond (Nat.beq pc 71) (some (.goto 4)) none) (cond (Nat.blt pc 75) (cond (Nat.beq pc 74) (some (.iconst (-1))) none) (cond (Nat.beq pc 75) (some (.ireturn)) none)))))))
theorem tb_i110 : tb_okI 3 prog_9_method_41_code tb_f110 := tb_okI_of 76 tb_cut_out (by decide +kernel)
theorem tb_p110 : tb_okP tb_cl tb_WA "VaultDevicesModel" false tb_FL 6 tb_f110 := tb_okP_of 76 tb_cut_out (by decide +kernel)
/-- VaultDevicesModel.flight()I -/
def tb_f111 : Nat → Option Instr := tb_cut 10 (fun pc => cond (Nat.blt pc 5) (cond (Nat.blt pc 1) (cond (Nat.beq pc 0) (some (.aload_n 0)) none) (cond (Nat.blt pc 2) (cond (Nat.beq pc 1) (some (.iconst 0)) none) (cond (Nat.beq pc 2) (some (.putfield 78)) none))) (cond (Nat.blt pc 6) (cond (Nat.beq pc 5) (some (.aload_n 0)) none) (cond (Nat.blt pc 9) (cond (Nat.beq pc 6) (some (.getfield 145)) none) (cond (Nat.beq pc 9) (some (.ireturn)) none))))
theorem tb_i111 : tb_okI 1 prog_9_method_42_code tb_f111 := tb_okI_of 10 tb_cut_out (by decide +kernel)
theorem tb_p111 : tb_okP tb_cl tb_WA "VaultDevicesModel" false tb_FL 6 tb_f111 := tb_okP_of 10 tb_cut_out (by decide +kernel)
/-- VaultDevicesModel.forge(II)Z -/
def tb_f112 : Nat → Option Instr := tb_cut 48 (fun pc => cond (Nat.blt pc 24) (cond (Nat.blt pc 12) (cond (Nat.blt pc 5) (cond (Nat.blt pc 1) (cond (Nat.beq pc 0) (some (.aload_n 0)) none) (cond (Nat.blt pc 2) (cond (Nat.beq pc 1) (some (.iconst 0)) none) (cond (Nat.beq pc 2) (some (.putfield 78)) none))) (cond (Nat.blt pc 6) (cond (Nat.beq pc 5) (some (.iload_n 1)) none) (cond (Nat.blt pc 9) (cond (Nat.beq pc 6) (some (.invokestatic 158)) none) (cond (Nat.beq pc 9) (some (.ifCond .eq 12)) none)))) (cond (Nat.blt pc 18) (cond (Nat.blt pc 13) (cond (Nat.beq pc 12) (some (.aload_n 0)) none) (cond (Nat.blt pc 16) (cond (Nat.beq pc 13) (some (.getfield 145)) none) (cond (Nat.beq pc 16) (some (.bipush 12)) none))) (cond (Nat.blt pc 22) (cond (Nat.blt pc 21) (cond (Nat.beq pc 18) (some (.if_icmp .ne 5)) none) (cond (Nat.beq pc 21) (some (.iconst 0)) none)) (cond (Nat.blt pc 23) (cond (Nat.beq pc 22) (some (.ireturn)) none) (cond (Nat.beq pc 23) (some (.aload_n 0)) none))))) (cond (Nat.blt pc 35) (cond (Nat.blt pc 31) (cond (Nat.blt pc 25) (cond (Nat.beq pc 24) (some (.iload_n 2)) none) (cond (Nat.blt pc 28) (cond (Nat.beq pc 25) (some (.invokevirtual 194)) none) (cond (Nat.beq pc 28) (some (.ifCond .eq 18)) none))) (cond (Nat.blt pc 33) (cond (Nat.blt pc 32) (cond (Nat.beq pc 31) (some (.aload_n 0)) none) (cond (Nat.beq pc 32) (some (.iconst 2)) none)) (cond (Nat.blt pc 34) (cond (Nat.beq pc 33) (some (.iload_n 1)) none) (cond (Nat.beq pc 34) (some (.iconst (-1))) none)))) (cond (Nat.blt pc 42) (cond (Nat.blt pc 36) (cond (Nat.beq pc 35) (some (.iload_n 2)) none) (cond (Nat.blt pc 39) (cond (Nat.beq pc 36) (some (.invokevirtual 169)) none) (cond (Nat.beq pc 39) (some (.ifCond .eq 7)) none))) (cond (Nat.blt pc 46) (cond (Nat.blt pc 43) (cond (Nat.beq pc 42) (some (.iconst 1)) none) (cond (Nat.beq pc 43) (some (.goto 4)) none)) (cond (Nat.blt pc 47) (cond (Nat.beq pc 46) (some (.iconst 0)) none) (cond (Nat.beq pc 47) (some (.ireturn)) none))))))
theorem tb_i112 : tb_okI 3 prog_9_method_44_code tb_f112 := tb_okI_of 48 tb_cut_out (by decide +kernel)
theorem tb_p112 : tb_okP tb_cl tb_WA "VaultDevicesModel" false tb_FL 6 tb_f112 := tb_okP_of 48 tb_cut_out (by decide +kernel)
/-- VaultDevicesModel.isKnown(I)Z -/
def tb_f113 : Nat → Option Instr := tb_cut 21 (fun pc => cond (Nat.blt pc 10) (cond (Nat.blt pc 5) (cond (Nat.blt pc 1) (cond (Nat.beq pc 0) (some (.aload_n 0)) none) (cond (Nat.blt pc 2) (cond (Nat.beq pc 1) (some (.iload_n 1)) none) (cond (Nat.beq pc 2) (some (.invokevirtual 188)) none))) (cond (Nat.blt pc 8) (cond (Nat.beq pc 5) (some (.ifCond .ne 5)) none) (cond (Nat.blt pc 9) (cond (Nat.beq pc 8) (some (.iconst 0)) none) (cond (Nat.beq pc 9) (some (.ireturn)) none)))) (cond (Nat.blt pc 15) (cond (Nat.blt pc 11) (cond (Nat.beq pc 10) (some (.aload_n 0)) none) (cond (Nat.blt pc 14) (cond (Nat.beq pc 11) (some (.invokevirtual 191)) none) (cond (Nat.beq pc 14) (some (.aload_n 0)) none))) (cond (Nat.blt pc 19) (cond (Nat.blt pc 18) (cond (Nat.beq pc 15) (some (.getfield 23)) none) (cond (Nat.beq pc 18) (some (.iload_n 1)) none)) (cond (Nat.blt pc 20) (cond (Nat.beq pc 19) (some (.baload)) none) (cond (Nat.beq pc 20) (some (.ireturn)) none)))))
theorem tb_i113 : tb_okI 2 prog_9_method_43_code tb_f113 := tb_okI_of 21 tb_cut_out (by decide +kernel)
theorem tb_p113 : tb_okP tb_cl tb_WA "VaultDevicesModel" false tb_FL 6 tb_f113 := tb_okP_of 21 tb_cut_out (by decide +kernel)
/-- VaultDevicesModel.isTerm(I)Z -/
def tb_f114 : Nat → Option Instr := tb_cut 18 (fun pc => cond (Nat.blt pc 9) (cond (Nat.blt pc 4) (cond (Nat.blt pc 1) (cond (Nat.beq pc 0) (some (.iload_n 1)) none) (cond (Nat.beq pc 1) (some (.ifCond .lt 15)) none)) (cond (Nat.blt pc 5) (cond (Nat.beq pc 4) (some (.iload_n 1)) none) (cond (Nat.blt pc 6) (cond (Nat.beq pc 5) (some (.aload_n 0)) none) (cond (Nat.beq pc 6) (some (.getfield 81)) none)))) (cond (Nat.blt pc 13) (cond (Nat.blt pc 12) (cond (Nat.beq pc 9) (some (.if_icmp .ge 7)) none) (cond (Nat.beq pc 12) (some (.iconst 1)) none)) (cond (Nat.blt pc 16) (cond (Nat.beq pc 13) (some (.goto 4)) none) (cond (Nat.blt pc 17) (cond (Nat.beq pc 16) (some (.iconst 0)) none) (cond (Nat.beq pc 17) (some (.ireturn)) none)))))
theorem tb_i114 : tb_okI 2 prog_9_method_3_code tb_f114 := tb_okI_of 18 tb_cut_out (by decide +kernel)
theorem tb_p114 : tb_okP tb_cl tb_WA "VaultDevicesModel" false tb_FL 6 tb_f114 := tb_okP_of 18 tb_cut_out (by decide +kernel)
/-- VaultDevicesModel.spread()V -/
def tb_f115 : Nat → Option Instr := tb_cut 317 (fun pc => cond (Nat.blt pc 150) (cond (Nat.blt pc 73) (cond (Nat.blt pc 35) (cond (Nat.blt pc 16) (cond (Nat.blt pc 7) (cond (Nat.blt pc 2) (cond (Nat.blt pc 1) (cond (Nat.beq pc 0) (some (.iconst 0)) none) (cond (Nat.beq pc 1) (some (.istore_n 1)) none)) (cond (Nat.blt pc 3) (cond (Nat.beq pc 2) (some (.iload_n 1)) none) (cond (Nat.blt pc 4) (cond (Nat.beq pc 3) (some (.aload_n 0)) none) (cond (Nat.beq pc 4) (some (.getfield 81)) none)))) (cond (Nat.blt pc 11) (cond (Nat.blt pc 10) (cond (Nat.beq pc 7) (some (.if_icmp .ge 39)) none) (cond (Nat.beq pc 10) (some (.aload_n 0)) none)) (cond (Nat.blt pc 14) (cond (Nat.beq pc 11) (some (.getfield 23)) none) (cond (Nat.blt pc 15) (cond (Nat.beq pc 14) (some (.iload_n 1)) none) (cond (Nat.beq pc 15) (some (.aload_n 0)) none))))) (cond (Nat.blt pc 25) (cond (Nat.blt pc 20) (cond (Nat.blt pc 19) (cond (Nat.beq pc 16) (some (.getfield 19)) none) (cond (Nat.beq pc 19) (some (.iload_n 1)) none)) (cond (Nat.blt pc 21) (cond (Nat.beq pc 20) (some (.baload)) none) (cond (Nat.blt pc 24) (cond (Nat.beq pc 21) (some (.ifCond .ne 13)) none) (cond (Nat.beq pc 24) (some (.aload_n 0)) none)))) (cond (Nat.blt pc 30) (cond (Nat.blt pc 28) (cond (Nat.beq pc 25) (some (.getfield 7)) none) (cond (Nat.blt pc 29) (cond (Nat.beq pc 28) (some (.iload_n 1)) none) (cond (Nat.beq pc 29) (some (.iaload)) none))) (cond (Nat.blt pc 31) (cond (Nat.beq pc 30) (some (.iconst 1)) none) (cond (Nat.blt pc 34) (cond (Nat.beq pc 31) (some (.if_icmp .ne 7)) none) (cond (Nat.beq pc 34) (some (.iconst 1)) none)))))) (cond (Nat.blt pc 54) (cond (Nat.blt pc 46) (cond (Nat.blt pc 39) (cond (Nat.blt pc 38) (cond (Nat.beq pc 35) (some (.goto 4)) none) (cond (Nat.beq pc 38) (some (.iconst 0)) none)) (cond (Nat.blt pc 40) (cond (Nat.beq pc 39) (some (.bastore)) none) (cond (Nat.blt pc 43) (cond (Nat.beq pc 40) (some (.iinc 1 1)) none) (cond (Nat.beq pc 43) (some (.goto (-41))) none)))) (cond (Nat.blt pc 49) (cond (Nat.blt pc 47) (cond (Nat.beq pc 46) (some (.iconst 1)) none) (cond (Nat.blt pc 48) (cond (Nat.beq pc 47) (some (.istore_n 1)) none) (cond (Nat.beq pc 48) (some (.iconst 0)) none))) (cond (Nat.blt pc 50) (cond (Nat.beq pc 49) (some (.istore_n 2)) none) (cond (Nat.blt pc 51) (cond (Nat.beq pc 50) (some (.iload_n 2)) none) (cond (Nat.beq pc 51) (some (.sipush 1000)) none))))) (cond (Nat.blt pc 63) (cond (Nat.blt pc 58) (cond (Nat.blt pc 57) (cond (Nat.beq pc 54) (some (.if_icmp .ge 262)) none) (cond (Nat.beq pc 57) (some (.iload_n 1)) none)) (cond (Nat.blt pc 61) (cond (Nat.beq pc 58) (some (.ifCond .eq 258)) none) (cond (Nat.blt pc 62) (cond (Nat.beq pc 61) (some (.iconst 0)) none) (cond (Nat.beq pc 62) (some (.istore_n 1)) none)))) (cond (Nat.blt pc 66) (cond (Nat.blt pc 64) (cond (Nat.beq pc 63) (some (.iconst 0)) none) (cond (Nat.blt pc 65) (cond (Nat.beq pc 64) (some (.istore_n 3)) none) (cond (Nat.beq pc 65) (some (.iload_n 3)) none))) (cond (Nat.blt pc 67) (cond (Nat.beq pc 66) (some (.aload_n 0)) none) (cond (Nat.blt pc 70) (cond (Nat.beq pc 67) (some (.getfield 81)) none) (cond (Nat.beq pc 70) (some (.if_icmp .ge 240)) none))))))) (cond (Nat.blt pc 107) (cond (Nat.blt pc 91) (cond (Nat.blt pc 80) (cond (Nat.blt pc 77) (cond (Nat.blt pc 74) (cond (Nat.beq pc 73) (some (.aload_n 0)) none) (cond (Nat.beq pc 74) (some (.getfield 7)) none)) (cond (Nat.blt pc 78) (cond (Nat.beq pc 77) (some (.iload_n 3)) none) (cond (Nat.blt pc 79) (cond (Nat.beq pc 78) (some (.iaload)) none) (cond (Nat.beq pc 79) (some (.iconst 1)) none)))) (cond (Nat.blt pc 84) (cond (Nat.blt pc 83) (cond (Nat.beq pc 80) (some (.if_icmp .le 224)) none) (cond (Nat.beq pc 83) (some (.aload_n 0)) none)) (cond (Nat.blt pc 87) (cond (Nat.beq pc 84) (some (.getfield 23)) none) (cond (Nat.blt pc 88) (cond (Nat.beq pc 87) (some (.aload_n 0)) none) (cond (Nat.beq pc 88) (some (.getfield 13)) none))))) (cond (Nat.blt pc 97) (cond (Nat.blt pc 93) (cond (Nat.blt pc 92) (cond (Nat.beq pc 91) (some (.iload_n 3)) none) (cond (Nat.beq pc 92) (some (.iaload)) none)) (cond (Nat.blt pc 94) (cond (Nat.beq pc 93) (some (.baload)) none) (cond (Nat.blt pc 96) (cond (Nat.beq pc 94) (some (.istore 4)) none) (cond (Nat.beq pc 96) (some (.aload_n 0)) none)))) (cond (Nat.blt pc 104) (cond (Nat.blt pc 100) (cond (Nat.beq pc 97) (some (.getfield 23)) none) (cond (Nat.blt pc 101) (cond (Nat.beq pc 100) (some (.aload_n 0)) none) (cond (Nat.beq pc 101) (some (.getfield 16)) none))) (cond (Nat.blt pc 105) (cond (Nat.beq pc 104) (some (.iload_n 3)) none) (cond (Nat.blt pc 106) (cond (Nat.beq pc 105) (some (.iaload)) none) (cond (Nat.beq pc 106) (some (.baload)) none)))))) (cond (Nat.blt pc 129) (cond (Nat.blt pc 115) (cond (Nat.blt pc 110) (cond (Nat.blt pc 109) (cond (Nat.beq pc 107) (some (.istore 5)) none) (cond (Nat.beq pc 109) (some (.aload_n 0)) none)) (cond (Nat.blt pc 113) (cond (Nat.beq pc 110) (some (.getfield 23)) none) (cond (Nat.blt pc 114) (cond (Nat.beq pc 113) (some (.iload_n 3)) none) (cond (Nat.beq pc 114) (some (.baload)) none)))) (cond (Nat.blt pc 123) (cond (Nat.blt pc 118) (cond (Nat.beq pc 115) (some (.ifCond .ne 13)) none) (cond (Nat.blt pc 120) (cond (Nat.beq pc 118) (some (.iload 4)) none) (cond (Nat.beq pc 120) (some (.ifCond .eq 12)) none))) (cond (Nat.blt pc 125) (cond (Nat.beq pc 123) (some (.iload 5)) none) (cond (Nat.blt pc 128) (cond (Nat.beq pc 125) (some (.ifCond .eq 7)) none) (cond (Nat.beq pc 128) (some (.iconst 1)) none))))) (cond (Nat.blt pc 140) (cond (Nat.blt pc 133) (cond (Nat.blt pc 132) (cond (Nat.beq pc 129) (some (.goto 4)) none) (cond (Nat.beq pc 132) (some (.iconst 0)) none)) (cond (Nat.blt pc 135) (cond (Nat.beq pc 133) (some (.istore 6)) none) (cond (Nat.blt pc 137) (cond (Nat.beq pc 135) (some (.iload 6)) none) (cond (Nat.beq pc 137) (some (.ifCond .eq 17)) none)))) (cond (Nat.blt pc 145) (cond (Nat.blt pc 141) (cond (Nat.beq pc 140) (some (.aload_n 0)) none) (cond (Nat.blt pc 144) (cond (Nat.beq pc 141) (some (.getfield 7)) none) (cond (Nat.beq pc 144) (some (.iload_n 3)) none))) (cond (Nat.blt pc 146) (cond (Nat.beq pc 145) (some (.iaload)) none) (cond (Nat.blt pc 147) (cond (Nat.beq pc 146) (some (.iconst 4)) none) (cond (Nat.beq pc 147) (some (.if_icmp .ne 7)) none)))))))) (cond (Nat.blt pc 235) (cond (Nat.blt pc 190) (cond (Nat.blt pc 168) (cond (Nat.blt pc 159) (cond (Nat.blt pc 154) (cond (Nat.blt pc 151) (cond (Nat.beq pc 150) (some (.iconst 1)) none) (cond (Nat.beq pc 151) (some (.goto 4)) none)) (cond (Nat.blt pc 155) (cond (Nat.beq pc 154) (some (.iconst 0)) none) (cond (Nat.blt pc 157) (cond (Nat.beq pc 155) (some (.istore 7)) none) (cond (Nat.beq pc 157) (some (.iload 6)) none)))) (cond (Nat.blt pc 163) (cond (Nat.blt pc 162) (cond (Nat.beq pc 159) (some (.ifCond .eq 22)) none) (cond (Nat.beq pc 162) (some (.aload_n 0)) none)) (cond (Nat.blt pc 166) (cond (Nat.beq pc 163) (some (.getfield 7)) none) (cond (Nat.blt pc 167) (cond (Nat.beq pc 166) (some (.iload_n 3)) none) (cond (Nat.beq pc 167) (some (.iaload)) none))))) (cond (Nat.blt pc 178) (cond (Nat.blt pc 172) (cond (Nat.blt pc 169) (cond (Nat.beq pc 168) (some (.iconst 3)) none) (cond (Nat.beq pc 169) (some (.if_icmp .ne 12)) none)) (cond (Nat.blt pc 174) (cond (Nat.beq pc 172) (some (.iload 4)) none) (cond (Nat.blt pc 177) (cond (Nat.beq pc 174) (some (.ifCond .eq 7)) none) (cond (Nat.beq pc 177) (some (.iconst 1)) none)))) (cond (Nat.blt pc 184) (cond (Nat.blt pc 181) (cond (Nat.beq pc 178) (some (.goto 4)) none) (cond (Nat.blt pc 182) (cond (Nat.beq pc 181) (some (.iconst 0)) none) (cond (Nat.beq pc 182) (some (.istore 8)) none))) (cond (Nat.blt pc 185) (cond (Nat.beq pc 184) (some (.iload_n 1)) none) (cond (Nat.blt pc 188) (cond (Nat.beq pc 185) (some (.ifCond .ne 39)) none) (cond (Nat.beq pc 188) (some (.iload 6)) none)))))) (cond (Nat.blt pc 214) (cond (Nat.blt pc 199) (cond (Nat.blt pc 194) (cond (Nat.blt pc 191) (cond (Nat.beq pc 190) (some (.aload_n 0)) none) (cond (Nat.beq pc 191) (some (.getfield 23)) none)) (cond (Nat.blt pc 195) (cond (Nat.beq pc 194) (some (.iload_n 3)) none) (cond (Nat.blt pc 196) (cond (Nat.beq pc 195) (some (.baload)) none) (cond (Nat.beq pc 196) (some (.if_icmp .ne 28)) none)))) (cond (Nat.blt pc 206) (cond (Nat.blt pc 201) (cond (Nat.beq pc 199) (some (.iload 7)) none) (cond (Nat.blt pc 204) (cond (Nat.beq pc 201) (some (.ifCond .eq 13)) none) (cond (Nat.beq pc 204) (some (.iload 4)) none))) (cond (Nat.blt pc 209) (cond (Nat.beq pc 206) (some (.ifCond .eq 18)) none) (cond (Nat.blt pc 211) (cond (Nat.beq pc 209) (some (.iload 5)) none) (cond (Nat.beq pc 211) (some (.ifCond .eq 13)) none))))) (cond (Nat.blt pc 225) (cond (Nat.blt pc 219) (cond (Nat.blt pc 216) (cond (Nat.beq pc 214) (some (.iload 8)) none) (cond (Nat.beq pc 216) (some (.ifCond .eq 12)) none)) (cond (Nat.blt pc 221) (cond (Nat.beq pc 219) (some (.iload 5)) none) (cond (Nat.blt pc 224) (cond (Nat.beq pc 221) (some (.ifCond .ne 7)) none) (cond (Nat.beq pc 224) (some (.iconst 1)) none)))) (cond (Nat.blt pc 230) (cond (Nat.blt pc 228) (cond (Nat.beq pc 225) (some (.goto 4)) none) (cond (Nat.blt pc 229) (cond (Nat.beq pc 228) (some (.iconst 0)) none) (cond (Nat.beq pc 229) (some (.istore_n 1)) none))) (cond (Nat.blt pc 231) (cond (Nat.beq pc 230) (some (.aload_n 0)) none) (cond (Nat.blt pc 234) (cond (Nat.beq pc 231) (some (.getfield 23)) none) (cond (Nat.beq pc 234) (some (.iload_n 3)) none))))))) (cond (Nat.blt pc 273) (cond (Nat.blt pc 253) (cond (Nat.blt pc 243) (cond (Nat.blt pc 238) (cond (Nat.blt pc 237) (cond (Nat.beq pc 235) (some (.iload 6)) none) (cond (Nat.beq pc 237) (some (.bastore)) none)) (cond (Nat.blt pc 239) (cond (Nat.beq pc 238) (some (.aload_n 0)) none) (cond (Nat.blt pc 242) (cond (Nat.beq pc 239) (some (.getfield 23)) none) (cond (Nat.beq pc 242) (some (.aload_n 0)) none)))) (cond (Nat.blt pc 247) (cond (Nat.blt pc 246) (cond (Nat.beq pc 243) (some (.getfield 13)) none) (cond (Nat.beq pc 246) (some (.iload_n 3)) none)) (cond (Nat.blt pc 248) (cond (Nat.beq pc 247) (some (.iaload)) none) (cond (Nat.blt pc 250) (cond (Nat.beq pc 248) (some (.iload 4)) none) (cond (Nat.beq pc 250) (some (.ifCond .ne 8)) none))))) (cond (Nat.blt pc 263) (cond (Nat.blt pc 258) (cond (Nat.blt pc 255) (cond (Nat.beq pc 253) (some (.iload 7)) none) (cond (Nat.beq pc 255) (some (.ifCond .eq 7)) none)) (cond (Nat.blt pc 259) (cond (Nat.beq pc 258) (some (.iconst 1)) none) (cond (Nat.blt pc 262) (cond (Nat.beq pc 259) (some (.goto 4)) none) (cond (Nat.beq pc 262) (some (.iconst 0)) none)))) (cond (Nat.blt pc 268) (cond (Nat.blt pc 264) (cond (Nat.beq pc 263) (some (.bastore)) none) (cond (Nat.blt pc 265) (cond (Nat.beq pc 264) (some (.aload_n 0)) none) (cond (Nat.beq pc 265) (some (.getfield 23)) none))) (cond (Nat.blt pc 269) (cond (Nat.beq pc 268) (some (.aload_n 0)) none) (cond (Nat.blt pc 272) (cond (Nat.beq pc 269) (some (.getfield 16)) none) (cond (Nat.beq pc 272) (some (.iload_n 3)) none)))))) (cond (Nat.blt pc 293) (cond (Nat.blt pc 282) (cond (Nat.blt pc 275) (cond (Nat.blt pc 274) (cond (Nat.beq pc 273) (some (.iaload)) none) (cond (Nat.beq pc 274) (some (.aload_n 0)) none)) (cond (Nat.blt pc 278) (cond (Nat.beq pc 275) (some (.getfield 23)) none) (cond (Nat.blt pc 279) (cond (Nat.beq pc 278) (some (.aload_n 0)) none) (cond (Nat.beq pc 279) (some (.getfield 16)) none)))) (cond (Nat.blt pc 285) (cond (Nat.blt pc 283) (cond (Nat.beq pc 282) (some (.iload_n 3)) none) (cond (Nat.blt pc 284) (cond (Nat.beq pc 283) (some (.iaload)) none) (cond (Nat.beq pc 284) (some (.baload)) none))) (cond (Nat.blt pc 288) (cond (Nat.beq pc 285) (some (.ifCond .ne 13)) none) (cond (Nat.blt pc 290) (cond (Nat.beq pc 288) (some (.iload 7)) none) (cond (Nat.beq pc 290) (some (.ifCond .ne 8)) none))))) (cond (Nat.blt pc 303) (cond (Nat.blt pc 298) (cond (Nat.blt pc 295) (cond (Nat.beq pc 293) (some (.iload 8)) none) (cond (Nat.beq pc 295) (some (.ifCond .eq 7)) none)) (cond (Nat.blt pc 299) (cond (Nat.beq pc 298) (some (.iconst 1)) none) (cond (Nat.blt pc 302) (cond (Nat.beq pc 299) (some (.goto 4)) none) (cond (Nat.beq pc 302) (some (.iconst 0)) none)))) (cond (Nat.blt pc 310) (cond (Nat.blt pc 304) (cond (Nat.beq pc 303) (some (.bastore)) none) (cond (Nat.blt pc 307) (cond (Nat.beq pc 304) (some (.iinc 3 1)) none) (cond (Nat.beq pc 307) (some (.goto (-242))) none))) (cond (Nat.blt pc 313) (cond (Nat.beq pc 310) (some (.iinc 2 1)) none) (cond (Nat.blt pc 316) (cond (Nat.beq pc 313) (some (.goto (-263))) none) (cond (Nat.beq pc 316) (some (.return_)) none)))))))))
theorem tb_i115 : tb_okI 9 prog_9_method_9_code tb_f115 := tb_okI_of 317 tb_cut_out (by decide +kernel)
theorem tb_p115 : tb_okP tb_cl tb_WA "VaultDevicesModel" false tb_FL 6 tb_f115 := tb_okP_of 317 tb_cut_out (by decide +kernel)
/-- VaultDevicesModel.plant(I)Z -/
def tb_f116 : Nat → Option Instr := tb_cut 22 (fun pc => cond (Nat.blt pc 13) (cond (Nat.blt pc 5) (cond (Nat.blt pc 1) (cond (Nat.beq pc 0) (some (.aload_n 0)) none) (cond (Nat.blt pc 2) (cond (Nat.beq pc 1) (some (.iconst 0)) none) (cond (Nat.beq pc 2) (some (.putfield 78)) none))) (cond (Nat.blt pc 7) (cond (Nat.blt pc 6) (cond (Nat.beq pc 5) (some (.aload_n 0)) none) (cond (Nat.beq pc 6) (some (.iload_n 1)) none)) (cond (Nat.blt pc 10) (cond (Nat.beq pc 7) (some (.invokevirtual 194)) none) (cond (Nat.beq pc 10) (some (.ifCond .ne 5)) none)))) (cond (Nat.blt pc 16) (cond (Nat.blt pc 14) (cond (Nat.beq pc 13) (some (.iconst 0)) none) (cond (Nat.blt pc 15) (cond (Nat.beq pc 14) (some (.ireturn)) none) (cond (Nat.beq pc 15) (some (.aload_n 0)) none))) (cond (Nat.blt pc 20) (cond (Nat.blt pc 17) (cond (Nat.beq pc 16) (some (.iload_n 1)) none) (cond (Nat.beq pc 17) (some (.putfield 74)) none)) (cond (Nat.blt pc 21) (cond (Nat.beq pc 20) (some (.iconst 1)) none) (cond (Nat.beq pc 21) (some (.ireturn)) none)))))
theorem tb_i116 : tb_okI 2 prog_9_method_45_code tb_f116 := tb_okI_of 22 tb_cut_out (by decide +kernel)
theorem tb_p116 : tb_okP tb_cl tb_WA "VaultDevicesModel" false tb_FL 6 tb_f116 := tb_okP_of 22 tb_cut_out (by decide +kernel)
/-- VaultDevicesModel.build(III)I -/
def tb_f117 : Nat → Option Instr := tb_cut 57 (fun pc => cond (Nat.blt pc 28) (cond (Nat.blt pc 12) (cond (Nat.blt pc 6) (cond (Nat.blt pc 2) (cond (Nat.blt pc 1) (cond (Nat.beq pc 0) (some (.aload_n 0)) none) (cond (Nat.beq pc 1) (some (.iconst 0)) none)) (cond (Nat.blt pc 5) (cond (Nat.beq pc 2) (some (.putfield 78)) none) (cond (Nat.beq pc 5) (some (.iload_n 1)) none))) (cond (Nat.blt pc 10) (cond (Nat.blt pc 7) (cond (Nat.beq pc 6) (some (.iconst 2)) none) (cond (Nat.beq pc 7) (some (.if_icmp .lt 24)) none)) (cond (Nat.blt pc 11) (cond (Nat.beq pc 10) (some (.iload_n 1)) none) (cond (Nat.beq pc 11) (some (.iconst 5)) none)))) (cond (Nat.blt pc 20) (cond (Nat.blt pc 16) (cond (Nat.blt pc 15) (cond (Nat.beq pc 12) (some (.if_icmp .gt 19)) none) (cond (Nat.beq pc 15) (some (.aload_n 0)) none)) (cond (Nat.blt pc 17) (cond (Nat.beq pc 16) (some (.iload_n 2)) none) (cond (Nat.beq pc 17) (some (.invokevirtual 194)) none))) (cond (Nat.blt pc 24) (cond (Nat.blt pc 23) (cond (Nat.beq pc 20) (some (.ifCond .eq 11)) none) (cond (Nat.beq pc 23) (some (.aload_n 0)) none)) (cond (Nat.blt pc 25) (cond (Nat.beq pc 24) (some (.iload_n 3)) none) (cond (Nat.beq pc 25) (some (.invokevirtual 194)) none))))) (cond (Nat.blt pc 41) (cond (Nat.blt pc 34) (cond (Nat.blt pc 32) (cond (Nat.blt pc 31) (cond (Nat.beq pc 28) (some (.ifCond .ne 5)) none) (cond (Nat.beq pc 31) (some (.iconst (-1))) none)) (cond (Nat.blt pc 33) (cond (Nat.beq pc 32) (some (.ireturn)) none) (cond (Nat.beq pc 33) (some (.aload_n 0)) none))) (cond (Nat.blt pc 39) (cond (Nat.blt pc 37) (cond (Nat.beq pc 34) (some (.getfield 81)) none) (cond (Nat.beq pc 37) (some (.istore 4)) none)) (cond (Nat.blt pc 40) (cond (Nat.beq pc 39) (some (.aload_n 0)) none) (cond (Nat.beq pc 40) (some (.iload_n 1)) none)))) (cond (Nat.blt pc 48) (cond (Nat.blt pc 43) (cond (Nat.blt pc 42) (cond (Nat.beq pc 41) (some (.iload_n 2)) none) (cond (Nat.beq pc 42) (some (.iload_n 3)) none)) (cond (Nat.blt pc 46) (cond (Nat.beq pc 43) (some (.invokevirtual 92)) none) (cond (Nat.beq pc 46) (some (.istore 5)) none))) (cond (Nat.blt pc 51) (cond (Nat.blt pc 49) (cond (Nat.beq pc 48) (some (.aload_n 0)) none) (cond (Nat.beq pc 49) (some (.iload 4)) none)) (cond (Nat.blt pc 53) (cond (Nat.beq pc 51) (some (.iload 5)) none) (cond (Nat.blt pc 56) (cond (Nat.beq pc 53) (some (.invokevirtual 176)) none) (cond (Nat.beq pc 56) (some (.ireturn)) none)))))))
theorem tb_i117 : tb_okI 6 prog_9_method_46_code tb_f117 := tb_okI_of 57 tb_cut_out (by decide +kernel)
theorem tb_p117 : tb_okP tb_cl tb_WA "VaultDevicesModel" false tb_FL 6 tb_f117 := tb_okP_of 57 tb_cut_out (by decide +kernel)
/-- VaultDevicesModel.leak(I)I -/
def tb_f118 : Nat → Option Instr := tb_cut 50 (fun pc => cond (Nat.blt pc 25) (cond (Nat.blt pc 15) (cond (Nat.blt pc 6) (cond (Nat.blt pc 2) (cond (Nat.blt pc 1) (cond (Nat.beq pc 0) (some (.aload_n 0)) none) (cond (Nat.beq pc 1) (some (.iconst 0)) none)) (cond (Nat.blt pc 5) (cond (Nat.beq pc 2) (some (.putfield 78)) none) (cond (Nat.beq pc 5) (some (.iload_n 1)) none))) (cond (Nat.blt pc 10) (cond (Nat.blt pc 9) (cond (Nat.beq pc 6) (some (.ifCond .lt 9)) none) (cond (Nat.beq pc 9) (some (.iload_n 1)) none)) (cond (Nat.blt pc 12) (cond (Nat.beq pc 10) (some (.bipush 8)) none) (cond (Nat.beq pc 12) (some (.if_icmp .le 5)) none)))) (cond (Nat.blt pc 21) (cond (Nat.blt pc 17) (cond (Nat.blt pc 16) (cond (Nat.beq pc 15) (some (.iconst (-1))) none) (cond (Nat.beq pc 16) (some (.ireturn)) none)) (cond (Nat.blt pc 18) (cond (Nat.beq pc 17) (some (.aload_n 0)) none) (cond (Nat.beq pc 18) (some (.getfield 81)) none))) (cond (Nat.blt pc 23) (cond (Nat.blt pc 22) (cond (Nat.beq pc 21) (some (.istore_n 2)) none) (cond (Nat.beq pc 22) (some (.aload_n 0)) none)) (cond (Nat.blt pc 24) (cond (Nat.beq pc 23) (some (.iconst 0)) none) (cond (Nat.beq pc 24) (some (.iload_n 1)) none))))) (cond (Nat.blt pc 37) (cond (Nat.blt pc 31) (cond (Nat.blt pc 29) (cond (Nat.blt pc 26) (cond (Nat.beq pc 25) (some (.iconst (-1))) none) (cond (Nat.beq pc 26) (some (.invokevirtual 92)) none)) (cond (Nat.blt pc 30) (cond (Nat.beq pc 29) (some (.istore_n 3)) none) (cond (Nat.beq pc 30) (some (.aload_n 0)) none))) (cond (Nat.blt pc 33) (cond (Nat.blt pc 32) (cond (Nat.beq pc 31) (some (.iload_n 2)) none) (cond (Nat.beq pc 32) (some (.iload_n 3)) none)) (cond (Nat.blt pc 36) (cond (Nat.beq pc 33) (some (.invokevirtual 176)) none) (cond (Nat.beq pc 36) (some (.istore_n 3)) none)))) (cond (Nat.blt pc 45) (cond (Nat.blt pc 41) (cond (Nat.blt pc 38) (cond (Nat.beq pc 37) (some (.iload_n 3)) none) (cond (Nat.beq pc 38) (some (.ifCond .lt 10)) none)) (cond (Nat.blt pc 42) (cond (Nat.beq pc 41) (some (.aload_n 0)) none) (cond (Nat.beq pc 42) (some (.getfield 19)) none))) (cond (Nat.blt pc 47) (cond (Nat.blt pc 46) (cond (Nat.beq pc 45) (some (.iload_n 3)) none) (cond (Nat.beq pc 46) (some (.iconst 1)) none)) (cond (Nat.blt pc 48) (cond (Nat.beq pc 47) (some (.bastore)) none) (cond (Nat.blt pc 49) (cond (Nat.beq pc 48) (some (.iload_n 3)) none) (cond (Nat.beq pc 49) (some (.ireturn)) none)))))))
theorem tb_i118 : tb_okI 4 prog_9_method_47_code tb_f118 := tb_okI_of 50 tb_cut_out (by decide +kernel)
theorem tb_p118 : tb_okP tb_cl tb_WA "VaultDevicesModel" false tb_FL 6 tb_f118 := tb_okP_of 50 tb_cut_out (by decide +kernel)
/-- VaultDevicesModel.steal(I)I -/
def tb_f119 : Nat → Option Instr := tb_cut 33 (fun pc => cond (Nat.blt pc 16) (cond (Nat.blt pc 9) (cond (Nat.blt pc 2) (cond (Nat.blt pc 1) (cond (Nat.beq pc 0) (some (.aload_n 0)) none) (cond (Nat.beq pc 1) (some (.iconst 0)) none)) (cond (Nat.blt pc 5) (cond (Nat.beq pc 2) (some (.putfield 78)) none) (cond (Nat.blt pc 6) (cond (Nat.beq pc 5) (some (.iload_n 1)) none) (cond (Nat.beq pc 6) (some (.invokestatic 158)) none)))) (cond (Nat.blt pc 13) (cond (Nat.blt pc 12) (cond (Nat.beq pc 9) (some (.ifCond .ne 5)) none) (cond (Nat.beq pc 12) (some (.iconst (-1))) none)) (cond (Nat.blt pc 14) (cond (Nat.beq pc 13) (some (.ireturn)) none) (cond (Nat.blt pc 15) (cond (Nat.beq pc 14) (some (.aload_n 0)) none) (cond (Nat.beq pc 15) (some (.iload_n 1)) none))))) (cond (Nat.blt pc 25) (cond (Nat.blt pc 20) (cond (Nat.blt pc 19) (cond (Nat.beq pc 16) (some (.invokevirtual 179)) none) (cond (Nat.beq pc 19) (some (.istore_n 2)) none)) (cond (Nat.blt pc 21) (cond (Nat.beq pc 20) (some (.iload_n 2)) none) (cond (Nat.blt pc 24) (cond (Nat.beq pc 21) (some (.ifCond .lt 10)) none) (cond (Nat.beq pc 24) (some (.aload_n 0)) none)))) (cond (Nat.blt pc 30) (cond (Nat.blt pc 28) (cond (Nat.beq pc 25) (some (.getfield 19)) none) (cond (Nat.blt pc 29) (cond (Nat.beq pc 28) (some (.iload_n 2)) none) (cond (Nat.beq pc 29) (some (.iconst 1)) none))) (cond (Nat.blt pc 31) (cond (Nat.beq pc 30) (some (.bastore)) none) (cond (Nat.blt pc 32) (cond (Nat.beq pc 31) (some (.iload_n 2)) none) (cond (Nat.beq pc 32) (some (.ireturn)) none))))))
theorem tb_i119 : tb_okI 3 prog_9_method_48_code tb_f119 := tb_okI_of 33 tb_cut_out (by decide +kernel)
theorem tb_p119 : tb_okP tb_cl tb_WA "VaultDevicesModel" false tb_FL 6 tb_f119 := tb_okP_of 33 tb_cut_out (by decide +kernel)
/-- VaultDevicesModel.known(I)Z -/
def tb_f120 : Nat → Option Instr := tb_cut 11 (fun pc => cond (Nat.blt pc 5) (cond (Nat.blt pc 1) (cond (Nat.beq pc 0) (some (.aload_n 0)) none) (cond (Nat.blt pc 2) (cond (Nat.beq pc 1) (some (.iconst 0)) none) (cond (Nat.beq pc 2) (some (.putfield 78)) none))) (cond (Nat.blt pc 7) (cond (Nat.blt pc 6) (cond (Nat.beq pc 5) (some (.aload_n 0)) none) (cond (Nat.beq pc 6) (some (.iload_n 1)) none)) (cond (Nat.blt pc 10) (cond (Nat.beq pc 7) (some (.invokevirtual 194)) none) (cond (Nat.beq pc 10) (some (.ireturn)) none))))
theorem tb_i120 : tb_okI 2 prog_9_method_49_code tb_f120 := tb_okI_of 11 tb_cut_out (by decide +kernel)
theorem tb_p120 : tb_okP tb_cl tb_WA "VaultDevicesModel" false tb_FL 6 tb_f120 := tb_okP_of 11 tb_cut_out (by decide +kernel)
/-- VaultDevicesModel.term(II)I -/
def tb_f121 : Nat → Option Instr := tb_cut 58 (fun pc => cond (Nat.blt pc 29) (cond (Nat.blt pc 14) (cond (Nat.blt pc 6) (cond (Nat.blt pc 2) (cond (Nat.blt pc 1) (cond (Nat.beq pc 0) (some (.aload_n 0)) none) (cond (Nat.beq pc 1) (some (.iconst 0)) none)) (cond (Nat.blt pc 5) (cond (Nat.beq pc 2) (some (.putfield 78)) none) (cond (Nat.beq pc 5) (some (.aload_n 0)) none))) (cond (Nat.blt pc 10) (cond (Nat.blt pc 7) (cond (Nat.beq pc 6) (some (.iload_n 1)) none) (cond (Nat.beq pc 7) (some (.invokevirtual 188)) none)) (cond (Nat.blt pc 13) (cond (Nat.beq pc 10) (some (.ifCond .ne 5)) none) (cond (Nat.beq pc 13) (some (.iconst (-1))) none)))) (cond (Nat.blt pc 20) (cond (Nat.blt pc 16) (cond (Nat.blt pc 15) (cond (Nat.beq pc 14) (some (.ireturn)) none) (cond (Nat.beq pc 15) (some (.iload_n 2)) none)) (cond (Nat.blt pc 19) (cond (Nat.beq pc 16) (some (.ifCond .ne 12)) none) (cond (Nat.beq pc 19) (some (.aload_n 0)) none))) (cond (Nat.blt pc 24) (cond (Nat.blt pc 23) (cond (Nat.beq pc 20) (some (.getfield 7)) none) (cond (Nat.beq pc 23) (some (.iload_n 1)) none)) (cond (Nat.blt pc 25) (cond (Nat.beq pc 24) (some (.iaload)) none) (cond (Nat.blt pc 28) (cond (Nat.beq pc 25) (some (.goto 32)) none) (cond (Nat.beq pc 28) (some (.iload_n 2)) none)))))) (cond (Nat.blt pc 43) (cond (Nat.blt pc 37) (cond (Nat.blt pc 33) (cond (Nat.blt pc 30) (cond (Nat.beq pc 29) (some (.iconst 1)) none) (cond (Nat.beq pc 30) (some (.if_icmp .ne 12)) none)) (cond (Nat.blt pc 34) (cond (Nat.beq pc 33) (some (.aload_n 0)) none) (cond (Nat.beq pc 34) (some (.getfield 13)) none))) (cond (Nat.blt pc 39) (cond (Nat.blt pc 38) (cond (Nat.beq pc 37) (some (.iload_n 1)) none) (cond (Nat.beq pc 38) (some (.iaload)) none)) (cond (Nat.blt pc 42) (cond (Nat.beq pc 39) (some (.goto 18)) none) (cond (Nat.beq pc 42) (some (.iload_n 2)) none)))) (cond (Nat.blt pc 51) (cond (Nat.blt pc 47) (cond (Nat.blt pc 44) (cond (Nat.beq pc 43) (some (.iconst 2)) none) (cond (Nat.beq pc 44) (some (.if_icmp .ne 12)) none)) (cond (Nat.blt pc 48) (cond (Nat.beq pc 47) (some (.aload_n 0)) none) (cond (Nat.beq pc 48) (some (.getfield 16)) none))) (cond (Nat.blt pc 53) (cond (Nat.blt pc 52) (cond (Nat.beq pc 51) (some (.iload_n 1)) none) (cond (Nat.beq pc 52) (some (.iaload)) none)) (cond (Nat.blt pc 56) (cond (Nat.beq pc 53) (some (.goto 4)) none) (cond (Nat.blt pc 57) (cond (Nat.beq pc 56) (some (.iconst (-1))) none) (cond (Nat.beq pc 57) (some (.ireturn)) none)))))))
theorem tb_i121 : tb_okI 3 prog_9_method_50_code tb_f121 := tb_okI_of 58 tb_cut_out (by decide +kernel)
theorem tb_p121 : tb_okP tb_cl tb_WA "VaultDevicesModel" false tb_FL 6 tb_f121 := tb_okP_of 58 tb_cut_out (by decide +kernel)
/-- VaultDevicesModel.atom(I)I -/
def tb_f122 : Nat → Option Instr := tb_cut 13 (fun pc => cond (Nat.blt pc 6) (cond (Nat.blt pc 2) (cond (Nat.blt pc 1) (cond (Nat.beq pc 0) (some (.aload_n 0)) none) (cond (Nat.beq pc 1) (some (.iconst 0)) none)) (cond (Nat.blt pc 5) (cond (Nat.beq pc 2) (some (.putfield 78)) none) (cond (Nat.beq pc 5) (some (.aload_n 0)) none))) (cond (Nat.blt pc 8) (cond (Nat.blt pc 7) (cond (Nat.beq pc 6) (some (.iconst 0)) none) (cond (Nat.beq pc 7) (some (.iload_n 1)) none)) (cond (Nat.blt pc 9) (cond (Nat.beq pc 8) (some (.iconst (-1))) none) (cond (Nat.blt pc 12) (cond (Nat.beq pc 9) (some (.invokevirtual 84)) none) (cond (Nat.beq pc 12) (some (.ireturn)) none)))))
theorem tb_i122 : tb_okI 2 prog_9_method_51_code tb_f122 := tb_okI_of 13 tb_cut_out (by decide +kernel)
theorem tb_p122 : tb_okP tb_cl tb_WA "VaultDevicesModel" false tb_FL 6 tb_f122 := tb_okP_of 13 tb_cut_out (by decide +kernel)
/-- VaultDevicesModel.device(II)I -/
def tb_f123 : Nat → Option Instr := tb_cut 161 (fun pc => cond (Nat.blt pc 54) (cond (Nat.blt pc 30) (cond (Nat.blt pc 14) (cond (Nat.blt pc 6) (cond (Nat.blt pc 2) (cond (Nat.blt pc 1) (cond (Nat.beq pc 0) (some (.aload_n 0)) none) (cond (Nat.beq pc 1) (some (.iconst 0)) none)) (cond (Nat.blt pc 5) (cond (Nat.beq pc 2) (some (.putfield 78)) none) (cond (Nat.beq pc 5) (some (.iload_n 1)) none))) (cond (Nat.blt pc 12) (cond (Nat.blt pc 9) (cond (Nat.beq pc 6) (some (.invokestatic 158)) none) (cond (Nat.beq pc 9) (some (.ifCond .ne 5)) none)) (cond (Nat.blt pc 13) (cond (Nat.beq pc 12) (some (.iconst (-1))) none) (cond (Nat.beq pc 13) (some (.ireturn)) none)))) (cond (Nat.blt pc 21) (cond (Nat.blt pc 18) (cond (Nat.blt pc 15) (cond (Nat.beq pc 14) (some (.iload_n 2)) none) (cond (Nat.beq pc 15) (some (.ifCond .le 42)) none)) (cond (Nat.blt pc 19) (cond (Nat.beq pc 18) (some (.iload_n 2)) none) (cond (Nat.beq pc 19) (some (.bipush 7)) none))) (cond (Nat.blt pc 25) (cond (Nat.blt pc 24) (cond (Nat.beq pc 21) (some (.if_icmp .ge 36)) none) (cond (Nat.beq pc 24) (some (.iload_n 2)) none)) (cond (Nat.blt pc 26) (cond (Nat.beq pc 25) (some (.iconst 4)) none) (cond (Nat.blt pc 29) (cond (Nat.beq pc 26) (some (.if_icmp .ge 18)) none) (cond (Nat.beq pc 29) (some (.aload_n 0)) none)))))) (cond (Nat.blt pc 41) (cond (Nat.blt pc 36) (cond (Nat.blt pc 34) (cond (Nat.blt pc 33) (cond (Nat.beq pc 30) (some (.getfield 35)) none) (cond (Nat.beq pc 33) (some (.iconst 3)) none)) (cond (Nat.blt pc 35) (cond (Nat.beq pc 34) (some (.iload_n 1)) none) (cond (Nat.beq pc 35) (some (.imul)) none))) (cond (Nat.blt pc 38) (cond (Nat.blt pc 37) (cond (Nat.beq pc 36) (some (.iload_n 2)) none) (cond (Nat.beq pc 37) (some (.iadd)) none)) (cond (Nat.blt pc 39) (cond (Nat.beq pc 38) (some (.iconst 1)) none) (cond (Nat.blt pc 40) (cond (Nat.beq pc 39) (some (.isub)) none) (cond (Nat.beq pc 40) (some (.iaload)) none))))) (cond (Nat.blt pc 49) (cond (Nat.blt pc 45) (cond (Nat.blt pc 44) (cond (Nat.beq pc 41) (some (.goto 15)) none) (cond (Nat.beq pc 44) (some (.aload_n 0)) none)) (cond (Nat.blt pc 48) (cond (Nat.beq pc 45) (some (.getfield 56)) none) (cond (Nat.beq pc 48) (some (.iconst 3)) none))) (cond (Nat.blt pc 51) (cond (Nat.blt pc 50) (cond (Nat.beq pc 49) (some (.iload_n 1)) none) (cond (Nat.beq pc 50) (some (.imul)) none)) (cond (Nat.blt pc 52) (cond (Nat.beq pc 51) (some (.iload_n 2)) none) (cond (Nat.blt pc 53) (cond (Nat.beq pc 52) (some (.iadd)) none) (cond (Nat.beq pc 53) (some (.iconst 4)) none))))))) (cond (Nat.blt pc 137) (cond (Nat.blt pc 122) (cond (Nat.blt pc 58) (cond (Nat.blt pc 56) (cond (Nat.blt pc 55) (cond (Nat.beq pc 54) (some (.isub)) none) (cond (Nat.beq pc 55) (some (.iaload)) none)) (cond (Nat.blt pc 57) (cond (Nat.beq pc 56) (some (.ireturn)) none) (cond (Nat.beq pc 57) (some (.iload_n 2)) none))) (cond (Nat.blt pc 117) (cond (Nat.blt pc 116) (cond (Nat.beq pc 58) (some (.tableswitch 101 0 10 #[58, 101, 101, 101, 101, 101, 101, 73, 80, 87, 94])) none) (cond (Nat.beq pc 116) (some (.aload_n 0)) none)) (cond (Nat.blt pc 120) (cond (Nat.beq pc 117) (some (.getfield 53)) none) (cond (Nat.blt pc 121) (cond (Nat.beq pc 120) (some (.iload_n 1)) none) (cond (Nat.beq pc 121) (some (.baload)) none))))) (cond (Nat.blt pc 130) (cond (Nat.blt pc 126) (cond (Nat.blt pc 125) (cond (Nat.beq pc 122) (some (.ifCond .eq 7)) none) (cond (Nat.beq pc 125) (some (.iconst 0)) none)) (cond (Nat.blt pc 129) (cond (Nat.beq pc 126) (some (.goto 4)) none) (cond (Nat.beq pc 129) (some (.iconst 1)) none))) (cond (Nat.blt pc 132) (cond (Nat.blt pc 131) (cond (Nat.beq pc 130) (some (.ireturn)) none) (cond (Nat.beq pc 131) (some (.aload_n 0)) none)) (cond (Nat.blt pc 135) (cond (Nat.beq pc 132) (some (.getfield 26)) none) (cond (Nat.blt pc 136) (cond (Nat.beq pc 135) (some (.iload_n 1)) none) (cond (Nat.beq pc 136) (some (.iaload)) none)))))) (cond (Nat.blt pc 150) (cond (Nat.blt pc 143) (cond (Nat.blt pc 139) (cond (Nat.blt pc 138) (cond (Nat.beq pc 137) (some (.ireturn)) none) (cond (Nat.beq pc 138) (some (.aload_n 0)) none)) (cond (Nat.blt pc 142) (cond (Nat.beq pc 139) (some (.getfield 29)) none) (cond (Nat.beq pc 142) (some (.iload_n 1)) none))) (cond (Nat.blt pc 145) (cond (Nat.blt pc 144) (cond (Nat.beq pc 143) (some (.iaload)) none) (cond (Nat.beq pc 144) (some (.ireturn)) none)) (cond (Nat.blt pc 146) (cond (Nat.beq pc 145) (some (.aload_n 0)) none) (cond (Nat.blt pc 149) (cond (Nat.beq pc 146) (some (.getfield 38)) none) (cond (Nat.beq pc 149) (some (.iload_n 1)) none))))) (cond (Nat.blt pc 156) (cond (Nat.blt pc 152) (cond (Nat.blt pc 151) (cond (Nat.beq pc 150) (some (.iaload)) none) (cond (Nat.beq pc 151) (some (.ireturn)) none)) (cond (Nat.blt pc 153) (cond (Nat.beq pc 152) (some (.aload_n 0)) none) (cond (Nat.beq pc 153) (some (.getfield 59)) none))) (cond (Nat.blt pc 158) (cond (Nat.blt pc 157) (cond (Nat.beq pc 156) (some (.iload_n 1)) none) (cond (Nat.beq pc 157) (some (.iaload)) none)) (cond (Nat.blt pc 159) (cond (Nat.beq pc 158) (some (.ireturn)) none) (cond (Nat.blt pc 160) (cond (Nat.beq pc 159) (some (.iconst (-1))) none) (cond (Nat.beq pc 160) (some (.ireturn)) none))))))))
theorem tb_i123 : tb_okI 3 prog_9_method_52_code tb_f123 := tb_okI_of 161 tb_cut_out (by decide +kernel)
theorem tb_p123 : tb_okP tb_cl tb_WA "VaultDevicesModel" false tb_FL 6 tb_f123 := tb_okP_of 161 tb_cut_out (by decide +kernel)
/-- VaultDevicesModel.server()I -/
def tb_f124 : Nat → Option Instr := tb_cut 10 (fun pc => cond (Nat.blt pc 5) (cond (Nat.blt pc 1) (cond (Nat.beq pc 0) (some (.aload_n 0)) none) (cond (Nat.blt pc 2) (cond (Nat.beq pc 1) (some (.iconst 0)) none) (cond (Nat.beq pc 2) (some (.putfield 78)) none))) (cond (Nat.blt pc 6) (cond (Nat.beq pc 5) (some (.aload_n 0)) none) (cond (Nat.blt pc 9) (cond (Nat.beq pc 6) (some (.getfield 74)) none) (cond (Nat.beq pc 9) (some (.ireturn)) none))))
theorem tb_i124 : tb_okI 1 prog_9_method_53_code tb_f124 := tb_okI_of 10 tb_cut_out (by decide +kernel)
theorem tb_p124 : tb_okP tb_cl tb_WA "VaultDevicesModel" false tb_FL 6 tb_f124 := tb_okP_of 10 tb_cut_out (by decide +kernel)
/-- VaultDevices$Entry.pack(IIII)I -/
def tb_f125 : Nat → Option Instr := tb_cut 19 (fun pc => cond (Nat.blt pc 8) (cond (Nat.blt pc 4) (cond (Nat.blt pc 2) (cond (Nat.blt pc 1) (cond (Nat.beq pc 0) (some (.iload_n 0)) none) (cond (Nat.beq pc 1) (some (.iconst 2)) none)) (cond (Nat.blt pc 3) (cond (Nat.beq pc 2) (some (.ishl)) none) (cond (Nat.beq pc 3) (some (.iload_n 1)) none))) (cond (Nat.blt pc 6) (cond (Nat.blt pc 5) (cond (Nat.beq pc 4) (some (.ior)) none) (cond (Nat.beq pc 5) (some (.iconst 5)) none)) (cond (Nat.blt pc 7) (cond (Nat.beq pc 6) (some (.ishl)) none) (cond (Nat.beq pc 7) (some (.iload_n 2)) none)))) (cond (Nat.blt pc 15) (cond (Nat.blt pc 11) (cond (Nat.blt pc 9) (cond (Nat.beq pc 8) (some (.ior)) none) (cond (Nat.beq pc 9) (some (.istore 4)) none)) (cond (Nat.blt pc 13) (cond (Nat.beq pc 11) (some (.iload 4)) none) (cond (Nat.beq pc 13) (some (.bipush 6)) none))) (cond (Nat.blt pc 17) (cond (Nat.blt pc 16) (cond (Nat.beq pc 15) (some (.ishl)) none) (cond (Nat.beq pc 16) (some (.iload_n 3)) none)) (cond (Nat.blt pc 18) (cond (Nat.beq pc 17) (some (.ior)) none) (cond (Nat.beq pc 18) (some (.ireturn)) none)))))
theorem tb_i125 : tb_okI 5 prog_3_method_2_code tb_f125 := tb_okI_of 19 tb_cut_out (by decide +kernel)
theorem tb_p125 : tb_okP tb_cl tb_WA "VaultDevices$Entry" false tb_FL 7 tb_f125 := tb_okP_of 19 tb_cut_out (by decide +kernel)
/-- VaultDevices$Entry.countOf(I)I -/
def tb_f126 : Nat → Option Instr := tb_cut 8 (fun pc => cond (Nat.blt pc 4) (cond (Nat.blt pc 1) (cond (Nat.beq pc 0) (some (.iload_n 0)) none) (cond (Nat.blt pc 3) (cond (Nat.beq pc 1) (some (.bipush 6)) none) (cond (Nat.beq pc 3) (some (.ishr)) none))) (cond (Nat.blt pc 6) (cond (Nat.beq pc 4) (some (.bipush 31)) none) (cond (Nat.blt pc 7) (cond (Nat.beq pc 6) (some (.iand)) none) (cond (Nat.beq pc 7) (some (.ireturn)) none))))
theorem tb_i126 : tb_okI 1 prog_3_method_5_code tb_f126 := tb_okI_of 8 tb_cut_out (by decide +kernel)
theorem tb_p126 : tb_okP tb_cl tb_WA "VaultDevices$Entry" false tb_FL 7 tb_f126 := tb_okP_of 8 tb_cut_out (by decide +kernel)
/-- VaultDevices$Entry.deviceOf(I)I -/
def tb_f127 : Nat → Option Instr := tb_cut 7 (fun pc => cond (Nat.blt pc 4) (cond (Nat.blt pc 1) (cond (Nat.beq pc 0) (some (.iload_n 0)) none) (cond (Nat.blt pc 3) (cond (Nat.beq pc 1) (some (.bipush 11)) none) (cond (Nat.beq pc 3) (some (.ishr)) none))) (cond (Nat.blt pc 5) (cond (Nat.beq pc 4) (some (.iconst 3)) none) (cond (Nat.blt pc 6) (cond (Nat.beq pc 5) (some (.iand)) none) (cond (Nat.beq pc 6) (some (.ireturn)) none))))
theorem tb_i127 : tb_okI 1 prog_3_method_4_code tb_f127 := tb_okI_of 7 tb_cut_out (by decide +kernel)
theorem tb_p127 : tb_okP tb_cl tb_WA "VaultDevices$Entry" false tb_FL 7 tb_f127 := tb_okP_of 7 tb_cut_out (by decide +kernel)
/-- VaultDevices$Entry.dotOf(I)I -/
def tb_f128 : Nat → Option Instr := tb_cut 8 (fun pc => cond (Nat.blt pc 4) (cond (Nat.blt pc 1) (cond (Nat.beq pc 0) (some (.iload_n 0)) none) (cond (Nat.blt pc 3) (cond (Nat.beq pc 1) (some (.bipush 6)) none) (cond (Nat.beq pc 3) (some (.ishr)) none))) (cond (Nat.blt pc 6) (cond (Nat.beq pc 4) (some (.bipush 127)) none) (cond (Nat.blt pc 7) (cond (Nat.beq pc 6) (some (.iand)) none) (cond (Nat.beq pc 7) (some (.ireturn)) none))))
theorem tb_i128 : tb_okI 1 prog_3_method_7_code tb_f128 := tb_okI_of 8 tb_cut_out (by decide +kernel)
theorem tb_p128 : tb_okP tb_cl tb_WA "VaultDevices$Entry" false tb_FL 7 tb_f128 := tb_okP_of 8 tb_cut_out (by decide +kernel)
/-- VaultDevices$Entry.itemOf(I)I -/
def tb_f129 : Nat → Option Instr := tb_cut 5 (fun pc => cond (Nat.blt pc 3) (cond (Nat.blt pc 1) (cond (Nat.beq pc 0) (some (.iload_n 0)) none) (cond (Nat.beq pc 1) (some (.bipush 13)) none)) (cond (Nat.blt pc 4) (cond (Nat.beq pc 3) (some (.ishr)) none) (cond (Nat.beq pc 4) (some (.ireturn)) none)))
theorem tb_i129 : tb_okI 1 prog_3_method_3_code tb_f129 := tb_okI_of 5 tb_cut_out (by decide +kernel)
theorem tb_p129 : tb_okP tb_cl tb_WA "VaultDevices$Entry" false tb_FL 7 tb_f129 := tb_okP_of 5 tb_cut_out (by decide +kernel)
/-- VaultDevices$Entry.contentOf(I)I -/
def tb_f130 : Nat → Option Instr := tb_cut 5 (fun pc => cond (Nat.blt pc 3) (cond (Nat.blt pc 1) (cond (Nat.beq pc 0) (some (.iload_n 0)) none) (cond (Nat.beq pc 1) (some (.bipush 63)) none)) (cond (Nat.blt pc 4) (cond (Nat.beq pc 3) (some (.iand)) none) (cond (Nat.beq pc 4) (some (.ireturn)) none)))
theorem tb_i130 : tb_okI 1 prog_3_method_6_code tb_f130 := tb_okI_of 5 tb_cut_out (by decide +kernel)
theorem tb_p130 : tb_okP tb_cl tb_WA "VaultDevices$Entry" false tb_FL 7 tb_f130 := tb_okP_of 5 tb_cut_out (by decide +kernel)
end
section
/-- VaultDevicesLaw.unlock(LVaultDevices;II[J)I -/
def tb_f131 : Nat → Option Instr := tb_cut 26 (fun pc => cond (Nat.blt pc 12) (cond (Nat.blt pc 4) (cond (Nat.blt pc 2) (cond (Nat.blt pc 1) (cond (Nat.beq pc 0) (some (.aload_n 3)) none) (cond (Nat.beq pc 1) (some (.iconst 0)) none)) (cond (Nat.blt pc 3) (cond (Nat.beq pc 2) (some (.aload_n 0)) none) (cond (Nat.beq pc 3) (some (.iload_n 1)) none))) (cond (Nat.blt pc 8) (cond (Nat.blt pc 5) (cond (Nat.beq pc 4) (some (.iload_n 2)) none) (cond (Nat.beq pc 5) (some (.invokevirtual 7)) none)) (cond (Nat.blt pc 11) (cond (Nat.beq pc 8) (some (.ifCond .eq 7)) none) (cond (Nat.beq pc 11) (some (.lconst 1)) none)))) (cond (Nat.blt pc 20) (cond (Nat.blt pc 16) (cond (Nat.blt pc 15) (cond (Nat.beq pc 12) (some (.goto 4)) none) (cond (Nat.beq pc 15) (some (.lconst 0)) none)) (cond (Nat.blt pc 17) (cond (Nat.beq pc 16) (some (.lastore)) none) (cond (Nat.beq pc 17) (some (.goto 7)) none))) (cond (Nat.blt pc 23) (cond (Nat.blt pc 22) (cond (Nat.beq pc 20) (some (.astore 4)) none) (cond (Nat.beq pc 22) (some (.iconst 1)) none)) (cond (Nat.blt pc 24) (cond (Nat.beq pc 23) (some (.ireturn)) none) (cond (Nat.blt pc 25) (cond (Nat.beq pc 24) (some (.iconst 0)) none) (cond (Nat.beq pc 25) (some (.ireturn)) none))))))
theorem tb_i131 : tb_okI 5 method_3_code tb_f131 := tb_okI_of 26 tb_cut_out (by decide +kernel)
theorem tb_p131 : tb_okP tb_cl tb_WA "VaultDevicesLaw" false tb_FL 8 tb_f131 := tb_okP_of 26 tb_cut_out (by decide +kernel)
/-- VaultDevicesLaw.lock(LVaultDevices;I[J)I -/
def tb_f132 : Nat → Option Instr := tb_cut 24 (fun pc => cond (Nat.blt pc 14) (cond (Nat.blt pc 4) (cond (Nat.blt pc 2) (cond (Nat.blt pc 1) (cond (Nat.beq pc 0) (some (.aload_n 2)) none) (cond (Nat.beq pc 1) (some (.iconst 0)) none)) (cond (Nat.blt pc 3) (cond (Nat.beq pc 2) (some (.aload_n 0)) none) (cond (Nat.beq pc 3) (some (.iload_n 1)) none))) (cond (Nat.blt pc 10) (cond (Nat.blt pc 7) (cond (Nat.beq pc 4) (some (.invokevirtual 15)) none) (cond (Nat.beq pc 7) (some (.ifCond .eq 7)) none)) (cond (Nat.blt pc 11) (cond (Nat.beq pc 10) (some (.lconst 1)) none) (cond (Nat.beq pc 11) (some (.goto 4)) none)))) (cond (Nat.blt pc 20) (cond (Nat.blt pc 16) (cond (Nat.blt pc 15) (cond (Nat.beq pc 14) (some (.lconst 0)) none) (cond (Nat.beq pc 15) (some (.lastore)) none)) (cond (Nat.blt pc 19) (cond (Nat.beq pc 16) (some (.goto 6)) none) (cond (Nat.beq pc 19) (some (.astore_n 3)) none))) (cond (Nat.blt pc 22) (cond (Nat.blt pc 21) (cond (Nat.beq pc 20) (some (.iconst 1)) none) (cond (Nat.beq pc 21) (some (.ireturn)) none)) (cond (Nat.blt pc 23) (cond (Nat.beq pc 22) (some (.iconst 0)) none) (cond (Nat.beq pc 23) (some (.ireturn)) none)))))
theorem tb_i132 : tb_okI 4 method_4_code tb_f132 := tb_okI_of 24 tb_cut_out (by decide +kernel)
theorem tb_p132 : tb_okP tb_cl tb_WA "VaultDevicesLaw" false tb_FL 8 tb_f132 := tb_okP_of 24 tb_cut_out (by decide +kernel)
/-- VaultDevicesLaw.put(LVaultDevices;III[J)I -/
def tb_f133 : Nat → Option Instr := tb_cut 25 (fun pc => cond (Nat.blt pc 12) (cond (Nat.blt pc 5) (cond (Nat.blt pc 3) (cond (Nat.blt pc 2) (cond (Nat.beq pc 0) (some (.aload 4)) none) (cond (Nat.beq pc 2) (some (.iconst 0)) none)) (cond (Nat.blt pc 4) (cond (Nat.beq pc 3) (some (.aload_n 0)) none) (cond (Nat.beq pc 4) (some (.iload_n 1)) none))) (cond (Nat.blt pc 7) (cond (Nat.blt pc 6) (cond (Nat.beq pc 5) (some (.iload_n 2)) none) (cond (Nat.beq pc 6) (some (.iload_n 3)) none)) (cond (Nat.blt pc 10) (cond (Nat.beq pc 7) (some (.invokevirtual 19)) none) (cond (Nat.blt pc 11) (cond (Nat.beq pc 10) (some (.i2l)) none) (cond (Nat.beq pc 11) (some (.lastore)) none))))) (cond (Nat.blt pc 19) (cond (Nat.blt pc 17) (cond (Nat.blt pc 15) (cond (Nat.beq pc 12) (some (.goto 11)) none) (cond (Nat.beq pc 15) (some (.astore 5)) none)) (cond (Nat.blt pc 18) (cond (Nat.beq pc 17) (some (.iconst 1)) none) (cond (Nat.beq pc 18) (some (.ireturn)) none))) (cond (Nat.blt pc 22) (cond (Nat.blt pc 21) (cond (Nat.beq pc 19) (some (.astore 5)) none) (cond (Nat.beq pc 21) (some (.iconst 2)) none)) (cond (Nat.blt pc 23) (cond (Nat.beq pc 22) (some (.ireturn)) none) (cond (Nat.blt pc 24) (cond (Nat.beq pc 23) (some (.iconst 0)) none) (cond (Nat.beq pc 24) (some (.ireturn)) none))))))
theorem tb_i133 : tb_okI 6 method_5_code tb_f133 := tb_okI_of 25 tb_cut_out (by decide +kernel)
theorem tb_p133 : tb_okP tb_cl tb_WA "VaultDevicesLaw" false tb_FL 8 tb_f133 := tb_okP_of 25 tb_cut_out (by decide +kernel)
/-- VaultDevicesLaw.erase(LVaultDevices;II[J)I -/
def tb_f134 : Nat → Option Instr := tb_cut 23 (fun pc => cond (Nat.blt pc 10) (cond (Nat.blt pc 4) (cond (Nat.blt pc 2) (cond (Nat.blt pc 1) (cond (Nat.beq pc 0) (some (.aload_n 3)) none) (cond (Nat.beq pc 1) (some (.iconst 0)) none)) (cond (Nat.blt pc 3) (cond (Nat.beq pc 2) (some (.aload_n 0)) none) (cond (Nat.beq pc 3) (some (.iload_n 1)) none))) (cond (Nat.blt pc 8) (cond (Nat.blt pc 5) (cond (Nat.beq pc 4) (some (.iload_n 2)) none) (cond (Nat.beq pc 5) (some (.invokevirtual 25)) none)) (cond (Nat.blt pc 9) (cond (Nat.beq pc 8) (some (.i2l)) none) (cond (Nat.beq pc 9) (some (.lastore)) none)))) (cond (Nat.blt pc 17) (cond (Nat.blt pc 15) (cond (Nat.blt pc 13) (cond (Nat.beq pc 10) (some (.goto 11)) none) (cond (Nat.beq pc 13) (some (.astore 4)) none)) (cond (Nat.blt pc 16) (cond (Nat.beq pc 15) (some (.iconst 1)) none) (cond (Nat.beq pc 16) (some (.ireturn)) none))) (cond (Nat.blt pc 20) (cond (Nat.blt pc 19) (cond (Nat.beq pc 17) (some (.astore 4)) none) (cond (Nat.beq pc 19) (some (.iconst 2)) none)) (cond (Nat.blt pc 21) (cond (Nat.beq pc 20) (some (.ireturn)) none) (cond (Nat.blt pc 22) (cond (Nat.beq pc 21) (some (.iconst 0)) none) (cond (Nat.beq pc 22) (some (.ireturn)) none))))))
theorem tb_i134 : tb_okI 5 method_6_code tb_f134 := tb_okI_of 23 tb_cut_out (by decide +kernel)
theorem tb_p134 : tb_okP tb_cl tb_WA "VaultDevicesLaw" false tb_FL 8 tb_f134 := tb_okP_of 23 tb_cut_out (by decide +kernel)
/-- VaultDevicesLaw.get(LVaultDevices;III[J)I -/
def tb_f135 : Nat → Option Instr := tb_cut 25 (fun pc => cond (Nat.blt pc 12) (cond (Nat.blt pc 5) (cond (Nat.blt pc 3) (cond (Nat.blt pc 2) (cond (Nat.beq pc 0) (some (.aload 4)) none) (cond (Nat.beq pc 2) (some (.iconst 0)) none)) (cond (Nat.blt pc 4) (cond (Nat.beq pc 3) (some (.aload_n 0)) none) (cond (Nat.beq pc 4) (some (.iload_n 1)) none))) (cond (Nat.blt pc 7) (cond (Nat.blt pc 6) (cond (Nat.beq pc 5) (some (.iload_n 2)) none) (cond (Nat.beq pc 6) (some (.iload_n 3)) none)) (cond (Nat.blt pc 10) (cond (Nat.beq pc 7) (some (.invokevirtual 29)) none) (cond (Nat.blt pc 11) (cond (Nat.beq pc 10) (some (.i2l)) none) (cond (Nat.beq pc 11) (some (.lastore)) none))))) (cond (Nat.blt pc 19) (cond (Nat.blt pc 17) (cond (Nat.blt pc 15) (cond (Nat.beq pc 12) (some (.goto 11)) none) (cond (Nat.beq pc 15) (some (.astore 5)) none)) (cond (Nat.blt pc 18) (cond (Nat.beq pc 17) (some (.iconst 1)) none) (cond (Nat.beq pc 18) (some (.ireturn)) none))) (cond (Nat.blt pc 22) (cond (Nat.blt pc 21) (cond (Nat.beq pc 19) (some (.astore 5)) none) (cond (Nat.beq pc 21) (some (.iconst 2)) none)) (cond (Nat.blt pc 23) (cond (Nat.beq pc 22) (some (.ireturn)) none) (cond (Nat.blt pc 24) (cond (Nat.beq pc 23) (some (.iconst 0)) none) (cond (Nat.beq pc 24) (some (.ireturn)) none))))))
theorem tb_i135 : tb_okI 6 method_7_code tb_f135 := tb_okI_of 25 tb_cut_out (by decide +kernel)
theorem tb_p135 : tb_okP tb_cl tb_WA "VaultDevicesLaw" false tb_FL 8 tb_f135 := tb_okP_of 25 tb_cut_out (by decide +kernel)
/-- VaultDevicesLaw.change(LVaultDevices;II[J)I -/
def tb_f136 : Nat → Option Instr := tb_cut 23 (fun pc => cond (Nat.blt pc 10) (cond (Nat.blt pc 4) (cond (Nat.blt pc 2) (cond (Nat.blt pc 1) (cond (Nat.beq pc 0) (some (.aload_n 3)) none) (cond (Nat.beq pc 1) (some (.iconst 0)) none)) (cond (Nat.blt pc 3) (cond (Nat.beq pc 2) (some (.aload_n 0)) none) (cond (Nat.beq pc 3) (some (.iload_n 1)) none))) (cond (Nat.blt pc 8) (cond (Nat.blt pc 5) (cond (Nat.beq pc 4) (some (.iload_n 2)) none) (cond (Nat.beq pc 5) (some (.invokevirtual 32)) none)) (cond (Nat.blt pc 9) (cond (Nat.beq pc 8) (some (.i2l)) none) (cond (Nat.beq pc 9) (some (.lastore)) none)))) (cond (Nat.blt pc 17) (cond (Nat.blt pc 15) (cond (Nat.blt pc 13) (cond (Nat.beq pc 10) (some (.goto 11)) none) (cond (Nat.beq pc 13) (some (.astore 4)) none)) (cond (Nat.blt pc 16) (cond (Nat.beq pc 15) (some (.iconst 1)) none) (cond (Nat.beq pc 16) (some (.ireturn)) none))) (cond (Nat.blt pc 20) (cond (Nat.blt pc 19) (cond (Nat.beq pc 17) (some (.astore 4)) none) (cond (Nat.beq pc 19) (some (.iconst 2)) none)) (cond (Nat.blt pc 21) (cond (Nat.beq pc 20) (some (.ireturn)) none) (cond (Nat.blt pc 22) (cond (Nat.beq pc 21) (some (.iconst 0)) none) (cond (Nat.beq pc 22) (some (.ireturn)) none))))))
theorem tb_i136 : tb_okI 5 method_8_code tb_f136 := tb_okI_of 23 tb_cut_out (by decide +kernel)
theorem tb_p136 : tb_okP tb_cl tb_WA "VaultDevicesLaw" false tb_FL 8 tb_f136 := tb_okP_of 23 tb_cut_out (by decide +kernel)
/-- VaultDevicesLaw.pull(LVaultDevices;I[J)I -/
def tb_f137 : Nat → Option Instr := tb_cut 27 (fun pc => cond (Nat.blt pc 15) (cond (Nat.blt pc 4) (cond (Nat.blt pc 2) (cond (Nat.blt pc 1) (cond (Nat.beq pc 0) (some (.aload_n 2)) none) (cond (Nat.beq pc 1) (some (.iconst 0)) none)) (cond (Nat.blt pc 3) (cond (Nat.beq pc 2) (some (.aload_n 0)) none) (cond (Nat.beq pc 3) (some (.iload_n 1)) none))) (cond (Nat.blt pc 10) (cond (Nat.blt pc 7) (cond (Nat.beq pc 4) (some (.invokevirtual 35)) none) (cond (Nat.beq pc 7) (some (.ifCond .eq 7)) none)) (cond (Nat.blt pc 11) (cond (Nat.beq pc 10) (some (.lconst 1)) none) (cond (Nat.blt pc 14) (cond (Nat.beq pc 11) (some (.goto 4)) none) (cond (Nat.beq pc 14) (some (.lconst 0)) none))))) (cond (Nat.blt pc 22) (cond (Nat.blt pc 19) (cond (Nat.blt pc 16) (cond (Nat.beq pc 15) (some (.lastore)) none) (cond (Nat.beq pc 16) (some (.goto 9)) none)) (cond (Nat.blt pc 20) (cond (Nat.beq pc 19) (some (.astore_n 3)) none) (cond (Nat.blt pc 21) (cond (Nat.beq pc 20) (some (.iconst 1)) none) (cond (Nat.beq pc 21) (some (.ireturn)) none)))) (cond (Nat.blt pc 24) (cond (Nat.blt pc 23) (cond (Nat.beq pc 22) (some (.astore_n 3)) none) (cond (Nat.beq pc 23) (some (.iconst 2)) none)) (cond (Nat.blt pc 25) (cond (Nat.beq pc 24) (some (.ireturn)) none) (cond (Nat.blt pc 26) (cond (Nat.beq pc 25) (some (.iconst 0)) none) (cond (Nat.beq pc 26) (some (.ireturn)) none))))))
theorem tb_i137 : tb_okI 4 method_9_code tb_f137 := tb_okI_of 27 tb_cut_out (by decide +kernel)
theorem tb_p137 : tb_okP tb_cl tb_WA "VaultDevicesLaw" false tb_FL 8 tb_f137 := tb_okP_of 27 tb_cut_out (by decide +kernel)
/-- VaultDevicesLaw.push(LVaultDevices;I[J)I -/
def tb_f138 : Nat → Option Instr := tb_cut 20 (fun pc => cond (Nat.blt pc 12) (cond (Nat.blt pc 4) (cond (Nat.blt pc 2) (cond (Nat.blt pc 1) (cond (Nat.beq pc 0) (some (.aload_n 2)) none) (cond (Nat.beq pc 1) (some (.iconst 0)) none)) (cond (Nat.blt pc 3) (cond (Nat.beq pc 2) (some (.aload_n 0)) none) (cond (Nat.beq pc 3) (some (.iload_n 1)) none))) (cond (Nat.blt pc 8) (cond (Nat.blt pc 7) (cond (Nat.beq pc 4) (some (.invokevirtual 38)) none) (cond (Nat.beq pc 7) (some (.i2l)) none)) (cond (Nat.blt pc 9) (cond (Nat.beq pc 8) (some (.lastore)) none) (cond (Nat.beq pc 9) (some (.goto 9)) none)))) (cond (Nat.blt pc 16) (cond (Nat.blt pc 14) (cond (Nat.blt pc 13) (cond (Nat.beq pc 12) (some (.astore_n 3)) none) (cond (Nat.beq pc 13) (some (.iconst 1)) none)) (cond (Nat.blt pc 15) (cond (Nat.beq pc 14) (some (.ireturn)) none) (cond (Nat.beq pc 15) (some (.astore_n 3)) none))) (cond (Nat.blt pc 18) (cond (Nat.blt pc 17) (cond (Nat.beq pc 16) (some (.iconst 2)) none) (cond (Nat.beq pc 17) (some (.ireturn)) none)) (cond (Nat.blt pc 19) (cond (Nat.beq pc 18) (some (.iconst 0)) none) (cond (Nat.beq pc 19) (some (.ireturn)) none)))))
theorem tb_i138 : tb_okI 4 method_10_code tb_f138 := tb_okI_of 20 tb_cut_out (by decide +kernel)
theorem tb_p138 : tb_okP tb_cl tb_WA "VaultDevicesLaw" false tb_FL 8 tb_f138 := tb_okP_of 20 tb_cut_out (by decide +kernel)
/-- java/util/Arrays.fill([II)V -/
def tb_f140 : Nat → Option Instr := tb_cut 21 (fun pc => cond (Nat.blt pc 7) (cond (Nat.blt pc 3) (cond (Nat.blt pc 1) (cond (Nat.beq pc 0) (some (.iconst 0)) none) (cond (Nat.blt pc 2) (cond (Nat.beq pc 1) (some (.istore_n 2)) none) (cond (Nat.beq pc 2) (some (.aload_n 0)) none))) (cond (Nat.blt pc 5) (cond (Nat.blt pc 4) (cond (Nat.beq pc 3) (some (.arraylength)) none) (cond (Nat.beq pc 4) (some (.istore_n 3)) none)) (cond (Nat.blt pc 6) (cond (Nat.beq pc 5) (some (.iload_n 2)) none) (cond (Nat.beq pc 6) (some (.iload_n 3)) none)))) (cond (Nat.blt pc 13) (cond (Nat.blt pc 11) (cond (Nat.blt pc 10) (cond (Nat.beq pc 7) (some (.if_icmp .ge 13)) none) (cond (Nat.beq pc 10) (some (.aload_n 0)) none)) (cond (Nat.blt pc 12) (cond (Nat.beq pc 11) (some (.iload_n 2)) none) (cond (Nat.beq pc 12) (some (.iload_n 1)) none))) (cond (Nat.blt pc 17) (cond (Nat.blt pc 14) (cond (Nat.beq pc 13) (some (.iastore)) none) (cond (Nat.beq pc 14) (some (.iinc 2 1)) none)) (cond (Nat.blt pc 20) (cond (Nat.beq pc 17) (some (.goto (-12))) none) (cond (Nat.beq pc 20) (some (.return_)) none)))))
theorem tb_i140 : tb_okI 4 prog_18_method_103_code tb_f140 := tb_okI_of 21 tb_cut_out (by decide +kernel)
theorem tb_p140 : tb_okP tb_cl tb_WA "java/util/Arrays" false tb_FL 9 tb_f140 := tb_okP_of 21 tb_cut_out (by decide +kernel)
end
section
theorem tb_ck {nl : Nat} {c : ByteArray} {f : Nat → Option Instr} (a n : Nat) (h : (List.range' a n).all (tb_chI nl c f) = true) : ∀ pc, a ≤ pc → pc < a + n → tb_chI nl c f pc = true := fun pc h1 h2 => List.all_eq_true.mp h pc (List.mem_range'_1.mpr ⟨h1, h2⟩)
/-- VaultDevicesLaw.law([I)Z -/
def tb_f139 : Nat → Option Instr := tb_cut 1099 (fun pc => cond (Nat.blt pc 609) (cond (Nat.blt pc 358) (cond (Nat.blt pc 229) (cond (Nat.blt pc 161) (cond (Nat.blt pc 33) (cond (Nat.blt pc 19) (cond (Nat.blt pc 11) (cond (Nat.blt pc 4) (cond (Nat.blt pc 3) (cond (Nat.beq pc 0) (some (.new 8)) none) (cond (Nat.beq pc 3) (some (.dup)) none)) (cond (Nat.blt pc 7) (cond (Nat.beq pc 4) (some (.invokespecial 42)) none) (cond (Nat.blt pc 8) (cond (Nat.beq pc 7) (some (.astore_n 1)) none) (cond (Nat.beq pc 8) (some (.new 43)) none)))) (cond (Nat.blt pc 15) (cond (Nat.blt pc 12) (cond (Nat.beq pc 11) (some (.dup)) none) (cond (Nat.beq pc 12) (some (.invokespecial 45)) none)) (cond (Nat.blt pc 16) (cond (Nat.beq pc 15) (some (.astore_n 2)) none) (cond (Nat.blt pc 17) (cond (Nat.beq pc 16) (some (.iconst 1)) none) (cond (Nat.beq pc 17) (some (.newarray .long)) none))))) (cond (Nat.blt pc 26) (cond (Nat.blt pc 21) (cond (Nat.blt pc 20) (cond (Nat.beq pc 19) (some (.astore_n 3)) none) (cond (Nat.beq pc 20) (some (.iconst 0)) none)) (cond (Nat.blt pc 23) (cond (Nat.beq pc 21) (some (.istore 4)) none) (cond (Nat.blt pc 25) (cond (Nat.beq pc 23) (some (.iload 4)) none) (cond (Nat.beq pc 25) (some (.aload_n 0)) none)))) (cond (Nat.blt pc 28) (cond (Nat.blt pc 27) (cond (Nat.beq pc 26) (some (.arraylength)) none) (cond (Nat.beq pc 27) (some (.iconst 4)) none)) (cond (Nat.blt pc 29) (cond (Nat.beq pc 28) (some (.isub)) none) (cond (Nat.blt pc 32) (cond (Nat.beq pc 29) (some (.if_icmp .gt 1068)) none) (cond (Nat.beq pc 32) (some (.aload_n 0)) none)))))) (cond (Nat.blt pc 146) (cond (Nat.blt pc 140) (cond (Nat.blt pc 36) (cond (Nat.blt pc 35) (cond (Nat.beq pc 33) (some (.iload 4)) none) (cond (Nat.beq pc 35) (some (.iaload)) none)) (cond (Nat.blt pc 38) (cond (Nat.beq pc 36) (some (.bipush 31)) none) (cond (Nat.blt pc 39) (cond (Nat.beq pc 38) (some (.iand)) none) (cond (Nat.beq pc 39) (some (.tableswitch 1052 0 21 #[101, 176, 239, 319, 387, 467, 535, 598, 654, 679, 704, 741, 754, 791, 816, 865, 890, 915, 940, 977, 1002, 1039])) none)))) (cond (Nat.blt pc 142) (cond (Nat.blt pc 141) (cond (Nat.beq pc 140) (some (.aload_n 1)) none) (cond (Nat.beq pc 141) (some (.aload_n 0)) none)) (cond (Nat.blt pc 144) (cond (Nat.beq pc 142) (some (.iload 4)) none) (cond (Nat.blt pc 145) (cond (Nat.beq pc 144) (some (.iconst 1)) none) (cond (Nat.beq pc 145) (some (.iadd)) none))))) (cond (Nat.blt pc 152) (cond (Nat.blt pc 148) (cond (Nat.blt pc 147) (cond (Nat.beq pc 146) (some (.iaload)) none) (cond (Nat.beq pc 147) (some (.aload_n 0)) none)) (cond (Nat.blt pc 150) (cond (Nat.beq pc 148) (some (.iload 4)) none) (cond (Nat.blt pc 151) (cond (Nat.beq pc 150) (some (.iconst 2)) none) (cond (Nat.beq pc 151) (some (.iadd)) none)))) (cond (Nat.blt pc 157) (cond (Nat.blt pc 153) (cond (Nat.beq pc 152) (some (.iaload)) none) (cond (Nat.blt pc 154) (cond (Nat.beq pc 153) (some (.aload_n 3)) none) (cond (Nat.beq pc 154) (some (.invokestatic 46)) none))) (cond (Nat.blt pc 159) (cond (Nat.beq pc 157) (some (.istore 5)) none) (cond (Nat.blt pc 160) (cond (Nat.beq pc 159) (some (.aload_n 2)) none) (cond (Nat.beq pc 160) (some (.aload_n 0)) none))))))) (cond (Nat.blt pc 195) (cond (Nat.blt pc 175) (cond (Nat.blt pc 167) (cond (Nat.blt pc 164) (cond (Nat.blt pc 163) (cond (Nat.beq pc 161) (some (.iload 4)) none) (cond (Nat.beq pc 163) (some (.iconst 1)) none)) (cond (Nat.blt pc 165) (cond (Nat.beq pc 164) (some (.iadd)) none) (cond (Nat.blt pc 166) (cond (Nat.beq pc 165) (some (.iaload)) none) (cond (Nat.beq pc 166) (some (.aload_n 0)) none)))) (cond (Nat.blt pc 170) (cond (Nat.blt pc 169) (cond (Nat.beq pc 167) (some (.iload 4)) none) (cond (Nat.beq pc 169) (some (.iconst 2)) none)) (cond (Nat.blt pc 171) (cond (Nat.beq pc 170) (some (.iadd)) none) (cond (Nat.blt pc 172) (cond (Nat.beq pc 171) (some (.iaload)) none) (cond (Nat.beq pc 172) (some (.invokevirtual 51)) none))))) (cond (Nat.blt pc 186) (cond (Nat.blt pc 178) (cond (Nat.blt pc 177) (cond (Nat.beq pc 175) (some (.istore 6)) none) (cond (Nat.beq pc 177) (some (.aload_n 2)) none)) (cond (Nat.blt pc 181) (cond (Nat.beq pc 178) (some (.invokevirtual 52)) none) (cond (Nat.blt pc 183) (cond (Nat.beq pc 181) (some (.iload 5)) none) (cond (Nat.beq pc 183) (some (.if_icmp .eq 5)) none)))) (cond (Nat.blt pc 190) (cond (Nat.blt pc 187) (cond (Nat.beq pc 186) (some (.iconst 0)) none) (cond (Nat.blt pc 188) (cond (Nat.beq pc 187) (some (.ireturn)) none) (cond (Nat.beq pc 188) (some (.iload 5)) none))) (cond (Nat.blt pc 193) (cond (Nat.beq pc 190) (some (.ifCond .ne 22)) none) (cond (Nat.blt pc 194) (cond (Nat.beq pc 193) (some (.aload_n 3)) none) (cond (Nat.beq pc 194) (some (.iconst 0)) none)))))) (cond (Nat.blt pc 212) (cond (Nat.blt pc 205) (cond (Nat.blt pc 198) (cond (Nat.blt pc 196) (cond (Nat.beq pc 195) (some (.laload)) none) (cond (Nat.beq pc 196) (some (.iload 6)) none)) (cond (Nat.blt pc 201) (cond (Nat.beq pc 198) (some (.ifCond .eq 7)) none) (cond (Nat.blt pc 202) (cond (Nat.beq pc 201) (some (.lconst 1)) none) (cond (Nat.beq pc 202) (some (.goto 4)) none)))) (cond (Nat.blt pc 207) (cond (Nat.blt pc 206) (cond (Nat.beq pc 205) (some (.lconst 0)) none) (cond (Nat.beq pc 206) (some (.lcmp)) none)) (cond (Nat.blt pc 210) (cond (Nat.beq pc 207) (some (.ifCond .eq 5)) none) (cond (Nat.blt pc 211) (cond (Nat.beq pc 210) (some (.iconst 0)) none) (cond (Nat.beq pc 211) (some (.ireturn)) none))))) (cond (Nat.blt pc 220) (cond (Nat.blt pc 216) (cond (Nat.blt pc 215) (cond (Nat.beq pc 212) (some (.goto 879)) none) (cond (Nat.beq pc 215) (some (.aload_n 1)) none)) (cond (Nat.blt pc 217) (cond (Nat.beq pc 216) (some (.aload_n 0)) none) (cond (Nat.blt pc 219) (cond (Nat.beq pc 217) (some (.iload 4)) none) (cond (Nat.beq pc 219) (some (.iconst 1)) none)))) (cond (Nat.blt pc 223) (cond (Nat.blt pc 221) (cond (Nat.beq pc 220) (some (.iadd)) none) (cond (Nat.blt pc 222) (cond (Nat.beq pc 221) (some (.iaload)) none) (cond (Nat.beq pc 222) (some (.aload_n 3)) none))) (cond (Nat.blt pc 226) (cond (Nat.beq pc 223) (some (.invokestatic 56)) none) (cond (Nat.blt pc 228) (cond (Nat.beq pc 226) (some (.istore 5)) none) (cond (Nat.beq pc 228) (some (.aload_n 2)) none)))))))) (cond (Nat.blt pc 294) (cond (Nat.blt pc 264) (cond (Nat.blt pc 246) (cond (Nat.blt pc 235) (cond (Nat.blt pc 232) (cond (Nat.blt pc 230) (cond (Nat.beq pc 229) (some (.aload_n 0)) none) (cond (Nat.beq pc 230) (some (.iload 4)) none)) (cond (Nat.blt pc 233) (cond (Nat.beq pc 232) (some (.iconst 1)) none) (cond (Nat.blt pc 234) (cond (Nat.beq pc 233) (some (.iadd)) none) (cond (Nat.beq pc 234) (some (.iaload)) none)))) (cond (Nat.blt pc 240) (cond (Nat.blt pc 238) (cond (Nat.beq pc 235) (some (.invokevirtual 59)) none) (cond (Nat.beq pc 238) (some (.istore 6)) none)) (cond (Nat.blt pc 241) (cond (Nat.beq pc 240) (some (.aload_n 2)) none) (cond (Nat.blt pc 244) (cond (Nat.beq pc 241) (some (.invokevirtual 52)) none) (cond (Nat.beq pc 244) (some (.iload 5)) none))))) (cond (Nat.blt pc 256) (cond (Nat.blt pc 250) (cond (Nat.blt pc 249) (cond (Nat.beq pc 246) (some (.if_icmp .eq 5)) none) (cond (Nat.beq pc 249) (some (.iconst 0)) none)) (cond (Nat.blt pc 251) (cond (Nat.beq pc 250) (some (.ireturn)) none) (cond (Nat.blt pc 253) (cond (Nat.beq pc 251) (some (.iload 5)) none) (cond (Nat.beq pc 253) (some (.ifCond .ne 22)) none)))) (cond (Nat.blt pc 258) (cond (Nat.blt pc 257) (cond (Nat.beq pc 256) (some (.aload_n 3)) none) (cond (Nat.beq pc 257) (some (.iconst 0)) none)) (cond (Nat.blt pc 259) (cond (Nat.beq pc 258) (some (.laload)) none) (cond (Nat.blt pc 261) (cond (Nat.beq pc 259) (some (.iload 6)) none) (cond (Nat.beq pc 261) (some (.ifCond .eq 7)) none)))))) (cond (Nat.blt pc 280) (cond (Nat.blt pc 273) (cond (Nat.blt pc 268) (cond (Nat.blt pc 265) (cond (Nat.beq pc 264) (some (.lconst 1)) none) (cond (Nat.beq pc 265) (some (.goto 4)) none)) (cond (Nat.blt pc 269) (cond (Nat.beq pc 268) (some (.lconst 0)) none) (cond (Nat.blt pc 270) (cond (Nat.beq pc 269) (some (.lcmp)) none) (cond (Nat.beq pc 270) (some (.ifCond .eq 5)) none)))) (cond (Nat.blt pc 275) (cond (Nat.blt pc 274) (cond (Nat.beq pc 273) (some (.iconst 0)) none) (cond (Nat.beq pc 274) (some (.ireturn)) none)) (cond (Nat.blt pc 278) (cond (Nat.beq pc 275) (some (.goto 816)) none) (cond (Nat.blt pc 279) (cond (Nat.beq pc 278) (some (.aload_n 1)) none) (cond (Nat.beq pc 279) (some (.aload_n 0)) none))))) (cond (Nat.blt pc 286) (cond (Nat.blt pc 283) (cond (Nat.blt pc 282) (cond (Nat.beq pc 280) (some (.iload 4)) none) (cond (Nat.beq pc 282) (some (.iconst 1)) none)) (cond (Nat.blt pc 284) (cond (Nat.beq pc 283) (some (.iadd)) none) (cond (Nat.blt pc 285) (cond (Nat.beq pc 284) (some (.iaload)) none) (cond (Nat.beq pc 285) (some (.aload_n 0)) none)))) (cond (Nat.blt pc 290) (cond (Nat.blt pc 288) (cond (Nat.beq pc 286) (some (.iload 4)) none) (cond (Nat.blt pc 289) (cond (Nat.beq pc 288) (some (.iconst 2)) none) (cond (Nat.beq pc 289) (some (.iadd)) none))) (cond (Nat.blt pc 291) (cond (Nat.beq pc 290) (some (.iaload)) none) (cond (Nat.blt pc 292) (cond (Nat.beq pc 291) (some (.aload_n 0)) none) (cond (Nat.beq pc 292) (some (.iload 4)) none))))))) (cond (Nat.blt pc 321) (cond (Nat.blt pc 308) (cond (Nat.blt pc 301) (cond (Nat.blt pc 296) (cond (Nat.blt pc 295) (cond (Nat.beq pc 294) (some (.iconst 3)) none) (cond (Nat.beq pc 295) (some (.iadd)) none)) (cond (Nat.blt pc 297) (cond (Nat.beq pc 296) (some (.iaload)) none) (cond (Nat.blt pc 298) (cond (Nat.beq pc 297) (some (.aload_n 3)) none) (cond (Nat.beq pc 298) (some (.invokestatic 60)) none)))) (cond (Nat.blt pc 304) (cond (Nat.blt pc 303) (cond (Nat.beq pc 301) (some (.istore 5)) none) (cond (Nat.beq pc 303) (some (.aload_n 2)) none)) (cond (Nat.blt pc 305) (cond (Nat.beq pc 304) (some (.aload_n 0)) none) (cond (Nat.blt pc 307) (cond (Nat.beq pc 305) (some (.iload 4)) none) (cond (Nat.beq pc 307) (some (.iconst 1)) none))))) (cond (Nat.blt pc 314) (cond (Nat.blt pc 310) (cond (Nat.blt pc 309) (cond (Nat.beq pc 308) (some (.iadd)) none) (cond (Nat.beq pc 309) (some (.iaload)) none)) (cond (Nat.blt pc 311) (cond (Nat.beq pc 310) (some (.aload_n 0)) none) (cond (Nat.blt pc 313) (cond (Nat.beq pc 311) (some (.iload 4)) none) (cond (Nat.beq pc 313) (some (.iconst 2)) none)))) (cond (Nat.blt pc 317) (cond (Nat.blt pc 315) (cond (Nat.beq pc 314) (some (.iadd)) none) (cond (Nat.blt pc 316) (cond (Nat.beq pc 315) (some (.iaload)) none) (cond (Nat.beq pc 316) (some (.aload_n 0)) none))) (cond (Nat.blt pc 319) (cond (Nat.beq pc 317) (some (.iload 4)) none) (cond (Nat.blt pc 320) (cond (Nat.beq pc 319) (some (.iconst 3)) none) (cond (Nat.beq pc 320) (some (.iadd)) none)))))) (cond (Nat.blt pc 340) (cond (Nat.blt pc 331) (cond (Nat.blt pc 325) (cond (Nat.blt pc 322) (cond (Nat.beq pc 321) (some (.iaload)) none) (cond (Nat.beq pc 322) (some (.invokevirtual 63)) none)) (cond (Nat.blt pc 327) (cond (Nat.beq pc 325) (some (.istore 6)) none) (cond (Nat.blt pc 328) (cond (Nat.beq pc 327) (some (.aload_n 2)) none) (cond (Nat.beq pc 328) (some (.invokevirtual 52)) none)))) (cond (Nat.blt pc 336) (cond (Nat.blt pc 333) (cond (Nat.beq pc 331) (some (.iload 5)) none) (cond (Nat.beq pc 333) (some (.if_icmp .eq 5)) none)) (cond (Nat.blt pc 337) (cond (Nat.beq pc 336) (some (.iconst 0)) none) (cond (Nat.blt pc 338) (cond (Nat.beq pc 337) (some (.ireturn)) none) (cond (Nat.beq pc 338) (some (.iload 5)) none))))) (cond (Nat.blt pc 348) (cond (Nat.blt pc 344) (cond (Nat.blt pc 343) (cond (Nat.beq pc 340) (some (.ifCond .ne 15)) none) (cond (Nat.beq pc 343) (some (.aload_n 3)) none)) (cond (Nat.blt pc 345) (cond (Nat.beq pc 344) (some (.iconst 0)) none) (cond (Nat.blt pc 346) (cond (Nat.beq pc 345) (some (.laload)) none) (cond (Nat.beq pc 346) (some (.iload 6)) none)))) (cond (Nat.blt pc 353) (cond (Nat.blt pc 349) (cond (Nat.beq pc 348) (some (.i2l)) none) (cond (Nat.blt pc 350) (cond (Nat.beq pc 349) (some (.lcmp)) none) (cond (Nat.beq pc 350) (some (.ifCond .eq 5)) none))) (cond (Nat.blt pc 354) (cond (Nat.beq pc 353) (some (.iconst 0)) none) (cond (Nat.blt pc 355) (cond (Nat.beq pc 354) (some (.ireturn)) none) (cond (Nat.beq pc 355) (some (.goto 736)) none))))))))) (cond (Nat.blt pc 476) (cond (Nat.blt pc 418) (cond (Nat.blt pc 384) (cond (Nat.blt pc 370) (cond (Nat.blt pc 364) (cond (Nat.blt pc 360) (cond (Nat.blt pc 359) (cond (Nat.beq pc 358) (some (.aload_n 1)) none) (cond (Nat.beq pc 359) (some (.aload_n 0)) none)) (cond (Nat.blt pc 362) (cond (Nat.beq pc 360) (some (.iload 4)) none) (cond (Nat.blt pc 363) (cond (Nat.beq pc 362) (some (.iconst 1)) none) (cond (Nat.beq pc 363) (some (.iadd)) none)))) (cond (Nat.blt pc 366) (cond (Nat.blt pc 365) (cond (Nat.beq pc 364) (some (.iaload)) none) (cond (Nat.beq pc 365) (some (.aload_n 0)) none)) (cond (Nat.blt pc 368) (cond (Nat.beq pc 366) (some (.iload 4)) none) (cond (Nat.blt pc 369) (cond (Nat.beq pc 368) (some (.iconst 2)) none) (cond (Nat.beq pc 369) (some (.iadd)) none))))) (cond (Nat.blt pc 378) (cond (Nat.blt pc 372) (cond (Nat.blt pc 371) (cond (Nat.beq pc 370) (some (.iaload)) none) (cond (Nat.beq pc 371) (some (.aload_n 3)) none)) (cond (Nat.blt pc 375) (cond (Nat.beq pc 372) (some (.invokestatic 64)) none) (cond (Nat.blt pc 377) (cond (Nat.beq pc 375) (some (.istore 5)) none) (cond (Nat.beq pc 377) (some (.aload_n 2)) none)))) (cond (Nat.blt pc 381) (cond (Nat.blt pc 379) (cond (Nat.beq pc 378) (some (.aload_n 0)) none) (cond (Nat.beq pc 379) (some (.iload 4)) none)) (cond (Nat.blt pc 382) (cond (Nat.beq pc 381) (some (.iconst 1)) none) (cond (Nat.blt pc 383) (cond (Nat.beq pc 382) (some (.iadd)) none) (cond (Nat.beq pc 383) (some (.iaload)) none)))))) (cond (Nat.blt pc 401) (cond (Nat.blt pc 390) (cond (Nat.blt pc 387) (cond (Nat.blt pc 385) (cond (Nat.beq pc 384) (some (.aload_n 0)) none) (cond (Nat.beq pc 385) (some (.iload 4)) none)) (cond (Nat.blt pc 388) (cond (Nat.beq pc 387) (some (.iconst 2)) none) (cond (Nat.blt pc 389) (cond (Nat.beq pc 388) (some (.iadd)) none) (cond (Nat.beq pc 389) (some (.iaload)) none)))) (cond (Nat.blt pc 395) (cond (Nat.blt pc 393) (cond (Nat.beq pc 390) (some (.invokevirtual 66)) none) (cond (Nat.beq pc 393) (some (.istore 6)) none)) (cond (Nat.blt pc 396) (cond (Nat.beq pc 395) (some (.aload_n 2)) none) (cond (Nat.blt pc 399) (cond (Nat.beq pc 396) (some (.invokevirtual 52)) none) (cond (Nat.beq pc 399) (some (.iload 5)) none))))) (cond (Nat.blt pc 411) (cond (Nat.blt pc 405) (cond (Nat.blt pc 404) (cond (Nat.beq pc 401) (some (.if_icmp .eq 5)) none) (cond (Nat.beq pc 404) (some (.iconst 0)) none)) (cond (Nat.blt pc 406) (cond (Nat.beq pc 405) (some (.ireturn)) none) (cond (Nat.blt pc 408) (cond (Nat.beq pc 406) (some (.iload 5)) none) (cond (Nat.beq pc 408) (some (.ifCond .ne 15)) none)))) (cond (Nat.blt pc 414) (cond (Nat.blt pc 412) (cond (Nat.beq pc 411) (some (.aload_n 3)) none) (cond (Nat.blt pc 413) (cond (Nat.beq pc 412) (some (.iconst 0)) none) (cond (Nat.beq pc 413) (some (.laload)) none))) (cond (Nat.blt pc 416) (cond (Nat.beq pc 414) (some (.iload 6)) none) (cond (Nat.blt pc 417) (cond (Nat.beq pc 416) (some (.i2l)) none) (cond (Nat.beq pc 417) (some (.lcmp)) none))))))) (cond (Nat.blt pc 446) (cond (Nat.blt pc 433) (cond (Nat.blt pc 427) (cond (Nat.blt pc 422) (cond (Nat.blt pc 421) (cond (Nat.beq pc 418) (some (.ifCond .eq 5)) none) (cond (Nat.beq pc 421) (some (.iconst 0)) none)) (cond (Nat.blt pc 423) (cond (Nat.beq pc 422) (some (.ireturn)) none) (cond (Nat.blt pc 426) (cond (Nat.beq pc 423) (some (.goto 668)) none) (cond (Nat.beq pc 426) (some (.aload_n 1)) none)))) (cond (Nat.blt pc 430) (cond (Nat.blt pc 428) (cond (Nat.beq pc 427) (some (.aload_n 0)) none) (cond (Nat.beq pc 428) (some (.iload 4)) none)) (cond (Nat.blt pc 431) (cond (Nat.beq pc 430) (some (.iconst 1)) none) (cond (Nat.blt pc 432) (cond (Nat.beq pc 431) (some (.iadd)) none) (cond (Nat.beq pc 432) (some (.iaload)) none))))) (cond (Nat.blt pc 439) (cond (Nat.blt pc 436) (cond (Nat.blt pc 434) (cond (Nat.beq pc 433) (some (.aload_n 0)) none) (cond (Nat.beq pc 434) (some (.iload 4)) none)) (cond (Nat.blt pc 437) (cond (Nat.beq pc 436) (some (.iconst 2)) none) (cond (Nat.blt pc 438) (cond (Nat.beq pc 437) (some (.iadd)) none) (cond (Nat.beq pc 438) (some (.iaload)) none)))) (cond (Nat.blt pc 443) (cond (Nat.blt pc 440) (cond (Nat.beq pc 439) (some (.aload_n 0)) none) (cond (Nat.blt pc 442) (cond (Nat.beq pc 440) (some (.iload 4)) none) (cond (Nat.beq pc 442) (some (.iconst 3)) none))) (cond (Nat.blt pc 444) (cond (Nat.beq pc 443) (some (.iadd)) none) (cond (Nat.blt pc 445) (cond (Nat.beq pc 444) (some (.iaload)) none) (cond (Nat.beq pc 445) (some (.aload_n 3)) none)))))) (cond (Nat.blt pc 461) (cond (Nat.blt pc 455) (cond (Nat.blt pc 451) (cond (Nat.blt pc 449) (cond (Nat.beq pc 446) (some (.invokestatic 67)) none) (cond (Nat.beq pc 449) (some (.istore 5)) none)) (cond (Nat.blt pc 452) (cond (Nat.beq pc 451) (some (.aload_n 2)) none) (cond (Nat.blt pc 453) (cond (Nat.beq pc 452) (some (.aload_n 0)) none) (cond (Nat.beq pc 453) (some (.iload 4)) none)))) (cond (Nat.blt pc 457) (cond (Nat.blt pc 456) (cond (Nat.beq pc 455) (some (.iconst 1)) none) (cond (Nat.beq pc 456) (some (.iadd)) none)) (cond (Nat.blt pc 458) (cond (Nat.beq pc 457) (some (.iaload)) none) (cond (Nat.blt pc 459) (cond (Nat.beq pc 458) (some (.aload_n 0)) none) (cond (Nat.beq pc 459) (some (.iload 4)) none))))) (cond (Nat.blt pc 467) (cond (Nat.blt pc 463) (cond (Nat.blt pc 462) (cond (Nat.beq pc 461) (some (.iconst 2)) none) (cond (Nat.beq pc 462) (some (.iadd)) none)) (cond (Nat.blt pc 464) (cond (Nat.beq pc 463) (some (.iaload)) none) (cond (Nat.blt pc 465) (cond (Nat.beq pc 464) (some (.aload_n 0)) none) (cond (Nat.beq pc 465) (some (.iload 4)) none)))) (cond (Nat.blt pc 470) (cond (Nat.blt pc 468) (cond (Nat.beq pc 467) (some (.iconst 3)) none) (cond (Nat.blt pc 469) (cond (Nat.beq pc 468) (some (.iadd)) none) (cond (Nat.beq pc 469) (some (.iaload)) none))) (cond (Nat.blt pc 473) (cond (Nat.beq pc 470) (some (.invokevirtual 69)) none) (cond (Nat.blt pc 475) (cond (Nat.beq pc 473) (some (.istore 6)) none) (cond (Nat.beq pc 475) (some (.aload_n 2)) none)))))))) (cond (Nat.blt pc 538) (cond (Nat.blt pc 511) (cond (Nat.blt pc 494) (cond (Nat.blt pc 486) (cond (Nat.blt pc 481) (cond (Nat.blt pc 479) (cond (Nat.beq pc 476) (some (.invokevirtual 52)) none) (cond (Nat.beq pc 479) (some (.iload 5)) none)) (cond (Nat.blt pc 484) (cond (Nat.beq pc 481) (some (.if_icmp .eq 5)) none) (cond (Nat.blt pc 485) (cond (Nat.beq pc 484) (some (.iconst 0)) none) (cond (Nat.beq pc 485) (some (.ireturn)) none)))) (cond (Nat.blt pc 491) (cond (Nat.blt pc 488) (cond (Nat.beq pc 486) (some (.iload 5)) none) (cond (Nat.beq pc 488) (some (.ifCond .ne 15)) none)) (cond (Nat.blt pc 492) (cond (Nat.beq pc 491) (some (.aload_n 3)) none) (cond (Nat.blt pc 493) (cond (Nat.beq pc 492) (some (.iconst 0)) none) (cond (Nat.beq pc 493) (some (.laload)) none))))) (cond (Nat.blt pc 502) (cond (Nat.blt pc 497) (cond (Nat.blt pc 496) (cond (Nat.beq pc 494) (some (.iload 6)) none) (cond (Nat.beq pc 496) (some (.i2l)) none)) (cond (Nat.blt pc 498) (cond (Nat.beq pc 497) (some (.lcmp)) none) (cond (Nat.blt pc 501) (cond (Nat.beq pc 498) (some (.ifCond .eq 5)) none) (cond (Nat.beq pc 501) (some (.iconst 0)) none)))) (cond (Nat.blt pc 507) (cond (Nat.blt pc 503) (cond (Nat.beq pc 502) (some (.ireturn)) none) (cond (Nat.blt pc 506) (cond (Nat.beq pc 503) (some (.goto 588)) none) (cond (Nat.beq pc 506) (some (.aload_n 1)) none))) (cond (Nat.blt pc 508) (cond (Nat.beq pc 507) (some (.aload_n 0)) none) (cond (Nat.blt pc 510) (cond (Nat.beq pc 508) (some (.iload 4)) none) (cond (Nat.beq pc 510) (some (.iconst 1)) none)))))) (cond (Nat.blt pc 525) (cond (Nat.blt pc 517) (cond (Nat.blt pc 513) (cond (Nat.blt pc 512) (cond (Nat.beq pc 511) (some (.iadd)) none) (cond (Nat.beq pc 512) (some (.iaload)) none)) (cond (Nat.blt pc 514) (cond (Nat.beq pc 513) (some (.aload_n 0)) none) (cond (Nat.blt pc 516) (cond (Nat.beq pc 514) (some (.iload 4)) none) (cond (Nat.beq pc 516) (some (.iconst 2)) none)))) (cond (Nat.blt pc 519) (cond (Nat.blt pc 518) (cond (Nat.beq pc 517) (some (.iadd)) none) (cond (Nat.beq pc 518) (some (.iaload)) none)) (cond (Nat.blt pc 520) (cond (Nat.beq pc 519) (some (.aload_n 3)) none) (cond (Nat.blt pc 523) (cond (Nat.beq pc 520) (some (.invokestatic 70)) none) (cond (Nat.beq pc 523) (some (.istore 5)) none))))) (cond (Nat.blt pc 531) (cond (Nat.blt pc 527) (cond (Nat.blt pc 526) (cond (Nat.beq pc 525) (some (.aload_n 2)) none) (cond (Nat.beq pc 526) (some (.aload_n 0)) none)) (cond (Nat.blt pc 529) (cond (Nat.beq pc 527) (some (.iload 4)) none) (cond (Nat.blt pc 530) (cond (Nat.beq pc 529) (some (.iconst 1)) none) (cond (Nat.beq pc 530) (some (.iadd)) none)))) (cond (Nat.blt pc 535) (cond (Nat.blt pc 532) (cond (Nat.beq pc 531) (some (.iaload)) none) (cond (Nat.blt pc 533) (cond (Nat.beq pc 532) (some (.aload_n 0)) none) (cond (Nat.beq pc 533) (some (.iload 4)) none))) (cond (Nat.blt pc 536) (cond (Nat.beq pc 535) (some (.iconst 2)) none) (cond (Nat.blt pc 537) (cond (Nat.beq pc 536) (some (.iadd)) none) (cond (Nat.beq pc 537) (some (.iaload)) none))))))) (cond (Nat.blt pc 575) (cond (Nat.blt pc 559) (cond (Nat.blt pc 549) (cond (Nat.blt pc 543) (cond (Nat.blt pc 541) (cond (Nat.beq pc 538) (some (.invokevirtual 72)) none) (cond (Nat.beq pc 541) (some (.istore 6)) none)) (cond (Nat.blt pc 544) (cond (Nat.beq pc 543) (some (.aload_n 2)) none) (cond (Nat.blt pc 547) (cond (Nat.beq pc 544) (some (.invokevirtual 52)) none) (cond (Nat.beq pc 547) (some (.iload 5)) none)))) (cond (Nat.blt pc 553) (cond (Nat.blt pc 552) (cond (Nat.beq pc 549) (some (.if_icmp .eq 5)) none) (cond (Nat.beq pc 552) (some (.iconst 0)) none)) (cond (Nat.blt pc 554) (cond (Nat.beq pc 553) (some (.ireturn)) none) (cond (Nat.blt pc 556) (cond (Nat.beq pc 554) (some (.iload 5)) none) (cond (Nat.beq pc 556) (some (.ifCond .ne 15)) none))))) (cond (Nat.blt pc 565) (cond (Nat.blt pc 561) (cond (Nat.blt pc 560) (cond (Nat.beq pc 559) (some (.aload_n 3)) none) (cond (Nat.beq pc 560) (some (.iconst 0)) none)) (cond (Nat.blt pc 562) (cond (Nat.beq pc 561) (some (.laload)) none) (cond (Nat.blt pc 564) (cond (Nat.beq pc 562) (some (.iload 6)) none) (cond (Nat.beq pc 564) (some (.i2l)) none)))) (cond (Nat.blt pc 570) (cond (Nat.blt pc 566) (cond (Nat.beq pc 565) (some (.lcmp)) none) (cond (Nat.blt pc 569) (cond (Nat.beq pc 566) (some (.ifCond .eq 5)) none) (cond (Nat.beq pc 569) (some (.iconst 0)) none))) (cond (Nat.blt pc 571) (cond (Nat.beq pc 570) (some (.ireturn)) none) (cond (Nat.blt pc 574) (cond (Nat.beq pc 571) (some (.goto 520)) none) (cond (Nat.beq pc 574) (some (.aload_n 1)) none)))))) (cond (Nat.blt pc 589) (cond (Nat.blt pc 581) (cond (Nat.blt pc 578) (cond (Nat.blt pc 576) (cond (Nat.beq pc 575) (some (.aload_n 0)) none) (cond (Nat.beq pc 576) (some (.iload 4)) none)) (cond (Nat.blt pc 579) (cond (Nat.beq pc 578) (some (.iconst 1)) none) (cond (Nat.blt pc 580) (cond (Nat.beq pc 579) (some (.iadd)) none) (cond (Nat.beq pc 580) (some (.iaload)) none)))) (cond (Nat.blt pc 585) (cond (Nat.blt pc 582) (cond (Nat.beq pc 581) (some (.aload_n 3)) none) (cond (Nat.beq pc 582) (some (.invokestatic 73)) none)) (cond (Nat.blt pc 587) (cond (Nat.beq pc 585) (some (.istore 5)) none) (cond (Nat.blt pc 588) (cond (Nat.beq pc 587) (some (.aload_n 2)) none) (cond (Nat.beq pc 588) (some (.aload_n 0)) none))))) (cond (Nat.blt pc 597) (cond (Nat.blt pc 592) (cond (Nat.blt pc 591) (cond (Nat.beq pc 589) (some (.iload 4)) none) (cond (Nat.beq pc 591) (some (.iconst 1)) none)) (cond (Nat.blt pc 593) (cond (Nat.beq pc 592) (some (.iadd)) none) (cond (Nat.blt pc 594) (cond (Nat.beq pc 593) (some (.iaload)) none) (cond (Nat.beq pc 594) (some (.invokevirtual 75)) none)))) (cond (Nat.blt pc 603) (cond (Nat.blt pc 599) (cond (Nat.beq pc 597) (some (.istore 6)) none) (cond (Nat.blt pc 600) (cond (Nat.beq pc 599) (some (.aload_n 2)) none) (cond (Nat.beq pc 600) (some (.invokevirtual 52)) none))) (cond (Nat.blt pc 605) (cond (Nat.beq pc 603) (some (.iload 5)) none) (cond (Nat.blt pc 608) (cond (Nat.beq pc 605) (some (.if_icmp .eq 5)) none) (cond (Nat.beq pc 608) (some (.iconst 0)) none)))))))))) (cond (Nat.blt pc 859) (cond (Nat.blt pc 741) (cond (Nat.blt pc 678) (cond (Nat.blt pc 642) (cond (Nat.blt pc 627) (cond (Nat.blt pc 617) (cond (Nat.blt pc 612) (cond (Nat.blt pc 610) (cond (Nat.beq pc 609) (some (.ireturn)) none) (cond (Nat.beq pc 610) (some (.iload 5)) none)) (cond (Nat.blt pc 615) (cond (Nat.beq pc 612) (some (.ifCond .ne 22)) none) (cond (Nat.blt pc 616) (cond (Nat.beq pc 615) (some (.aload_n 3)) none) (cond (Nat.beq pc 616) (some (.iconst 0)) none)))) (cond (Nat.blt pc 620) (cond (Nat.blt pc 618) (cond (Nat.beq pc 617) (some (.laload)) none) (cond (Nat.beq pc 618) (some (.iload 6)) none)) (cond (Nat.blt pc 623) (cond (Nat.beq pc 620) (some (.ifCond .eq 7)) none) (cond (Nat.blt pc 624) (cond (Nat.beq pc 623) (some (.lconst 1)) none) (cond (Nat.beq pc 624) (some (.goto 4)) none))))) (cond (Nat.blt pc 634) (cond (Nat.blt pc 629) (cond (Nat.blt pc 628) (cond (Nat.beq pc 627) (some (.lconst 0)) none) (cond (Nat.beq pc 628) (some (.lcmp)) none)) (cond (Nat.blt pc 632) (cond (Nat.beq pc 629) (some (.ifCond .eq 5)) none) (cond (Nat.blt pc 633) (cond (Nat.beq pc 632) (some (.iconst 0)) none) (cond (Nat.beq pc 633) (some (.ireturn)) none)))) (cond (Nat.blt pc 638) (cond (Nat.blt pc 637) (cond (Nat.beq pc 634) (some (.goto 457)) none) (cond (Nat.beq pc 637) (some (.aload_n 1)) none)) (cond (Nat.blt pc 639) (cond (Nat.beq pc 638) (some (.aload_n 0)) none) (cond (Nat.blt pc 641) (cond (Nat.beq pc 639) (some (.iload 4)) none) (cond (Nat.beq pc 641) (some (.iconst 1)) none)))))) (cond (Nat.blt pc 656) (cond (Nat.blt pc 650) (cond (Nat.blt pc 644) (cond (Nat.blt pc 643) (cond (Nat.beq pc 642) (some (.iadd)) none) (cond (Nat.beq pc 643) (some (.iaload)) none)) (cond (Nat.blt pc 645) (cond (Nat.beq pc 644) (some (.aload_n 3)) none) (cond (Nat.blt pc 648) (cond (Nat.beq pc 645) (some (.invokestatic 76)) none) (cond (Nat.beq pc 648) (some (.istore 5)) none)))) (cond (Nat.blt pc 652) (cond (Nat.blt pc 651) (cond (Nat.beq pc 650) (some (.aload_n 2)) none) (cond (Nat.beq pc 651) (some (.aload_n 0)) none)) (cond (Nat.blt pc 654) (cond (Nat.beq pc 652) (some (.iload 4)) none) (cond (Nat.blt pc 655) (cond (Nat.beq pc 654) (some (.iconst 1)) none) (cond (Nat.beq pc 655) (some (.iadd)) none))))) (cond (Nat.blt pc 666) (cond (Nat.blt pc 660) (cond (Nat.blt pc 657) (cond (Nat.beq pc 656) (some (.iaload)) none) (cond (Nat.beq pc 657) (some (.invokevirtual 78)) none)) (cond (Nat.blt pc 662) (cond (Nat.beq pc 660) (some (.istore 6)) none) (cond (Nat.blt pc 663) (cond (Nat.beq pc 662) (some (.aload_n 2)) none) (cond (Nat.beq pc 663) (some (.invokevirtual 52)) none)))) (cond (Nat.blt pc 672) (cond (Nat.blt pc 668) (cond (Nat.beq pc 666) (some (.iload 5)) none) (cond (Nat.blt pc 671) (cond (Nat.beq pc 668) (some (.if_icmp .eq 5)) none) (cond (Nat.beq pc 671) (some (.iconst 0)) none))) (cond (Nat.blt pc 673) (cond (Nat.beq pc 672) (some (.ireturn)) none) (cond (Nat.blt pc 675) (cond (Nat.beq pc 673) (some (.iload 5)) none) (cond (Nat.beq pc 675) (some (.ifCond .ne 15)) none))))))) (cond (Nat.blt pc 708) (cond (Nat.blt pc 693) (cond (Nat.blt pc 684) (cond (Nat.blt pc 680) (cond (Nat.blt pc 679) (cond (Nat.beq pc 678) (some (.aload_n 3)) none) (cond (Nat.beq pc 679) (some (.iconst 0)) none)) (cond (Nat.blt pc 681) (cond (Nat.beq pc 680) (some (.laload)) none) (cond (Nat.blt pc 683) (cond (Nat.beq pc 681) (some (.iload 6)) none) (cond (Nat.beq pc 683) (some (.i2l)) none)))) (cond (Nat.blt pc 688) (cond (Nat.blt pc 685) (cond (Nat.beq pc 684) (some (.lcmp)) none) (cond (Nat.beq pc 685) (some (.ifCond .eq 5)) none)) (cond (Nat.blt pc 689) (cond (Nat.beq pc 688) (some (.iconst 0)) none) (cond (Nat.blt pc 690) (cond (Nat.beq pc 689) (some (.ireturn)) none) (cond (Nat.beq pc 690) (some (.goto 401)) none))))) (cond (Nat.blt pc 699) (cond (Nat.blt pc 695) (cond (Nat.blt pc 694) (cond (Nat.beq pc 693) (some (.aload_n 1)) none) (cond (Nat.beq pc 694) (some (.aload_n 0)) none)) (cond (Nat.blt pc 697) (cond (Nat.beq pc 695) (some (.iload 4)) none) (cond (Nat.blt pc 698) (cond (Nat.beq pc 697) (some (.iconst 1)) none) (cond (Nat.beq pc 698) (some (.iadd)) none)))) (cond (Nat.blt pc 704) (cond (Nat.blt pc 700) (cond (Nat.beq pc 699) (some (.iaload)) none) (cond (Nat.blt pc 703) (cond (Nat.beq pc 700) (some (.invokevirtual 79)) none) (cond (Nat.beq pc 703) (some (.aload_n 2)) none))) (cond (Nat.blt pc 705) (cond (Nat.beq pc 704) (some (.aload_n 0)) none) (cond (Nat.blt pc 707) (cond (Nat.beq pc 705) (some (.iload 4)) none) (cond (Nat.beq pc 707) (some (.iconst 1)) none)))))) (cond (Nat.blt pc 723) (cond (Nat.blt pc 717) (cond (Nat.blt pc 710) (cond (Nat.blt pc 709) (cond (Nat.beq pc 708) (some (.iadd)) none) (cond (Nat.beq pc 709) (some (.iaload)) none)) (cond (Nat.blt pc 713) (cond (Nat.beq pc 710) (some (.invokevirtual 82)) none) (cond (Nat.blt pc 716) (cond (Nat.beq pc 713) (some (.if_icmp .eq 378)) none) (cond (Nat.beq pc 716) (some (.iconst 0)) none)))) (cond (Nat.blt pc 719) (cond (Nat.blt pc 718) (cond (Nat.beq pc 717) (some (.ireturn)) none) (cond (Nat.beq pc 718) (some (.aload_n 1)) none)) (cond (Nat.blt pc 720) (cond (Nat.beq pc 719) (some (.aload_n 0)) none) (cond (Nat.blt pc 722) (cond (Nat.beq pc 720) (some (.iload 4)) none) (cond (Nat.beq pc 722) (some (.iconst 1)) none))))) (cond (Nat.blt pc 730) (cond (Nat.blt pc 725) (cond (Nat.blt pc 724) (cond (Nat.beq pc 723) (some (.iadd)) none) (cond (Nat.beq pc 724) (some (.iaload)) none)) (cond (Nat.blt pc 728) (cond (Nat.beq pc 725) (some (.invokevirtual 83)) none) (cond (Nat.blt pc 729) (cond (Nat.beq pc 728) (some (.aload_n 2)) none) (cond (Nat.beq pc 729) (some (.aload_n 0)) none)))) (cond (Nat.blt pc 734) (cond (Nat.blt pc 732) (cond (Nat.beq pc 730) (some (.iload 4)) none) (cond (Nat.blt pc 733) (cond (Nat.beq pc 732) (some (.iconst 1)) none) (cond (Nat.beq pc 733) (some (.iadd)) none))) (cond (Nat.blt pc 735) (cond (Nat.beq pc 734) (some (.iaload)) none) (cond (Nat.blt pc 738) (cond (Nat.beq pc 735) (some (.invokevirtual 86)) none) (cond (Nat.beq pc 738) (some (.if_icmp .eq 353)) none)))))))) (cond (Nat.blt pc 799) (cond (Nat.blt pc 766) (cond (Nat.blt pc 753) (cond (Nat.blt pc 747) (cond (Nat.blt pc 743) (cond (Nat.blt pc 742) (cond (Nat.beq pc 741) (some (.iconst 0)) none) (cond (Nat.beq pc 742) (some (.ireturn)) none)) (cond (Nat.blt pc 744) (cond (Nat.beq pc 743) (some (.aload_n 1)) none) (cond (Nat.blt pc 745) (cond (Nat.beq pc 744) (some (.aload_n 0)) none) (cond (Nat.beq pc 745) (some (.iload 4)) none)))) (cond (Nat.blt pc 749) (cond (Nat.blt pc 748) (cond (Nat.beq pc 747) (some (.iconst 1)) none) (cond (Nat.beq pc 748) (some (.iadd)) none)) (cond (Nat.blt pc 750) (cond (Nat.beq pc 749) (some (.iaload)) none) (cond (Nat.blt pc 751) (cond (Nat.beq pc 750) (some (.aload_n 0)) none) (cond (Nat.beq pc 751) (some (.iload 4)) none))))) (cond (Nat.blt pc 760) (cond (Nat.blt pc 755) (cond (Nat.blt pc 754) (cond (Nat.beq pc 753) (some (.iconst 2)) none) (cond (Nat.beq pc 754) (some (.iadd)) none)) (cond (Nat.blt pc 756) (cond (Nat.beq pc 755) (some (.iaload)) none) (cond (Nat.blt pc 759) (cond (Nat.beq pc 756) (some (.invokevirtual 87)) none) (cond (Nat.beq pc 759) (some (.aload_n 2)) none)))) (cond (Nat.blt pc 763) (cond (Nat.blt pc 761) (cond (Nat.beq pc 760) (some (.aload_n 0)) none) (cond (Nat.beq pc 761) (some (.iload 4)) none)) (cond (Nat.blt pc 764) (cond (Nat.beq pc 763) (some (.iconst 1)) none) (cond (Nat.blt pc 765) (cond (Nat.beq pc 764) (some (.iadd)) none) (cond (Nat.beq pc 765) (some (.iaload)) none)))))) (cond (Nat.blt pc 781) (cond (Nat.blt pc 772) (cond (Nat.blt pc 769) (cond (Nat.blt pc 767) (cond (Nat.beq pc 766) (some (.aload_n 0)) none) (cond (Nat.beq pc 767) (some (.iload 4)) none)) (cond (Nat.blt pc 770) (cond (Nat.beq pc 769) (some (.iconst 2)) none) (cond (Nat.blt pc 771) (cond (Nat.beq pc 770) (some (.iadd)) none) (cond (Nat.beq pc 771) (some (.iaload)) none)))) (cond (Nat.blt pc 778) (cond (Nat.blt pc 775) (cond (Nat.beq pc 772) (some (.invokevirtual 90)) none) (cond (Nat.beq pc 775) (some (.if_icmp .eq 316)) none)) (cond (Nat.blt pc 779) (cond (Nat.beq pc 778) (some (.iconst 0)) none) (cond (Nat.blt pc 780) (cond (Nat.beq pc 779) (some (.ireturn)) none) (cond (Nat.beq pc 780) (some (.aload_n 1)) none))))) (cond (Nat.blt pc 792) (cond (Nat.blt pc 785) (cond (Nat.blt pc 784) (cond (Nat.beq pc 781) (some (.invokevirtual 91)) none) (cond (Nat.beq pc 784) (some (.aload_n 2)) none)) (cond (Nat.blt pc 788) (cond (Nat.beq pc 785) (some (.invokevirtual 94)) none) (cond (Nat.blt pc 791) (cond (Nat.beq pc 788) (some (.if_icmp .eq 303)) none) (cond (Nat.beq pc 791) (some (.iconst 0)) none)))) (cond (Nat.blt pc 795) (cond (Nat.blt pc 793) (cond (Nat.beq pc 792) (some (.ireturn)) none) (cond (Nat.blt pc 794) (cond (Nat.beq pc 793) (some (.aload_n 1)) none) (cond (Nat.beq pc 794) (some (.aload_n 0)) none))) (cond (Nat.blt pc 797) (cond (Nat.beq pc 795) (some (.iload 4)) none) (cond (Nat.blt pc 798) (cond (Nat.beq pc 797) (some (.iconst 1)) none) (cond (Nat.beq pc 798) (some (.iadd)) none))))))) (cond (Nat.blt pc 829) (cond (Nat.blt pc 813) (cond (Nat.blt pc 805) (cond (Nat.blt pc 801) (cond (Nat.blt pc 800) (cond (Nat.beq pc 799) (some (.iaload)) none) (cond (Nat.beq pc 800) (some (.aload_n 0)) none)) (cond (Nat.blt pc 803) (cond (Nat.beq pc 801) (some (.iload 4)) none) (cond (Nat.blt pc 804) (cond (Nat.beq pc 803) (some (.iconst 2)) none) (cond (Nat.beq pc 804) (some (.iadd)) none)))) (cond (Nat.blt pc 809) (cond (Nat.blt pc 806) (cond (Nat.beq pc 805) (some (.iaload)) none) (cond (Nat.beq pc 806) (some (.invokevirtual 95)) none)) (cond (Nat.blt pc 810) (cond (Nat.beq pc 809) (some (.aload_n 2)) none) (cond (Nat.blt pc 811) (cond (Nat.beq pc 810) (some (.aload_n 0)) none) (cond (Nat.beq pc 811) (some (.iload 4)) none))))) (cond (Nat.blt pc 819) (cond (Nat.blt pc 815) (cond (Nat.blt pc 814) (cond (Nat.beq pc 813) (some (.iconst 1)) none) (cond (Nat.beq pc 814) (some (.iadd)) none)) (cond (Nat.blt pc 816) (cond (Nat.beq pc 815) (some (.iaload)) none) (cond (Nat.blt pc 817) (cond (Nat.beq pc 816) (some (.aload_n 0)) none) (cond (Nat.beq pc 817) (some (.iload 4)) none)))) (cond (Nat.blt pc 822) (cond (Nat.blt pc 820) (cond (Nat.beq pc 819) (some (.iconst 2)) none) (cond (Nat.blt pc 821) (cond (Nat.beq pc 820) (some (.iadd)) none) (cond (Nat.beq pc 821) (some (.iaload)) none))) (cond (Nat.blt pc 825) (cond (Nat.beq pc 822) (some (.invokevirtual 98)) none) (cond (Nat.blt pc 828) (cond (Nat.beq pc 825) (some (.if_icmp .eq 266)) none) (cond (Nat.beq pc 828) (some (.iconst 0)) none)))))) (cond (Nat.blt pc 842) (cond (Nat.blt pc 835) (cond (Nat.blt pc 831) (cond (Nat.blt pc 830) (cond (Nat.beq pc 829) (some (.ireturn)) none) (cond (Nat.beq pc 830) (some (.aload_n 1)) none)) (cond (Nat.blt pc 832) (cond (Nat.beq pc 831) (some (.aload_n 0)) none) (cond (Nat.blt pc 834) (cond (Nat.beq pc 832) (some (.iload 4)) none) (cond (Nat.beq pc 834) (some (.iconst 1)) none)))) (cond (Nat.blt pc 837) (cond (Nat.blt pc 836) (cond (Nat.beq pc 835) (some (.iadd)) none) (cond (Nat.beq pc 836) (some (.iaload)) none)) (cond (Nat.blt pc 840) (cond (Nat.beq pc 837) (some (.invokevirtual 99)) none) (cond (Nat.blt pc 841) (cond (Nat.beq pc 840) (some (.aload_n 2)) none) (cond (Nat.beq pc 841) (some (.aload_n 0)) none))))) (cond (Nat.blt pc 850) (cond (Nat.blt pc 845) (cond (Nat.blt pc 844) (cond (Nat.beq pc 842) (some (.iload 4)) none) (cond (Nat.beq pc 844) (some (.iconst 1)) none)) (cond (Nat.blt pc 846) (cond (Nat.beq pc 845) (some (.iadd)) none) (cond (Nat.blt pc 847) (cond (Nat.beq pc 846) (some (.iaload)) none) (cond (Nat.beq pc 847) (some (.invokevirtual 102)) none)))) (cond (Nat.blt pc 855) (cond (Nat.blt pc 853) (cond (Nat.beq pc 850) (some (.if_icmp .eq 241)) none) (cond (Nat.blt pc 854) (cond (Nat.beq pc 853) (some (.iconst 0)) none) (cond (Nat.beq pc 854) (some (.ireturn)) none))) (cond (Nat.blt pc 856) (cond (Nat.beq pc 855) (some (.aload_n 1)) none) (cond (Nat.blt pc 857) (cond (Nat.beq pc 856) (some (.aload_n 0)) none) (cond (Nat.beq pc 857) (some (.iload 4)) none))))))))) (cond (Nat.blt pc 977) (cond (Nat.blt pc 914) (cond (Nat.blt pc 884) (cond (Nat.blt pc 871) (cond (Nat.blt pc 865) (cond (Nat.blt pc 861) (cond (Nat.blt pc 860) (cond (Nat.beq pc 859) (some (.iconst 1)) none) (cond (Nat.beq pc 860) (some (.iadd)) none)) (cond (Nat.blt pc 862) (cond (Nat.beq pc 861) (some (.iaload)) none) (cond (Nat.blt pc 863) (cond (Nat.beq pc 862) (some (.aload_n 0)) none) (cond (Nat.beq pc 863) (some (.iload 4)) none)))) (cond (Nat.blt pc 867) (cond (Nat.blt pc 866) (cond (Nat.beq pc 865) (some (.iconst 2)) none) (cond (Nat.beq pc 866) (some (.iadd)) none)) (cond (Nat.blt pc 868) (cond (Nat.beq pc 867) (some (.iaload)) none) (cond (Nat.blt pc 869) (cond (Nat.beq pc 868) (some (.aload_n 0)) none) (cond (Nat.beq pc 869) (some (.iload 4)) none))))) (cond (Nat.blt pc 878) (cond (Nat.blt pc 873) (cond (Nat.blt pc 872) (cond (Nat.beq pc 871) (some (.iconst 3)) none) (cond (Nat.beq pc 872) (some (.iadd)) none)) (cond (Nat.blt pc 874) (cond (Nat.beq pc 873) (some (.iaload)) none) (cond (Nat.blt pc 877) (cond (Nat.beq pc 874) (some (.invokevirtual 103)) none) (cond (Nat.beq pc 877) (some (.aload_n 2)) none)))) (cond (Nat.blt pc 881) (cond (Nat.blt pc 879) (cond (Nat.beq pc 878) (some (.aload_n 0)) none) (cond (Nat.beq pc 879) (some (.iload 4)) none)) (cond (Nat.blt pc 882) (cond (Nat.beq pc 881) (some (.iconst 1)) none) (cond (Nat.blt pc 883) (cond (Nat.beq pc 882) (some (.iadd)) none) (cond (Nat.beq pc 883) (some (.iaload)) none)))))) (cond (Nat.blt pc 896) (cond (Nat.blt pc 890) (cond (Nat.blt pc 887) (cond (Nat.blt pc 885) (cond (Nat.beq pc 884) (some (.aload_n 0)) none) (cond (Nat.beq pc 885) (some (.iload 4)) none)) (cond (Nat.blt pc 888) (cond (Nat.beq pc 887) (some (.iconst 2)) none) (cond (Nat.blt pc 889) (cond (Nat.beq pc 888) (some (.iadd)) none) (cond (Nat.beq pc 889) (some (.iaload)) none)))) (cond (Nat.blt pc 893) (cond (Nat.blt pc 891) (cond (Nat.beq pc 890) (some (.aload_n 0)) none) (cond (Nat.beq pc 891) (some (.iload 4)) none)) (cond (Nat.blt pc 894) (cond (Nat.beq pc 893) (some (.iconst 3)) none) (cond (Nat.blt pc 895) (cond (Nat.beq pc 894) (some (.iadd)) none) (cond (Nat.beq pc 895) (some (.iaload)) none))))) (cond (Nat.blt pc 905) (cond (Nat.blt pc 902) (cond (Nat.blt pc 899) (cond (Nat.beq pc 896) (some (.invokevirtual 106)) none) (cond (Nat.beq pc 899) (some (.if_icmp .eq 192)) none)) (cond (Nat.blt pc 903) (cond (Nat.beq pc 902) (some (.iconst 0)) none) (cond (Nat.blt pc 904) (cond (Nat.beq pc 903) (some (.ireturn)) none) (cond (Nat.beq pc 904) (some (.aload_n 1)) none)))) (cond (Nat.blt pc 909) (cond (Nat.blt pc 906) (cond (Nat.beq pc 905) (some (.aload_n 0)) none) (cond (Nat.blt pc 908) (cond (Nat.beq pc 906) (some (.iload 4)) none) (cond (Nat.beq pc 908) (some (.iconst 1)) none))) (cond (Nat.blt pc 910) (cond (Nat.beq pc 909) (some (.iadd)) none) (cond (Nat.blt pc 911) (cond (Nat.beq pc 910) (some (.iaload)) none) (cond (Nat.beq pc 911) (some (.invokevirtual 107)) none))))))) (cond (Nat.blt pc 944) (cond (Nat.blt pc 929) (cond (Nat.blt pc 920) (cond (Nat.blt pc 916) (cond (Nat.blt pc 915) (cond (Nat.beq pc 914) (some (.aload_n 2)) none) (cond (Nat.beq pc 915) (some (.aload_n 0)) none)) (cond (Nat.blt pc 918) (cond (Nat.beq pc 916) (some (.iload 4)) none) (cond (Nat.blt pc 919) (cond (Nat.beq pc 918) (some (.iconst 1)) none) (cond (Nat.beq pc 919) (some (.iadd)) none)))) (cond (Nat.blt pc 924) (cond (Nat.blt pc 921) (cond (Nat.beq pc 920) (some (.iaload)) none) (cond (Nat.beq pc 921) (some (.invokevirtual 110)) none)) (cond (Nat.blt pc 927) (cond (Nat.beq pc 924) (some (.if_icmp .eq 167)) none) (cond (Nat.blt pc 928) (cond (Nat.beq pc 927) (some (.iconst 0)) none) (cond (Nat.beq pc 928) (some (.ireturn)) none))))) (cond (Nat.blt pc 935) (cond (Nat.blt pc 931) (cond (Nat.blt pc 930) (cond (Nat.beq pc 929) (some (.aload_n 1)) none) (cond (Nat.beq pc 930) (some (.aload_n 0)) none)) (cond (Nat.blt pc 933) (cond (Nat.beq pc 931) (some (.iload 4)) none) (cond (Nat.blt pc 934) (cond (Nat.beq pc 933) (some (.iconst 1)) none) (cond (Nat.beq pc 934) (some (.iadd)) none)))) (cond (Nat.blt pc 940) (cond (Nat.blt pc 936) (cond (Nat.beq pc 935) (some (.iaload)) none) (cond (Nat.blt pc 939) (cond (Nat.beq pc 936) (some (.invokevirtual 111)) none) (cond (Nat.beq pc 939) (some (.aload_n 2)) none))) (cond (Nat.blt pc 941) (cond (Nat.beq pc 940) (some (.aload_n 0)) none) (cond (Nat.blt pc 943) (cond (Nat.beq pc 941) (some (.iload 4)) none) (cond (Nat.beq pc 943) (some (.iconst 1)) none)))))) (cond (Nat.blt pc 959) (cond (Nat.blt pc 953) (cond (Nat.blt pc 946) (cond (Nat.blt pc 945) (cond (Nat.beq pc 944) (some (.iadd)) none) (cond (Nat.beq pc 945) (some (.iaload)) none)) (cond (Nat.blt pc 949) (cond (Nat.beq pc 946) (some (.invokevirtual 114)) none) (cond (Nat.blt pc 952) (cond (Nat.beq pc 949) (some (.if_icmp .eq 142)) none) (cond (Nat.beq pc 952) (some (.iconst 0)) none)))) (cond (Nat.blt pc 955) (cond (Nat.blt pc 954) (cond (Nat.beq pc 953) (some (.ireturn)) none) (cond (Nat.beq pc 954) (some (.aload_n 1)) none)) (cond (Nat.blt pc 956) (cond (Nat.beq pc 955) (some (.aload_n 0)) none) (cond (Nat.blt pc 958) (cond (Nat.beq pc 956) (some (.iload 4)) none) (cond (Nat.beq pc 958) (some (.iconst 1)) none))))) (cond (Nat.blt pc 966) (cond (Nat.blt pc 961) (cond (Nat.blt pc 960) (cond (Nat.beq pc 959) (some (.iadd)) none) (cond (Nat.beq pc 960) (some (.iaload)) none)) (cond (Nat.blt pc 964) (cond (Nat.beq pc 961) (some (.invokevirtual 115)) none) (cond (Nat.blt pc 965) (cond (Nat.beq pc 964) (some (.aload_n 2)) none) (cond (Nat.beq pc 965) (some (.aload_n 0)) none)))) (cond (Nat.blt pc 970) (cond (Nat.blt pc 968) (cond (Nat.beq pc 966) (some (.iload 4)) none) (cond (Nat.blt pc 969) (cond (Nat.beq pc 968) (some (.iconst 1)) none) (cond (Nat.beq pc 969) (some (.iadd)) none))) (cond (Nat.blt pc 971) (cond (Nat.beq pc 970) (some (.iaload)) none) (cond (Nat.blt pc 974) (cond (Nat.beq pc 971) (some (.invokevirtual 118)) none) (cond (Nat.beq pc 974) (some (.if_icmp .eq 117)) none)))))))) (cond (Nat.blt pc 1033) (cond (Nat.blt pc 1003) (cond (Nat.blt pc 989) (cond (Nat.blt pc 983) (cond (Nat.blt pc 979) (cond (Nat.blt pc 978) (cond (Nat.beq pc 977) (some (.iconst 0)) none) (cond (Nat.beq pc 978) (some (.ireturn)) none)) (cond (Nat.blt pc 980) (cond (Nat.beq pc 979) (some (.aload_n 1)) none) (cond (Nat.blt pc 981) (cond (Nat.beq pc 980) (some (.aload_n 0)) none) (cond (Nat.beq pc 981) (some (.iload 4)) none)))) (cond (Nat.blt pc 985) (cond (Nat.blt pc 984) (cond (Nat.beq pc 983) (some (.iconst 1)) none) (cond (Nat.beq pc 984) (some (.iadd)) none)) (cond (Nat.blt pc 986) (cond (Nat.beq pc 985) (some (.iaload)) none) (cond (Nat.blt pc 987) (cond (Nat.beq pc 986) (some (.aload_n 0)) none) (cond (Nat.beq pc 987) (some (.iload 4)) none))))) (cond (Nat.blt pc 996) (cond (Nat.blt pc 991) (cond (Nat.blt pc 990) (cond (Nat.beq pc 989) (some (.iconst 2)) none) (cond (Nat.beq pc 990) (some (.iadd)) none)) (cond (Nat.blt pc 992) (cond (Nat.beq pc 991) (some (.iaload)) none) (cond (Nat.blt pc 995) (cond (Nat.beq pc 992) (some (.invokevirtual 119)) none) (cond (Nat.beq pc 995) (some (.aload_n 2)) none)))) (cond (Nat.blt pc 1000) (cond (Nat.blt pc 997) (cond (Nat.beq pc 996) (some (.aload_n 0)) none) (cond (Nat.blt pc 999) (cond (Nat.beq pc 997) (some (.iload 4)) none) (cond (Nat.beq pc 999) (some (.iconst 1)) none))) (cond (Nat.blt pc 1001) (cond (Nat.beq pc 1000) (some (.iadd)) none) (cond (Nat.blt pc 1002) (cond (Nat.beq pc 1001) (some (.iaload)) none) (cond (Nat.beq pc 1002) (some (.aload_n 0)) none)))))) (cond (Nat.blt pc 1018) (cond (Nat.blt pc 1011) (cond (Nat.blt pc 1006) (cond (Nat.blt pc 1005) (cond (Nat.beq pc 1003) (some (.iload 4)) none) (cond (Nat.beq pc 1005) (some (.iconst 2)) none)) (cond (Nat.blt pc 1007) (cond (Nat.beq pc 1006) (some (.iadd)) none) (cond (Nat.blt pc 1008) (cond (Nat.beq pc 1007) (some (.iaload)) none) (cond (Nat.beq pc 1008) (some (.invokevirtual 122)) none)))) (cond (Nat.blt pc 1015) (cond (Nat.blt pc 1014) (cond (Nat.beq pc 1011) (some (.if_icmp .eq 80)) none) (cond (Nat.beq pc 1014) (some (.iconst 0)) none)) (cond (Nat.blt pc 1016) (cond (Nat.beq pc 1015) (some (.ireturn)) none) (cond (Nat.blt pc 1017) (cond (Nat.beq pc 1016) (some (.aload_n 1)) none) (cond (Nat.beq pc 1017) (some (.aload_n 0)) none))))) (cond (Nat.blt pc 1026) (cond (Nat.blt pc 1021) (cond (Nat.blt pc 1020) (cond (Nat.beq pc 1018) (some (.iload 4)) none) (cond (Nat.beq pc 1020) (some (.iconst 1)) none)) (cond (Nat.blt pc 1022) (cond (Nat.beq pc 1021) (some (.iadd)) none) (cond (Nat.blt pc 1023) (cond (Nat.beq pc 1022) (some (.iaload)) none) (cond (Nat.beq pc 1023) (some (.invokevirtual 123)) none)))) (cond (Nat.blt pc 1030) (cond (Nat.blt pc 1027) (cond (Nat.beq pc 1026) (some (.aload_n 2)) none) (cond (Nat.blt pc 1028) (cond (Nat.beq pc 1027) (some (.aload_n 0)) none) (cond (Nat.beq pc 1028) (some (.iload 4)) none))) (cond (Nat.blt pc 1031) (cond (Nat.beq pc 1030) (some (.iconst 1)) none) (cond (Nat.blt pc 1032) (cond (Nat.beq pc 1031) (some (.iadd)) none) (cond (Nat.beq pc 1032) (some (.iaload)) none))))))) (cond (Nat.blt pc 1063) (cond (Nat.blt pc 1048) (cond (Nat.blt pc 1042) (cond (Nat.blt pc 1039) (cond (Nat.blt pc 1036) (cond (Nat.beq pc 1033) (some (.invokevirtual 126)) none) (cond (Nat.beq pc 1036) (some (.if_icmp .eq 55)) none)) (cond (Nat.blt pc 1040) (cond (Nat.beq pc 1039) (some (.iconst 0)) none) (cond (Nat.blt pc 1041) (cond (Nat.beq pc 1040) (some (.ireturn)) none) (cond (Nat.beq pc 1041) (some (.aload_n 1)) none)))) (cond (Nat.blt pc 1045) (cond (Nat.blt pc 1043) (cond (Nat.beq pc 1042) (some (.aload_n 0)) none) (cond (Nat.beq pc 1043) (some (.iload 4)) none)) (cond (Nat.blt pc 1046) (cond (Nat.beq pc 1045) (some (.iconst 1)) none) (cond (Nat.blt pc 1047) (cond (Nat.beq pc 1046) (some (.iadd)) none) (cond (Nat.beq pc 1047) (some (.iaload)) none))))) (cond (Nat.blt pc 1054) (cond (Nat.blt pc 1051) (cond (Nat.blt pc 1049) (cond (Nat.beq pc 1048) (some (.aload_n 0)) none) (cond (Nat.beq pc 1049) (some (.iload 4)) none)) (cond (Nat.blt pc 1052) (cond (Nat.beq pc 1051) (some (.iconst 2)) none) (cond (Nat.blt pc 1053) (cond (Nat.beq pc 1052) (some (.iadd)) none) (cond (Nat.beq pc 1053) (some (.iaload)) none)))) (cond (Nat.blt pc 1059) (cond (Nat.blt pc 1057) (cond (Nat.beq pc 1054) (some (.invokevirtual 127)) none) (cond (Nat.blt pc 1058) (cond (Nat.beq pc 1057) (some (.aload_n 2)) none) (cond (Nat.beq pc 1058) (some (.aload_n 0)) none))) (cond (Nat.blt pc 1061) (cond (Nat.beq pc 1059) (some (.iload 4)) none) (cond (Nat.blt pc 1062) (cond (Nat.beq pc 1061) (some (.iconst 1)) none) (cond (Nat.beq pc 1062) (some (.iadd)) none)))))) (cond (Nat.blt pc 1078) (cond (Nat.blt pc 1069) (cond (Nat.blt pc 1065) (cond (Nat.blt pc 1064) (cond (Nat.beq pc 1063) (some (.iaload)) none) (cond (Nat.beq pc 1064) (some (.aload_n 0)) none)) (cond (Nat.blt pc 1067) (cond (Nat.beq pc 1065) (some (.iload 4)) none) (cond (Nat.blt pc 1068) (cond (Nat.beq pc 1067) (some (.iconst 2)) none) (cond (Nat.beq pc 1068) (some (.iadd)) none)))) (cond (Nat.blt pc 1073) (cond (Nat.blt pc 1070) (cond (Nat.beq pc 1069) (some (.iaload)) none) (cond (Nat.beq pc 1070) (some (.invokevirtual 130)) none)) (cond (Nat.blt pc 1076) (cond (Nat.beq pc 1073) (some (.if_icmp .eq 18)) none) (cond (Nat.blt pc 1077) (cond (Nat.beq pc 1076) (some (.iconst 0)) none) (cond (Nat.beq pc 1077) (some (.ireturn)) none))))) (cond (Nat.blt pc 1089) (cond (Nat.blt pc 1082) (cond (Nat.blt pc 1079) (cond (Nat.beq pc 1078) (some (.aload_n 1)) none) (cond (Nat.beq pc 1079) (some (.invokevirtual 131)) none)) (cond (Nat.blt pc 1083) (cond (Nat.beq pc 1082) (some (.aload_n 2)) none) (cond (Nat.blt pc 1086) (cond (Nat.beq pc 1083) (some (.invokevirtual 134)) none) (cond (Nat.beq pc 1086) (some (.if_icmp .eq 5)) none)))) (cond (Nat.blt pc 1094) (cond (Nat.blt pc 1090) (cond (Nat.beq pc 1089) (some (.iconst 0)) none) (cond (Nat.blt pc 1091) (cond (Nat.beq pc 1090) (some (.ireturn)) none) (cond (Nat.beq pc 1091) (some (.iinc 4 4)) none))) (cond (Nat.blt pc 1097) (cond (Nat.beq pc 1094) (some (.goto (-1071))) none) (cond (Nat.blt pc 1098) (cond (Nat.beq pc 1097) (some (.iconst 1)) none) (cond (Nat.beq pc 1098) (some (.ireturn)) none)))))))))))
theorem tb_k139_0 : ∀ pc, 0 ≤ pc → pc < 0 + 60 → tb_chI 7 code tb_f139 pc = true := tb_ck 0 60 (by decide +kernel)
theorem tb_k139_60 : ∀ pc, 60 ≤ pc → pc < 60 + 60 → tb_chI 7 code tb_f139 pc = true := tb_ck 60 60 (by decide +kernel)
theorem tb_k139_120 : ∀ pc, 120 ≤ pc → pc < 120 + 60 → tb_chI 7 code tb_f139 pc = true := tb_ck 120 60 (by decide +kernel)
theorem tb_k139_180 : ∀ pc, 180 ≤ pc → pc < 180 + 60 → tb_chI 7 code tb_f139 pc = true := tb_ck 180 60 (by decide +kernel)
end
section
theorem tb_k139_240 : ∀ pc, 240 ≤ pc → pc < 240 + 60 → tb_chI 7 code tb_f139 pc = true := tb_ck 240 60 (by decide +kernel)
theorem tb_k139_300 : ∀ pc, 300 ≤ pc → pc < 300 + 60 → tb_chI 7 code tb_f139 pc = true := tb_ck 300 60 (by decide +kernel)
theorem tb_k139_360 : ∀ pc, 360 ≤ pc → pc < 360 + 60 → tb_chI 7 code tb_f139 pc = true := tb_ck 360 60 (by decide +kernel)
theorem tb_k139_420 : ∀ pc, 420 ≤ pc → pc < 420 + 60 → tb_chI 7 code tb_f139 pc = true := tb_ck 420 60 (by decide +kernel)
end
section
theorem tb_k139_480 : ∀ pc, 480 ≤ pc → pc < 480 + 60 → tb_chI 7 code tb_f139 pc = true := tb_ck 480 60 (by decide +kernel)
theorem tb_k139_540 : ∀ pc, 540 ≤ pc → pc < 540 + 60 → tb_chI 7 code tb_f139 pc = true := tb_ck 540 60 (by decide +kernel)
theorem tb_k139_600 : ∀ pc, 600 ≤ pc → pc < 600 + 60 → tb_chI 7 code tb_f139 pc = true := tb_ck 600 60 (by decide +kernel)
theorem tb_k139_660 : ∀ pc, 660 ≤ pc → pc < 660 + 60 → tb_chI 7 code tb_f139 pc = true := tb_ck 660 60 (by decide +kernel)
end
section
theorem tb_k139_720 : ∀ pc, 720 ≤ pc → pc < 720 + 60 → tb_chI 7 code tb_f139 pc = true := tb_ck 720 60 (by decide +kernel)
theorem tb_k139_780 : ∀ pc, 780 ≤ pc → pc < 780 + 60 → tb_chI 7 code tb_f139 pc = true := tb_ck 780 60 (by decide +kernel)
theorem tb_k139_840 : ∀ pc, 840 ≤ pc → pc < 840 + 60 → tb_chI 7 code tb_f139 pc = true := tb_ck 840 60 (by decide +kernel)
theorem tb_k139_900 : ∀ pc, 900 ≤ pc → pc < 900 + 60 → tb_chI 7 code tb_f139 pc = true := tb_ck 900 60 (by decide +kernel)
end
section
theorem tb_k139_960 : ∀ pc, 960 ≤ pc → pc < 960 + 60 → tb_chI 7 code tb_f139 pc = true := tb_ck 960 60 (by decide +kernel)
theorem tb_k139_1020 : ∀ pc, 1020 ≤ pc → pc < 1020 + 60 → tb_chI 7 code tb_f139 pc = true := tb_ck 1020 60 (by decide +kernel)
theorem tb_k139_1080 : ∀ pc, 1080 ≤ pc → pc < 1080 + 19 → tb_chI 7 code tb_f139 pc = true := tb_ck 1080 19 (by decide +kernel)
end
section
theorem tb_i139 : tb_okI 7 code tb_f139 := tb_okI_of 1099 tb_cut_out (List.all_eq_true.mpr fun pc hpc => by
  have h := List.mem_range.mp hpc
  by_cases h0 : pc < 60
  · exact tb_k139_0 pc (by omega) (by omega)
  by_cases h60 : pc < 120
  · exact tb_k139_60 pc (by omega) (by omega)
  by_cases h120 : pc < 180
  · exact tb_k139_120 pc (by omega) (by omega)
  by_cases h180 : pc < 240
  · exact tb_k139_180 pc (by omega) (by omega)
  by_cases h240 : pc < 300
  · exact tb_k139_240 pc (by omega) (by omega)
  by_cases h300 : pc < 360
  · exact tb_k139_300 pc (by omega) (by omega)
  by_cases h360 : pc < 420
  · exact tb_k139_360 pc (by omega) (by omega)
  by_cases h420 : pc < 480
  · exact tb_k139_420 pc (by omega) (by omega)
  by_cases h480 : pc < 540
  · exact tb_k139_480 pc (by omega) (by omega)
  by_cases h540 : pc < 600
  · exact tb_k139_540 pc (by omega) (by omega)
  by_cases h600 : pc < 660
  · exact tb_k139_600 pc (by omega) (by omega)
  by_cases h660 : pc < 720
  · exact tb_k139_660 pc (by omega) (by omega)
  by_cases h720 : pc < 780
  · exact tb_k139_720 pc (by omega) (by omega)
  by_cases h780 : pc < 840
  · exact tb_k139_780 pc (by omega) (by omega)
  by_cases h840 : pc < 900
  · exact tb_k139_840 pc (by omega) (by omega)
  by_cases h900 : pc < 960
  · exact tb_k139_900 pc (by omega) (by omega)
  by_cases h960 : pc < 1020
  · exact tb_k139_960 pc (by omega) (by omega)
  by_cases h1020 : pc < 1080
  · exact tb_k139_1020 pc (by omega) (by omega)
  exact tb_k139_1080 pc (by omega) (by omega))
theorem tb_p139 : tb_okP tb_cl tb_WA "VaultDevicesLaw" false tb_FL 8 tb_f139 := tb_okP_of 1099 tb_cut_out (by decide +kernel)
end
section
/-! ===== all methods; the tables T ===== -/
def tb_ms0 : List tb_M := [
  (tb_f0, prog_1_method_1_code, 2, 0, 0, 0, ⟨"VaultDevices", "<init>", "()V"⟩, []),
  (tb_f1, prog_1_method_10_code, 6, 2, 0, 0, ⟨"VaultDevices", "deliver", "(I)Z"⟩, []),
  (tb_f2, prog_1_method_26_code, 2, 2, 0, 0, ⟨"VaultDevices", "isBelow", "(II)Z"⟩, []),
  (tb_f3, prog_1_method_25_code, 4, 0, 0, 0, ⟨"VaultDevices", "takeReply", "(II)V"⟩, []),
  (tb_f4, prog_1_method_24_code, 2, 0, 0, 0, ⟨"VaultDevices", "sendHeld", "(I)V"⟩, []),
  (tb_f5, prog_1_method_11_code, 2, 2, 0, 0, ⟨"VaultDevices", "drop", "(I)Z"⟩, []),
  (tb_f6, prog_1_method_12_code, 3, 1, 0, 0, ⟨"VaultDevices", "message", "(II)I"⟩, []),
  (tb_f7, prog_1_method_13_code, 1, 1, 0, 0, ⟨"VaultDevices", "flight", "()I"⟩, []),
  (tb_f8, prog_1_method_14_code, 3, 2, 0, 0, ⟨"VaultDevices", "forge", "(II)Z"⟩, []),
  (tb_f9, prog_1_method_15_code, 2, 2, 0, 0, ⟨"VaultDevices", "plant", "(I)Z"⟩, []),
  (tb_f10, prog_1_method_16_code, 5, 1, 0, 0, ⟨"VaultDevices", "build", "(III)I"⟩, []),
  (tb_f11, prog_1_method_17_code, 3, 1, 0, 0, ⟨"VaultDevices", "leak", "(I)I"⟩, []),
  (tb_f12, prog_1_method_18_code, 3, 1, 0, 0, ⟨"VaultDevices", "steal", "(I)I"⟩, []),
  (tb_f13, prog_1_method_19_code, 2, 2, 0, 0, ⟨"VaultDevices", "known", "(I)Z"⟩, []),
  (tb_f14, prog_1_method_20_code, 3, 1, 0, 0, ⟨"VaultDevices", "term", "(II)I"⟩, []),
  (tb_f15, prog_1_method_21_code, 2, 1, 0, 0, ⟨"VaultDevices", "atom", "(I)I"⟩, []),
  (tb_f16, prog_1_method_22_code, 4, 1, 0, 0, ⟨"VaultDevices", "device", "(II)I"⟩, []),
  (tb_f17, prog_1_method_23_code, 1, 1, 0, 0, ⟨"VaultDevices", "server", "()I"⟩, []),
  (tb_f18, prog_1_method_2_code, 4, 2, 0, 0, ⟨"VaultDevices", "unlock", "(II)Z"⟩, []),
  (tb_f19, prog_1_method_27_code, 1, 0, 0, 0, ⟨"VaultDevices", "require", "(Z)V"⟩, []),
  (tb_f20, prog_1_method_3_code, 2, 2, 0, 0, ⟨"VaultDevices", "lock", "(I)Z"⟩, []),
  (tb_f21, prog_1_method_4_code, 5, 1, 0, 0, ⟨"VaultDevices", "put", "(III)I"⟩, []),
  (tb_f22, prog_1_method_28_code, 1, 0, 0, 0, ⟨"VaultDevices", "requireOpen", "(LVaultDevices$Device;)V"⟩, []),
  (tb_f23, prog_1_method_5_code, 5, 1, 0, 0, ⟨"VaultDevices", "erase", "(II)I"⟩, [])]
def tb_ms1 : List tb_M := [
  (tb_f24, prog_1_method_6_code, 5, 1, 0, 0, ⟨"VaultDevices", "get", "(III)I"⟩, []),
  (tb_f25, prog_1_method_7_code, 4, 1, 0, 0, ⟨"VaultDevices", "change", "(II)I"⟩, []),
  (tb_f26, prog_1_method_8_code, 2, 2, 0, 0, ⟨"VaultDevices", "pull", "(I)Z"⟩, []),
  (tb_f27, prog_1_method_9_code, 3, 1, 0, 0, ⟨"VaultDevices", "push", "(I)I"⟩, []),
  (tb_f28, prog_7_method_1_code, 1, 0, 1, 1, ⟨"VaultDevices$Terms", "<init>", "()V"⟩, []),
  (tb_f29, prog_7_method_8_code, 4, 1, 1, 1, ⟨"VaultDevices$Terms", "partOf", "(II)I"⟩, []),
  (tb_f30, prog_7_method_7_code, 5, 1, 1, 1, ⟨"VaultDevices$Terms", "tailOf", "(II)I"⟩, []),
  (tb_f31, prog_7_method_2_code, 2, 1, 1, 1, ⟨"VaultDevices$Terms", "kindOf", "(I)I"⟩, []),
  (tb_f32, prog_7_method_4_code, 2, 1, 1, 1, ⟨"VaultDevices$Terms", "yOf", "(I)I"⟩, []),
  (tb_f33, prog_7_method_3_code, 2, 1, 1, 1, ⟨"VaultDevices$Terms", "xOf", "(I)I"⟩, []),
  (tb_f34, prog_7_method_6_code, 3, 1, 1, 1, ⟨"VaultDevices$Terms", "valueOf", "(II)I"⟩, []),
  (tb_f35, prog_7_method_13_code, 2, 0, 1, 1, ⟨"VaultDevices$Terms", "reveal", "(I)V"⟩, []),
  (tb_f36, prog_7_method_14_code, 4, 0, 1, 1, ⟨"VaultDevices$Terms", "spread", "()V"⟩, []),
  (tb_f37, prog_7_method_15_code, 6, 2, 1, 1, ⟨"VaultDevices$Terms", "takeApart", "(I)Z"⟩, []),
  (tb_f38, prog_7_method_5_code, 2, 2, 1, 1, ⟨"VaultDevices$Terms", "isKnown", "(I)Z"⟩, []),
  (tb_f39, prog_7_method_10_code, 6, 1, 1, 1, ⟨"VaultDevices$Terms", "make", "(III)I"⟩, []),
  (tb_f40, prog_7_method_9_code, 6, 1, 1, 1, ⟨"VaultDevices$Terms", "find", "(III)I"⟩, []),
  (tb_f41, prog_7_method_11_code, 6, 1, 1, 1, ⟨"VaultDevices$Terms", "makeList", "([III)I"⟩, []),
  (tb_f42, prog_7_method_12_code, 3, 0, 1, 1, ⟨"VaultDevices$Terms", "cutBack", "(I)V"⟩, []),
  (tb_f43, prog_5_method_1_code, 1, 0, 2, 2, ⟨"VaultDevices$Seals", "<init>", "()V"⟩, []),
  (tb_f44, prog_5_method_6_code, 6, 2, 2, 2, ⟨"VaultDevices$Seals", "read", "(LVaultDevices$Terms;ILVaultDevices$State;)Z"⟩, []),
  (tb_f45, prog_5_method_7_code, 6, 2, 2, 2, ⟨"VaultDevices$Seals", "readHeader", "(LVaultDevices$Terms;ILVaultDevices$State;)Z"⟩, []),
  (tb_f46, prog_5_method_8_code, 4, 1, 2, 2, ⟨"VaultDevices$Seals", "readHeaderBox", "(LVaultDevices$Terms;I)I"⟩, []),
  (tb_f47, prog_5_method_9_code, 5, 2, 2, 2, ⟨"VaultDevices$Seals", "readVector", "(LVaultDevices$Terms;ILVaultDevices$State;)Z"⟩, [])]
def tb_ms2 : List tb_M := [
  (tb_f48, prog_5_method_10_code, 6, 2, 2, 2, ⟨"VaultDevices$Seals", "readEntries", "(LVaultDevices$Terms;ILVaultDevices$State;)Z"⟩, []),
  (tb_f49, prog_5_method_11_code, 8, 1, 2, 2, ⟨"VaultDevices$Seals", "readEntry", "(LVaultDevices$Terms;I)I"⟩, []),
  (tb_f50, prog_5_method_2_code, 7, 1, 2, 2, ⟨"VaultDevices$Seals", "write", "(LVaultDevices$Terms;LVaultDevices$State;)I"⟩, []),
  (tb_f51, prog_5_method_3_code, 6, 0, 2, 2, ⟨"VaultDevices$Seals", "writeHeader", "(LVaultDevices$Terms;LVaultDevices$State;)V"⟩, []),
  (tb_f52, prog_5_method_4_code, 4, 1, 2, 2, ⟨"VaultDevices$Seals", "writeEntries", "(LVaultDevices$Terms;LVaultDevices$State;)I"⟩, []),
  (tb_f53, prog_5_method_5_code, 5, 1, 2, 2, ⟨"VaultDevices$Seals", "writeEntry", "(LVaultDevices$Terms;I)I"⟩, []),
  (tb_f54, prog_4_method_1_code, 1, 0, 3, 3, ⟨"VaultDevices$Mail", "<init>", "()V"⟩, []),
  (tb_f55, prog_4_method_3_code, 3, 0, 3, 3, ⟨"VaultDevices$Mail", "remove", "(I)V"⟩, []),
  (tb_f56, prog_4_method_2_code, 5, 0, 3, 3, ⟨"VaultDevices$Mail", "send", "(IIII)V"⟩, []),
  (tb_f57, prog_2_method_1_code, 1, 0, 4, 4, ⟨"VaultDevices$Device", "<init>", "()V"⟩, []),
  (tb_f58, prog_6_method_1_code, 1, 0, 5, 5, ⟨"VaultDevices$State", "<init>", "()V"⟩, []),
  (tb_f59, prog_6_method_2_code, 4, 0, 5, 5, ⟨"VaultDevices$State", "takeHeader", "(III)V"⟩, []),
  (tb_f60, prog_6_method_13_code, 3, 2, 5, 5, ⟨"VaultDevices$State", "mayFollow", "(I)Z"⟩, []),
  (tb_f61, prog_6_method_8_code, 3, 2, 5, 5, ⟨"VaultDevices$State", "knowsDotOf", "(I)Z"⟩, []),
  (tb_f62, prog_6_method_6_code, 2, 0, 5, 5, ⟨"VaultDevices$State", "insert", "(I)V"⟩, []),
  (tb_f63, prog_6_method_14_code, 4, 0, 5, 5, ⟨"VaultDevices$State", "insertInOrder", "([III)V"⟩, []),
  (tb_f64, prog_6_method_7_code, 3, 2, 5, 5, ⟨"VaultDevices$State", "isAbove", "([I)Z"⟩, []),
  (tb_f65, prog_6_method_10_code, 4, 2, 5, 5, ⟨"VaultDevices$State", "merge", "(LVaultDevices$State;)Z"⟩, []),
  (tb_f66, prog_6_method_9_code, 3, 2, 5, 5, ⟨"VaultDevices$State", "has", "(I)Z"⟩, []),
  (tb_f67, prog_6_method_11_code, 3, 0, 5, 5, ⟨"VaultDevices$State", "mergeVector", "(LVaultDevices$State;)V"⟩, []),
  (tb_f68, prog_6_method_12_code, 3, 0, 5, 5, ⟨"VaultDevices$State", "mergeHeader", "(LVaultDevices$State;)V"⟩, []),
  (tb_f69, prog_6_method_3_code, 4, 1, 5, 5, ⟨"VaultDevices$State", "countOf", "(I)I"⟩, []),
  (tb_f70, prog_6_method_5_code, 4, 0, 5, 5, ⟨"VaultDevices$State", "removeAll", "(I)V"⟩, []),
  (tb_f71, prog_6_method_4_code, 5, 1, 5, 5, ⟨"VaultDevices$State", "contentAt", "(II)I"⟩, [])]
def tb_ms3 : List tb_M := [
  (tb_f72, prog_9_method_1_code, 2, 0, 6, 6, ⟨"VaultDevicesModel", "<init>", "()V"⟩, []),
  (tb_f73, prog_9_method_2_code, 1, 1, 6, 6, ⟨"VaultDevicesModel", "thrown", "()I"⟩, []),
  (tb_f74, prog_9_method_29_code, 3, 2, 6, 6, ⟨"VaultDevicesModel", "unlock", "(II)Z"⟩, []),
  (tb_f75, prog_9_method_27_code, 1, 2, 6, 6, ⟨"VaultDevicesModel", "isDevice", "(I)Z"⟩, []),
  (tb_f76, prog_9_method_30_code, 3, 2, 6, 6, ⟨"VaultDevicesModel", "lock", "(I)Z"⟩, []),
  (tb_f77, prog_9_method_32_code, 7, 1, 6, 6, ⟨"VaultDevicesModel", "put", "(III)I"⟩, []),
  (tb_f78, prog_9_method_28_code, 3, 2, 6, 6, ⟨"VaultDevicesModel", "may", "(ZI)Z"⟩, []),
  (tb_f79, prog_9_method_31_code, 7, 1, 6, 6, ⟨"VaultDevicesModel", "count", "(IIZ)I"⟩, []),
  (tb_f80, prog_9_method_14_code, 3, 0, 6, 6, ⟨"VaultDevicesModel", "copy", "(II)V"⟩, []),
  (tb_f81, prog_9_method_13_code, 6, 0, 6, 6, ⟨"VaultDevicesModel", "set", "(IIIII)V"⟩, []),
  (tb_f82, prog_9_method_15_code, 7, 0, 6, 6, ⟨"VaultDevicesModel", "sink", "(I)V"⟩, []),
  (tb_f83, prog_9_method_12_code, 3, 2, 6, 6, ⟨"VaultDevicesModel", "before", "(II)Z"⟩, []),
  (tb_f84, prog_9_method_33_code, 4, 1, 6, 6, ⟨"VaultDevicesModel", "erase", "(II)I"⟩, []),
  (tb_f85, prog_9_method_34_code, 6, 1, 6, 6, ⟨"VaultDevicesModel", "get", "(III)I"⟩, []),
  (tb_f86, prog_9_method_35_code, 3, 1, 6, 6, ⟨"VaultDevicesModel", "change", "(II)I"⟩, []),
  (tb_f87, prog_9_method_36_code, 3, 2, 6, 6, ⟨"VaultDevicesModel", "pull", "(I)Z"⟩, []),
  (tb_f88, prog_9_method_24_code, 5, 2, 6, 6, ⟨"VaultDevicesModel", "send", "(IIII)Z"⟩, []),
  (tb_f89, prog_9_method_38_code, 4, 1, 6, 6, ⟨"VaultDevicesModel", "push", "(I)I"⟩, []),
  (tb_f90, prog_9_method_37_code, 4, 1, 6, 6, ⟨"VaultDevicesModel", "seal", "(I)I"⟩, []),
  (tb_f91, prog_9_method_8_code, 15, 1, 6, 6, ⟨"VaultDevicesModel", "makeSeal", "(I)I"⟩, []),
  (tb_f92, prog_9_method_5_code, 5, 1, 6, 6, ⟨"VaultDevicesModel", "make", "(III)I"⟩, []),
  (tb_f93, prog_9_method_4_code, 5, 1, 6, 6, ⟨"VaultDevicesModel", "look", "(III)I"⟩, []),
  (tb_f94, prog_9_method_7_code, 9, 1, 6, 6, ⟨"VaultDevicesModel", "makeEntry", "(I)I"⟩, []),
  (tb_f95, prog_9_method_6_code, 3, 1, 6, 6, ⟨"VaultDevicesModel", "settle", "(II)I"⟩, [])]
def tb_ms4 : List tb_M := [
  (tb_f96, prog_9_method_39_code, 7, 2, 6, 6, ⟨"VaultDevicesModel", "deliver", "(I)Z"⟩, []),
  (tb_f97, prog_9_method_25_code, 3, 0, 6, 6, ⟨"VaultDevicesModel", "remove", "(I)V"⟩, []),
  (tb_f98, prog_9_method_26_code, 5, 0, 6, 6, ⟨"VaultDevicesModel", "reply", "(II)V"⟩, []),
  (tb_f99, prog_9_method_23_code, 5, 2, 6, 6, ⟨"VaultDevicesModel", "isSeal", "(I)Z"⟩, []),
  (tb_f100, prog_9_method_18_code, 3, 2, 6, 6, ⟨"VaultDevicesModel", "is", "(II)Z"⟩, []),
  (tb_f101, prog_9_method_20_code, 4, 1, 6, 6, ⟨"VaultDevicesModel", "figure", "(II)I"⟩, []),
  (tb_f102, prog_9_method_19_code, 2, 1, 6, 6, ⟨"VaultDevicesModel", "part", "()I"⟩, []),
  (tb_f103, prog_9_method_21_code, 7, 1, 6, 6, ⟨"VaultDevicesModel", "boxed", "(I)I"⟩, []),
  (tb_f104, prog_9_method_22_code, 10, 0, 6, 6, ⟨"VaultDevicesModel", "readEntry", "(I)V"⟩, []),
  (tb_f105, prog_9_method_10_code, 4, 2, 6, 6, ⟨"VaultDevicesModel", "knows", "(III)Z"⟩, []),
  (tb_f106, prog_9_method_16_code, 3, 2, 6, 6, ⟨"VaultDevicesModel", "merge", "(I)Z"⟩, []),
  (tb_f107, prog_9_method_11_code, 4, 2, 6, 6, ⟨"VaultDevicesModel", "holds", "(II)Z"⟩, []),
  (tb_f108, prog_9_method_17_code, 4, 0, 6, 6, ⟨"VaultDevicesModel", "adopt", "(I)V"⟩, []),
  (tb_f109, prog_9_method_40_code, 2, 2, 6, 6, ⟨"VaultDevicesModel", "drop", "(I)Z"⟩, []),
  (tb_f110, prog_9_method_41_code, 3, 1, 6, 6, ⟨"VaultDevicesModel", "message", "(II)I"⟩, []),
  (tb_f111, prog_9_method_42_code, 1, 1, 6, 6, ⟨"VaultDevicesModel", "flight", "()I"⟩, []),
  (tb_f112, prog_9_method_44_code, 3, 2, 6, 6, ⟨"VaultDevicesModel", "forge", "(II)Z"⟩, []),
  (tb_f113, prog_9_method_43_code, 2, 2, 6, 6, ⟨"VaultDevicesModel", "isKnown", "(I)Z"⟩, []),
  (tb_f114, prog_9_method_3_code, 2, 2, 6, 6, ⟨"VaultDevicesModel", "isTerm", "(I)Z"⟩, []),
  (tb_f115, prog_9_method_9_code, 9, 0, 6, 6, ⟨"VaultDevicesModel", "spread", "()V"⟩, []),
  (tb_f116, prog_9_method_45_code, 2, 2, 6, 6, ⟨"VaultDevicesModel", "plant", "(I)Z"⟩, []),
  (tb_f117, prog_9_method_46_code, 6, 1, 6, 6, ⟨"VaultDevicesModel", "build", "(III)I"⟩, []),
  (tb_f118, prog_9_method_47_code, 4, 1, 6, 6, ⟨"VaultDevicesModel", "leak", "(I)I"⟩, []),
  (tb_f119, prog_9_method_48_code, 3, 1, 6, 6, ⟨"VaultDevicesModel", "steal", "(I)I"⟩, [])]
def tb_ms5 : List tb_M := [
  (tb_f120, prog_9_method_49_code, 2, 2, 6, 6, ⟨"VaultDevicesModel", "known", "(I)Z"⟩, []),
  (tb_f121, prog_9_method_50_code, 3, 1, 6, 6, ⟨"VaultDevicesModel", "term", "(II)I"⟩, []),
  (tb_f122, prog_9_method_51_code, 2, 1, 6, 6, ⟨"VaultDevicesModel", "atom", "(I)I"⟩, []),
  (tb_f123, prog_9_method_52_code, 3, 1, 6, 6, ⟨"VaultDevicesModel", "device", "(II)I"⟩, []),
  (tb_f124, prog_9_method_53_code, 1, 1, 6, 6, ⟨"VaultDevicesModel", "server", "()I"⟩, []),
  (tb_f125, prog_3_method_2_code, 5, 1, 99, 7, ⟨"VaultDevices$Entry", "pack", "(IIII)I"⟩, []),
  (tb_f126, prog_3_method_5_code, 1, 1, 99, 7, ⟨"VaultDevices$Entry", "countOf", "(I)I"⟩, []),
  (tb_f127, prog_3_method_4_code, 1, 1, 99, 7, ⟨"VaultDevices$Entry", "deviceOf", "(I)I"⟩, []),
  (tb_f128, prog_3_method_7_code, 1, 1, 99, 7, ⟨"VaultDevices$Entry", "dotOf", "(I)I"⟩, []),
  (tb_f129, prog_3_method_3_code, 1, 1, 99, 7, ⟨"VaultDevices$Entry", "itemOf", "(I)I"⟩, []),
  (tb_f130, prog_3_method_6_code, 1, 1, 99, 7, ⟨"VaultDevices$Entry", "contentOf", "(I)I"⟩, []),
  (tb_f131, method_3_code, 5, 1, 99, 8, ⟨"VaultDevicesLaw", "unlock", "(LVaultDevices;II[J)I"⟩, [(0, 17, 20, 13)]),
  (tb_f132, method_4_code, 4, 1, 99, 8, ⟨"VaultDevicesLaw", "lock", "(LVaultDevices;I[J)I"⟩, [(0, 16, 19, 13)]),
  (tb_f133, method_5_code, 6, 1, 99, 8, ⟨"VaultDevicesLaw", "put", "(LVaultDevices;III[J)I"⟩, [(0, 12, 15, 13), (0, 12, 19, 23)]),
  (tb_f134, method_6_code, 5, 1, 99, 8, ⟨"VaultDevicesLaw", "erase", "(LVaultDevices;II[J)I"⟩, [(0, 10, 13, 13), (0, 10, 17, 23)]),
  (tb_f135, method_7_code, 6, 1, 99, 8, ⟨"VaultDevicesLaw", "get", "(LVaultDevices;III[J)I"⟩, [(0, 12, 15, 13), (0, 12, 19, 23)]),
  (tb_f136, method_8_code, 5, 1, 99, 8, ⟨"VaultDevicesLaw", "change", "(LVaultDevices;II[J)I"⟩, [(0, 10, 13, 13), (0, 10, 17, 23)]),
  (tb_f137, method_9_code, 4, 1, 99, 8, ⟨"VaultDevicesLaw", "pull", "(LVaultDevices;I[J)I"⟩, [(0, 16, 19, 13), (0, 16, 22, 23)]),
  (tb_f138, method_10_code, 4, 1, 99, 8, ⟨"VaultDevicesLaw", "push", "(LVaultDevices;I[J)I"⟩, [(0, 9, 12, 13), (0, 9, 15, 23)]),
  (tb_f139, code, 7, 2, 99, 8, ⟨"VaultDevicesLaw", "law", "([I)Z"⟩, []),
  (tb_f140, prog_18_method_103_code, 4, 0, 99, 9, ⟨"java/util/Arrays", "fill", "([II)V"⟩, [])]
def tb_ms : List tb_M := tb_ms0 ++ (tb_ms1 ++ (tb_ms2 ++ (tb_ms3 ++ (tb_ms4 ++ (tb_ms5)))))
def tb_get (y : Nat) : tb_M := (tb_ms[y]?).getD (fun _ => none, ByteArray.mk #[], 0, 0, 99, 99, ⟨"", "", ""⟩, [])
def tb_on (y : Nat) : Nat := (tb_get y).2.2.2.2.2.1
def tb_bc (y : Nat) : ByteArray := (tb_get y).2.1
def tb_nm (y : Nat) : MethodName := (tb_get y).2.2.2.2.2.2.1
def tb_eh (y : Nat) : List (Nat × Nat × Nat × Nat) := (tb_get y).2.2.2.2.2.2.2
/-- require (19) throws 0 where its argument is 0; requireOpen (22) throws 1 where the device (class 4) is locked (field 3) -/
def tb_thr (z : Nat) (vs : List Value) (h : sm_H) : Option (Nat × Nat × Nat) := match z, vs with
  | 19, [.int x] => if x = 0 then some (0, 1, 6) else none
  | 22, [.ref q] => match h.1[q]? with
    | some (.inl (4, fs)) => if fs[3]? = some none ∧ ¬ h.2.1 q 3 = 0 then some (1, 1, 6) else none
    | _ => none
  | _, _ => none
def tb_cat (y pc x : Nat) : Option (Option (Nat × Nat)) := match tb_eh y with
  | [] => some none
  | _ :: _ => if x < 2 then (tb_fd tb_XL y (2 * pc + x)).map some else none
def tb_T : sm_T := (fun y => (tb_get y).1, fun y idx => tb_fd tb_FL (tb_on y) idx, fun y idx => tb_fd tb_NL (tb_on y) idx, fun y idx => tb_fd tb_AL (tb_on y) idx, fun y idx => tb_fd tb_CL (tb_on y) idx, tb_thr, fun y pc x => tb_cat y pc x, fun y => ((tb_get y).2.2.1, (tb_get y).2.2.2.1, (tb_get y).2.2.2.2.1))
def tb_ok (t ci : Nat) : Bool := Nat.beq t 3 && Nat.beq ci 4
def tb_tyN : List FieldType := [.int, .boolean, .long, .object "VaultDevices$Device", .object "VaultDevices$Device", .object "VaultDevices$Device"]
def tb_AO : List String := ["VaultDevices$Device"]
def tb_okM (q : tb_M) : Prop := tb_okI q.2.2.1 q.2.1 q.1 ∧ (∃ ini, (q.2.2.2.2.2.2.1.name == "<init>") = ini ∧ tb_okP tb_cl tb_WA q.2.2.2.2.2.2.1.cls ini tb_FL q.2.2.2.2.2.1 q.1) ∧ q.2.2.2.2.2.2.1.cls = tb_cn q.2.2.2.2.2.1
theorem tb_m0 : tb_okM (tb_f0, prog_1_method_1_code, 2, 0, 0, 0, ⟨"VaultDevices", "<init>", "()V"⟩, []) := ⟨tb_i0, ⟨true, by decide +kernel, tb_p0⟩, rfl⟩
theorem tb_m1 : tb_okM (tb_f1, prog_1_method_10_code, 6, 2, 0, 0, ⟨"VaultDevices", "deliver", "(I)Z"⟩, []) := ⟨tb_i1, ⟨false, by decide +kernel, tb_p1⟩, rfl⟩
theorem tb_m2 : tb_okM (tb_f2, prog_1_method_26_code, 2, 2, 0, 0, ⟨"VaultDevices", "isBelow", "(II)Z"⟩, []) := ⟨tb_i2, ⟨false, by decide +kernel, tb_p2⟩, rfl⟩
theorem tb_m3 : tb_okM (tb_f3, prog_1_method_25_code, 4, 0, 0, 0, ⟨"VaultDevices", "takeReply", "(II)V"⟩, []) := ⟨tb_i3, ⟨false, by decide +kernel, tb_p3⟩, rfl⟩
theorem tb_m4 : tb_okM (tb_f4, prog_1_method_24_code, 2, 0, 0, 0, ⟨"VaultDevices", "sendHeld", "(I)V"⟩, []) := ⟨tb_i4, ⟨false, by decide +kernel, tb_p4⟩, rfl⟩
theorem tb_m5 : tb_okM (tb_f5, prog_1_method_11_code, 2, 2, 0, 0, ⟨"VaultDevices", "drop", "(I)Z"⟩, []) := ⟨tb_i5, ⟨false, by decide +kernel, tb_p5⟩, rfl⟩
theorem tb_m6 : tb_okM (tb_f6, prog_1_method_12_code, 3, 1, 0, 0, ⟨"VaultDevices", "message", "(II)I"⟩, []) := ⟨tb_i6, ⟨false, by decide +kernel, tb_p6⟩, rfl⟩
theorem tb_m7 : tb_okM (tb_f7, prog_1_method_13_code, 1, 1, 0, 0, ⟨"VaultDevices", "flight", "()I"⟩, []) := ⟨tb_i7, ⟨false, by decide +kernel, tb_p7⟩, rfl⟩
theorem tb_m8 : tb_okM (tb_f8, prog_1_method_14_code, 3, 2, 0, 0, ⟨"VaultDevices", "forge", "(II)Z"⟩, []) := ⟨tb_i8, ⟨false, by decide +kernel, tb_p8⟩, rfl⟩
theorem tb_m9 : tb_okM (tb_f9, prog_1_method_15_code, 2, 2, 0, 0, ⟨"VaultDevices", "plant", "(I)Z"⟩, []) := ⟨tb_i9, ⟨false, by decide +kernel, tb_p9⟩, rfl⟩
theorem tb_m10 : tb_okM (tb_f10, prog_1_method_16_code, 5, 1, 0, 0, ⟨"VaultDevices", "build", "(III)I"⟩, []) := ⟨tb_i10, ⟨false, by decide +kernel, tb_p10⟩, rfl⟩
theorem tb_m11 : tb_okM (tb_f11, prog_1_method_17_code, 3, 1, 0, 0, ⟨"VaultDevices", "leak", "(I)I"⟩, []) := ⟨tb_i11, ⟨false, by decide +kernel, tb_p11⟩, rfl⟩
theorem tb_m12 : tb_okM (tb_f12, prog_1_method_18_code, 3, 1, 0, 0, ⟨"VaultDevices", "steal", "(I)I"⟩, []) := ⟨tb_i12, ⟨false, by decide +kernel, tb_p12⟩, rfl⟩
theorem tb_m13 : tb_okM (tb_f13, prog_1_method_19_code, 2, 2, 0, 0, ⟨"VaultDevices", "known", "(I)Z"⟩, []) := ⟨tb_i13, ⟨false, by decide +kernel, tb_p13⟩, rfl⟩
theorem tb_m14 : tb_okM (tb_f14, prog_1_method_20_code, 3, 1, 0, 0, ⟨"VaultDevices", "term", "(II)I"⟩, []) := ⟨tb_i14, ⟨false, by decide +kernel, tb_p14⟩, rfl⟩
theorem tb_m15 : tb_okM (tb_f15, prog_1_method_21_code, 2, 1, 0, 0, ⟨"VaultDevices", "atom", "(I)I"⟩, []) := ⟨tb_i15, ⟨false, by decide +kernel, tb_p15⟩, rfl⟩
theorem tb_m16 : tb_okM (tb_f16, prog_1_method_22_code, 4, 1, 0, 0, ⟨"VaultDevices", "device", "(II)I"⟩, []) := ⟨tb_i16, ⟨false, by decide +kernel, tb_p16⟩, rfl⟩
theorem tb_m17 : tb_okM (tb_f17, prog_1_method_23_code, 1, 1, 0, 0, ⟨"VaultDevices", "server", "()I"⟩, []) := ⟨tb_i17, ⟨false, by decide +kernel, tb_p17⟩, rfl⟩
theorem tb_m18 : tb_okM (tb_f18, prog_1_method_2_code, 4, 2, 0, 0, ⟨"VaultDevices", "unlock", "(II)Z"⟩, []) := ⟨tb_i18, ⟨false, by decide +kernel, tb_p18⟩, rfl⟩
theorem tb_m19 : tb_okM (tb_f19, prog_1_method_27_code, 1, 0, 0, 0, ⟨"VaultDevices", "require", "(Z)V"⟩, []) := ⟨tb_i19, ⟨false, by decide +kernel, tb_p19⟩, rfl⟩
theorem tb_m20 : tb_okM (tb_f20, prog_1_method_3_code, 2, 2, 0, 0, ⟨"VaultDevices", "lock", "(I)Z"⟩, []) := ⟨tb_i20, ⟨false, by decide +kernel, tb_p20⟩, rfl⟩
theorem tb_m21 : tb_okM (tb_f21, prog_1_method_4_code, 5, 1, 0, 0, ⟨"VaultDevices", "put", "(III)I"⟩, []) := ⟨tb_i21, ⟨false, by decide +kernel, tb_p21⟩, rfl⟩
theorem tb_m22 : tb_okM (tb_f22, prog_1_method_28_code, 1, 0, 0, 0, ⟨"VaultDevices", "requireOpen", "(LVaultDevices$Device;)V"⟩, []) := ⟨tb_i22, ⟨false, by decide +kernel, tb_p22⟩, rfl⟩
theorem tb_m23 : tb_okM (tb_f23, prog_1_method_5_code, 5, 1, 0, 0, ⟨"VaultDevices", "erase", "(II)I"⟩, []) := ⟨tb_i23, ⟨false, by decide +kernel, tb_p23⟩, rfl⟩
theorem tb_m24 : tb_okM (tb_f24, prog_1_method_6_code, 5, 1, 0, 0, ⟨"VaultDevices", "get", "(III)I"⟩, []) := ⟨tb_i24, ⟨false, by decide +kernel, tb_p24⟩, rfl⟩
theorem tb_m25 : tb_okM (tb_f25, prog_1_method_7_code, 4, 1, 0, 0, ⟨"VaultDevices", "change", "(II)I"⟩, []) := ⟨tb_i25, ⟨false, by decide +kernel, tb_p25⟩, rfl⟩
theorem tb_m26 : tb_okM (tb_f26, prog_1_method_8_code, 2, 2, 0, 0, ⟨"VaultDevices", "pull", "(I)Z"⟩, []) := ⟨tb_i26, ⟨false, by decide +kernel, tb_p26⟩, rfl⟩
theorem tb_m27 : tb_okM (tb_f27, prog_1_method_9_code, 3, 1, 0, 0, ⟨"VaultDevices", "push", "(I)I"⟩, []) := ⟨tb_i27, ⟨false, by decide +kernel, tb_p27⟩, rfl⟩
theorem tb_m28 : tb_okM (tb_f28, prog_7_method_1_code, 1, 0, 1, 1, ⟨"VaultDevices$Terms", "<init>", "()V"⟩, []) := ⟨tb_i28, ⟨true, by decide +kernel, tb_p28⟩, rfl⟩
theorem tb_m29 : tb_okM (tb_f29, prog_7_method_8_code, 4, 1, 1, 1, ⟨"VaultDevices$Terms", "partOf", "(II)I"⟩, []) := ⟨tb_i29, ⟨false, by decide +kernel, tb_p29⟩, rfl⟩
theorem tb_m30 : tb_okM (tb_f30, prog_7_method_7_code, 5, 1, 1, 1, ⟨"VaultDevices$Terms", "tailOf", "(II)I"⟩, []) := ⟨tb_i30, ⟨false, by decide +kernel, tb_p30⟩, rfl⟩
theorem tb_m31 : tb_okM (tb_f31, prog_7_method_2_code, 2, 1, 1, 1, ⟨"VaultDevices$Terms", "kindOf", "(I)I"⟩, []) := ⟨tb_i31, ⟨false, by decide +kernel, tb_p31⟩, rfl⟩
theorem tb_m32 : tb_okM (tb_f32, prog_7_method_4_code, 2, 1, 1, 1, ⟨"VaultDevices$Terms", "yOf", "(I)I"⟩, []) := ⟨tb_i32, ⟨false, by decide +kernel, tb_p32⟩, rfl⟩
theorem tb_m33 : tb_okM (tb_f33, prog_7_method_3_code, 2, 1, 1, 1, ⟨"VaultDevices$Terms", "xOf", "(I)I"⟩, []) := ⟨tb_i33, ⟨false, by decide +kernel, tb_p33⟩, rfl⟩
theorem tb_m34 : tb_okM (tb_f34, prog_7_method_6_code, 3, 1, 1, 1, ⟨"VaultDevices$Terms", "valueOf", "(II)I"⟩, []) := ⟨tb_i34, ⟨false, by decide +kernel, tb_p34⟩, rfl⟩
theorem tb_m35 : tb_okM (tb_f35, prog_7_method_13_code, 2, 0, 1, 1, ⟨"VaultDevices$Terms", "reveal", "(I)V"⟩, []) := ⟨tb_i35, ⟨false, by decide +kernel, tb_p35⟩, rfl⟩
theorem tb_m36 : tb_okM (tb_f36, prog_7_method_14_code, 4, 0, 1, 1, ⟨"VaultDevices$Terms", "spread", "()V"⟩, []) := ⟨tb_i36, ⟨false, by decide +kernel, tb_p36⟩, rfl⟩
theorem tb_m37 : tb_okM (tb_f37, prog_7_method_15_code, 6, 2, 1, 1, ⟨"VaultDevices$Terms", "takeApart", "(I)Z"⟩, []) := ⟨tb_i37, ⟨false, by decide +kernel, tb_p37⟩, rfl⟩
theorem tb_m38 : tb_okM (tb_f38, prog_7_method_5_code, 2, 2, 1, 1, ⟨"VaultDevices$Terms", "isKnown", "(I)Z"⟩, []) := ⟨tb_i38, ⟨false, by decide +kernel, tb_p38⟩, rfl⟩
theorem tb_m39 : tb_okM (tb_f39, prog_7_method_10_code, 6, 1, 1, 1, ⟨"VaultDevices$Terms", "make", "(III)I"⟩, []) := ⟨tb_i39, ⟨false, by decide +kernel, tb_p39⟩, rfl⟩
theorem tb_m40 : tb_okM (tb_f40, prog_7_method_9_code, 6, 1, 1, 1, ⟨"VaultDevices$Terms", "find", "(III)I"⟩, []) := ⟨tb_i40, ⟨false, by decide +kernel, tb_p40⟩, rfl⟩
theorem tb_m41 : tb_okM (tb_f41, prog_7_method_11_code, 6, 1, 1, 1, ⟨"VaultDevices$Terms", "makeList", "([III)I"⟩, []) := ⟨tb_i41, ⟨false, by decide +kernel, tb_p41⟩, rfl⟩
theorem tb_m42 : tb_okM (tb_f42, prog_7_method_12_code, 3, 0, 1, 1, ⟨"VaultDevices$Terms", "cutBack", "(I)V"⟩, []) := ⟨tb_i42, ⟨false, by decide +kernel, tb_p42⟩, rfl⟩
theorem tb_m43 : tb_okM (tb_f43, prog_5_method_1_code, 1, 0, 2, 2, ⟨"VaultDevices$Seals", "<init>", "()V"⟩, []) := ⟨tb_i43, ⟨true, by decide +kernel, tb_p43⟩, rfl⟩
theorem tb_m44 : tb_okM (tb_f44, prog_5_method_6_code, 6, 2, 2, 2, ⟨"VaultDevices$Seals", "read", "(LVaultDevices$Terms;ILVaultDevices$State;)Z"⟩, []) := ⟨tb_i44, ⟨false, by decide +kernel, tb_p44⟩, rfl⟩
theorem tb_m45 : tb_okM (tb_f45, prog_5_method_7_code, 6, 2, 2, 2, ⟨"VaultDevices$Seals", "readHeader", "(LVaultDevices$Terms;ILVaultDevices$State;)Z"⟩, []) := ⟨tb_i45, ⟨false, by decide +kernel, tb_p45⟩, rfl⟩
theorem tb_m46 : tb_okM (tb_f46, prog_5_method_8_code, 4, 1, 2, 2, ⟨"VaultDevices$Seals", "readHeaderBox", "(LVaultDevices$Terms;I)I"⟩, []) := ⟨tb_i46, ⟨false, by decide +kernel, tb_p46⟩, rfl⟩
theorem tb_m47 : tb_okM (tb_f47, prog_5_method_9_code, 5, 2, 2, 2, ⟨"VaultDevices$Seals", "readVector", "(LVaultDevices$Terms;ILVaultDevices$State;)Z"⟩, []) := ⟨tb_i47, ⟨false, by decide +kernel, tb_p47⟩, rfl⟩
theorem tb_m48 : tb_okM (tb_f48, prog_5_method_10_code, 6, 2, 2, 2, ⟨"VaultDevices$Seals", "readEntries", "(LVaultDevices$Terms;ILVaultDevices$State;)Z"⟩, []) := ⟨tb_i48, ⟨false, by decide +kernel, tb_p48⟩, rfl⟩
theorem tb_m49 : tb_okM (tb_f49, prog_5_method_11_code, 8, 1, 2, 2, ⟨"VaultDevices$Seals", "readEntry", "(LVaultDevices$Terms;I)I"⟩, []) := ⟨tb_i49, ⟨false, by decide +kernel, tb_p49⟩, rfl⟩
theorem tb_m50 : tb_okM (tb_f50, prog_5_method_2_code, 7, 1, 2, 2, ⟨"VaultDevices$Seals", "write", "(LVaultDevices$Terms;LVaultDevices$State;)I"⟩, []) := ⟨tb_i50, ⟨false, by decide +kernel, tb_p50⟩, rfl⟩
theorem tb_m51 : tb_okM (tb_f51, prog_5_method_3_code, 6, 0, 2, 2, ⟨"VaultDevices$Seals", "writeHeader", "(LVaultDevices$Terms;LVaultDevices$State;)V"⟩, []) := ⟨tb_i51, ⟨false, by decide +kernel, tb_p51⟩, rfl⟩
theorem tb_m52 : tb_okM (tb_f52, prog_5_method_4_code, 4, 1, 2, 2, ⟨"VaultDevices$Seals", "writeEntries", "(LVaultDevices$Terms;LVaultDevices$State;)I"⟩, []) := ⟨tb_i52, ⟨false, by decide +kernel, tb_p52⟩, rfl⟩
theorem tb_m53 : tb_okM (tb_f53, prog_5_method_5_code, 5, 1, 2, 2, ⟨"VaultDevices$Seals", "writeEntry", "(LVaultDevices$Terms;I)I"⟩, []) := ⟨tb_i53, ⟨false, by decide +kernel, tb_p53⟩, rfl⟩
theorem tb_m54 : tb_okM (tb_f54, prog_4_method_1_code, 1, 0, 3, 3, ⟨"VaultDevices$Mail", "<init>", "()V"⟩, []) := ⟨tb_i54, ⟨true, by decide +kernel, tb_p54⟩, rfl⟩
theorem tb_m55 : tb_okM (tb_f55, prog_4_method_3_code, 3, 0, 3, 3, ⟨"VaultDevices$Mail", "remove", "(I)V"⟩, []) := ⟨tb_i55, ⟨false, by decide +kernel, tb_p55⟩, rfl⟩
theorem tb_m56 : tb_okM (tb_f56, prog_4_method_2_code, 5, 0, 3, 3, ⟨"VaultDevices$Mail", "send", "(IIII)V"⟩, []) := ⟨tb_i56, ⟨false, by decide +kernel, tb_p56⟩, rfl⟩
theorem tb_m57 : tb_okM (tb_f57, prog_2_method_1_code, 1, 0, 4, 4, ⟨"VaultDevices$Device", "<init>", "()V"⟩, []) := ⟨tb_i57, ⟨true, by decide +kernel, tb_p57⟩, rfl⟩
theorem tb_m58 : tb_okM (tb_f58, prog_6_method_1_code, 1, 0, 5, 5, ⟨"VaultDevices$State", "<init>", "()V"⟩, []) := ⟨tb_i58, ⟨true, by decide +kernel, tb_p58⟩, rfl⟩
theorem tb_m59 : tb_okM (tb_f59, prog_6_method_2_code, 4, 0, 5, 5, ⟨"VaultDevices$State", "takeHeader", "(III)V"⟩, []) := ⟨tb_i59, ⟨false, by decide +kernel, tb_p59⟩, rfl⟩
theorem tb_m60 : tb_okM (tb_f60, prog_6_method_13_code, 3, 2, 5, 5, ⟨"VaultDevices$State", "mayFollow", "(I)Z"⟩, []) := ⟨tb_i60, ⟨false, by decide +kernel, tb_p60⟩, rfl⟩
theorem tb_m61 : tb_okM (tb_f61, prog_6_method_8_code, 3, 2, 5, 5, ⟨"VaultDevices$State", "knowsDotOf", "(I)Z"⟩, []) := ⟨tb_i61, ⟨false, by decide +kernel, tb_p61⟩, rfl⟩
theorem tb_m62 : tb_okM (tb_f62, prog_6_method_6_code, 2, 0, 5, 5, ⟨"VaultDevices$State", "insert", "(I)V"⟩, []) := ⟨tb_i62, ⟨false, by decide +kernel, tb_p62⟩, rfl⟩
theorem tb_m63 : tb_okM (tb_f63, prog_6_method_14_code, 4, 0, 5, 5, ⟨"VaultDevices$State", "insertInOrder", "([III)V"⟩, []) := ⟨tb_i63, ⟨false, by decide +kernel, tb_p63⟩, rfl⟩
theorem tb_m64 : tb_okM (tb_f64, prog_6_method_7_code, 3, 2, 5, 5, ⟨"VaultDevices$State", "isAbove", "([I)Z"⟩, []) := ⟨tb_i64, ⟨false, by decide +kernel, tb_p64⟩, rfl⟩
theorem tb_m65 : tb_okM (tb_f65, prog_6_method_10_code, 4, 2, 5, 5, ⟨"VaultDevices$State", "merge", "(LVaultDevices$State;)Z"⟩, []) := ⟨tb_i65, ⟨false, by decide +kernel, tb_p65⟩, rfl⟩
theorem tb_m66 : tb_okM (tb_f66, prog_6_method_9_code, 3, 2, 5, 5, ⟨"VaultDevices$State", "has", "(I)Z"⟩, []) := ⟨tb_i66, ⟨false, by decide +kernel, tb_p66⟩, rfl⟩
theorem tb_m67 : tb_okM (tb_f67, prog_6_method_11_code, 3, 0, 5, 5, ⟨"VaultDevices$State", "mergeVector", "(LVaultDevices$State;)V"⟩, []) := ⟨tb_i67, ⟨false, by decide +kernel, tb_p67⟩, rfl⟩
theorem tb_m68 : tb_okM (tb_f68, prog_6_method_12_code, 3, 0, 5, 5, ⟨"VaultDevices$State", "mergeHeader", "(LVaultDevices$State;)V"⟩, []) := ⟨tb_i68, ⟨false, by decide +kernel, tb_p68⟩, rfl⟩
theorem tb_m69 : tb_okM (tb_f69, prog_6_method_3_code, 4, 1, 5, 5, ⟨"VaultDevices$State", "countOf", "(I)I"⟩, []) := ⟨tb_i69, ⟨false, by decide +kernel, tb_p69⟩, rfl⟩
theorem tb_m70 : tb_okM (tb_f70, prog_6_method_5_code, 4, 0, 5, 5, ⟨"VaultDevices$State", "removeAll", "(I)V"⟩, []) := ⟨tb_i70, ⟨false, by decide +kernel, tb_p70⟩, rfl⟩
theorem tb_m71 : tb_okM (tb_f71, prog_6_method_4_code, 5, 1, 5, 5, ⟨"VaultDevices$State", "contentAt", "(II)I"⟩, []) := ⟨tb_i71, ⟨false, by decide +kernel, tb_p71⟩, rfl⟩
theorem tb_m72 : tb_okM (tb_f72, prog_9_method_1_code, 2, 0, 6, 6, ⟨"VaultDevicesModel", "<init>", "()V"⟩, []) := ⟨tb_i72, ⟨true, by decide +kernel, tb_p72⟩, rfl⟩
theorem tb_m73 : tb_okM (tb_f73, prog_9_method_2_code, 1, 1, 6, 6, ⟨"VaultDevicesModel", "thrown", "()I"⟩, []) := ⟨tb_i73, ⟨false, by decide +kernel, tb_p73⟩, rfl⟩
theorem tb_m74 : tb_okM (tb_f74, prog_9_method_29_code, 3, 2, 6, 6, ⟨"VaultDevicesModel", "unlock", "(II)Z"⟩, []) := ⟨tb_i74, ⟨false, by decide +kernel, tb_p74⟩, rfl⟩
theorem tb_m75 : tb_okM (tb_f75, prog_9_method_27_code, 1, 2, 6, 6, ⟨"VaultDevicesModel", "isDevice", "(I)Z"⟩, []) := ⟨tb_i75, ⟨false, by decide +kernel, tb_p75⟩, rfl⟩
theorem tb_m76 : tb_okM (tb_f76, prog_9_method_30_code, 3, 2, 6, 6, ⟨"VaultDevicesModel", "lock", "(I)Z"⟩, []) := ⟨tb_i76, ⟨false, by decide +kernel, tb_p76⟩, rfl⟩
theorem tb_m77 : tb_okM (tb_f77, prog_9_method_32_code, 7, 1, 6, 6, ⟨"VaultDevicesModel", "put", "(III)I"⟩, []) := ⟨tb_i77, ⟨false, by decide +kernel, tb_p77⟩, rfl⟩
theorem tb_m78 : tb_okM (tb_f78, prog_9_method_28_code, 3, 2, 6, 6, ⟨"VaultDevicesModel", "may", "(ZI)Z"⟩, []) := ⟨tb_i78, ⟨false, by decide +kernel, tb_p78⟩, rfl⟩
theorem tb_m79 : tb_okM (tb_f79, prog_9_method_31_code, 7, 1, 6, 6, ⟨"VaultDevicesModel", "count", "(IIZ)I"⟩, []) := ⟨tb_i79, ⟨false, by decide +kernel, tb_p79⟩, rfl⟩
theorem tb_m80 : tb_okM (tb_f80, prog_9_method_14_code, 3, 0, 6, 6, ⟨"VaultDevicesModel", "copy", "(II)V"⟩, []) := ⟨tb_i80, ⟨false, by decide +kernel, tb_p80⟩, rfl⟩
theorem tb_m81 : tb_okM (tb_f81, prog_9_method_13_code, 6, 0, 6, 6, ⟨"VaultDevicesModel", "set", "(IIIII)V"⟩, []) := ⟨tb_i81, ⟨false, by decide +kernel, tb_p81⟩, rfl⟩
theorem tb_m82 : tb_okM (tb_f82, prog_9_method_15_code, 7, 0, 6, 6, ⟨"VaultDevicesModel", "sink", "(I)V"⟩, []) := ⟨tb_i82, ⟨false, by decide +kernel, tb_p82⟩, rfl⟩
theorem tb_m83 : tb_okM (tb_f83, prog_9_method_12_code, 3, 2, 6, 6, ⟨"VaultDevicesModel", "before", "(II)Z"⟩, []) := ⟨tb_i83, ⟨false, by decide +kernel, tb_p83⟩, rfl⟩
theorem tb_m84 : tb_okM (tb_f84, prog_9_method_33_code, 4, 1, 6, 6, ⟨"VaultDevicesModel", "erase", "(II)I"⟩, []) := ⟨tb_i84, ⟨false, by decide +kernel, tb_p84⟩, rfl⟩
theorem tb_m85 : tb_okM (tb_f85, prog_9_method_34_code, 6, 1, 6, 6, ⟨"VaultDevicesModel", "get", "(III)I"⟩, []) := ⟨tb_i85, ⟨false, by decide +kernel, tb_p85⟩, rfl⟩
theorem tb_m86 : tb_okM (tb_f86, prog_9_method_35_code, 3, 1, 6, 6, ⟨"VaultDevicesModel", "change", "(II)I"⟩, []) := ⟨tb_i86, ⟨false, by decide +kernel, tb_p86⟩, rfl⟩
theorem tb_m87 : tb_okM (tb_f87, prog_9_method_36_code, 3, 2, 6, 6, ⟨"VaultDevicesModel", "pull", "(I)Z"⟩, []) := ⟨tb_i87, ⟨false, by decide +kernel, tb_p87⟩, rfl⟩
theorem tb_m88 : tb_okM (tb_f88, prog_9_method_24_code, 5, 2, 6, 6, ⟨"VaultDevicesModel", "send", "(IIII)Z"⟩, []) := ⟨tb_i88, ⟨false, by decide +kernel, tb_p88⟩, rfl⟩
theorem tb_m89 : tb_okM (tb_f89, prog_9_method_38_code, 4, 1, 6, 6, ⟨"VaultDevicesModel", "push", "(I)I"⟩, []) := ⟨tb_i89, ⟨false, by decide +kernel, tb_p89⟩, rfl⟩
theorem tb_m90 : tb_okM (tb_f90, prog_9_method_37_code, 4, 1, 6, 6, ⟨"VaultDevicesModel", "seal", "(I)I"⟩, []) := ⟨tb_i90, ⟨false, by decide +kernel, tb_p90⟩, rfl⟩
theorem tb_m91 : tb_okM (tb_f91, prog_9_method_8_code, 15, 1, 6, 6, ⟨"VaultDevicesModel", "makeSeal", "(I)I"⟩, []) := ⟨tb_i91, ⟨false, by decide +kernel, tb_p91⟩, rfl⟩
theorem tb_m92 : tb_okM (tb_f92, prog_9_method_5_code, 5, 1, 6, 6, ⟨"VaultDevicesModel", "make", "(III)I"⟩, []) := ⟨tb_i92, ⟨false, by decide +kernel, tb_p92⟩, rfl⟩
theorem tb_m93 : tb_okM (tb_f93, prog_9_method_4_code, 5, 1, 6, 6, ⟨"VaultDevicesModel", "look", "(III)I"⟩, []) := ⟨tb_i93, ⟨false, by decide +kernel, tb_p93⟩, rfl⟩
theorem tb_m94 : tb_okM (tb_f94, prog_9_method_7_code, 9, 1, 6, 6, ⟨"VaultDevicesModel", "makeEntry", "(I)I"⟩, []) := ⟨tb_i94, ⟨false, by decide +kernel, tb_p94⟩, rfl⟩
theorem tb_m95 : tb_okM (tb_f95, prog_9_method_6_code, 3, 1, 6, 6, ⟨"VaultDevicesModel", "settle", "(II)I"⟩, []) := ⟨tb_i95, ⟨false, by decide +kernel, tb_p95⟩, rfl⟩
theorem tb_m96 : tb_okM (tb_f96, prog_9_method_39_code, 7, 2, 6, 6, ⟨"VaultDevicesModel", "deliver", "(I)Z"⟩, []) := ⟨tb_i96, ⟨false, by decide +kernel, tb_p96⟩, rfl⟩
theorem tb_m97 : tb_okM (tb_f97, prog_9_method_25_code, 3, 0, 6, 6, ⟨"VaultDevicesModel", "remove", "(I)V"⟩, []) := ⟨tb_i97, ⟨false, by decide +kernel, tb_p97⟩, rfl⟩
theorem tb_m98 : tb_okM (tb_f98, prog_9_method_26_code, 5, 0, 6, 6, ⟨"VaultDevicesModel", "reply", "(II)V"⟩, []) := ⟨tb_i98, ⟨false, by decide +kernel, tb_p98⟩, rfl⟩
theorem tb_m99 : tb_okM (tb_f99, prog_9_method_23_code, 5, 2, 6, 6, ⟨"VaultDevicesModel", "isSeal", "(I)Z"⟩, []) := ⟨tb_i99, ⟨false, by decide +kernel, tb_p99⟩, rfl⟩
theorem tb_m100 : tb_okM (tb_f100, prog_9_method_18_code, 3, 2, 6, 6, ⟨"VaultDevicesModel", "is", "(II)Z"⟩, []) := ⟨tb_i100, ⟨false, by decide +kernel, tb_p100⟩, rfl⟩
theorem tb_m101 : tb_okM (tb_f101, prog_9_method_20_code, 4, 1, 6, 6, ⟨"VaultDevicesModel", "figure", "(II)I"⟩, []) := ⟨tb_i101, ⟨false, by decide +kernel, tb_p101⟩, rfl⟩
theorem tb_m102 : tb_okM (tb_f102, prog_9_method_19_code, 2, 1, 6, 6, ⟨"VaultDevicesModel", "part", "()I"⟩, []) := ⟨tb_i102, ⟨false, by decide +kernel, tb_p102⟩, rfl⟩
theorem tb_m103 : tb_okM (tb_f103, prog_9_method_21_code, 7, 1, 6, 6, ⟨"VaultDevicesModel", "boxed", "(I)I"⟩, []) := ⟨tb_i103, ⟨false, by decide +kernel, tb_p103⟩, rfl⟩
theorem tb_m104 : tb_okM (tb_f104, prog_9_method_22_code, 10, 0, 6, 6, ⟨"VaultDevicesModel", "readEntry", "(I)V"⟩, []) := ⟨tb_i104, ⟨false, by decide +kernel, tb_p104⟩, rfl⟩
theorem tb_m105 : tb_okM (tb_f105, prog_9_method_10_code, 4, 2, 6, 6, ⟨"VaultDevicesModel", "knows", "(III)Z"⟩, []) := ⟨tb_i105, ⟨false, by decide +kernel, tb_p105⟩, rfl⟩
theorem tb_m106 : tb_okM (tb_f106, prog_9_method_16_code, 3, 2, 6, 6, ⟨"VaultDevicesModel", "merge", "(I)Z"⟩, []) := ⟨tb_i106, ⟨false, by decide +kernel, tb_p106⟩, rfl⟩
theorem tb_m107 : tb_okM (tb_f107, prog_9_method_11_code, 4, 2, 6, 6, ⟨"VaultDevicesModel", "holds", "(II)Z"⟩, []) := ⟨tb_i107, ⟨false, by decide +kernel, tb_p107⟩, rfl⟩
theorem tb_m108 : tb_okM (tb_f108, prog_9_method_17_code, 4, 0, 6, 6, ⟨"VaultDevicesModel", "adopt", "(I)V"⟩, []) := ⟨tb_i108, ⟨false, by decide +kernel, tb_p108⟩, rfl⟩
theorem tb_m109 : tb_okM (tb_f109, prog_9_method_40_code, 2, 2, 6, 6, ⟨"VaultDevicesModel", "drop", "(I)Z"⟩, []) := ⟨tb_i109, ⟨false, by decide +kernel, tb_p109⟩, rfl⟩
theorem tb_m110 : tb_okM (tb_f110, prog_9_method_41_code, 3, 1, 6, 6, ⟨"VaultDevicesModel", "message", "(II)I"⟩, []) := ⟨tb_i110, ⟨false, by decide +kernel, tb_p110⟩, rfl⟩
theorem tb_m111 : tb_okM (tb_f111, prog_9_method_42_code, 1, 1, 6, 6, ⟨"VaultDevicesModel", "flight", "()I"⟩, []) := ⟨tb_i111, ⟨false, by decide +kernel, tb_p111⟩, rfl⟩
theorem tb_m112 : tb_okM (tb_f112, prog_9_method_44_code, 3, 2, 6, 6, ⟨"VaultDevicesModel", "forge", "(II)Z"⟩, []) := ⟨tb_i112, ⟨false, by decide +kernel, tb_p112⟩, rfl⟩
theorem tb_m113 : tb_okM (tb_f113, prog_9_method_43_code, 2, 2, 6, 6, ⟨"VaultDevicesModel", "isKnown", "(I)Z"⟩, []) := ⟨tb_i113, ⟨false, by decide +kernel, tb_p113⟩, rfl⟩
theorem tb_m114 : tb_okM (tb_f114, prog_9_method_3_code, 2, 2, 6, 6, ⟨"VaultDevicesModel", "isTerm", "(I)Z"⟩, []) := ⟨tb_i114, ⟨false, by decide +kernel, tb_p114⟩, rfl⟩
theorem tb_m115 : tb_okM (tb_f115, prog_9_method_9_code, 9, 0, 6, 6, ⟨"VaultDevicesModel", "spread", "()V"⟩, []) := ⟨tb_i115, ⟨false, by decide +kernel, tb_p115⟩, rfl⟩
theorem tb_m116 : tb_okM (tb_f116, prog_9_method_45_code, 2, 2, 6, 6, ⟨"VaultDevicesModel", "plant", "(I)Z"⟩, []) := ⟨tb_i116, ⟨false, by decide +kernel, tb_p116⟩, rfl⟩
theorem tb_m117 : tb_okM (tb_f117, prog_9_method_46_code, 6, 1, 6, 6, ⟨"VaultDevicesModel", "build", "(III)I"⟩, []) := ⟨tb_i117, ⟨false, by decide +kernel, tb_p117⟩, rfl⟩
theorem tb_m118 : tb_okM (tb_f118, prog_9_method_47_code, 4, 1, 6, 6, ⟨"VaultDevicesModel", "leak", "(I)I"⟩, []) := ⟨tb_i118, ⟨false, by decide +kernel, tb_p118⟩, rfl⟩
theorem tb_m119 : tb_okM (tb_f119, prog_9_method_48_code, 3, 1, 6, 6, ⟨"VaultDevicesModel", "steal", "(I)I"⟩, []) := ⟨tb_i119, ⟨false, by decide +kernel, tb_p119⟩, rfl⟩
theorem tb_m120 : tb_okM (tb_f120, prog_9_method_49_code, 2, 2, 6, 6, ⟨"VaultDevicesModel", "known", "(I)Z"⟩, []) := ⟨tb_i120, ⟨false, by decide +kernel, tb_p120⟩, rfl⟩
theorem tb_m121 : tb_okM (tb_f121, prog_9_method_50_code, 3, 1, 6, 6, ⟨"VaultDevicesModel", "term", "(II)I"⟩, []) := ⟨tb_i121, ⟨false, by decide +kernel, tb_p121⟩, rfl⟩
theorem tb_m122 : tb_okM (tb_f122, prog_9_method_51_code, 2, 1, 6, 6, ⟨"VaultDevicesModel", "atom", "(I)I"⟩, []) := ⟨tb_i122, ⟨false, by decide +kernel, tb_p122⟩, rfl⟩
theorem tb_m123 : tb_okM (tb_f123, prog_9_method_52_code, 3, 1, 6, 6, ⟨"VaultDevicesModel", "device", "(II)I"⟩, []) := ⟨tb_i123, ⟨false, by decide +kernel, tb_p123⟩, rfl⟩
theorem tb_m124 : tb_okM (tb_f124, prog_9_method_53_code, 1, 1, 6, 6, ⟨"VaultDevicesModel", "server", "()I"⟩, []) := ⟨tb_i124, ⟨false, by decide +kernel, tb_p124⟩, rfl⟩
theorem tb_m125 : tb_okM (tb_f125, prog_3_method_2_code, 5, 1, 99, 7, ⟨"VaultDevices$Entry", "pack", "(IIII)I"⟩, []) := ⟨tb_i125, ⟨false, by decide +kernel, tb_p125⟩, rfl⟩
theorem tb_m126 : tb_okM (tb_f126, prog_3_method_5_code, 1, 1, 99, 7, ⟨"VaultDevices$Entry", "countOf", "(I)I"⟩, []) := ⟨tb_i126, ⟨false, by decide +kernel, tb_p126⟩, rfl⟩
theorem tb_m127 : tb_okM (tb_f127, prog_3_method_4_code, 1, 1, 99, 7, ⟨"VaultDevices$Entry", "deviceOf", "(I)I"⟩, []) := ⟨tb_i127, ⟨false, by decide +kernel, tb_p127⟩, rfl⟩
theorem tb_m128 : tb_okM (tb_f128, prog_3_method_7_code, 1, 1, 99, 7, ⟨"VaultDevices$Entry", "dotOf", "(I)I"⟩, []) := ⟨tb_i128, ⟨false, by decide +kernel, tb_p128⟩, rfl⟩
theorem tb_m129 : tb_okM (tb_f129, prog_3_method_3_code, 1, 1, 99, 7, ⟨"VaultDevices$Entry", "itemOf", "(I)I"⟩, []) := ⟨tb_i129, ⟨false, by decide +kernel, tb_p129⟩, rfl⟩
theorem tb_m130 : tb_okM (tb_f130, prog_3_method_6_code, 1, 1, 99, 7, ⟨"VaultDevices$Entry", "contentOf", "(I)I"⟩, []) := ⟨tb_i130, ⟨false, by decide +kernel, tb_p130⟩, rfl⟩
theorem tb_m131 : tb_okM (tb_f131, method_3_code, 5, 1, 99, 8, ⟨"VaultDevicesLaw", "unlock", "(LVaultDevices;II[J)I"⟩, [(0, 17, 20, 13)]) := ⟨tb_i131, ⟨false, by decide +kernel, tb_p131⟩, rfl⟩
theorem tb_m132 : tb_okM (tb_f132, method_4_code, 4, 1, 99, 8, ⟨"VaultDevicesLaw", "lock", "(LVaultDevices;I[J)I"⟩, [(0, 16, 19, 13)]) := ⟨tb_i132, ⟨false, by decide +kernel, tb_p132⟩, rfl⟩
theorem tb_m133 : tb_okM (tb_f133, method_5_code, 6, 1, 99, 8, ⟨"VaultDevicesLaw", "put", "(LVaultDevices;III[J)I"⟩, [(0, 12, 15, 13), (0, 12, 19, 23)]) := ⟨tb_i133, ⟨false, by decide +kernel, tb_p133⟩, rfl⟩
theorem tb_m134 : tb_okM (tb_f134, method_6_code, 5, 1, 99, 8, ⟨"VaultDevicesLaw", "erase", "(LVaultDevices;II[J)I"⟩, [(0, 10, 13, 13), (0, 10, 17, 23)]) := ⟨tb_i134, ⟨false, by decide +kernel, tb_p134⟩, rfl⟩
theorem tb_m135 : tb_okM (tb_f135, method_7_code, 6, 1, 99, 8, ⟨"VaultDevicesLaw", "get", "(LVaultDevices;III[J)I"⟩, [(0, 12, 15, 13), (0, 12, 19, 23)]) := ⟨tb_i135, ⟨false, by decide +kernel, tb_p135⟩, rfl⟩
theorem tb_m136 : tb_okM (tb_f136, method_8_code, 5, 1, 99, 8, ⟨"VaultDevicesLaw", "change", "(LVaultDevices;II[J)I"⟩, [(0, 10, 13, 13), (0, 10, 17, 23)]) := ⟨tb_i136, ⟨false, by decide +kernel, tb_p136⟩, rfl⟩
theorem tb_m137 : tb_okM (tb_f137, method_9_code, 4, 1, 99, 8, ⟨"VaultDevicesLaw", "pull", "(LVaultDevices;I[J)I"⟩, [(0, 16, 19, 13), (0, 16, 22, 23)]) := ⟨tb_i137, ⟨false, by decide +kernel, tb_p137⟩, rfl⟩
theorem tb_m138 : tb_okM (tb_f138, method_10_code, 4, 1, 99, 8, ⟨"VaultDevicesLaw", "push", "(LVaultDevices;I[J)I"⟩, [(0, 9, 12, 13), (0, 9, 15, 23)]) := ⟨tb_i138, ⟨false, by decide +kernel, tb_p138⟩, rfl⟩
theorem tb_m139 : tb_okM (tb_f139, code, 7, 2, 99, 8, ⟨"VaultDevicesLaw", "law", "([I)Z"⟩, []) := ⟨tb_i139, ⟨false, by decide +kernel, tb_p139⟩, rfl⟩
theorem tb_m140 : tb_okM (tb_f140, prog_18_method_103_code, 4, 0, 99, 9, ⟨"java/util/Arrays", "fill", "([II)V"⟩, []) := ⟨tb_i140, ⟨false, by decide +kernel, tb_p140⟩, rfl⟩
theorem tb_mo0 : ∀ q ∈ tb_ms0, tb_okM q := List.forall_mem_cons.mpr ⟨tb_m0, List.forall_mem_cons.mpr ⟨tb_m1, List.forall_mem_cons.mpr ⟨tb_m2, List.forall_mem_cons.mpr ⟨tb_m3, List.forall_mem_cons.mpr ⟨tb_m4, List.forall_mem_cons.mpr ⟨tb_m5, List.forall_mem_cons.mpr ⟨tb_m6, List.forall_mem_cons.mpr ⟨tb_m7, List.forall_mem_cons.mpr ⟨tb_m8, List.forall_mem_cons.mpr ⟨tb_m9, List.forall_mem_cons.mpr ⟨tb_m10, List.forall_mem_cons.mpr ⟨tb_m11, List.forall_mem_cons.mpr ⟨tb_m12, List.forall_mem_cons.mpr ⟨tb_m13, List.forall_mem_cons.mpr ⟨tb_m14, List.forall_mem_cons.mpr ⟨tb_m15, List.forall_mem_cons.mpr ⟨tb_m16, List.forall_mem_cons.mpr ⟨tb_m17, List.forall_mem_cons.mpr ⟨tb_m18, List.forall_mem_cons.mpr ⟨tb_m19, List.forall_mem_cons.mpr ⟨tb_m20, List.forall_mem_cons.mpr ⟨tb_m21, List.forall_mem_cons.mpr ⟨tb_m22, List.forall_mem_cons.mpr ⟨tb_m23, fun _ h => absurd h List.not_mem_nil⟩⟩⟩⟩⟩⟩⟩⟩⟩⟩⟩⟩⟩⟩⟩⟩⟩⟩⟩⟩⟩⟩⟩⟩
theorem tb_mo1 : ∀ q ∈ tb_ms1, tb_okM q := List.forall_mem_cons.mpr ⟨tb_m24, List.forall_mem_cons.mpr ⟨tb_m25, List.forall_mem_cons.mpr ⟨tb_m26, List.forall_mem_cons.mpr ⟨tb_m27, List.forall_mem_cons.mpr ⟨tb_m28, List.forall_mem_cons.mpr ⟨tb_m29, List.forall_mem_cons.mpr ⟨tb_m30, List.forall_mem_cons.mpr ⟨tb_m31, List.forall_mem_cons.mpr ⟨tb_m32, List.forall_mem_cons.mpr ⟨tb_m33, List.forall_mem_cons.mpr ⟨tb_m34, List.forall_mem_cons.mpr ⟨tb_m35, List.forall_mem_cons.mpr ⟨tb_m36, List.forall_mem_cons.mpr ⟨tb_m37, List.forall_mem_cons.mpr ⟨tb_m38, List.forall_mem_cons.mpr ⟨tb_m39, List.forall_mem_cons.mpr ⟨tb_m40, List.forall_mem_cons.mpr ⟨tb_m41, List.forall_mem_cons.mpr ⟨tb_m42, List.forall_mem_cons.mpr ⟨tb_m43, List.forall_mem_cons.mpr ⟨tb_m44, List.forall_mem_cons.mpr ⟨tb_m45, List.forall_mem_cons.mpr ⟨tb_m46, List.forall_mem_cons.mpr ⟨tb_m47, fun _ h => absurd h List.not_mem_nil⟩⟩⟩⟩⟩⟩⟩⟩⟩⟩⟩⟩⟩⟩⟩⟩⟩⟩⟩⟩⟩⟩⟩⟩
theorem tb_mo2 : ∀ q ∈ tb_ms2, tb_okM q := List.forall_mem_cons.mpr ⟨tb_m48, List.forall_mem_cons.mpr ⟨tb_m49, List.forall_mem_cons.mpr ⟨tb_m50, List.forall_mem_cons.mpr ⟨tb_m51, List.forall_mem_cons.mpr ⟨tb_m52, List.forall_mem_cons.mpr ⟨tb_m53, List.forall_mem_cons.mpr ⟨tb_m54, List.forall_mem_cons.mpr ⟨tb_m55, List.forall_mem_cons.mpr ⟨tb_m56, List.forall_mem_cons.mpr ⟨tb_m57, List.forall_mem_cons.mpr ⟨tb_m58, List.forall_mem_cons.mpr ⟨tb_m59, List.forall_mem_cons.mpr ⟨tb_m60, List.forall_mem_cons.mpr ⟨tb_m61, List.forall_mem_cons.mpr ⟨tb_m62, List.forall_mem_cons.mpr ⟨tb_m63, List.forall_mem_cons.mpr ⟨tb_m64, List.forall_mem_cons.mpr ⟨tb_m65, List.forall_mem_cons.mpr ⟨tb_m66, List.forall_mem_cons.mpr ⟨tb_m67, List.forall_mem_cons.mpr ⟨tb_m68, List.forall_mem_cons.mpr ⟨tb_m69, List.forall_mem_cons.mpr ⟨tb_m70, List.forall_mem_cons.mpr ⟨tb_m71, fun _ h => absurd h List.not_mem_nil⟩⟩⟩⟩⟩⟩⟩⟩⟩⟩⟩⟩⟩⟩⟩⟩⟩⟩⟩⟩⟩⟩⟩⟩
theorem tb_mo3 : ∀ q ∈ tb_ms3, tb_okM q := List.forall_mem_cons.mpr ⟨tb_m72, List.forall_mem_cons.mpr ⟨tb_m73, List.forall_mem_cons.mpr ⟨tb_m74, List.forall_mem_cons.mpr ⟨tb_m75, List.forall_mem_cons.mpr ⟨tb_m76, List.forall_mem_cons.mpr ⟨tb_m77, List.forall_mem_cons.mpr ⟨tb_m78, List.forall_mem_cons.mpr ⟨tb_m79, List.forall_mem_cons.mpr ⟨tb_m80, List.forall_mem_cons.mpr ⟨tb_m81, List.forall_mem_cons.mpr ⟨tb_m82, List.forall_mem_cons.mpr ⟨tb_m83, List.forall_mem_cons.mpr ⟨tb_m84, List.forall_mem_cons.mpr ⟨tb_m85, List.forall_mem_cons.mpr ⟨tb_m86, List.forall_mem_cons.mpr ⟨tb_m87, List.forall_mem_cons.mpr ⟨tb_m88, List.forall_mem_cons.mpr ⟨tb_m89, List.forall_mem_cons.mpr ⟨tb_m90, List.forall_mem_cons.mpr ⟨tb_m91, List.forall_mem_cons.mpr ⟨tb_m92, List.forall_mem_cons.mpr ⟨tb_m93, List.forall_mem_cons.mpr ⟨tb_m94, List.forall_mem_cons.mpr ⟨tb_m95, fun _ h => absurd h List.not_mem_nil⟩⟩⟩⟩⟩⟩⟩⟩⟩⟩⟩⟩⟩⟩⟩⟩⟩⟩⟩⟩⟩⟩⟩⟩
theorem tb_mo4 : ∀ q ∈ tb_ms4, tb_okM q := List.forall_mem_cons.mpr ⟨tb_m96, List.forall_mem_cons.mpr ⟨tb_m97, List.forall_mem_cons.mpr ⟨tb_m98, List.forall_mem_cons.mpr ⟨tb_m99, List.forall_mem_cons.mpr ⟨tb_m100, List.forall_mem_cons.mpr ⟨tb_m101, List.forall_mem_cons.mpr ⟨tb_m102, List.forall_mem_cons.mpr ⟨tb_m103, List.forall_mem_cons.mpr ⟨tb_m104, List.forall_mem_cons.mpr ⟨tb_m105, List.forall_mem_cons.mpr ⟨tb_m106, List.forall_mem_cons.mpr ⟨tb_m107, List.forall_mem_cons.mpr ⟨tb_m108, List.forall_mem_cons.mpr ⟨tb_m109, List.forall_mem_cons.mpr ⟨tb_m110, List.forall_mem_cons.mpr ⟨tb_m111, List.forall_mem_cons.mpr ⟨tb_m112, List.forall_mem_cons.mpr ⟨tb_m113, List.forall_mem_cons.mpr ⟨tb_m114, List.forall_mem_cons.mpr ⟨tb_m115, List.forall_mem_cons.mpr ⟨tb_m116, List.forall_mem_cons.mpr ⟨tb_m117, List.forall_mem_cons.mpr ⟨tb_m118, List.forall_mem_cons.mpr ⟨tb_m119, fun _ h => absurd h List.not_mem_nil⟩⟩⟩⟩⟩⟩⟩⟩⟩⟩⟩⟩⟩⟩⟩⟩⟩⟩⟩⟩⟩⟩⟩⟩
theorem tb_mo5 : ∀ q ∈ tb_ms5, tb_okM q := List.forall_mem_cons.mpr ⟨tb_m120, List.forall_mem_cons.mpr ⟨tb_m121, List.forall_mem_cons.mpr ⟨tb_m122, List.forall_mem_cons.mpr ⟨tb_m123, List.forall_mem_cons.mpr ⟨tb_m124, List.forall_mem_cons.mpr ⟨tb_m125, List.forall_mem_cons.mpr ⟨tb_m126, List.forall_mem_cons.mpr ⟨tb_m127, List.forall_mem_cons.mpr ⟨tb_m128, List.forall_mem_cons.mpr ⟨tb_m129, List.forall_mem_cons.mpr ⟨tb_m130, List.forall_mem_cons.mpr ⟨tb_m131, List.forall_mem_cons.mpr ⟨tb_m132, List.forall_mem_cons.mpr ⟨tb_m133, List.forall_mem_cons.mpr ⟨tb_m134, List.forall_mem_cons.mpr ⟨tb_m135, List.forall_mem_cons.mpr ⟨tb_m136, List.forall_mem_cons.mpr ⟨tb_m137, List.forall_mem_cons.mpr ⟨tb_m138, List.forall_mem_cons.mpr ⟨tb_m139, List.forall_mem_cons.mpr ⟨tb_m140, fun _ h => absurd h List.not_mem_nil⟩⟩⟩⟩⟩⟩⟩⟩⟩⟩⟩⟩⟩⟩⟩⟩⟩⟩⟩⟩⟩
theorem tb_msok : ∀ q ∈ tb_ms, tb_okM q := List.forall_mem_append.mpr ⟨tb_mo0, List.forall_mem_append.mpr ⟨tb_mo1, List.forall_mem_append.mpr ⟨tb_mo2, List.forall_mem_append.mpr ⟨tb_mo3, List.forall_mem_append.mpr ⟨tb_mo4, tb_mo5⟩⟩⟩⟩⟩
theorem tb_all (y : Nat) : tb_okM (tb_get y) := by
  unfold tb_get
  cases h : tb_ms[y]? with
  | none => exact ⟨fun pc i h => (by cases h), ⟨false, (by decide +kernel), fun pc i idx ci j k h => (by cases h)⟩, rfl⟩
  | some q => exact tb_msok q (List.mem_of_getElem? h)
theorem tb_Tab : sm_Tab tb_T tb_ok tb_cl tb_WA tb_NW tb_tyN tb_AO tb_bc tb_nm := by
  refine ⟨?_, ?_, ?_, ?_, ?_, ?_, ⟨_, _, _, rfl⟩, by decide +kernel, by decide +kernel, by decide +kernel⟩
  · intro y idx ci j k h
    have h1 := tb_F _ (tb_fd_mem h)
    have h2 := tb_chF_of tb_C h1
    have h3 : (tb_nm y).cls = tb_cn (tb_on y) := (tb_all y).2.2
    rw [h3]
    exact h2
  · intro y pc i idx ci j k h1 h2 h3
    obtain ⟨ini, h4, h5⟩ := (tb_all y).2.1
    have h6 : ((tb_nm y).name == "<init>") = ini := h4
    rw [h6]
    exact h5 pc i idx ci j k h1 h2 h3
  · intro y idx ci fs h
    have h1 := tb_N _ (tb_fd_mem h)
    have h2 := tb_chN_of tb_C h1
    have h3 : (tb_nm y).cls = tb_cn (tb_on y) := (tb_all y).2.2
    rw [h3]
    exact h2
  · intro y idx u h
    have h1 := tb_fd_mem h
    have h3 : (tb_nm y).cls = tb_cn (tb_on y) := (tb_all y).2.2
    rw [h3]
    have h4 := List.mem_singleton.mp h1
    obtain ⟨g1, g2⟩ := Prod.mk.inj h4
    obtain ⟨g2, g3⟩ := Prod.mk.inj g2
    rw [g1, g2, g3]
    exact ⟨"VaultDevices$Device", rfl, by decide +kernel, by decide +kernel⟩
  · intro y pc i h
    exact (tb_all y).1 pc i h
  · intro t ci h
    unfold tb_ok at h
    rw [Bool.and_eq_true] at h
    have h1 := Nat.eq_of_beq_eq_true h.1
    have h2 := Nat.eq_of_beq_eq_true h.2
    subst h1 h2
    exact ⟨_, rfl, rfl⟩
end
section
/-! ===== calls ===== -/
def tb_chG (q : Nat × Nat × Nat × Nat × Nat) : Bool := match q.2.2.1 with
  | 0 => decide (Cond.methodLink (tb_cn q.1) q.2.1 Lib.objectInit ∈ tb_WA) && decide (Cond.instanceMethod Lib.objectInit ∈ tb_WA) && decide (Cond.code Lib.objectInit ⟨#[0xb1]⟩ 1 none ∈ tb_WA)
  | 1 => decide (Cond.methodLink (tb_cn q.1) q.2.1 Lib.Math.max.name ∈ tb_WA) && decide (Cond.static Lib.Math.max.name ∈ tb_WA) && decide (Cond.initialized "java/lang/Math" ∈ tb_WA) && decide (Cond.code Lib.Math.max.name Lib.Math.max.code 2 (some .int) ∈ tb_WA)
  | 2 => decide (Cond.methodLink (tb_cn q.1) q.2.1 arraycopyName ∈ tb_WA) && decide (Cond.native arraycopyName ∈ tb_WA) && decide (Cond.static arraycopyName ∈ tb_WA) && decide (Cond.initialized "java/lang/System" ∈ tb_WA)
  | k => (decide (Cond.methodLink (tb_cn q.1) q.2.1 (tb_nm q.2.2.2.1) ∈ tb_WA) || decide (Cond.methodLinkNest (tb_cn q.1) q.2.1 (tb_nm q.2.2.2.1) "VaultDevices" ∈ tb_NW)) && decide (Cond.initialized (tb_nm q.2.2.2.1).cls ∈ tb_WA) && plainName (tb_nm q.2.2.2.1).cls &&
    decide ((tb_nm q.2.2.2.1).cls ≠ "java/lang/invoke/MethodHandle" ∧ (tb_nm q.2.2.2.1).cls ≠ "java/lang/invoke/VarHandle" ∧ (parseMethodDescriptor (tb_nm q.2.2.2.1).desc).map (fun d => d.parameters.length) = some (if k = 3 then q.2.2.2.2 else q.2.2.2.2 - 1)) && decide (k = 3 ∨ 1 ≤ q.2.2.2.2) && decide ((sm_nL tb_T q.2.2.2.1).1 ≤ 40) && decide (q.2.2.2.1 < 141) && decide (q.2.2.2.1 ≠ 139) &&
    (match k with
    | 3 => decide (Cond.static (tb_nm q.2.2.2.1) ∈ tb_WA)
    | 4 => decide (Cond.instanceMethod (tb_nm q.2.2.2.1) ∈ tb_WA) && decide (Cond.selects (tb_nm q.2.2.2.1).cls (tb_nm q.2.2.2.1) (tb_nm q.2.2.2.1) ∈ tb_WA) && (match tb_cl[(sm_nL tb_T q.2.2.2.1).2.2]? with
      | some r => decide (r.1 = (tb_nm q.2.2.2.1).cls)
      | none => false)
    | 5 => decide (Cond.instanceMethod (tb_nm q.2.2.2.1) ∈ tb_WA) && decide ((tb_nm q.2.2.2.1).name = "<init>") && decide ((sm_nL tb_T q.2.2.2.1).2.1 = 0)
    | _ => false)
end
section
theorem tb_G0 : ∀ q ∈ (tb_CL.drop 0).take 15, tb_chG q = true := by decide +kernel
theorem tb_G1 : ∀ q ∈ (tb_CL.drop 15).take 15, tb_chG q = true := by decide +kernel
theorem tb_G2 : ∀ q ∈ (tb_CL.drop 30).take 15, tb_chG q = true := by decide +kernel
end
section
theorem tb_G3 : ∀ q ∈ (tb_CL.drop 45).take 15, tb_chG q = true := by decide +kernel
theorem tb_G4 : ∀ q ∈ (tb_CL.drop 60).take 15, tb_chG q = true := by decide +kernel
theorem tb_G5 : ∀ q ∈ (tb_CL.drop 75).take 15, tb_chG q = true := by decide +kernel
end
section
theorem tb_G6 : ∀ q ∈ (tb_CL.drop 90).take 15, tb_chG q = true := by decide +kernel
theorem tb_G7 : ∀ q ∈ (tb_CL.drop 105).take 15, tb_chG q = true := by decide +kernel
theorem tb_G8 : ∀ q ∈ (tb_CL.drop 120).take 15, tb_chG q = true := by decide +kernel
end
section
theorem tb_G9 : ∀ q ∈ (tb_CL.drop 135).take 15, tb_chG q = true := by decide +kernel
theorem tb_G10 : ∀ q ∈ (tb_CL.drop 150).take 15, tb_chG q = true := by decide +kernel
theorem tb_G11 : ∀ q ∈ (tb_CL.drop 165).take 15, tb_chG q = true := by decide +kernel
end
section
theorem tb_G : ∀ q ∈ tb_CL, tb_chG q = true := by
  intro q hq
  have hq : q ∈ (tb_CL.drop 0) := hq
  rw [← List.take_append_drop 15 (tb_CL.drop 0), List.drop_drop] at hq
  rcases List.mem_append.mp hq with h | hq
  · exact tb_G0 q h
  have hq : q ∈ (tb_CL.drop 15) := hq
  rw [← List.take_append_drop 15 (tb_CL.drop 15), List.drop_drop] at hq
  rcases List.mem_append.mp hq with h | hq
  · exact tb_G1 q h
  have hq : q ∈ (tb_CL.drop 30) := hq
  rw [← List.take_append_drop 15 (tb_CL.drop 30), List.drop_drop] at hq
  rcases List.mem_append.mp hq with h | hq
  · exact tb_G2 q h
  have hq : q ∈ (tb_CL.drop 45) := hq
  rw [← List.take_append_drop 15 (tb_CL.drop 45), List.drop_drop] at hq
  rcases List.mem_append.mp hq with h | hq
  · exact tb_G3 q h
  have hq : q ∈ (tb_CL.drop 60) := hq
  rw [← List.take_append_drop 15 (tb_CL.drop 60), List.drop_drop] at hq
  rcases List.mem_append.mp hq with h | hq
  · exact tb_G4 q h
  have hq : q ∈ (tb_CL.drop 75) := hq
  rw [← List.take_append_drop 15 (tb_CL.drop 75), List.drop_drop] at hq
  rcases List.mem_append.mp hq with h | hq
  · exact tb_G5 q h
  have hq : q ∈ (tb_CL.drop 90) := hq
  rw [← List.take_append_drop 15 (tb_CL.drop 90), List.drop_drop] at hq
  rcases List.mem_append.mp hq with h | hq
  · exact tb_G6 q h
  have hq : q ∈ (tb_CL.drop 105) := hq
  rw [← List.take_append_drop 15 (tb_CL.drop 105), List.drop_drop] at hq
  rcases List.mem_append.mp hq with h | hq
  · exact tb_G7 q h
  have hq : q ∈ (tb_CL.drop 120) := hq
  rw [← List.take_append_drop 15 (tb_CL.drop 120), List.drop_drop] at hq
  rcases List.mem_append.mp hq with h | hq
  · exact tb_G8 q h
  have hq : q ∈ (tb_CL.drop 135) := hq
  rw [← List.take_append_drop 15 (tb_CL.drop 135), List.drop_drop] at hq
  rcases List.mem_append.mp hq with h | hq
  · exact tb_G9 q h
  have hq : q ∈ (tb_CL.drop 150) := hq
  rw [← List.take_append_drop 15 (tb_CL.drop 150), List.drop_drop] at hq
  rcases List.mem_append.mp hq with h | hq
  · exact tb_G10 q h
  have hq : q ∈ (tb_CL.drop 165) := hq
  rw [← List.take_append_drop 15 (tb_CL.drop 165), List.drop_drop] at hq
  rcases List.mem_append.mp hq with h | hq
  · exact tb_G11 q h
  exact absurd hq (by rw [show tb_CL.drop (165 + 15) = [] from rfl]; exact List.not_mem_nil) -- ∈ tb_CL.drop (165 + 15))
set_option maxRecDepth 100000 in
theorem tb_c0 : sm_cw tb_T tb_bc tb_nm tb_eh 0 ∈ tb_WA := List.mem_filter.mpr ⟨List.mem_append_right _ (List.mem_of_getElem? (i := 21) rfl), rfl⟩
set_option maxRecDepth 100000 in
theorem tb_c1 : sm_cw tb_T tb_bc tb_nm tb_eh 1 ∈ tb_WA := List.mem_filter.mpr ⟨List.mem_append_right _ (List.mem_of_getElem? (i := 189) rfl), rfl⟩
set_option maxRecDepth 100000 in
theorem tb_c2 : sm_cw tb_T tb_bc tb_nm tb_eh 2 ∈ tb_WA := List.mem_filter.mpr ⟨List.mem_append_right _ (List.mem_of_getElem? (i := 192) rfl), rfl⟩
set_option maxRecDepth 100000 in
theorem tb_c3 : sm_cw tb_T tb_bc tb_nm tb_eh 3 ∈ tb_WA := List.mem_filter.mpr ⟨List.mem_append_right _ (List.mem_of_getElem? (i := 200) rfl), rfl⟩
set_option maxRecDepth 100000 in
theorem tb_c4 : sm_cw tb_T tb_bc tb_nm tb_eh 4 ∈ tb_WA := List.mem_filter.mpr ⟨List.mem_append_right _ (List.mem_of_getElem? (i := 311) rfl), rfl⟩
set_option maxRecDepth 100000 in
theorem tb_c5 : sm_cw tb_T tb_bc tb_nm tb_eh 5 ∈ tb_WA := List.mem_filter.mpr ⟨List.mem_append_right _ (List.mem_of_getElem? (i := 331) rfl), rfl⟩
set_option maxRecDepth 100000 in
theorem tb_c6 : sm_cw tb_T tb_bc tb_nm tb_eh 6 ∈ tb_WA := List.mem_filter.mpr ⟨List.mem_append_right _ (List.mem_of_getElem? (i := 335) rfl), rfl⟩
set_option maxRecDepth 100000 in
theorem tb_c7 : sm_cw tb_T tb_bc tb_nm tb_eh 7 ∈ tb_WA := List.mem_filter.mpr ⟨List.mem_append_right _ (List.mem_of_getElem? (i := 339) rfl), rfl⟩
set_option maxRecDepth 100000 in
theorem tb_c8 : sm_cw tb_T tb_bc tb_nm tb_eh 8 ∈ tb_WA := List.mem_filter.mpr ⟨List.mem_append_right _ (List.mem_of_getElem? (i := 343) rfl), rfl⟩
set_option maxRecDepth 100000 in
theorem tb_c9 : sm_cw tb_T tb_bc tb_nm tb_eh 9 ∈ tb_WA := List.mem_filter.mpr ⟨List.mem_append_right _ (List.mem_of_getElem? (i := 351) rfl), rfl⟩
set_option maxRecDepth 100000 in
theorem tb_c10 : sm_cw tb_T tb_bc tb_nm tb_eh 10 ∈ tb_WA := List.mem_filter.mpr ⟨List.mem_append_right _ (List.mem_of_getElem? (i := 355) rfl), rfl⟩
set_option maxRecDepth 100000 in
theorem tb_c11 : sm_cw tb_T tb_bc tb_nm tb_eh 11 ∈ tb_WA := List.mem_filter.mpr ⟨List.mem_append_right _ (List.mem_of_getElem? (i := 367) rfl), rfl⟩
set_option maxRecDepth 100000 in
theorem tb_c12 : sm_cw tb_T tb_bc tb_nm tb_eh 12 ∈ tb_WA := List.mem_filter.mpr ⟨List.mem_append_right _ (List.mem_of_getElem? (i := 371) rfl), rfl⟩
set_option maxRecDepth 100000 in
theorem tb_c13 : sm_cw tb_T tb_bc tb_nm tb_eh 13 ∈ tb_WA := List.mem_filter.mpr ⟨List.mem_append_right _ (List.mem_of_getElem? (i := 409) rfl), rfl⟩
set_option maxRecDepth 100000 in
theorem tb_c14 : sm_cw tb_T tb_bc tb_nm tb_eh 14 ∈ tb_WA := List.mem_filter.mpr ⟨List.mem_append_right _ (List.mem_of_getElem? (i := 413) rfl), rfl⟩
set_option maxRecDepth 100000 in
theorem tb_c15 : sm_cw tb_T tb_bc tb_nm tb_eh 15 ∈ tb_WA := List.mem_filter.mpr ⟨List.mem_append_right _ (List.mem_of_getElem? (i := 420) rfl), rfl⟩
set_option maxRecDepth 100000 in
theorem tb_c16 : sm_cw tb_T tb_bc tb_nm tb_eh 16 ∈ tb_WA := List.mem_filter.mpr ⟨List.mem_append_right _ (List.mem_of_getElem? (i := 425) rfl), rfl⟩
set_option maxRecDepth 100000 in
theorem tb_c17 : sm_cw tb_T tb_bc tb_nm tb_eh 17 ∈ tb_WA := List.mem_filter.mpr ⟨List.mem_append_right _ (List.mem_of_getElem? (i := 429) rfl), rfl⟩
set_option maxRecDepth 100000 in
theorem tb_c18 : sm_cw tb_T tb_bc tb_nm tb_eh 18 ∈ tb_WA := List.mem_filter.mpr ⟨List.mem_append_right _ (List.mem_of_getElem? (i := 437) rfl), rfl⟩
set_option maxRecDepth 100000 in
theorem tb_c19 : sm_cw tb_T tb_bc tb_nm tb_eh 19 ∈ tb_WA := List.mem_filter.mpr ⟨List.mem_append_right _ (List.mem_of_getElem? (i := 440) rfl), rfl⟩
set_option maxRecDepth 100000 in
theorem tb_c20 : sm_cw tb_T tb_bc tb_nm tb_eh 20 ∈ tb_WA := List.mem_filter.mpr ⟨List.mem_append_right _ (List.mem_of_getElem? (i := 514) rfl), rfl⟩
set_option maxRecDepth 100000 in
theorem tb_c21 : sm_cw tb_T tb_bc tb_nm tb_eh 21 ∈ tb_WA := List.mem_filter.mpr ⟨List.mem_append_right _ (List.mem_of_getElem? (i := 522) rfl), rfl⟩
set_option maxRecDepth 100000 in
theorem tb_c22 : sm_cw tb_T tb_bc tb_nm tb_eh 22 ∈ tb_WA := List.mem_filter.mpr ⟨List.mem_append_right _ (List.mem_of_getElem? (i := 525) rfl), rfl⟩
set_option maxRecDepth 100000 in
theorem tb_c23 : sm_cw tb_T tb_bc tb_nm tb_eh 23 ∈ tb_WA := List.mem_filter.mpr ⟨List.mem_append_right _ (List.mem_of_getElem? (i := 559) rfl), rfl⟩
set_option maxRecDepth 100000 in
theorem tb_c24 : sm_cw tb_T tb_bc tb_nm tb_eh 24 ∈ tb_WA := List.mem_filter.mpr ⟨List.mem_append_right _ (List.mem_of_getElem? (i := 566) rfl), rfl⟩
set_option maxRecDepth 100000 in
theorem tb_c25 : sm_cw tb_T tb_bc tb_nm tb_eh 25 ∈ tb_WA := List.mem_filter.mpr ⟨List.mem_append_right _ (List.mem_of_getElem? (i := 578) rfl), rfl⟩
set_option maxRecDepth 100000 in
theorem tb_c26 : sm_cw tb_T tb_bc tb_nm tb_eh 26 ∈ tb_WA := List.mem_filter.mpr ⟨List.mem_append_right _ (List.mem_of_getElem? (i := 586) rfl), rfl⟩
set_option maxRecDepth 100000 in
theorem tb_c27 : sm_cw tb_T tb_bc tb_nm tb_eh 27 ∈ tb_WA := List.mem_filter.mpr ⟨List.mem_append_right _ (List.mem_of_getElem? (i := 593) rfl), rfl⟩
set_option maxRecDepth 100000 in
theorem tb_c28 : sm_cw tb_T tb_bc tb_nm tb_eh 28 ∈ tb_WA := List.mem_filter.mpr ⟨List.mem_append_right _ (List.mem_of_getElem? (i := 29) rfl), rfl⟩
set_option maxRecDepth 100000 in
theorem tb_c29 : sm_cw tb_T tb_bc tb_nm tb_eh 29 ∈ tb_WA := List.mem_filter.mpr ⟨List.mem_append_right _ (List.mem_of_getElem? (i := 208) rfl), rfl⟩
set_option maxRecDepth 100000 in
theorem tb_c30 : sm_cw tb_T tb_bc tb_nm tb_eh 30 ∈ tb_WA := List.mem_filter.mpr ⟨List.mem_append_right _ (List.mem_of_getElem? (i := 212) rfl), rfl⟩
set_option maxRecDepth 100000 in
theorem tb_c31 : sm_cw tb_T tb_bc tb_nm tb_eh 31 ∈ tb_WA := List.mem_filter.mpr ⟨List.mem_append_right _ (List.mem_of_getElem? (i := 216) rfl), rfl⟩
set_option maxRecDepth 100000 in
theorem tb_c32 : sm_cw tb_T tb_bc tb_nm tb_eh 32 ∈ tb_WA := List.mem_filter.mpr ⟨List.mem_append_right _ (List.mem_of_getElem? (i := 222) rfl), rfl⟩
set_option maxRecDepth 100000 in
theorem tb_c33 : sm_cw tb_T tb_bc tb_nm tb_eh 33 ∈ tb_WA := List.mem_filter.mpr ⟨List.mem_append_right _ (List.mem_of_getElem? (i := 227) rfl), rfl⟩
set_option maxRecDepth 100000 in
theorem tb_c34 : sm_cw tb_T tb_bc tb_nm tb_eh 34 ∈ tb_WA := List.mem_filter.mpr ⟨List.mem_append_right _ (List.mem_of_getElem? (i := 231) rfl), rfl⟩
set_option maxRecDepth 100000 in
theorem tb_c35 : sm_cw tb_T tb_bc tb_nm tb_eh 35 ∈ tb_WA := List.mem_filter.mpr ⟨List.mem_append_right _ (List.mem_of_getElem? (i := 315) rfl), rfl⟩
set_option maxRecDepth 100000 in
theorem tb_c36 : sm_cw tb_T tb_bc tb_nm tb_eh 36 ∈ tb_WA := List.mem_filter.mpr ⟨List.mem_append_right _ (List.mem_of_getElem? (i := 319) rfl), rfl⟩
set_option maxRecDepth 100000 in
theorem tb_c37 : sm_cw tb_T tb_bc tb_nm tb_eh 37 ∈ tb_WA := List.mem_filter.mpr ⟨List.mem_append_right _ (List.mem_of_getElem? (i := 323) rfl), rfl⟩
set_option maxRecDepth 100000 in
theorem tb_c38 : sm_cw tb_T tb_bc tb_nm tb_eh 38 ∈ tb_WA := List.mem_filter.mpr ⟨List.mem_append_right _ (List.mem_of_getElem? (i := 347) rfl), rfl⟩
set_option maxRecDepth 100000 in
theorem tb_c39 : sm_cw tb_T tb_bc tb_nm tb_eh 39 ∈ tb_WA := List.mem_filter.mpr ⟨List.mem_append_right _ (List.mem_of_getElem? (i := 359) rfl), rfl⟩
set_option maxRecDepth 100000 in
theorem tb_c40 : sm_cw tb_T tb_bc tb_nm tb_eh 40 ∈ tb_WA := List.mem_filter.mpr ⟨List.mem_append_right _ (List.mem_of_getElem? (i := 363) rfl), rfl⟩
set_option maxRecDepth 100000 in
theorem tb_c41 : sm_cw tb_T tb_bc tb_nm tb_eh 41 ∈ tb_WA := List.mem_filter.mpr ⟨List.mem_append_right _ (List.mem_of_getElem? (i := 400) rfl), rfl⟩
set_option maxRecDepth 100000 in
theorem tb_c42 : sm_cw tb_T tb_bc tb_nm tb_eh 42 ∈ tb_WA := List.mem_filter.mpr ⟨List.mem_append_right _ (List.mem_of_getElem? (i := 405) rfl), rfl⟩
set_option maxRecDepth 100000 in
theorem tb_c43 : sm_cw tb_T tb_bc tb_nm tb_eh 43 ∈ tb_WA := List.mem_filter.mpr ⟨List.mem_append_right _ (List.mem_of_getElem? (i := 63) rfl), rfl⟩
set_option maxRecDepth 100000 in
theorem tb_c44 : sm_cw tb_T tb_bc tb_nm tb_eh 44 ∈ tb_WA := List.mem_filter.mpr ⟨List.mem_append_right _ (List.mem_of_getElem? (i := 204) rfl), rfl⟩
set_option maxRecDepth 100000 in
theorem tb_c45 : sm_cw tb_T tb_bc tb_nm tb_eh 45 ∈ tb_WA := List.mem_filter.mpr ⟨List.mem_append_right _ (List.mem_of_getElem? (i := 234) rfl), rfl⟩
set_option maxRecDepth 100000 in
theorem tb_c46 : sm_cw tb_T tb_bc tb_nm tb_eh 46 ∈ tb_WA := List.mem_filter.mpr ⟨List.mem_append_right _ (List.mem_of_getElem? (i := 237) rfl), rfl⟩
set_option maxRecDepth 100000 in
theorem tb_c47 : sm_cw tb_T tb_bc tb_nm tb_eh 47 ∈ tb_WA := List.mem_filter.mpr ⟨List.mem_append_right _ (List.mem_of_getElem? (i := 245) rfl), rfl⟩
set_option maxRecDepth 100000 in
theorem tb_c48 : sm_cw tb_T tb_bc tb_nm tb_eh 48 ∈ tb_WA := List.mem_filter.mpr ⟨List.mem_append_right _ (List.mem_of_getElem? (i := 248) rfl), rfl⟩
set_option maxRecDepth 100000 in
theorem tb_c49 : sm_cw tb_T tb_bc tb_nm tb_eh 49 ∈ tb_WA := List.mem_filter.mpr ⟨List.mem_append_right _ (List.mem_of_getElem? (i := 251) rfl), rfl⟩
set_option maxRecDepth 100000 in
theorem tb_c50 : sm_cw tb_T tb_bc tb_nm tb_eh 50 ∈ tb_WA := List.mem_filter.mpr ⟨List.mem_append_right _ (List.mem_of_getElem? (i := 375) rfl), rfl⟩
set_option maxRecDepth 100000 in
theorem tb_c51 : sm_cw tb_T tb_bc tb_nm tb_eh 51 ∈ tb_WA := List.mem_filter.mpr ⟨List.mem_append_right _ (List.mem_of_getElem? (i := 379) rfl), rfl⟩
set_option maxRecDepth 100000 in
theorem tb_c52 : sm_cw tb_T tb_bc tb_nm tb_eh 52 ∈ tb_WA := List.mem_filter.mpr ⟨List.mem_append_right _ (List.mem_of_getElem? (i := 384) rfl), rfl⟩
set_option maxRecDepth 100000 in
theorem tb_c53 : sm_cw tb_T tb_bc tb_nm tb_eh 53 ∈ tb_WA := List.mem_filter.mpr ⟨List.mem_append_right _ (List.mem_of_getElem? (i := 388) rfl), rfl⟩
set_option maxRecDepth 100000 in
theorem tb_c54 : sm_cw tb_T tb_bc tb_nm tb_eh 54 ∈ tb_WA := List.mem_filter.mpr ⟨List.mem_append_right _ (List.mem_of_getElem? (i := 79) rfl), rfl⟩
set_option maxRecDepth 100000 in
theorem tb_c55 : sm_cw tb_T tb_bc tb_nm tb_eh 55 ∈ tb_WA := List.mem_filter.mpr ⟨List.mem_append_right _ (List.mem_of_getElem? (i := 196) rfl), rfl⟩
set_option maxRecDepth 100000 in
theorem tb_c56 : sm_cw tb_T tb_bc tb_nm tb_eh 56 ∈ tb_WA := List.mem_filter.mpr ⟨List.mem_append_right _ (List.mem_of_getElem? (i := 327) rfl), rfl⟩
set_option maxRecDepth 100000 in
theorem tb_c57 : sm_cw tb_T tb_bc tb_nm tb_eh 57 ∈ tb_WA := List.mem_filter.mpr ⟨List.mem_append_right _ (List.mem_of_getElem? (i := 107) rfl), rfl⟩
set_option maxRecDepth 100000 in
theorem tb_c58 : sm_cw tb_T tb_bc tb_nm tb_eh 58 ∈ tb_WA := List.mem_filter.mpr ⟨List.mem_append_right _ (List.mem_of_getElem? (i := 113) rfl), rfl⟩
set_option maxRecDepth 100000 in
theorem tb_c59 : sm_cw tb_T tb_bc tb_nm tb_eh 59 ∈ tb_WA := List.mem_filter.mpr ⟨List.mem_append_right _ (List.mem_of_getElem? (i := 241) rfl), rfl⟩
set_option maxRecDepth 100000 in
theorem tb_c60 : sm_cw tb_T tb_bc tb_nm tb_eh 60 ∈ tb_WA := List.mem_filter.mpr ⟨List.mem_append_right _ (List.mem_of_getElem? (i := 258) rfl), rfl⟩
set_option maxRecDepth 100000 in
theorem tb_c61 : sm_cw tb_T tb_bc tb_nm tb_eh 61 ∈ tb_WA := List.mem_filter.mpr ⟨List.mem_append_right _ (List.mem_of_getElem? (i := 265) rfl), rfl⟩
set_option maxRecDepth 100000 in
theorem tb_c62 : sm_cw tb_T tb_bc tb_nm tb_eh 62 ∈ tb_WA := List.mem_filter.mpr ⟨List.mem_append_right _ (List.mem_of_getElem? (i := 276) rfl), rfl⟩
set_option maxRecDepth 100000 in
theorem tb_c63 : sm_cw tb_T tb_bc tb_nm tb_eh 63 ∈ tb_WA := List.mem_filter.mpr ⟨List.mem_append_right _ (List.mem_of_getElem? (i := 279) rfl), rfl⟩
set_option maxRecDepth 100000 in
theorem tb_c64 : sm_cw tb_T tb_bc tb_nm tb_eh 64 ∈ tb_WA := List.mem_filter.mpr ⟨List.mem_append_right _ (List.mem_of_getElem? (i := 283) rfl), rfl⟩
set_option maxRecDepth 100000 in
theorem tb_c65 : sm_cw tb_T tb_bc tb_nm tb_eh 65 ∈ tb_WA := List.mem_filter.mpr ⟨List.mem_append_right _ (List.mem_of_getElem? (i := 287) rfl), rfl⟩
set_option maxRecDepth 100000 in
theorem tb_c66 : sm_cw tb_T tb_bc tb_nm tb_eh 66 ∈ tb_WA := List.mem_filter.mpr ⟨List.mem_append_right _ (List.mem_of_getElem? (i := 291) rfl), rfl⟩
set_option maxRecDepth 100000 in
theorem tb_c67 : sm_cw tb_T tb_bc tb_nm tb_eh 67 ∈ tb_WA := List.mem_filter.mpr ⟨List.mem_append_right _ (List.mem_of_getElem? (i := 298) rfl), rfl⟩
set_option maxRecDepth 100000 in
theorem tb_c68 : sm_cw tb_T tb_bc tb_nm tb_eh 68 ∈ tb_WA := List.mem_filter.mpr ⟨List.mem_append_right _ (List.mem_of_getElem? (i := 305) rfl), rfl⟩
set_option maxRecDepth 100000 in
theorem tb_c69 : sm_cw tb_T tb_bc tb_nm tb_eh 69 ∈ tb_WA := List.mem_filter.mpr ⟨List.mem_append_right _ (List.mem_of_getElem? (i := 545) rfl), rfl⟩
set_option maxRecDepth 100000 in
theorem tb_c70 : sm_cw tb_T tb_bc tb_nm tb_eh 70 ∈ tb_WA := List.mem_filter.mpr ⟨List.mem_append_right _ (List.mem_of_getElem? (i := 550) rfl), rfl⟩
set_option maxRecDepth 100000 in
theorem tb_c71 : sm_cw tb_T tb_bc tb_nm tb_eh 71 ∈ tb_WA := List.mem_filter.mpr ⟨List.mem_append_right _ (List.mem_of_getElem? (i := 570) rfl), rfl⟩
set_option maxRecDepth 100000 in
theorem tb_c72 : sm_cw tb_T tb_bc tb_nm tb_eh 72 ∈ tb_WA := List.mem_filter.mpr ⟨List.mem_append_right _ (List.mem_of_getElem? (i := 598) rfl), rfl⟩
set_option maxRecDepth 100000 in
theorem tb_c73 : sm_cw tb_T tb_bc tb_nm tb_eh 73 ∈ tb_WA := List.mem_filter.mpr ⟨List.mem_append_right _ (List.mem_of_getElem? (i := 688) rfl), rfl⟩
set_option maxRecDepth 100000 in
theorem tb_c74 : sm_cw tb_T tb_bc tb_nm tb_eh 74 ∈ tb_WA := List.mem_filter.mpr ⟨List.mem_append_right _ (List.mem_of_getElem? (i := 692) rfl), rfl⟩
set_option maxRecDepth 100000 in
theorem tb_c75 : sm_cw tb_T tb_bc tb_nm tb_eh 75 ∈ tb_WA := List.mem_filter.mpr ⟨List.mem_append_right _ (List.mem_of_getElem? (i := 695) rfl), rfl⟩
set_option maxRecDepth 100000 in
theorem tb_c76 : sm_cw tb_T tb_bc tb_nm tb_eh 76 ∈ tb_WA := List.mem_filter.mpr ⟨List.mem_append_right _ (List.mem_of_getElem? (i := 699) rfl), rfl⟩
set_option maxRecDepth 100000 in
theorem tb_c77 : sm_cw tb_T tb_bc tb_nm tb_eh 77 ∈ tb_WA := List.mem_filter.mpr ⟨List.mem_append_right _ (List.mem_of_getElem? (i := 703) rfl), rfl⟩
set_option maxRecDepth 100000 in
theorem tb_c78 : sm_cw tb_T tb_bc tb_nm tb_eh 78 ∈ tb_WA := List.mem_filter.mpr ⟨List.mem_append_right _ (List.mem_of_getElem? (i := 707) rfl), rfl⟩
set_option maxRecDepth 100000 in
theorem tb_c79 : sm_cw tb_T tb_bc tb_nm tb_eh 79 ∈ tb_WA := List.mem_filter.mpr ⟨List.mem_append_right _ (List.mem_of_getElem? (i := 711) rfl), rfl⟩
set_option maxRecDepth 100000 in
theorem tb_c80 : sm_cw tb_T tb_bc tb_nm tb_eh 80 ∈ tb_WA := List.mem_filter.mpr ⟨List.mem_append_right _ (List.mem_of_getElem? (i := 715) rfl), rfl⟩
set_option maxRecDepth 100000 in
theorem tb_c81 : sm_cw tb_T tb_bc tb_nm tb_eh 81 ∈ tb_WA := List.mem_filter.mpr ⟨List.mem_append_right _ (List.mem_of_getElem? (i := 719) rfl), rfl⟩
set_option maxRecDepth 100000 in
theorem tb_c82 : sm_cw tb_T tb_bc tb_nm tb_eh 82 ∈ tb_WA := List.mem_filter.mpr ⟨List.mem_append_right _ (List.mem_of_getElem? (i := 723) rfl), rfl⟩
set_option maxRecDepth 100000 in
theorem tb_c83 : sm_cw tb_T tb_bc tb_nm tb_eh 83 ∈ tb_WA := List.mem_filter.mpr ⟨List.mem_append_right _ (List.mem_of_getElem? (i := 727) rfl), rfl⟩
set_option maxRecDepth 100000 in
theorem tb_c84 : sm_cw tb_T tb_bc tb_nm tb_eh 84 ∈ tb_WA := List.mem_filter.mpr ⟨List.mem_append_right _ (List.mem_of_getElem? (i := 731) rfl), rfl⟩
set_option maxRecDepth 100000 in
theorem tb_c85 : sm_cw tb_T tb_bc tb_nm tb_eh 85 ∈ tb_WA := List.mem_filter.mpr ⟨List.mem_append_right _ (List.mem_of_getElem? (i := 735) rfl), rfl⟩
set_option maxRecDepth 100000 in
theorem tb_c86 : sm_cw tb_T tb_bc tb_nm tb_eh 86 ∈ tb_WA := List.mem_filter.mpr ⟨List.mem_append_right _ (List.mem_of_getElem? (i := 739) rfl), rfl⟩
set_option maxRecDepth 100000 in
theorem tb_c87 : sm_cw tb_T tb_bc tb_nm tb_eh 87 ∈ tb_WA := List.mem_filter.mpr ⟨List.mem_append_right _ (List.mem_of_getElem? (i := 743) rfl), rfl⟩
set_option maxRecDepth 100000 in
theorem tb_c88 : sm_cw tb_T tb_bc tb_nm tb_eh 88 ∈ tb_WA := List.mem_filter.mpr ⟨List.mem_append_right _ (List.mem_of_getElem? (i := 747) rfl), rfl⟩
set_option maxRecDepth 100000 in
theorem tb_c89 : sm_cw tb_T tb_bc tb_nm tb_eh 89 ∈ tb_WA := List.mem_filter.mpr ⟨List.mem_append_right _ (List.mem_of_getElem? (i := 751) rfl), rfl⟩
set_option maxRecDepth 100000 in
theorem tb_c90 : sm_cw tb_T tb_bc tb_nm tb_eh 90 ∈ tb_WA := List.mem_filter.mpr ⟨List.mem_append_right _ (List.mem_of_getElem? (i := 755) rfl), rfl⟩
set_option maxRecDepth 100000 in
theorem tb_c91 : sm_cw tb_T tb_bc tb_nm tb_eh 91 ∈ tb_WA := List.mem_filter.mpr ⟨List.mem_append_right _ (List.mem_of_getElem? (i := 759) rfl), rfl⟩
set_option maxRecDepth 100000 in
theorem tb_c92 : sm_cw tb_T tb_bc tb_nm tb_eh 92 ∈ tb_WA := List.mem_filter.mpr ⟨List.mem_append_right _ (List.mem_of_getElem? (i := 763) rfl), rfl⟩
set_option maxRecDepth 100000 in
theorem tb_c93 : sm_cw tb_T tb_bc tb_nm tb_eh 93 ∈ tb_WA := List.mem_filter.mpr ⟨List.mem_append_right _ (List.mem_of_getElem? (i := 767) rfl), rfl⟩
set_option maxRecDepth 100000 in
theorem tb_c94 : sm_cw tb_T tb_bc tb_nm tb_eh 94 ∈ tb_WA := List.mem_filter.mpr ⟨List.mem_append_right _ (List.mem_of_getElem? (i := 771) rfl), rfl⟩
set_option maxRecDepth 100000 in
theorem tb_c95 : sm_cw tb_T tb_bc tb_nm tb_eh 95 ∈ tb_WA := List.mem_filter.mpr ⟨List.mem_append_right _ (List.mem_of_getElem? (i := 775) rfl), rfl⟩
set_option maxRecDepth 100000 in
theorem tb_c96 : sm_cw tb_T tb_bc tb_nm tb_eh 96 ∈ tb_WA := List.mem_filter.mpr ⟨List.mem_append_right _ (List.mem_of_getElem? (i := 779) rfl), rfl⟩
set_option maxRecDepth 100000 in
theorem tb_c97 : sm_cw tb_T tb_bc tb_nm tb_eh 97 ∈ tb_WA := List.mem_filter.mpr ⟨List.mem_append_right _ (List.mem_of_getElem? (i := 783) rfl), rfl⟩
set_option maxRecDepth 100000 in
theorem tb_c98 : sm_cw tb_T tb_bc tb_nm tb_eh 98 ∈ tb_WA := List.mem_filter.mpr ⟨List.mem_append_right _ (List.mem_of_getElem? (i := 787) rfl), rfl⟩
set_option maxRecDepth 100000 in
theorem tb_c99 : sm_cw tb_T tb_bc tb_nm tb_eh 99 ∈ tb_WA := List.mem_filter.mpr ⟨List.mem_append_right _ (List.mem_of_getElem? (i := 791) rfl), rfl⟩
set_option maxRecDepth 100000 in
theorem tb_c100 : sm_cw tb_T tb_bc tb_nm tb_eh 100 ∈ tb_WA := List.mem_filter.mpr ⟨List.mem_append_right _ (List.mem_of_getElem? (i := 795) rfl), rfl⟩
set_option maxRecDepth 100000 in
theorem tb_c101 : sm_cw tb_T tb_bc tb_nm tb_eh 101 ∈ tb_WA := List.mem_filter.mpr ⟨List.mem_append_right _ (List.mem_of_getElem? (i := 799) rfl), rfl⟩
set_option maxRecDepth 100000 in
theorem tb_c102 : sm_cw tb_T tb_bc tb_nm tb_eh 102 ∈ tb_WA := List.mem_filter.mpr ⟨List.mem_append_right _ (List.mem_of_getElem? (i := 803) rfl), rfl⟩
set_option maxRecDepth 100000 in
theorem tb_c103 : sm_cw tb_T tb_bc tb_nm tb_eh 103 ∈ tb_WA := List.mem_filter.mpr ⟨List.mem_append_right _ (List.mem_of_getElem? (i := 807) rfl), rfl⟩
set_option maxRecDepth 100000 in
theorem tb_c104 : sm_cw tb_T tb_bc tb_nm tb_eh 104 ∈ tb_WA := List.mem_filter.mpr ⟨List.mem_append_right _ (List.mem_of_getElem? (i := 811) rfl), rfl⟩
set_option maxRecDepth 100000 in
theorem tb_c105 : sm_cw tb_T tb_bc tb_nm tb_eh 105 ∈ tb_WA := List.mem_filter.mpr ⟨List.mem_append_right _ (List.mem_of_getElem? (i := 815) rfl), rfl⟩
set_option maxRecDepth 100000 in
theorem tb_c106 : sm_cw tb_T tb_bc tb_nm tb_eh 106 ∈ tb_WA := List.mem_filter.mpr ⟨List.mem_append_right _ (List.mem_of_getElem? (i := 819) rfl), rfl⟩
set_option maxRecDepth 100000 in
theorem tb_c107 : sm_cw tb_T tb_bc tb_nm tb_eh 107 ∈ tb_WA := List.mem_filter.mpr ⟨List.mem_append_right _ (List.mem_of_getElem? (i := 823) rfl), rfl⟩
set_option maxRecDepth 100000 in
theorem tb_c108 : sm_cw tb_T tb_bc tb_nm tb_eh 108 ∈ tb_WA := List.mem_filter.mpr ⟨List.mem_append_right _ (List.mem_of_getElem? (i := 827) rfl), rfl⟩
set_option maxRecDepth 100000 in
theorem tb_c109 : sm_cw tb_T tb_bc tb_nm tb_eh 109 ∈ tb_WA := List.mem_filter.mpr ⟨List.mem_append_right _ (List.mem_of_getElem? (i := 831) rfl), rfl⟩
set_option maxRecDepth 100000 in
theorem tb_c110 : sm_cw tb_T tb_bc tb_nm tb_eh 110 ∈ tb_WA := List.mem_filter.mpr ⟨List.mem_append_right _ (List.mem_of_getElem? (i := 835) rfl), rfl⟩
set_option maxRecDepth 100000 in
theorem tb_c111 : sm_cw tb_T tb_bc tb_nm tb_eh 111 ∈ tb_WA := List.mem_filter.mpr ⟨List.mem_append_right _ (List.mem_of_getElem? (i := 839) rfl), rfl⟩
set_option maxRecDepth 100000 in
theorem tb_c112 : sm_cw tb_T tb_bc tb_nm tb_eh 112 ∈ tb_WA := List.mem_filter.mpr ⟨List.mem_append_right _ (List.mem_of_getElem? (i := 843) rfl), rfl⟩
set_option maxRecDepth 100000 in
theorem tb_c113 : sm_cw tb_T tb_bc tb_nm tb_eh 113 ∈ tb_WA := List.mem_filter.mpr ⟨List.mem_append_right _ (List.mem_of_getElem? (i := 847) rfl), rfl⟩
set_option maxRecDepth 100000 in
theorem tb_c114 : sm_cw tb_T tb_bc tb_nm tb_eh 114 ∈ tb_WA := List.mem_filter.mpr ⟨List.mem_append_right _ (List.mem_of_getElem? (i := 851) rfl), rfl⟩
set_option maxRecDepth 100000 in
theorem tb_c115 : sm_cw tb_T tb_bc tb_nm tb_eh 115 ∈ tb_WA := List.mem_filter.mpr ⟨List.mem_append_right _ (List.mem_of_getElem? (i := 855) rfl), rfl⟩
set_option maxRecDepth 100000 in
theorem tb_c116 : sm_cw tb_T tb_bc tb_nm tb_eh 116 ∈ tb_WA := List.mem_filter.mpr ⟨List.mem_append_right _ (List.mem_of_getElem? (i := 859) rfl), rfl⟩
set_option maxRecDepth 100000 in
theorem tb_c117 : sm_cw tb_T tb_bc tb_nm tb_eh 117 ∈ tb_WA := List.mem_filter.mpr ⟨List.mem_append_right _ (List.mem_of_getElem? (i := 863) rfl), rfl⟩
set_option maxRecDepth 100000 in
theorem tb_c118 : sm_cw tb_T tb_bc tb_nm tb_eh 118 ∈ tb_WA := List.mem_filter.mpr ⟨List.mem_append_right _ (List.mem_of_getElem? (i := 867) rfl), rfl⟩
set_option maxRecDepth 100000 in
theorem tb_c119 : sm_cw tb_T tb_bc tb_nm tb_eh 119 ∈ tb_WA := List.mem_filter.mpr ⟨List.mem_append_right _ (List.mem_of_getElem? (i := 871) rfl), rfl⟩
set_option maxRecDepth 100000 in
theorem tb_c120 : sm_cw tb_T tb_bc tb_nm tb_eh 120 ∈ tb_WA := List.mem_filter.mpr ⟨List.mem_append_right _ (List.mem_of_getElem? (i := 875) rfl), rfl⟩
set_option maxRecDepth 100000 in
theorem tb_c121 : sm_cw tb_T tb_bc tb_nm tb_eh 121 ∈ tb_WA := List.mem_filter.mpr ⟨List.mem_append_right _ (List.mem_of_getElem? (i := 879) rfl), rfl⟩
set_option maxRecDepth 100000 in
theorem tb_c122 : sm_cw tb_T tb_bc tb_nm tb_eh 122 ∈ tb_WA := List.mem_filter.mpr ⟨List.mem_append_right _ (List.mem_of_getElem? (i := 883) rfl), rfl⟩
set_option maxRecDepth 100000 in
theorem tb_c123 : sm_cw tb_T tb_bc tb_nm tb_eh 123 ∈ tb_WA := List.mem_filter.mpr ⟨List.mem_append_right _ (List.mem_of_getElem? (i := 887) rfl), rfl⟩
set_option maxRecDepth 100000 in
theorem tb_c124 : sm_cw tb_T tb_bc tb_nm tb_eh 124 ∈ tb_WA := List.mem_filter.mpr ⟨List.mem_append_right _ (List.mem_of_getElem? (i := 891) rfl), rfl⟩
set_option maxRecDepth 100000 in
theorem tb_c125 : sm_cw tb_T tb_bc tb_nm tb_eh 125 ∈ tb_WA := List.mem_filter.mpr ⟨List.mem_append_right _ (List.mem_of_getElem? (i := 254) rfl), rfl⟩
set_option maxRecDepth 100000 in
theorem tb_c126 : sm_cw tb_T tb_bc tb_nm tb_eh 126 ∈ tb_WA := List.mem_filter.mpr ⟨List.mem_append_right _ (List.mem_of_getElem? (i := 261) rfl), rfl⟩
set_option maxRecDepth 100000 in
theorem tb_c127 : sm_cw tb_T tb_bc tb_nm tb_eh 127 ∈ tb_WA := List.mem_filter.mpr ⟨List.mem_append_right _ (List.mem_of_getElem? (i := 268) rfl), rfl⟩
set_option maxRecDepth 100000 in
theorem tb_c128 : sm_cw tb_T tb_bc tb_nm tb_eh 128 ∈ tb_WA := List.mem_filter.mpr ⟨List.mem_append_right _ (List.mem_of_getElem? (i := 272) rfl), rfl⟩
set_option maxRecDepth 100000 in
theorem tb_c129 : sm_cw tb_T tb_bc tb_nm tb_eh 129 ∈ tb_WA := List.mem_filter.mpr ⟨List.mem_append_right _ (List.mem_of_getElem? (i := 391) rfl), rfl⟩
set_option maxRecDepth 100000 in
theorem tb_c130 : sm_cw tb_T tb_bc tb_nm tb_eh 130 ∈ tb_WA := List.mem_filter.mpr ⟨List.mem_append_right _ (List.mem_of_getElem? (i := 396) rfl), rfl⟩
set_option maxRecDepth 100000 in
theorem tb_c131 : sm_cw tb_T tb_bc tb_nm tb_eh 131 ∈ tb_WA := List.mem_filter.mpr ⟨List.mem_append_right _ (List.mem_of_getElem? (i := 432) rfl), rfl⟩
set_option maxRecDepth 100000 in
theorem tb_c132 : sm_cw tb_T tb_bc tb_nm tb_eh 132 ∈ tb_WA := List.mem_filter.mpr ⟨List.mem_append_right _ (List.mem_of_getElem? (i := 510) rfl), rfl⟩
set_option maxRecDepth 100000 in
theorem tb_c133 : sm_cw tb_T tb_bc tb_nm tb_eh 133 ∈ tb_WA := List.mem_filter.mpr ⟨List.mem_append_right _ (List.mem_of_getElem? (i := 517) rfl), rfl⟩
set_option maxRecDepth 100000 in
theorem tb_c134 : sm_cw tb_T tb_bc tb_nm tb_eh 134 ∈ tb_WA := List.mem_filter.mpr ⟨List.mem_append_right _ (List.mem_of_getElem? (i := 555) rfl), rfl⟩
set_option maxRecDepth 100000 in
theorem tb_c135 : sm_cw tb_T tb_bc tb_nm tb_eh 135 ∈ tb_WA := List.mem_filter.mpr ⟨List.mem_append_right _ (List.mem_of_getElem? (i := 562) rfl), rfl⟩
set_option maxRecDepth 100000 in
theorem tb_c136 : sm_cw tb_T tb_bc tb_nm tb_eh 136 ∈ tb_WA := List.mem_filter.mpr ⟨List.mem_append_right _ (List.mem_of_getElem? (i := 574) rfl), rfl⟩
set_option maxRecDepth 100000 in
theorem tb_c137 : sm_cw tb_T tb_bc tb_nm tb_eh 137 ∈ tb_WA := List.mem_filter.mpr ⟨List.mem_append_right _ (List.mem_of_getElem? (i := 582) rfl), rfl⟩
set_option maxRecDepth 100000 in
theorem tb_c138 : sm_cw tb_T tb_bc tb_nm tb_eh 138 ∈ tb_WA := List.mem_filter.mpr ⟨List.mem_append_right _ (List.mem_of_getElem? (i := 589) rfl), rfl⟩
set_option maxRecDepth 100000 in
theorem tb_c140 : sm_cw tb_T tb_bc tb_nm tb_eh 140 ∈ tb_WA := List.mem_filter.mpr ⟨List.mem_append_right _ (List.mem_of_getElem? (i := 33) rfl), rfl⟩
end
section
/-! ===== what the main theorem asks of the tables ===== -/
theorem tb_cws : ∀ z, z < 141 → z ≠ 139 → sm_cw tb_T tb_bc tb_nm tb_eh z ∈ tb_WA := by
  intro z h1 h2
  match z, h1, h2 with
  | 0, _, _ => exact tb_c0
  | 1, _, _ => exact tb_c1
  | 2, _, _ => exact tb_c2
  | 3, _, _ => exact tb_c3
  | 4, _, _ => exact tb_c4
  | 5, _, _ => exact tb_c5
  | 6, _, _ => exact tb_c6
  | 7, _, _ => exact tb_c7
  | 8, _, _ => exact tb_c8
  | 9, _, _ => exact tb_c9
  | 10, _, _ => exact tb_c10
  | 11, _, _ => exact tb_c11
  | 12, _, _ => exact tb_c12
  | 13, _, _ => exact tb_c13
  | 14, _, _ => exact tb_c14
  | 15, _, _ => exact tb_c15
  | 16, _, _ => exact tb_c16
  | 17, _, _ => exact tb_c17
  | 18, _, _ => exact tb_c18
  | 19, _, _ => exact tb_c19
  | 20, _, _ => exact tb_c20
  | 21, _, _ => exact tb_c21
  | 22, _, _ => exact tb_c22
  | 23, _, _ => exact tb_c23
  | 24, _, _ => exact tb_c24
  | 25, _, _ => exact tb_c25
  | 26, _, _ => exact tb_c26
  | 27, _, _ => exact tb_c27
  | 28, _, _ => exact tb_c28
  | 29, _, _ => exact tb_c29
  | 30, _, _ => exact tb_c30
  | 31, _, _ => exact tb_c31
  | 32, _, _ => exact tb_c32
  | 33, _, _ => exact tb_c33
  | 34, _, _ => exact tb_c34
  | 35, _, _ => exact tb_c35
  | 36, _, _ => exact tb_c36
  | 37, _, _ => exact tb_c37
  | 38, _, _ => exact tb_c38
  | 39, _, _ => exact tb_c39
  | 40, _, _ => exact tb_c40
  | 41, _, _ => exact tb_c41
  | 42, _, _ => exact tb_c42
  | 43, _, _ => exact tb_c43
  | 44, _, _ => exact tb_c44
  | 45, _, _ => exact tb_c45
  | 46, _, _ => exact tb_c46
  | 47, _, _ => exact tb_c47
  | 48, _, _ => exact tb_c48
  | 49, _, _ => exact tb_c49
  | 50, _, _ => exact tb_c50
  | 51, _, _ => exact tb_c51
  | 52, _, _ => exact tb_c52
  | 53, _, _ => exact tb_c53
  | 54, _, _ => exact tb_c54
  | 55, _, _ => exact tb_c55
  | 56, _, _ => exact tb_c56
  | 57, _, _ => exact tb_c57
  | 58, _, _ => exact tb_c58
  | 59, _, _ => exact tb_c59
  | 60, _, _ => exact tb_c60
  | 61, _, _ => exact tb_c61
  | 62, _, _ => exact tb_c62
  | 63, _, _ => exact tb_c63
  | 64, _, _ => exact tb_c64
  | 65, _, _ => exact tb_c65
  | 66, _, _ => exact tb_c66
  | 67, _, _ => exact tb_c67
  | 68, _, _ => exact tb_c68
  | 69, _, _ => exact tb_c69
  | 70, _, _ => exact tb_c70
  | 71, _, _ => exact tb_c71
  | 72, _, _ => exact tb_c72
  | 73, _, _ => exact tb_c73
  | 74, _, _ => exact tb_c74
  | 75, _, _ => exact tb_c75
  | 76, _, _ => exact tb_c76
  | 77, _, _ => exact tb_c77
  | 78, _, _ => exact tb_c78
  | 79, _, _ => exact tb_c79
  | 80, _, _ => exact tb_c80
  | 81, _, _ => exact tb_c81
  | 82, _, _ => exact tb_c82
  | 83, _, _ => exact tb_c83
  | 84, _, _ => exact tb_c84
  | 85, _, _ => exact tb_c85
  | 86, _, _ => exact tb_c86
  | 87, _, _ => exact tb_c87
  | 88, _, _ => exact tb_c88
  | 89, _, _ => exact tb_c89
  | 90, _, _ => exact tb_c90
  | 91, _, _ => exact tb_c91
  | 92, _, _ => exact tb_c92
  | 93, _, _ => exact tb_c93
  | 94, _, _ => exact tb_c94
  | 95, _, _ => exact tb_c95
  | 96, _, _ => exact tb_c96
  | 97, _, _ => exact tb_c97
  | 98, _, _ => exact tb_c98
  | 99, _, _ => exact tb_c99
  | 100, _, _ => exact tb_c100
  | 101, _, _ => exact tb_c101
  | 102, _, _ => exact tb_c102
  | 103, _, _ => exact tb_c103
  | 104, _, _ => exact tb_c104
  | 105, _, _ => exact tb_c105
  | 106, _, _ => exact tb_c106
  | 107, _, _ => exact tb_c107
  | 108, _, _ => exact tb_c108
  | 109, _, _ => exact tb_c109
  | 110, _, _ => exact tb_c110
  | 111, _, _ => exact tb_c111
  | 112, _, _ => exact tb_c112
  | 113, _, _ => exact tb_c113
  | 114, _, _ => exact tb_c114
  | 115, _, _ => exact tb_c115
  | 116, _, _ => exact tb_c116
  | 117, _, _ => exact tb_c117
  | 118, _, _ => exact tb_c118
  | 119, _, _ => exact tb_c119
  | 120, _, _ => exact tb_c120
  | 121, _, _ => exact tb_c121
  | 122, _, _ => exact tb_c122
  | 123, _, _ => exact tb_c123
  | 124, _, _ => exact tb_c124
  | 125, _, _ => exact tb_c125
  | 126, _, _ => exact tb_c126
  | 127, _, _ => exact tb_c127
  | 128, _, _ => exact tb_c128
  | 129, _, _ => exact tb_c129
  | 130, _, _ => exact tb_c130
  | 131, _, _ => exact tb_c131
  | 132, _, _ => exact tb_c132
  | 133, _, _ => exact tb_c133
  | 134, _, _ => exact tb_c134
  | 135, _, _ => exact tb_c135
  | 136, _, _ => exact tb_c136
  | 137, _, _ => exact tb_c137
  | 138, _, _ => exact tb_c138
  | 139, _, h2 => exact absurd rfl h2
  | 140, _, _ => exact tb_c140
  | n + 141, h1, _ => omega
theorem tb_own (y : Nat) : (tb_nm y).cls = tb_cn (tb_on y) := (tb_all y).2.2
theorem tb_CB : ∀ y idx k z w, sm_cal tb_T y idx = some (k, z, w) → sm_Go tb_cl tb_WA tb_NW tb_nm (sm_cw tb_T tb_bc tb_nm tb_eh) tb_T y idx k z w := by
  intro y idx k z w h
  have hg := tb_G _ (tb_fd_mem h)
  unfold tb_chG at hg
  dsimp only at hg
  unfold sm_Go
  rw [tb_own y]
  split at hg
  · simp only [Bool.and_eq_true, decide_eq_true_eq] at hg
    exact ⟨fun _ => ⟨hg.1.1, hg.1.2, hg.2⟩, fun h => (by cases h), fun h => (by cases h), fun h => (by omega), fun h => (by cases h), fun h => (by cases h), fun h => (by cases h)⟩
  · simp only [Bool.and_eq_true, decide_eq_true_eq] at hg
    exact ⟨fun h => (by cases h), fun _ => ⟨hg.1.1.1, hg.1.1.2, hg.1.2, hg.2⟩, fun h => (by cases h), fun h => (by omega), fun h => (by cases h), fun h => (by cases h), fun h => (by cases h)⟩
  · simp only [Bool.and_eq_true, decide_eq_true_eq] at hg
    exact ⟨fun h => (by cases h), fun h => (by cases h), fun _ => ⟨hg.1.1.1, hg.1.1.2, hg.1.2, hg.2⟩, fun h => (by omega), fun h => (by cases h), fun h => (by cases h), fun h => (by cases h)⟩
  · next k h0 h1 h2 =>
    rw [Bool.and_eq_true, Bool.and_eq_true, Bool.and_eq_true, Bool.and_eq_true, Bool.and_eq_true, Bool.and_eq_true, Bool.and_eq_true, Bool.and_eq_true, Bool.or_eq_true] at hg
    obtain ⟨⟨⟨⟨⟨⟨⟨⟨hlk, hini⟩, hpl⟩, hds⟩, hw1⟩, h40⟩, hz1⟩, hz2⟩, hk⟩ := hg
    refine ⟨fun h => absurd h h0, fun h => absurd h h1, fun h => absurd h h2, fun _ => ⟨?_, of_decide_eq_true hini, tb_cws z (of_decide_eq_true hz1) (of_decide_eq_true hz2), hpl, of_decide_eq_true hds, fun h3 => ?_, of_decide_eq_true h40⟩, fun h => ?_, fun h => ?_, fun h => ?_⟩
    · rcases hlk with h | h
      · exact Or.inl (of_decide_eq_true h)
      · exact Or.inr ⟨_, of_decide_eq_true h⟩
    · rcases of_decide_eq_true hw1 with h | h
      · exact absurd h h3
      · exact h
    · subst h
      exact of_decide_eq_true hk
    · subst h
      have hk : (decide (Cond.instanceMethod (tb_nm z) ∈ tb_WA) && decide (Cond.selects (tb_nm z).cls (tb_nm z) (tb_nm z) ∈ tb_WA) && (match tb_cl[(sm_nL tb_T z).2.2]? with
        | some r => decide (r.1 = (tb_nm z).cls)
        | none => false)) = true := hk
      rw [Bool.and_eq_true, Bool.and_eq_true] at hk
      obtain ⟨⟨k1, k2⟩, k3⟩ := hk
      refine ⟨of_decide_eq_true k1, of_decide_eq_true k2, ?_⟩
      split at k3
      · next r hr => exact ⟨r, hr, of_decide_eq_true k3⟩
      · cases k3
    · subst h
      have hk : (decide (Cond.instanceMethod (tb_nm z) ∈ tb_WA) && decide ((tb_nm z).name = "<init>") && decide ((sm_nL tb_T z).2.1 = 0)) = true := hk
      rw [Bool.and_eq_true, Bool.and_eq_true] at hk
      exact ⟨of_decide_eq_true hk.1.1, of_decide_eq_true hk.1.2, of_decide_eq_true hk.2⟩
def tb_chW (q : Nat × Nat × Nat × Nat × Nat) : Bool := match tb_eh q.2.2.2.1 with
  | [] => true
  | _ :: _ => decide (q.2.2.1 = 3) && decide (Cond.methodLink (tb_cn q.1) q.2.1 (tb_nm q.2.2.2.1) ∈ tb_WA)
theorem tb_W0 : ∀ q ∈ tb_CL, tb_chW q = true := by decide +kernel
theorem tb_CW : ∀ y idx k z w, sm_cal tb_T y idx = some (k, z, w) → tb_eh z ≠ [] → k = 3 ∧ Cond.methodLink (tb_nm y).cls idx (tb_nm z) ∈ tb_WA := by
  intro y idx k z w h hz
  have hg := tb_W0 _ (tb_fd_mem h)
  unfold tb_chW at hg
  dsimp only at hg
  rw [tb_own y]
  split at hg
  · next h9 => exact absurd h9 hz
  · rw [Bool.and_eq_true] at hg
    exact ⟨of_decide_eq_true hg.1, of_decide_eq_true hg.2⟩
def tb_XC : Nat → String
  | 0 => "java/lang/IllegalArgumentException"
  | _ => "java/lang/IllegalStateException"
theorem tb_XN : ∀ z pc x, sm_cat tb_T z pc x = some none → tb_eh z = [] := by
  intro z pc x h
  have h : tb_cat z pc x = some none := h
  unfold tb_cat at h
  split at h
  · next h9 => exact h9
  · split at h
    · cases hf : tb_fd tb_XL z (2 * pc + x) with
      | none => rw [hf] at h; cases h
      | some r => rw [hf] at h; cases h
    · cases h
def tb_chX (e : Nat × Nat × Nat × Nat) : Bool := match ((tb_eh e.1).zip [0, 1]).find? (fun z => z.2 == e.2.1 % 2) with
  | none => false
  | some r => decide (((tb_eh e.1).zip [0, 1]).map (fun z => z.1) = tb_eh e.1) && ((tb_eh e.1).zip [0, 1]).all (fun z => covers (sm_en z.1) (e.2.1 / 2) && decide (z.1.2.2.2 ≠ 0) && decide (Cond.classLink (tb_cn (tb_on e.1)) z.1.2.2.2 (tb_XC z.2) ∈ tb_WA) && decide (z.2 < 2)) && decide (e.2.2.2 < (sm_nL tb_T e.1).1) &&
    (match decode (tb_bc e.1) r.1.2.2.1 with
    | .ok (.astore q, 2) => decide (q = e.2.2.2 ∧ e.2.2.1 = r.1.2.2.1 + 2)
    | .ok (.astore_n k, 1) => decide (k.val = e.2.2.2 ∧ e.2.2.1 = r.1.2.2.1 + 1)
    | _ => false)
theorem tb_X0 : ∀ e ∈ tb_XL, tb_chX e = true := by decide +kernel
theorem tb_XB : ∀ y pc x pc' q, sm_cat tb_T y pc x = some (some (pc', q)) → sm_Xo tb_WA tb_XC (tb_nm y).cls (tb_bc y) (sm_nL tb_T y).1 (tb_eh y) pc x pc' q := by
  intro y pc x pc' q h
  have h : tb_cat y pc x = some (some (pc', q)) := h
  unfold tb_cat at h
  split at h
  · cases h
  · split at h
    · next hx2 =>
      cases hf : tb_fd tb_XL y (2 * pc + x) with
      | none => rw [hf] at h; cases h
      | some r =>
        rw [hf] at h
        cases h
        have hg := tb_X0 _ (tb_fd_mem hf)
        unfold tb_chX at hg
        dsimp only at hg
        have m1 : (2 * pc + x) % 2 = x := by omega
        have m2 : (2 * pc + x) / 2 = pc := by omega
        rw [m1, m2] at hg
        rw [tb_own y]
        split at hg
        · cases hg
        · next r hr =>
          rw [Bool.and_eq_true, Bool.and_eq_true, Bool.and_eq_true] at hg
          obtain ⟨⟨⟨g1, g2⟩, g3⟩, g4⟩ := hg
          refine ⟨(tb_eh y).zip [0, 1], r.1.2.2.1, of_decide_eq_true g1, fun z hz => ?_, hx2, by rw [hr]; rfl, of_decide_eq_true g3, ?_⟩
          · have h9 := List.all_eq_true.mp g2 z hz
            rw [Bool.and_eq_true, Bool.and_eq_true, Bool.and_eq_true] at h9
            exact ⟨h9.1.1.1, of_decide_eq_true h9.1.1.2, of_decide_eq_true h9.1.2, of_decide_eq_true h9.2⟩
          · split at g4
            · next q9 hd =>
              obtain ⟨e1, e2⟩ := of_decide_eq_true g4
              subst e1
              exact Or.inl ⟨hd, e2⟩
            · next k hd =>
              obtain ⟨e1, e2⟩ := of_decide_eq_true g4
              exact Or.inr ⟨k, e1, hd, e2⟩
            · cases g4
    · cases h
theorem tb_TE : ∀ z vs h r, sm_thr tb_T z vs h = some r → tb_eh z = [] := by
  intro z vs h r hr
  have hr : tb_thr z vs h = some r := hr
  unfold tb_thr at hr
  split at hr
  · rfl
  · rfl
  · cases hr
theorem tb_good : ∀ w ∈ tb_WA, goodWord w = true := fun w hw => (List.mem_filter.mp hw).2
end
section
/-! ===== what every state has besides the tables: the script, Throwable's statics, two Strings, two classes apart ===== -/
def tx_sf (fx : Nat → Prop) (o n d : String) (U : State) : Prop := ∃ (c : ClassId) (k : Class) (i : Nat) (f : Field) (a : Nat) (cell : Cell) (v : Value), U.vm.findClass o = some c ∧ U.fieldFound? o n d = some (c, k, i, f) ∧ f.isStatic = true ∧ k.statics = some a ∧ U.heap[a]? = some cell ∧ cell.vm.isStatics = true ∧ cell.cls = c ∧ f.slot < cell.slots.size ∧ k.staticTypes[f.slot]? = some f.type ∧ cell.slots[f.slot]? = some v ∧ (v = .null ∨ ∃ t, v = .ref t) ∧ fx a
theorem tx_sf_mv {fx : Nat → Prop} {o n d : String} {U V : State} (hW : U.WarmedH V.vm) (hq : ∀ q, fx q → V.heap[q]? = U.heap[q]?) (h : tx_sf fx o n d U) : tx_sf fx o n d V := by
  obtain ⟨c, k, i, f, a, cell, v, h1, h2, h3, h4, h5, h6, h7, h8, h9, h10, h11, h12⟩ := h
  obtain ⟨k', hk', he⟩ := State.fieldFound?_setVm hW.alike h2
  exact ⟨c, k', i, f, a, cell, v, by rw [hW.alike.findClass]; exact h1, hk', h3, by rw [he]; exact h4, by rw [hq a h12]; exact h5, h6, h7, h8, by rw [he]; exact h9, h10, h11, h12⟩
theorem tx_sf_ls {fx : Nat → Prop} {o n d : String} {U : State} {A : Array Value} (h : tx_sf fx o n d U) : (Cond.laysStatic o n d).before A U = true := by
  obtain ⟨c, k, i, f, a, cell, v, h1, h2, h3, h4, h5, h6, h7, h8, h9, -⟩ := h
  simp [Cond.before, Cond.holds, Cond.value, h1, h2, h3, h4, h5, h6, h7, h8, h9]
theorem tx_sf_ir {fx : Nat → Prop} {o n d : String} {U : State} {A : Array Value} (h : tx_sf fx o n d U) : (Cond.isRef (.static o n d)).before A U = true := by
  obtain ⟨c, k, i, f, a, cell, v, h1, h2, h3, h4, h5, h6, h7, h8, h9, h10, h11, -⟩ := h
  rcases h11 with rfl | ⟨t, rfl⟩
  · simp [Cond.before, Cond.holds, Cond.value, Term.eval, State.fieldNamed?, h2, h3, h4, h5, h6, h10]
  · simp [Cond.before, Cond.holds, Cond.value, Term.eval, State.fieldNamed?, h2, h3, h4, h5, h6, h10]
theorem tx_sf_of {fx : Nat → Prop} {o n d : String} {U : State} {A : Array Value} (hfx : ∀ (q : Nat) (cell : Cell), U.heap[q]? = some cell → cell.vm.isStatics = true → fx q) (h1 : (Cond.laysStatic o n d).before A U = true) (h2 : (Cond.isRef (.static o n d)).before A U = true) : tx_sf fx o n d U := by
  obtain ⟨c, k, i, f, a, cell, g1, g2, g3, g4, g5, g6, g7, g8, g9⟩ := Cond.laysStatic_spec h1
  cases hv : (Term.static o n d).eval A U none [] U with
  | none => simp [Cond.before, Cond.holds, Cond.value, hv] at h2
  | some w =>
    obtain ⟨-, a', cell', k1, k2, -, k4⟩ := Term.static_spec g2 hv
    cases g4.symm.trans k1
    cases g5.symm.trans k2
    refine ⟨c, k, i, f, a, cell, w, g1, g2, g3, g4, g5, g6, g7, g8, g9, k4, ?_, hfx a cell g5 g6⟩
    simp only [Cond.before, Cond.holds, Cond.value, hv] at h2
    cases w with
    | null => exact Or.inl rfl
    | ref t => exact Or.inr ⟨t, rfl⟩
    | _ => simp at h2
def tx_IA : String := "java/lang/IllegalArgumentException"
def tx_IS : String := "java/lang/IllegalStateException"
def tx_t1 : String := "no such device, password, item or content"
def tx_t2 : String := "the device is locked"
def tx_ds : List MethodName := [⟨"java/lang/RuntimeException", "<init>", "(Ljava/lang/String;)V"⟩, ⟨"java/lang/Exception", "<init>", "(Ljava/lang/String;)V"⟩, ⟨"java/lang/Throwable", "<init>", "(Ljava/lang/String;)V"⟩]
def tx_KT (b : Nat) (X : Nat × (Nat → Int32)) (fx : Nat → Prop) (U : State) : Prop :=
  va_X b X.1 X.2 U U.heap ∧ tx_sf fx "java/lang/Throwable" "UNASSIGNED_STACK" "[Ljava/lang/StackTraceElement;" U ∧ tx_sf fx "java/lang/Throwable" "SUPPRESSED_SENTINEL" "Ljava/util/List;" U ∧
  (∃ q, vk_R "VaultDevices" 188 tx_t1 q U) ∧ (∃ q, vk_R "VaultDevices" 195 tx_t2 q U) ∧ (∀ i j, i < 2 → j < 2 → i ≠ j → ∀ c t, U.vm.findClass (tb_XC i) = some c → U.vm.findClass (tb_XC j) = some t → U.vm.assignable c t = false) ∧ ∀ y ∈ tx_ds, va_Nw (.declares y) U
theorem tx_Mv {b : Nat} {X : Nat × (Nat → Int32)} {fx : Nat → Prop} (hb : fx b) : sm_Mv tb_NW b X fx (tx_KT b X fx) := by
  refine ⟨fun w hw => ?_, fun U V hW hq h => ?_, fun U h => h.1, hb⟩
  · have h := (List.mem_filter.mp hw).2
    cases w <;> first | exact Or.inl ⟨_, _, _, _, _, _, rfl⟩ | exact Or.inr ⟨_, _, _, _, rfl⟩ | (simp [tb_nest] at h)
  · obtain ⟨h1, h2, h3, ⟨q4, h4⟩, ⟨q5, h5⟩, h6, h7⟩ := h
    refine ⟨(h1.moved hW.alike).kept (hq b hb), tx_sf_mv hW hq h2, tx_sf_mv hW hq h3, ⟨q4, h4.warm hW⟩, ⟨q5, h5.warm hW⟩, fun i j hi hj hij c t hc ht => ?_, fun y hy => (h7 y hy).warmD hW⟩
    rw [hW.alike.findClass] at hc ht
    rw [hW.alike.assignable]
    exact h6 i j hi hj hij c t hc ht
theorem tx_own1 : ∀ a ∈ Bundle.ownAtoms "VaultDevices" 190 tx_IA ["java/lang/RuntimeException", "java/lang/Exception"], a ∈ tb_WA ∨ a = .laysStatic "java/lang/Throwable" "UNASSIGNED_STACK" "[Ljava/lang/StackTraceElement;" ∨ a = .laysStatic "java/lang/Throwable" "SUPPRESSED_SENTINEL" "Ljava/util/List;" ∨ a = .isRef (.static "java/lang/Throwable" "UNASSIGNED_STACK" "[Ljava/lang/StackTraceElement;") ∨ a = .isRef (.static "java/lang/Throwable" "SUPPRESSED_SENTINEL" "Ljava/util/List;") ∨ a = .castable tx_IA tx_IA ∨ a = .declares ⟨"java/lang/RuntimeException", "<init>", "(Ljava/lang/String;)V"⟩ ∨ a = .declares ⟨"java/lang/Exception", "<init>", "(Ljava/lang/String;)V"⟩ ∨ a = .declares ⟨"java/lang/Throwable", "<init>", "(Ljava/lang/String;)V"⟩ := by decide +kernel
theorem tx_own2 : ∀ a ∈ Bundle.ownAtoms "VaultDevices" 197 tx_IS ["java/lang/RuntimeException", "java/lang/Exception"], a ∈ tb_WA ∨ a = .laysStatic "java/lang/Throwable" "UNASSIGNED_STACK" "[Ljava/lang/StackTraceElement;" ∨ a = .laysStatic "java/lang/Throwable" "SUPPRESSED_SENTINEL" "Ljava/util/List;" ∨ a = .isRef (.static "java/lang/Throwable" "UNASSIGNED_STACK" "[Ljava/lang/StackTraceElement;") ∨ a = .isRef (.static "java/lang/Throwable" "SUPPRESSED_SENTINEL" "Ljava/util/List;") ∨ a = .castable tx_IS tx_IS ∨ a = .declares ⟨"java/lang/RuntimeException", "<init>", "(Ljava/lang/String;)V"⟩ ∨ a = .declares ⟨"java/lang/Exception", "<init>", "(Ljava/lang/String;)V"⟩ ∨ a = .declares ⟨"java/lang/Throwable", "<init>", "(Ljava/lang/String;)V"⟩ := by decide +kernel
end
section
/-! ===== require and requireOpen throw ===== -/
theorem tx_same {s U : State} {k n : Nat} (h : s.sameButNew U [] k n) {a : Nat} {c : Cell} (hc : s.heap[a]? = some c) : U.heap[a]? = some c := by
  obtain ⟨-, -, -, -, -, h6⟩ := h
  obtain ⟨c', h1, h2, h3, h4⟩ := h6 a c hc
  have e : c'.slots = c.slots := Array.ext_getElem? fun i => h4 i (by simp)
  rw [h1, h2, e]
section TXT
variable {p : Program} {l : Launch} {e : Env} {R : Room} {s : State} {m : MethodId} {args : Array Value} {below : List Frame} {meth : Method} {c : Code} {D : va_G} {cl : List vw_C} {cA : Nat → ClassId} {cc : ByteArray} {pc : Nat} {ls : Array Slot}
theorem tx_tail (hx : p.tables.exec = Jvm.exec) (hb : c.code = cc) (hown : s.vm.findClass "VaultDevices" = some m.cls) (hlocks : meth.locks = false) (hno : c.exceptionTable.toList = []) (hsz : ls.size = c.maxLocals) (hts : ∀ w ∈ tb_WA, w.before args s = true) (hfl : l.flags = flags0) {x ix il ic : Nat} {cls tx : String} {q : Nat} (hcls : cls = tb_XC x) (hfit : Bundle.fit cls = true)
    (w1 : Cond.classLink "VaultDevices" ix cls ∈ tb_WA) (w2 : Cond.instantiable cls 6 ∈ tb_WA) (w3 : Cond.initialized cls ∈ tb_WA) (hat : ∀ a ∈ Bundle.ownAtoms "VaultDevices" ic cls ["java/lang/RuntimeException", "java/lang/Exception"], a.before args s = true) (hstr : vk_R "VaultDevices" il tx q s)
    (d1 : decode cc pc = .ok (.new ix, 3)) (d2 : decode cc (pc + 3) = .ok (.dup, 1)) (d3 : decode cc (pc + 3 + 1) = .ok (.ldc il, 2)) (d4 : decode cc (pc + 3 + 1 + 2) = .ok (.invokespecial ic, 3)) (d5 : decode cc (pc + 3 + 1 + 2 + 3) = .ok (.athrow, 1))
    (hR : 6 ≤ R.frames ∧ 1 ≤ R.cells ∧ 6 ≤ R.slots ∧ 100 ≤ R.locals) {A : Nat → Prop} {ad : Nat → Nat} {n0 : Nat} {h : sm_H} (hP : va_P D cl (sm_w cA ad h) s.heap) (hD : va_D A (sm_w cA ad h)) :
    W p l e R s m args below meth c s.heap [] 0 0 (sm_MT below (fun a t => sm_Qt D cl cA A ad n0 tb_XC x h a s t) s 1 6 A) (F0 m pc ls []) := by
  refine W.newc hx hb hown (hts _ w1) (hts _ w2) (hts _ w3) rfl d1 (by omega) (by omega) (fun cC kC g1 g2 g3 g4 => ?_)
  refine lv_dup (va := .ref s.heap.size) (rest := []) hx hb d2 rfl ?_
  refine va_ldcS hx hb hown hstr d3 ?_
  intro T hT XT
  have htr : e.platform.stackTraces = false := Launch.traces_off hfl XT.admits
  obtain ⟨U, st, run, ended, hWU, hsame, ce, hce, hoc⟩ := XT.ctorThrowS hx htr (own := "VaultDevices") (cls := cls) (names := ["java/lang/RuntimeException", "java/lang/Exception"]) (ic := ic) hown hfit (by decide +kernel) hat (fun _ h => by cases h) (a := s.heap.size) g1 g2 (by rw [hT]; simp) (Nat.le_refl _) (msg := .ref q) rfl (g := F0 m (pc + 3 + 1 + 2) ls [.ref q, .ref s.heap.size, .ref s.heap.size]) rfl hsz rfl rfl (rest := []) rfl (by rw [hb]; exact d4) (by rw [hb]; exact d5) (by rw [hno]; intro z hz; cases hz) (by show 2 + 3 < R.frames; omega) (by show 2 * 0 + 1 + (13 * (2 + 1) + 42) ≤ R.locals; omega) hlocks
  have hsame : s.sameButNew ({ U with vm := s.vm } : State) [] 1 6 := hsame
  have hkeep : ∀ (a : Nat) (c : Cell), s.heap[a]? = some c → U.heap[a]? = some c := fun a c hc => tx_same hsame hc
  have hkeep2 : ∀ a : Nat, a < s.heap.size → U.heap[a]? = s.heap[a]? := fun a ha => by
    have h9 : s.heap[a]? = some s.heap[a] := Array.getElem?_eq_getElem ha
    rw [h9]
    exact hkeep a _ h9
  refine ⟨U, st, s.heap.size, run, ended, ⟨⟨ad, fun _ _ => rfl, hP.kept (fun k q hq => hkeep2 _ (hP k q hq).lt), hD⟩, ⟨hsame.2.1, fun q hq _ => hkeep2 q hq⟩, ce, hce, by rw [hoc.vm]; rfl, ?_⟩, hWU, [], hsame, fun _ h => by cases h⟩
  rw [hWU.alike.findClass, ← hcls]
  exact hoc.cls
end TXT
theorem tx_atoms1 {b : Nat} {X : Nat × (Nat → Int32)} {fx : Nat → Prop} {s : State} {args : Array Value} (hts : ∀ w ∈ tb_WA, w.before args s = true) (hK : tx_KT b X fx s) : ∀ a ∈ Bundle.ownAtoms "VaultDevices" 190 tx_IA ["java/lang/RuntimeException", "java/lang/Exception"], a.before args s = true := by
  intro a ha
  rcases tx_own1 a ha with h | rfl | rfl | rfl | rfl | rfl | rfl | rfl | rfl
  · exact hts a h
  · exact tx_sf_ls hK.2.1
  · exact tx_sf_ls hK.2.2.1
  · exact tx_sf_ir hK.2.1
  · exact tx_sf_ir hK.2.2.1
  · obtain ⟨cC, kC, hfc, -⟩ := Cond.instantiable_spec (hts (.instantiable tx_IA 6) (by decide +kernel))
    simp [Cond.before, Cond.holds, Cond.value, hfc, sm_asg_refl]
  · exact va_Nw.use rfl (hK.2.2.2.2.2.2 _ (by decide +kernel))
  · exact va_Nw.use rfl (hK.2.2.2.2.2.2 _ (by decide +kernel))
  · exact va_Nw.use rfl (hK.2.2.2.2.2.2 _ (by decide +kernel))
theorem tx_atoms2 {b : Nat} {X : Nat × (Nat → Int32)} {fx : Nat → Prop} {s : State} {args : Array Value} (hts : ∀ w ∈ tb_WA, w.before args s = true) (hK : tx_KT b X fx s) : ∀ a ∈ Bundle.ownAtoms "VaultDevices" 197 tx_IS ["java/lang/RuntimeException", "java/lang/Exception"], a.before args s = true := by
  intro a ha
  rcases tx_own2 a ha with h | rfl | rfl | rfl | rfl | rfl | rfl | rfl | rfl
  · exact hts a h
  · exact tx_sf_ls hK.2.1
  · exact tx_sf_ls hK.2.2.1
  · exact tx_sf_ir hK.2.1
  · exact tx_sf_ir hK.2.2.1
  · obtain ⟨cC, kC, hfc, -⟩ := Cond.instantiable_spec (hts (.instantiable tx_IS 6) (by decide +kernel))
    simp [Cond.before, Cond.holds, Cond.value, hfc, sm_asg_refl]
  · exact va_Nw.use rfl (hK.2.2.2.2.2.2 _ (by decide +kernel))
  · exact va_Nw.use rfl (hK.2.2.2.2.2.2 _ (by decide +kernel))
  · exact va_Nw.use rfl (hK.2.2.2.2.2.2 _ (by decide +kernel))
set_option maxHeartbeats 4000000 in
theorem tx_Th {l : Launch} {D : va_G} {cA : Nat → ClassId} {b : Nat} {X : Nat × (Nat → Int32)} {fx : Nat → Prop} (hfl : l.flags = flags0) :
    ∀ (z : Nat) (vs : List Value) (h : sm_H) (x kc ks : Nat), sm_thr tb_T z vs h = some (x, kc, ks) → vs.all sm_c1 = true → vs.length ≤ (sm_nL tb_T z).1 → ∀ (d lw : Nat), kc ≤ h.2.2.2.1 → ks ≤ h.2.2.2.2 → 6 ≤ d → 100 ≤ lw → ∀ (ad : Nat → Nat) (sz : Nat),
      sm_MetT l (tb_nm z) (Cond.code (tb_nm z) (tb_bc z) (sm_nL tb_T z).1 (sm_rt tb_T z) :: tb_WA) { frames := d, cells := h.2.2.2.1 - (h.2.2.2.1 - kc), slots := h.2.2.2.2 - (h.2.2.2.2 - ks), locals := lw } (sm_Pc D tb_cl cA b tb_tyN tb_NW tb_AO (tx_KT b X fx) fx ad sz vs h) (fun st a t => sm_Qt D tb_cl cA (va_A (sm_w cA ad h) sz) ad h.1.length tb_XC x (h.1, h.2.1, h.2.2.1, h.2.2.2.1 - kc, h.2.2.2.2 - ks) a st t) (h.2.2.2.1 - (h.2.2.2.1 - kc)) (h.2.2.2.2 - (h.2.2.2.2 - ks)) (va_A (sm_w cA ad h) sz) := by
  intro z vs h x kc ks hz hvs hlen d lw hkc hks hd hlw ad sz
  have hz : tb_thr z vs h = some (x, kc, ks) := hz
  have ekc : h.2.2.2.1 - (h.2.2.2.1 - kc) = kc := by omega
  have eks : h.2.2.2.2 - (h.2.2.2.2 - ks) = ks := by omega
  rw [ekc, eks]
  unfold tb_thr at hz
  split at hz
  · next x0 =>
    split at hz
    · next hx0 =>
      subst hx0
      cases hz
      refine sm_MetT_ofW (cc := tb_bc 19) (maxL := (sm_nL tb_T 19).1) (ret := sm_rt tb_T 19) (by decide +kernel) rfl ?_
      intro p e s m args below meth c s₁ B hml hv
      obtain ⟨rfl, hsz, hPw, hDw, hK, hfx⟩ := hv
      have hts0 := atoms_spec (ws := Cond.code (tb_nm 19) (tb_bc 19) (sm_nL tb_T 19).1 (sm_rt tb_T 19) :: tb_WA) B.pre
      have hts : ∀ w ∈ tb_WA, w.before _ s = true := fun w hw => hts0 w (List.mem_cons_of_mem _ hw)
      have hown : s.vm.findClass "VaultDevices" = some m.cls := findClass_of_methodNamed B.named
      have hemp := B.noHandlers (hts0 _ List.mem_cons_self)
      have hno : c.exceptionTable.toList = [] := by
        have h0 : c.exceptionTable.size = 0 := by simpa [Array.isEmpty] using hemp
        exact List.eq_nil_of_length_eq_zero (by simpa using h0)
      subst hsz
      rw [lg_entry_eq]
      have hl := sm_entry (b := b) (ad := ad) (n := (sm_nL tb_T 19).1) hvs hlen
      generalize (lg_sl (List.map (sm_v b ad) [Value.int 0]) ++ List.replicate ((sm_nL tb_T 19).1 - (lg_sl (List.map (sm_v b ad) [Value.int 0])).length) Slot.unset).toArray = ls at hl ⊢
      have hb : c.code = tb_bc 19 := B.bytes
      have h0 : ls[0]? = some (.val (.int 0)) := (hl.2.2.2 0 (.int 0) rfl).1
      refine lv_iload_n (i := 0) B.exec hb (by decide +kernel : decode (tb_bc 19) 0 = .ok (.iload_n 0, 1)) rfl h0 ?_
      refine lv_if_ne (tgt := 14) B.exec hb (by decide +kernel : decode (tb_bc 19) 1 = .ok (.ifCond .ne 13, 3)) (by decide) (fun hc => absurd rfl hc) (fun _ => ?_)
      obtain ⟨q, hstr⟩ := hK.2.2.2.2.2.2.1
      exact tx_tail (pc := 4) (h := (h.1, h.2.1, h.2.2.1, h.2.2.2.1 - 1, h.2.2.2.2 - 6)) B.exec hb hown B.notSynchronized hno (hl.2.1.trans hml.symm) hts hfl (x := 0) (cls := tx_IA) rfl (by decide +kernel) (by decide +kernel : Cond.classLink "VaultDevices" 186 tx_IA ∈ tb_WA) (by decide +kernel) (by decide +kernel) (tx_atoms1 hts hK.2.2.2) hstr (by decide +kernel) (by decide +kernel) (by decide +kernel) (by decide +kernel) (by decide +kernel) ⟨hd, Nat.le_refl _, Nat.le_refl _, hlw⟩ hPw hDw.self
    · cases hz
  · next q0 hzz =>
    split at hz
    · next fs hq =>
      split at hz
      · next hc =>
        cases hz
        refine sm_MetT_ofW (cc := tb_bc 22) (maxL := (sm_nL tb_T 22).1) (ret := sm_rt tb_T 22) (by decide +kernel) rfl ?_
        intro p e s m args below meth c s₁ B hml hv
        obtain ⟨rfl, hsz, hPw, hDw, hK, hfx⟩ := hv
        have hts0 := atoms_spec (ws := Cond.code (tb_nm 22) (tb_bc 22) (sm_nL tb_T 22).1 (sm_rt tb_T 22) :: tb_WA) B.pre
        have hts : ∀ w ∈ tb_WA, w.before _ s = true := fun w hw => hts0 w (List.mem_cons_of_mem _ hw)
        have hown : s.vm.findClass "VaultDevices" = some m.cls := findClass_of_methodNamed B.named
        have hemp := B.noHandlers (hts0 _ List.mem_cons_self)
        have hno : c.exceptionTable.toList = [] := by
          have h0 : c.exceptionTable.size = 0 := by simpa [Array.isEmpty] using hemp
          exact List.eq_nil_of_length_eq_zero (by simpa using h0)
        subst hsz
        rw [lg_entry_eq]
        have hl := sm_entry (b := b) (ad := ad) (n := (sm_nL tb_T 22).1) hvs hlen
        generalize (lg_sl (List.map (sm_v b ad) [Value.ref q0]) ++ List.replicate ((sm_nL tb_T 22).1 - (lg_sl (List.map (sm_v b ad) [Value.ref q0])).length) Slot.unset).toArray = ls at hl ⊢
        have hb : c.code = tb_bc 22 := B.bytes
        have h0 : ls[0]? = some (.val (.ref (ad q0))) := (hl.2.2.2 0 (.ref q0) rfl).1
        refine lv_aload_n (i := 0) B.exec hb (by decide +kernel : decode (tb_bc 22) 0 = .ok (.aload_n 0, 1)) rfl h0 ?_
        refine va_getN (index := 56) (host := "VaultDevices") (C := "VaultDevices$Device") (T := tb_TX4) (N := 4) (ci := 4) (v := .int (h.2.1 q0 3)) B.exec hb hts tb_w4 hown hK.1 hPw q0 (sm_w_get hq) rfl 3 (by decide) (va_Nw.use rfl (hK.2.1 (.fieldLinkNest "VaultDevices" 56 "VaultDevices$Device" "locked" "Z" "VaultDevices") (by decide +kernel))) (fun _ h9 => h9) (by rw [List.getElem?_mapIdx, hc.1]; rfl) (by decide +kernel : decode (tb_bc 22) 1 = .ok (.getfield 56, 3)) ?_
        refine lv_if_eq (tgt := 17) B.exec hb (by decide +kernel : decode (tb_bc 22) 4 = .ok (.ifCond .eq 13, 3)) (by decide) (fun h9 => absurd h9 hc.2) (fun _ => ?_)
        obtain ⟨q, hstr⟩ := hK.2.2.2.2.2.2.2.1
        exact tx_tail (pc := 7) (h := (h.1, h.2.1, h.2.2.1, h.2.2.2.1 - 1, h.2.2.2.2 - 6)) B.exec hb hown B.notSynchronized hno (hl.2.1.trans hml.symm) hts hfl (x := 1) (cls := tx_IS) rfl (by decide +kernel) (by decide +kernel : Cond.classLink "VaultDevices" 193 tx_IS ∈ tb_WA) (by decide +kernel) (by decide +kernel) (tx_atoms2 hts hK.2.2.2) hstr (by decide +kernel) (by decide +kernel) (by decide +kernel) (by decide +kernel) (by decide +kernel) ⟨hd, Nat.le_refl _, Nat.le_refl _, hlw⟩ hPw hDw.self
      · cases hz
    · cases hz
  · cases hz
end
section
/-! ===== the law's start ===== -/
/-! THE CLAIM OUT OF ONE WALK OF THE LAW'S BODY. Your part is whole_start (and what it stands on); all else here is the same for every law, but numbers. -/
def R_law : String := "VaultDevicesLaw"
def lw_P (b : Addr) (xs : List Int32) (args : Array Value) (s : State) : Prop := args = #[.ref b] ∧ s.IntsAt b xs ∧ xs.length ≤ 2048 ∧ (Jvm.Cond.and given_1 narrow_1).before args s = true
def lw_Q (_ : Array Value) (s : State) (o : Outcome) (t : State) : Prop := o = .returned (some (.int 1)) ∧ Framed s o t [] 601024 7293034
def lw_Z (below : List Frame) (a : Array Value) (s : State) : State → Prop := fun t => ∃ o, t.status = .running ∧ Ended t below o ∧ lw_Q a s o t
/-- the law's own end, with 1 on the stack, nothing written that was there before, its room as the claim has it -/
theorem lw_ret {p : Program} {l : Launch} {e : Env} {s : State} {m : MethodId} {below : List Frame} {meth : Method} {c : Code} {b : Nat} (hx : p.tables.exec = Jvm.exec) (hb : c.code = code) (hr : meth.sig.returnType = ret) (hlocks : meth.locks = false) {pc : Nat} {H : Heap} {ls : Array Slot} (hdg : decode code pc = .ok (.ireturn, 1)) : W p l e room_1 s m #[Value.ref b] below meth c H [] 601024 7293034 (lw_Z below #[Value.ref b] s) (F0 m pc ls [.int 1]) := by
  intro T hT X
  obtain ⟨fs, hret, hrun, hended, hW, hframe⟩ := X.leave (v := some (.int 1)) (hlocks := hlocks) (fun h => by rw [hr] at h; cases h)
  have hmeth' : T.vm.method? m = some meth := X.method'
  refine ⟨T.setFrames fs, ?_, .returned (some (.int 1)), hrun, hended, rfl, ⟨_, rfl⟩, hW, hframe⟩
  jvm_step X.here [X.here.top, hx, hb, hdg, hmeth', hr, ret, narrow_b1]
  (try refine ⟨rfl, ?_⟩); (try refine ⟨rfl, ?_⟩)
  first | (intro acts; rw [hret _ acts rfl rfl rfl]) | rw [hret _ _ rfl rfl rfl]
  exact Steps.refl _
/-- what holds at the law's entry: the machine, the code, the tables' words (any of lw_tbl by 'hts w (by decide +kernel)'), the script of L ints xs at the cell b, what the Statement gives of the start (any of its parts by flat_of_before) -/
def lw_At (p : Program) (s : State) (m : MethodId) (meth : Method) (c : Code) (b L : Nat) (xs : Nat → Int32) : Prop :=
  p.tables.exec = Jvm.exec ∧ c.code = code ∧ meth.sig.returnType = ret ∧ c.maxLocals = 7 ∧ s.vm.findClass R_law = some m.cls ∧ (∀ w ∈ lw_tbl, w.before #[Value.ref b] s = true) ∧ va_X b L xs s s.heap ∧ b < s.heap.size ∧ meth.locks = false ∧ (Jvm.Cond.and given_1 narrow_1).before #[Value.ref b] s = true

theorem tx_W_mono {p : Program} {l : Launch} {e : Env} {R : Room} {s : State} {m : MethodId} {args : Array Value} {below : List Frame} {meth : Method} {c : Code} {H : Heap} {locs : List Loc} {cells slots : Nat} {Q Q' : State → Prop} {g : JFrame} (h : W p l e R s m args below meth c H locs cells slots Q g) (hq : ∀ t, Q t → Q' t) : W p l e R s m args below meth c H locs cells slots Q' g := by
  intro T hT X
  obtain ⟨t, a, b⟩ := h T hT X
  exact ⟨t, a, hq t b⟩
/-- nothing that was there before was written, and no more was made than the claim has room for -/
theorem tx_same0 {s t : State} {L : List Loc} {k n k' n' : Nat} (h : s.sameButNew t L k n) (hL : ∀ q ∈ L, s.heap.size ≤ q.base) (hk : k ≤ k') (hn : n ≤ n') : s.sameButNew t [] k' n' := by
  obtain ⟨h1, h2, h3, h4, h5, h6⟩ := h
  refine ⟨h1, h2, by omega, h4, by omega, fun a c hc => ?_⟩
  obtain ⟨c', g1, g2, g3, g4⟩ := h6 a c hc
  refine ⟨c', g1, g2, g3, fun i _ => g4 i fun hm => ?_⟩
  have h9 := hL _ hm
  have h8 := (Array.getElem?_eq_some_iff.mp hc).1
  have h7 : s.heap.size ≤ a := h9
  omega
def tx_h0 : sm_H := ([], fun _ _ => 0, fun _ _ => 0, 601024, 7293034)
set_option maxHeartbeats 4000000 in
/-- a run of the small machine from the law's start that answers 1 gives the law's own walk -/
theorem tx_start {p : Program} {e : Env} {s : State} {m : MethodId} {below : List Frame} {meth : Method} {c : Code} (l : Launch) (hfl : l.flags = flags0) {b L : Nat} {xs : Nat → Int32} (C0 : lw_At p s m meth c b L xs) (hno : c.exceptionTable.toList = []) (hname : meth.name = "law") {n : Nat} {h' : sm_H}
    (hrun : sm_run tb_T (L, xs) tb_ok n 11 388 139 0 (sm_ent 7 [.retAddr 0]) [] tx_h0 = some (.inl (some (.int 1)), h')) : W p l e room_1 s m #[Value.ref b] below meth c s.heap [] 0 0 (lw_Z below #[Value.ref b] s) (entryFrame m ([Value.ref b] : List Value).toArray 7) := by
  obtain ⟨hx, hb, hret, hml, hown, hts0, hX, hbl, hlocks, hgv⟩ := C0
  have hts : ∀ w ∈ tb_WA, w.before #[Value.ref b] s = true := fun w hw => hts0 w (List.mem_filter.mp hw).1
  have hN : ∀ w ∈ tb_NW, va_Nw w s := fun w hw => by
    have h1 := hts0 w (List.mem_append_right _ (List.mem_filter.mp hw).1)
    have h2 := (List.mem_filter.mp hw).2
    cases w <;> first | exact va_Nw.of rfl h1 | (simp [tb_nest] at h2)
  have hflat := flat_of_before _ hgv
  have hAO : va_AO "VaultDevices$Device" s := va_AO.of (hts0 (.arrayOver (.object "VaultDevices$Device")) (by decide +kernel))
  obtain ⟨c0, i0, k0⟩ := u_known (n := 6) hts tb_w0 (hts (.instantiable "VaultDevices" 6) (by decide +kernel))
  obtain ⟨c1, i1, k1⟩ := u_known (n := 7) hts tb_w1 (hts (.instantiable "VaultDevices$Terms" 7) (by decide +kernel))
  obtain ⟨c2, i2, k2⟩ := u_known (n := 3) hts tb_w2 (hts (.instantiable "VaultDevices$Seals" 3) (by decide +kernel))
  obtain ⟨c3, i3, k3⟩ := u_known (n := 5) hts tb_w3 (hts (.instantiable "VaultDevices$Mail" 5) (by decide +kernel))
  obtain ⟨c4, i4, k4⟩ := u_known (n := 4) hts tb_w4 (hts (.instantiable "VaultDevices$Device" 4) (by decide +kernel))
  obtain ⟨c5, i5, k5⟩ := u_known (n := 7) hts tb_w5 (hts (.instantiable "VaultDevices$State" 7) (by decide +kernel))
  obtain ⟨c6, i6, k6⟩ := u_known (n := 28) hts tb_w6 (hts (.instantiable "VaultDevicesModel" 28) (by decide +kernel))
  obtain ⟨a0, ka0, cm0, f01, f02, f03⟩ := Cond.arrayClass_spec (hts (.arrayClass .int) (by decide +kernel))
  obtain ⟨a1, ka1, cm1, f11, f12, f13⟩ := Cond.arrayClass_spec (hts (.arrayClass .boolean) (by decide +kernel))
  obtain ⟨a2, ka2, cm2, f21, f22, f23⟩ := Cond.arrayClass_spec (hts (.arrayClass .long) (by decide +kernel))
  obtain ⟨cm3, a3, ka3, f31, f32, f33, f34, f35⟩ := Cond.arrayOver_spec hAO
  let D : va_G := (fun c => match c with
    | 0 => c0
    | 1 => c1
    | 2 => c2
    | 3 => c3
    | 4 => c4
    | 5 => c5
    | _ => c6, fun c => match c with
    | 0 => i0
    | 1 => i1
    | 2 => i2
    | 3 => i3
    | 4 => i4
    | 5 => i5
    | _ => i6)
  let cA : Nat → ClassId := fun t => match t with
    | 0 => a0
    | 1 => a1
    | 2 => a2
    | _ => a3
  have hK : va_K D tb_cl (sm_tys cA tb_tyN) s := by
    refine ⟨fun c q h => ?_, fun k q h => ?_⟩
    · match c, h with
      | 0, h => cases h; exact k0
      | 1, h => cases h; exact k1
      | 2, h => cases h; exact k2
      | 3, h => cases h; exact k3
      | 4, h => cases h; exact k4
      | 5, h => cases h; exact k5
      | 6, h => cases h; exact k6
      | n + 7, h => exact absurd (List.getElem?_eq_some_iff.mp h).1 (by show ¬ n + 7 < 7; omega)
    · have r3 : ArrOfT s a3 (.object "VaultDevices$Device") ∧ va_RA s a3 (.object "VaultDevices$Device") := ⟨fun N z => ⟨(fun k h => by cases h), ka3, f33, cm3, f34⟩, ka3, cm3, f33, f34, f31, f35⟩
      match k, h with
      | 0, h => cases h; exact ⟨fun N z => ⟨(fun k h => by cases h), ka0, f02, cm0, f03⟩, f01⟩
      | 1, h => cases h; exact ⟨fun N z => ⟨(fun k h => by cases h), ka1, f12, cm1, f13⟩, f11⟩
      | 2, h => cases h; exact ⟨fun N z => ⟨(fun k h => by cases h), ka2, f22, cm2, f23⟩, f21⟩
      | 3, h => cases h; exact r3
      | 4, h => cases h; exact r3
      | 5, h => cases h; exact r3
      | n + 6, h => exact absurd (List.getElem?_eq_some_iff.mp h).1 (by show ¬ n + 6 < 6; omega)
  have hfx : ∀ (q : Nat) (cell : Cell), s.heap[q]? = some cell → cell.vm.isStatics = true → q < s.heap.size := fun q cell h _ => (Array.getElem?_eq_some_iff.mp h).1
  have nc : ∀ (A B : String), (Cond.not (Cond.castable A B)).before #[Value.ref b] s = true → ∀ c t, s.vm.findClass A = some c → s.vm.findClass B = some t → s.vm.assignable c t = false := by
    intro A B h c t hc ht
    simp only [Cond.before, Cond.holds, Cond.value, hc, ht] at h
    simpa using h
  have hKT : tx_KT b (L, xs) (fun q => q < s.heap.size) s := by
    refine ⟨hX, tx_sf_of hfx (hts0 (.laysStatic "java/lang/Throwable" "UNASSIGNED_STACK" "[Ljava/lang/StackTraceElement;") (by decide +kernel)) (hflat (.isRef (.static "java/lang/Throwable" "UNASSIGNED_STACK" "[Ljava/lang/StackTraceElement;")) (by decide +kernel)), tx_sf_of hfx (hts0 (.laysStatic "java/lang/Throwable" "SUPPRESSED_SENTINEL" "Ljava/util/List;") (by decide +kernel)) (hflat (.isRef (.static "java/lang/Throwable" "SUPPRESSED_SENTINEL" "Ljava/util/List;")) (by decide +kernel)), ?_, ?_, ?_, ?_⟩
    · obtain ⟨a, _, _, _, q1, -⟩ := Cond.exactly_spec (args := #[Value.ref b]) (first := s) (o := none) (s := s) (idx := []) (t := .string "VaultDevices" 188) (cls := "java/lang/String") (hflat (.exactly (.string "VaultDevices" 188) "java/lang/String") (by decide +kernel))
      exact ⟨a, vk_R.of (hts0 (.stringRef "VaultDevices" 188 tx_t1) (by decide +kernel)) q1⟩
    · obtain ⟨a, _, _, _, q1, -⟩ := Cond.exactly_spec (args := #[Value.ref b]) (first := s) (o := none) (s := s) (idx := []) (t := .string "VaultDevices" 195) (cls := "java/lang/String") (hflat (.exactly (.string "VaultDevices" 195) "java/lang/String") (by decide +kernel))
      exact ⟨a, vk_R.of (hts0 (.stringRef "VaultDevices" 195 tx_t2) (by decide +kernel)) q1⟩
    · intro i j hi hj hij
      rcases (by omega : (i = 0 ∧ j = 1) ∨ (i = 1 ∧ j = 0)) with ⟨rfl, rfl⟩ | ⟨rfl, rfl⟩
      · exact nc _ _ (hflat (.not (.castable "java/lang/IllegalArgumentException" "java/lang/IllegalStateException")) (by decide +kernel))
      · exact nc _ _ (hflat (.not (.castable "java/lang/IllegalStateException" "java/lang/IllegalArgumentException")) (by decide +kernel))
    · intro y hy
      have h9 : Cond.declares y ∈ lw_tbl := (by decide +kernel : ∀ y ∈ tx_ds, Cond.declares y ∈ lw_tbl) y hy
      exact va_Nw.of rfl (hts0 _ h9)
  have MT := sm_all (l := l) (D := D) (cA := cA) (b := b) (X := (L, xs)) (fx := fun q => q < s.heap.size) (KT := tx_KT b (L, xs) (fun q => q < s.heap.size)) (XC := tb_XC) (eh := tb_eh) tb_Tab (tx_Mv hbl) tb_good tb_CB tb_CW tb_XN tb_XB (fun U h => h.2.2.2.2.2.1) tb_TE (tx_Th hfl) n
  have W0 := MT 11 388 139 0 (sm_ent 7 [.retAddr 0]) [] tx_h0 (.inl (some (.int 1))) h' hrun p e room_1 s m #[Value.ref b] below meth c (fun q => s.heap.size ≤ q) (fun _ => 0) 0 601024 7293034 hx hb hml hret hlocks hown hname hno hts ⟨hK, hN, fun C hC => by rw [List.mem_singleton.mp hC]; exact hAO, hKT⟩ (fun q hq => ⟨hq, Nat.not_le.mpr hq⟩) (fun _ h => h) (Nat.zero_le _) ⟨Nat.le_refl _, Nat.le_refl _⟩ ⟨Nat.sub_le _ _, Nat.sub_le _ _⟩ (Nat.le_refl _) (Nat.le_refl _)
  rw [lg_entry_eq]
  have W1 := W0 (fun _ => 0) s.heap [] _ (fun _ _ => rfl) (fun k q h => by cases h) ⟨fun i j x y h => (by cases h), fun k q h => (by cases h)⟩ va_S.rf (sm_entry (b := b) (ad := fun _ => 0) (n := 7) (vs := [.retAddr 0]) (by decide) (by decide))
  refine tx_W_mono W1 (fun t ht => ?_)
  obtain ⟨o, t1, t2, ⟨⟨ad', -, ho, -⟩, -⟩, Lc, ⟨t4, t5, t6⟩, t7⟩ := ht
  subst ho
  exact ⟨_, t1, t2, rfl, t4, t5, tx_same0 t6 t7 (Nat.sub_le _ _) (Nat.sub_le _ _)⟩
end
section
/-! ===== rules for runs: one for each instruction (printed by program) ===== -/
def wSH : List sm_S := [.inl (0, [some (some 1), some (some 8), some (some 12), some (some 17), some (some 36), none]), .inl (1, [some (some 2), some (some 3), some (some 4), some (some 5), some (some 6), some (some 7), none]), .inr (.inl (0, 900)), .inr (.inl (0, 900)), .inr (.inl (0, 900)), .inr (.inl (1, 900)), .inr (.inl (0, 901)), .inr (.inl (0, 900)), .inl (2, [some (some 9), some (some 10), some (some 11)]), .inr (.inl (0, 6)), .inr (.inl (0, 12)), .inr (.inl (0, 3)), .inl (3, [some (some 13), some (some 14), some (some 15), some (some 16), none]), .inr (.inl (0, 12)), .inr (.inl (0, 12)), .inr (.inl (0, 12)), .inr (.inl (0, 12)), .inr (.inr (.inr (3, [some 18, some 24, some 30]))), .inl (4, [some (some 19), some (some 23), none, none]), .inl (5, [none, none, none, some (some 20), some (some 21), none, some (some 22)]), .inr (.inl (0, 3)), .inr (.inl (0, 12)), .inr (.inl (0, 24)), .inr (.inl (0, 3)), .inl (4, [some (some 25), some (some 29), none, none]), .inl (5, [none, none, none, some (some 26), some (some 27), none, some (some 28)]), .inr (.inl (0, 3)), .inr (.inl (0, 12)), .inr (.inl (0, 24)), .inr (.inl (0, 3)), .inl (4, [some (some 31), some (some 35), none, none]), .inl (5, [none, none, none, some (some 32), some (some 33), none, some (some 34)]), .inr (.inl (0, 3)), .inr (.inl (0, 12)), .inr (.inl (0, 24)), .inr (.inl (0, 3)), .inl (5, [none, none, none, some (some 37), some (some 38), none, some (some 39)]), .inr (.inl (0, 3)), .inr (.inl (0, 12)), .inr (.inl (0, 24)), .inl (6, [none, none, some (some 41), some (some 42), some (some 43), some (some 44), some (some 45), none, some (some 46), some (some 47), some (some 48), some (some 49), some (some 50), some (some 51), some (some 52), some (some 53), some (some 54), some (some 55), some (some 56), some (some 57), none, some (some 58), some (some 59), some (some 60), some (some 61), none, none, none]), .inr (.inl (0, 900)), .inr (.inl (0, 900)), .inr (.inl (0, 900)), .inr (.inl (1, 900)), .inr (.inl (1, 900)), .inr (.inl (0, 5)), .inr (.inl (0, 5)), .inr (.inl (0, 5)), .inr (.inl (0, 15)), .inr (.inl (0, 5)), .inr (.inl (0, 72)), .inr (.inl (0, 72)), .inr (.inl (0, 72)), .inr (.inl (0, 72)), .inr (.inl (1, 3)), .inr (.inl (0, 9)), .inr (.inl (0, 3)), .inr (.inl (0, 12)), .inr (.inl (0, 12)), .inr (.inl (0, 12)), .inr (.inl (0, 12)), .inr (.inr (.inl 1))]
def cN (n : Int) : Prop := Int32.ofInt n = nI n.toNat
theorem ci_m1 : Int32.ofInt (-1) = -1 := by decide +kernel
theorem ci_0 : Int32.ofInt 0 = nI 0 := by decide +kernel
theorem ci_1 : Int32.ofInt 1 = nI 1 := by decide +kernel
theorem ci_2 : Int32.ofInt 2 = nI 2 := by decide +kernel
theorem ci_3 : Int32.ofInt 3 = nI 3 := by decide +kernel
theorem ci_4 : Int32.ofInt 4 = nI 4 := by decide +kernel
theorem ci_5 : Int32.ofInt 5 = nI 5 := by decide +kernel
theorem cb_m2 : (Int8.ofInt (-2)).toInt32 = -2 := by decide +kernel
theorem cb_6 : (Int8.ofInt 6).toInt32 = nI 6 := by decide +kernel
theorem cb_7 : (Int8.ofInt 7).toInt32 = nI 7 := by decide +kernel
theorem cb_8 : (Int8.ofInt 8).toInt32 = nI 8 := by decide +kernel
theorem cb_9 : (Int8.ofInt 9).toInt32 = nI 9 := by decide +kernel
theorem cb_10 : (Int8.ofInt 10).toInt32 = nI 10 := by decide +kernel
theorem cb_11 : (Int8.ofInt 11).toInt32 = nI 11 := by decide +kernel
theorem cb_12 : (Int8.ofInt 12).toInt32 = nI 12 := by decide +kernel
theorem cb_13 : (Int8.ofInt 13).toInt32 = nI 13 := by decide +kernel
theorem cb_15 : (Int8.ofInt 15).toInt32 = nI 15 := by decide +kernel
theorem cb_24 : (Int8.ofInt 24).toInt32 = nI 24 := by decide +kernel
theorem cb_30 : (Int8.ofInt 30).toInt32 = nI 30 := by decide +kernel
theorem cb_31 : (Int8.ofInt 31).toInt32 = nI 31 := by decide +kernel
theorem cb_36 : (Int8.ofInt 36).toInt32 = nI 36 := by decide +kernel
theorem cb_48 : (Int8.ofInt 48).toInt32 = nI 48 := by decide +kernel
theorem cb_63 : (Int8.ofInt 63).toInt32 = nI 63 := by decide +kernel
theorem cb_64 : (Int8.ofInt 64).toInt32 = nI 64 := by decide +kernel
theorem cb_72 : (Int8.ofInt 72).toInt32 = nI 72 := by decide +kernel
theorem cb_100 : (Int8.ofInt 100).toInt32 = nI 100 := by decide +kernel
theorem cb_127 : (Int8.ofInt 127).toInt32 = nI 127 := by decide +kernel
theorem cs_163 : (Int16.ofInt 163).toInt32 = nI 163 := by decide +kernel
theorem cs_900 : (Int16.ofInt 900).toInt32 = nI 900 := by decide +kernel
theorem cs_901 : (Int16.ofInt 901).toInt32 = nI 901 := by decide +kernel
theorem cs_1000 : (Int16.ofInt 1000).toInt32 = nI 1000 := by decide +kernel
theorem cl_0_1 : tb_fd tb_CL 0 1 = some (0, 0, 1) := by decide +kernel
theorem cl_0_9 : tb_fd tb_CL 0 9 = some (5, 28, 1) := by decide +kernel
theorem cl_0_18 : tb_fd tb_CL 0 18 = some (5, 43, 1) := by decide +kernel
theorem cl_0_25 : tb_fd tb_CL 0 25 = some (5, 54, 1) := by decide +kernel
theorem cl_0_36 : tb_fd tb_CL 0 36 = some (5, 57, 1) := by decide +kernel
theorem cl_0_39 : tb_fd tb_CL 0 39 = some (5, 58, 1) := by decide +kernel
theorem cl_0_48 : tb_fd tb_CL 0 48 = some (3, 2, 2) := by decide +kernel
theorem cl_0_52 : tb_fd tb_CL 0 52 = some (3, 19, 1) := by decide +kernel
theorem cl_0_66 : tb_fd tb_CL 0 66 = some (3, 22, 1) := by decide +kernel
theorem cl_0_77 : tb_fd tb_CL 0 77 = some (4, 69, 2) := by decide +kernel
theorem cl_0_81 : tb_fd tb_CL 0 81 = some (4, 70, 2) := by decide +kernel
theorem cl_0_85 : tb_fd tb_CL 0 85 = some (3, 125, 4) := by decide +kernel
theorem cl_0_91 : tb_fd tb_CL 0 91 = some (4, 62, 2) := by decide +kernel
theorem cl_0_94 : tb_fd tb_CL 0 94 = some (4, 71, 3) := by decide +kernel
theorem cl_0_101 : tb_fd tb_CL 0 101 = some (4, 59, 4) := by decide +kernel
theorem cl_0_105 : tb_fd tb_CL 0 105 = some (4, 56, 5) := by decide +kernel
theorem cl_0_109 : tb_fd tb_CL 0 109 = some (4, 50, 3) := by decide +kernel
theorem cl_0_116 : tb_fd tb_CL 0 116 = some (4, 35, 2) := by decide +kernel
theorem cl_0_132 : tb_fd tb_CL 0 132 = some (4, 55, 2) := by decide +kernel
theorem cl_0_135 : tb_fd tb_CL 0 135 = some (4, 3, 3) := by decide +kernel
theorem cl_0_139 : tb_fd tb_CL 0 139 = some (4, 4, 2) := by decide +kernel
theorem cl_0_142 : tb_fd tb_CL 0 142 = some (4, 38, 2) := by decide +kernel
theorem cl_0_146 : tb_fd tb_CL 0 146 = some (4, 39, 4) := by decide +kernel
theorem cl_0_150 : tb_fd tb_CL 0 150 = some (4, 31, 2) := by decide +kernel
theorem cl_0_153 : tb_fd tb_CL 0 153 = some (4, 33, 2) := by decide +kernel
theorem cl_0_156 : tb_fd tb_CL 0 156 = some (4, 32, 2) := by decide +kernel
theorem cl_0_159 : tb_fd tb_CL 0 159 = some (4, 40, 4) := by decide +kernel
theorem cl_0_168 : tb_fd tb_CL 0 168 = some (4, 44, 4) := by decide +kernel
theorem cl_0_172 : tb_fd tb_CL 0 172 = some (4, 64, 2) := by decide +kernel
theorem cl_0_176 : tb_fd tb_CL 0 176 = some (4, 65, 2) := by decide +kernel
theorem cl_0_180 : tb_fd tb_CL 0 180 = some (2, 0, 5) := by decide +kernel
theorem cl_1_3 : tb_fd tb_CL 1 3 = some (0, 0, 1) := by decide +kernel
theorem cl_1_31 : tb_fd tb_CL 1 31 = some (3, 140, 2) := by decide +kernel
theorem cl_1_41 : tb_fd tb_CL 1 41 = some (3, 2, 2) := by decide +kernel
theorem cl_1_45 : tb_fd tb_CL 1 45 = some (4, 31, 2) := by decide +kernel
theorem cl_1_49 : tb_fd tb_CL 1 49 = some (4, 30, 3) := by decide +kernel
theorem cl_1_53 : tb_fd tb_CL 1 53 = some (4, 40, 4) := by decide +kernel
theorem cl_1_57 : tb_fd tb_CL 1 57 = some (4, 39, 4) := by decide +kernel
theorem cl_1_60 : tb_fd tb_CL 1 60 = some (4, 36, 1) := by decide +kernel
theorem cl_1_63 : tb_fd tb_CL 1 63 = some (4, 37, 2) := by decide +kernel
theorem cl_2_3 : tb_fd tb_CL 2 3 = some (0, 0, 1) := by decide +kernel
theorem cl_2_27 : tb_fd tb_CL 2 27 = some (4, 51, 3) := by decide +kernel
theorem cl_2_36 : tb_fd tb_CL 2 36 = some (4, 39, 4) := by decide +kernel
theorem cl_2_40 : tb_fd tb_CL 2 40 = some (4, 52, 3) := by decide +kernel
theorem cl_2_44 : tb_fd tb_CL 2 44 = some (4, 41, 4) := by decide +kernel
theorem cl_2_48 : tb_fd tb_CL 2 48 = some (4, 42, 2) := by decide +kernel
theorem cl_2_65 : tb_fd tb_CL 2 65 = some (4, 53, 3) := by decide +kernel
theorem cl_2_69 : tb_fd tb_CL 2 69 = some (3, 129, 1) := by decide +kernel
theorem cl_2_75 : tb_fd tb_CL 2 75 = some (3, 127, 1) := by decide +kernel
theorem cl_2_78 : tb_fd tb_CL 2 78 = some (3, 126, 1) := by decide +kernel
theorem cl_2_81 : tb_fd tb_CL 2 81 = some (3, 130, 1) := by decide +kernel
theorem cl_2_84 : tb_fd tb_CL 2 84 = some (4, 29, 3) := by decide +kernel
theorem cl_2_88 : tb_fd tb_CL 2 88 = some (4, 30, 3) := by decide +kernel
theorem cl_2_91 : tb_fd tb_CL 2 91 = some (4, 31, 2) := by decide +kernel
theorem cl_2_94 : tb_fd tb_CL 2 94 = some (4, 32, 2) := by decide +kernel
theorem cl_2_97 : tb_fd tb_CL 2 97 = some (4, 33, 2) := by decide +kernel
theorem cl_2_100 : tb_fd tb_CL 2 100 = some (4, 34, 3) := by decide +kernel
theorem cl_2_103 : tb_fd tb_CL 2 103 = some (3, 45, 3) := by decide +kernel
theorem cl_2_107 : tb_fd tb_CL 2 107 = some (3, 47, 3) := by decide +kernel
theorem cl_2_110 : tb_fd tb_CL 2 110 = some (3, 48, 3) := by decide +kernel
theorem cl_2_113 : tb_fd tb_CL 2 113 = some (3, 46, 2) := by decide +kernel
theorem cl_2_116 : tb_fd tb_CL 2 116 = some (4, 59, 4) := by decide +kernel
theorem cl_2_120 : tb_fd tb_CL 2 120 = some (3, 2, 2) := by decide +kernel
theorem cl_2_124 : tb_fd tb_CL 2 124 = some (3, 49, 2) := by decide +kernel
theorem cl_2_127 : tb_fd tb_CL 2 127 = some (4, 60, 2) := by decide +kernel
theorem cl_2_131 : tb_fd tb_CL 2 131 = some (4, 62, 2) := by decide +kernel
theorem cl_2_134 : tb_fd tb_CL 2 134 = some (3, 125, 4) := by decide +kernel
theorem cl_3_3 : tb_fd tb_CL 3 3 = some (0, 0, 1) := by decide +kernel
theorem cl_4_3 : tb_fd tb_CL 4 3 = some (0, 0, 1) := by decide +kernel
theorem cl_4_11 : tb_fd tb_CL 4 11 = some (5, 58, 1) := by decide +kernel
theorem cl_5_3 : tb_fd tb_CL 5 3 = some (0, 0, 1) := by decide +kernel
theorem cl_5_34 : tb_fd tb_CL 5 34 = some (3, 129, 1) := by decide +kernel
theorem cl_5_40 : tb_fd tb_CL 5 40 = some (3, 130, 1) := by decide +kernel
theorem cl_5_43 : tb_fd tb_CL 5 43 = some (3, 63, 3) := by decide +kernel
theorem cl_5_47 : tb_fd tb_CL 5 47 = some (3, 127, 1) := by decide +kernel
theorem cl_5_50 : tb_fd tb_CL 5 50 = some (3, 2, 2) := by decide +kernel
theorem cl_5_54 : tb_fd tb_CL 5 54 = some (3, 126, 1) := by decide +kernel
theorem cl_5_57 : tb_fd tb_CL 5 57 = some (4, 66, 2) := by decide +kernel
theorem cl_5_61 : tb_fd tb_CL 5 61 = some (4, 61, 2) := by decide +kernel
theorem cl_5_64 : tb_fd tb_CL 5 64 = some (2, 0, 5) := by decide +kernel
theorem cl_5_70 : tb_fd tb_CL 5 70 = some (4, 67, 2) := by decide +kernel
theorem cl_5_74 : tb_fd tb_CL 5 74 = some (4, 68, 2) := by decide +kernel
theorem cl_5_77 : tb_fd tb_CL 5 77 = some (1, 0, 2) := by decide +kernel
theorem cl_5_83 : tb_fd tb_CL 5 83 = some (4, 59, 4) := by decide +kernel
theorem cl_5_87 : tb_fd tb_CL 5 87 = some (3, 128, 1) := by decide +kernel
theorem cl_6_1 : tb_fd tb_CL 6 1 = some (0, 0, 1) := by decide +kernel
theorem cl_6_84 : tb_fd tb_CL 6 84 = some (4, 93, 4) := by decide +kernel
theorem cl_6_92 : tb_fd tb_CL 6 92 = some (4, 92, 4) := by decide +kernel
theorem cl_6_95 : tb_fd tb_CL 6 95 = some (4, 94, 2) := by decide +kernel
theorem cl_6_99 : tb_fd tb_CL 6 99 = some (4, 81, 6) := by decide +kernel
theorem cl_6_103 : tb_fd tb_CL 6 103 = some (4, 83, 3) := by decide +kernel
theorem cl_6_107 : tb_fd tb_CL 6 107 = some (4, 80, 3) := by decide +kernel
theorem cl_6_111 : tb_fd tb_CL 6 111 = some (4, 107, 3) := by decide +kernel
theorem cl_6_114 : tb_fd tb_CL 6 114 = some (4, 105, 4) := by decide +kernel
theorem cl_6_118 : tb_fd tb_CL 6 118 = some (4, 82, 2) := by decide +kernel
theorem cl_6_128 : tb_fd tb_CL 6 128 = some (4, 100, 3) := by decide +kernel
theorem cl_6_131 : tb_fd tb_CL 6 131 = some (4, 102, 1) := by decide +kernel
theorem cl_6_135 : tb_fd tb_CL 6 135 = some (4, 101, 3) := by decide +kernel
theorem cl_6_139 : tb_fd tb_CL 6 139 = some (4, 103, 2) := by decide +kernel
theorem cl_6_142 : tb_fd tb_CL 6 142 = some (4, 104, 2) := by decide +kernel
theorem cl_6_148 : tb_fd tb_CL 6 148 = some (4, 99, 2) := by decide +kernel
theorem cl_6_152 : tb_fd tb_CL 6 152 = some (4, 106, 2) := by decide +kernel
theorem cl_6_155 : tb_fd tb_CL 6 155 = some (4, 108, 2) := by decide +kernel
theorem cl_6_158 : tb_fd tb_CL 6 158 = some (3, 75, 1) := by decide +kernel
theorem cl_6_161 : tb_fd tb_CL 6 161 = some (4, 78, 3) := by decide +kernel
theorem cl_6_165 : tb_fd tb_CL 6 165 = some (4, 79, 4) := by decide +kernel
theorem cl_6_169 : tb_fd tb_CL 6 169 = some (4, 88, 5) := by decide +kernel
theorem cl_6_173 : tb_fd tb_CL 6 173 = some (4, 91, 2) := by decide +kernel
theorem cl_6_176 : tb_fd tb_CL 6 176 = some (4, 95, 3) := by decide +kernel
theorem cl_6_179 : tb_fd tb_CL 6 179 = some (4, 90, 2) := by decide +kernel
theorem cl_6_182 : tb_fd tb_CL 6 182 = some (4, 97, 2) := by decide +kernel
theorem cl_6_185 : tb_fd tb_CL 6 185 = some (4, 98, 3) := by decide +kernel
theorem cl_6_188 : tb_fd tb_CL 6 188 = some (4, 114, 2) := by decide +kernel
theorem cl_6_191 : tb_fd tb_CL 6 191 = some (4, 115, 1) := by decide +kernel
theorem cl_6_194 : tb_fd tb_CL 6 194 = some (4, 113, 2) := by decide +kernel
theorem cl_8_7 : tb_fd tb_CL 8 7 = some (4, 18, 3) := by decide +kernel
theorem cl_8_15 : tb_fd tb_CL 8 15 = some (4, 20, 2) := by decide +kernel
theorem cl_8_19 : tb_fd tb_CL 8 19 = some (4, 21, 4) := by decide +kernel
theorem cl_8_25 : tb_fd tb_CL 8 25 = some (4, 23, 3) := by decide +kernel
theorem cl_8_29 : tb_fd tb_CL 8 29 = some (4, 24, 4) := by decide +kernel
theorem cl_8_32 : tb_fd tb_CL 8 32 = some (4, 25, 3) := by decide +kernel
theorem cl_8_35 : tb_fd tb_CL 8 35 = some (4, 26, 2) := by decide +kernel
theorem cl_8_38 : tb_fd tb_CL 8 38 = some (4, 27, 2) := by decide +kernel
theorem cl_8_42 : tb_fd tb_CL 8 42 = some (5, 0, 1) := by decide +kernel
theorem cl_8_45 : tb_fd tb_CL 8 45 = some (5, 72, 1) := by decide +kernel
theorem cl_8_46 : tb_fd tb_CL 8 46 = some (3, 131, 4) := by decide +kernel
theorem cl_8_51 : tb_fd tb_CL 8 51 = some (4, 74, 3) := by decide +kernel
theorem cl_8_52 : tb_fd tb_CL 8 52 = some (4, 73, 1) := by decide +kernel
theorem cl_8_56 : tb_fd tb_CL 8 56 = some (3, 132, 3) := by decide +kernel
theorem cl_8_59 : tb_fd tb_CL 8 59 = some (4, 76, 2) := by decide +kernel
theorem cl_8_60 : tb_fd tb_CL 8 60 = some (3, 133, 5) := by decide +kernel
theorem cl_8_63 : tb_fd tb_CL 8 63 = some (4, 77, 4) := by decide +kernel
theorem cl_8_64 : tb_fd tb_CL 8 64 = some (3, 134, 4) := by decide +kernel
theorem cl_8_66 : tb_fd tb_CL 8 66 = some (4, 84, 3) := by decide +kernel
theorem cl_8_67 : tb_fd tb_CL 8 67 = some (3, 135, 5) := by decide +kernel
theorem cl_8_69 : tb_fd tb_CL 8 69 = some (4, 85, 4) := by decide +kernel
theorem cl_8_70 : tb_fd tb_CL 8 70 = some (3, 136, 4) := by decide +kernel
theorem cl_8_72 : tb_fd tb_CL 8 72 = some (4, 86, 3) := by decide +kernel
theorem cl_8_73 : tb_fd tb_CL 8 73 = some (3, 137, 3) := by decide +kernel
theorem cl_8_75 : tb_fd tb_CL 8 75 = some (4, 87, 2) := by decide +kernel
theorem cl_8_76 : tb_fd tb_CL 8 76 = some (3, 138, 3) := by decide +kernel
theorem cl_8_78 : tb_fd tb_CL 8 78 = some (4, 89, 2) := by decide +kernel
theorem cl_8_79 : tb_fd tb_CL 8 79 = some (4, 1, 2) := by decide +kernel
theorem cl_8_82 : tb_fd tb_CL 8 82 = some (4, 96, 2) := by decide +kernel
theorem cl_8_83 : tb_fd tb_CL 8 83 = some (4, 5, 2) := by decide +kernel
theorem cl_8_86 : tb_fd tb_CL 8 86 = some (4, 109, 2) := by decide +kernel
theorem cl_8_87 : tb_fd tb_CL 8 87 = some (4, 6, 3) := by decide +kernel
theorem cl_8_90 : tb_fd tb_CL 8 90 = some (4, 110, 3) := by decide +kernel
theorem cl_8_91 : tb_fd tb_CL 8 91 = some (4, 7, 1) := by decide +kernel
theorem cl_8_94 : tb_fd tb_CL 8 94 = some (4, 111, 1) := by decide +kernel
theorem cl_8_95 : tb_fd tb_CL 8 95 = some (4, 8, 3) := by decide +kernel
theorem cl_8_98 : tb_fd tb_CL 8 98 = some (4, 112, 3) := by decide +kernel
theorem cl_8_99 : tb_fd tb_CL 8 99 = some (4, 9, 2) := by decide +kernel
theorem cl_8_102 : tb_fd tb_CL 8 102 = some (4, 116, 2) := by decide +kernel
theorem cl_8_103 : tb_fd tb_CL 8 103 = some (4, 10, 4) := by decide +kernel
theorem cl_8_106 : tb_fd tb_CL 8 106 = some (4, 117, 4) := by decide +kernel
theorem cl_8_107 : tb_fd tb_CL 8 107 = some (4, 11, 2) := by decide +kernel
theorem cl_8_110 : tb_fd tb_CL 8 110 = some (4, 118, 2) := by decide +kernel
theorem cl_8_111 : tb_fd tb_CL 8 111 = some (4, 12, 2) := by decide +kernel
theorem cl_8_114 : tb_fd tb_CL 8 114 = some (4, 119, 2) := by decide +kernel
theorem cl_8_115 : tb_fd tb_CL 8 115 = some (4, 13, 2) := by decide +kernel
theorem cl_8_118 : tb_fd tb_CL 8 118 = some (4, 120, 2) := by decide +kernel
theorem cl_8_119 : tb_fd tb_CL 8 119 = some (4, 14, 3) := by decide +kernel
theorem cl_8_122 : tb_fd tb_CL 8 122 = some (4, 121, 3) := by decide +kernel
theorem cl_8_123 : tb_fd tb_CL 8 123 = some (4, 15, 2) := by decide +kernel
theorem cl_8_126 : tb_fd tb_CL 8 126 = some (4, 122, 2) := by decide +kernel
theorem cl_8_127 : tb_fd tb_CL 8 127 = some (4, 16, 3) := by decide +kernel
theorem cl_8_130 : tb_fd tb_CL 8 130 = some (4, 123, 3) := by decide +kernel
theorem cl_8_131 : tb_fd tb_CL 8 131 = some (4, 17, 1) := by decide +kernel
theorem cl_8_134 : tb_fd tb_CL 8 134 = some (4, 124, 1) := by decide +kernel
theorem fl_0_10 : tb_fd tb_FL 0 10 = some (0, 0, 2) := by decide +kernel
theorem fl_0_19 : tb_fd tb_FL 0 19 = some (0, 1, 2) := by decide +kernel
theorem fl_0_26 : tb_fd tb_FL 0 26 = some (0, 2, 2) := by decide +kernel
theorem fl_0_32 : tb_fd tb_FL 0 32 = some (0, 3, 2) := by decide +kernel
theorem fl_0_40 : tb_fd tb_FL 0 40 = some (0, 4, 2) := by decide +kernel
theorem fl_0_44 : tb_fd tb_FL 0 44 = some (0, 5, 0) := by decide +kernel
theorem fl_0_56 : tb_fd tb_FL 0 56 = some (4, 3, 1) := by decide +kernel
theorem fl_0_60 : tb_fd tb_FL 0 60 = some (4, 0, 2) := by decide +kernel
theorem fl_0_63 : tb_fd tb_FL 0 63 = some (5, 2, 0) := by decide +kernel
theorem fl_0_70 : tb_fd tb_FL 0 70 = some (5, 3, 2) := by decide +kernel
theorem fl_0_74 : tb_fd tb_FL 0 74 = some (5, 5, 0) := by decide +kernel
theorem fl_0_98 : tb_fd tb_FL 0 98 = some (5, 0, 0) := by decide +kernel
theorem fl_0_113 : tb_fd tb_FL 0 113 = some (4, 2, 0) := by decide +kernel
theorem fl_0_119 : tb_fd tb_FL 0 119 = some (3, 4, 0) := by decide +kernel
theorem fl_0_120 : tb_fd tb_FL 0 120 = some (3, 0, 2) := by decide +kernel
theorem fl_0_123 : tb_fd tb_FL 0 123 = some (3, 1, 2) := by decide +kernel
theorem fl_0_126 : tb_fd tb_FL 0 126 = some (3, 2, 2) := by decide +kernel
theorem fl_0_129 : tb_fd tb_FL 0 129 = some (3, 3, 2) := by decide +kernel
theorem fl_0_162 : tb_fd tb_FL 0 162 = some (4, 1, 2) := by decide +kernel
theorem fl_0_165 : tb_fd tb_FL 0 165 = some (5, 1, 0) := by decide +kernel
theorem fl_1_9 : tb_fd tb_FL 1 9 = some (1, 0, 2) := by decide +kernel
theorem fl_1_15 : tb_fd tb_FL 1 15 = some (1, 1, 2) := by decide +kernel
theorem fl_1_18 : tb_fd tb_FL 1 18 = some (1, 2, 2) := by decide +kernel
theorem fl_1_21 : tb_fd tb_FL 1 21 = some (1, 3, 2) := by decide +kernel
theorem fl_1_25 : tb_fd tb_FL 1 25 = some (1, 4, 2) := by decide +kernel
theorem fl_1_28 : tb_fd tb_FL 1 28 = some (1, 5, 2) := by decide +kernel
theorem fl_1_37 : tb_fd tb_FL 1 37 = some (1, 6, 0) := by decide +kernel
theorem fl_2_11 : tb_fd tb_FL 2 11 = some (2, 0, 2) := by decide +kernel
theorem fl_2_15 : tb_fd tb_FL 2 15 = some (2, 1, 2) := by decide +kernel
theorem fl_2_18 : tb_fd tb_FL 2 18 = some (2, 2, 2) := by decide +kernel
theorem fl_2_21 : tb_fd tb_FL 2 21 = some (1, 6, 0) := by decide +kernel
theorem fl_2_31 : tb_fd tb_FL 2 31 = some (5, 3, 2) := by decide +kernel
theorem fl_2_52 : tb_fd tb_FL 2 52 = some (5, 0, 0) := by decide +kernel
theorem fl_2_55 : tb_fd tb_FL 2 55 = some (5, 1, 0) := by decide +kernel
theorem fl_2_58 : tb_fd tb_FL 2 58 = some (5, 2, 0) := by decide +kernel
theorem fl_2_61 : tb_fd tb_FL 2 61 = some (5, 5, 0) := by decide +kernel
theorem fl_2_62 : tb_fd tb_FL 2 62 = some (5, 4, 2) := by decide +kernel
theorem fl_3_9 : tb_fd tb_FL 3 9 = some (3, 0, 2) := by decide +kernel
theorem fl_3_15 : tb_fd tb_FL 3 15 = some (3, 1, 2) := by decide +kernel
theorem fl_3_18 : tb_fd tb_FL 3 18 = some (3, 2, 2) := by decide +kernel
theorem fl_3_21 : tb_fd tb_FL 3 21 = some (3, 3, 2) := by decide +kernel
theorem fl_3_24 : tb_fd tb_FL 3 24 = some (3, 4, 0) := by decide +kernel
theorem fl_4_12 : tb_fd tb_FL 4 12 = some (4, 0, 2) := by decide +kernel
theorem fl_4_18 : tb_fd tb_FL 4 18 = some (4, 1, 2) := by decide +kernel
theorem fl_4_22 : tb_fd tb_FL 4 22 = some (4, 2, 0) := by decide +kernel
theorem fl_4_26 : tb_fd tb_FL 4 26 = some (4, 3, 1) := by decide +kernel
theorem fl_5_9 : tb_fd tb_FL 5 9 = some (5, 3, 2) := by decide +kernel
theorem fl_5_15 : tb_fd tb_FL 5 15 = some (5, 4, 2) := by decide +kernel
theorem fl_5_18 : tb_fd tb_FL 5 18 = some (5, 6, 2) := by decide +kernel
theorem fl_5_21 : tb_fd tb_FL 5 21 = some (5, 0, 0) := by decide +kernel
theorem fl_5_25 : tb_fd tb_FL 5 25 = some (5, 1, 0) := by decide +kernel
theorem fl_5_28 : tb_fd tb_FL 5 28 = some (5, 2, 0) := by decide +kernel
theorem fl_5_31 : tb_fd tb_FL 5 31 = some (5, 5, 0) := by decide +kernel
theorem fl_6_7 : tb_fd tb_FL 6 7 = some (6, 2, 2) := by decide +kernel
theorem fl_6_13 : tb_fd tb_FL 6 13 = some (6, 3, 2) := by decide +kernel
theorem fl_6_16 : tb_fd tb_FL 6 16 = some (6, 4, 2) := by decide +kernel
theorem fl_6_19 : tb_fd tb_FL 6 19 = some (6, 5, 2) := by decide +kernel
theorem fl_6_23 : tb_fd tb_FL 6 23 = some (6, 6, 2) := by decide +kernel
theorem fl_6_26 : tb_fd tb_FL 6 26 = some (6, 8, 2) := by decide +kernel
theorem fl_6_29 : tb_fd tb_FL 6 29 = some (6, 9, 2) := by decide +kernel
theorem fl_6_32 : tb_fd tb_FL 6 32 = some (6, 10, 2) := by decide +kernel
theorem fl_6_35 : tb_fd tb_FL 6 35 = some (6, 11, 2) := by decide +kernel
theorem fl_6_38 : tb_fd tb_FL 6 38 = some (6, 12, 2) := by decide +kernel
theorem fl_6_41 : tb_fd tb_FL 6 41 = some (6, 13, 2) := by decide +kernel
theorem fl_6_44 : tb_fd tb_FL 6 44 = some (6, 14, 2) := by decide +kernel
theorem fl_6_47 : tb_fd tb_FL 6 47 = some (6, 15, 2) := by decide +kernel
theorem fl_6_50 : tb_fd tb_FL 6 50 = some (6, 16, 2) := by decide +kernel
theorem fl_6_53 : tb_fd tb_FL 6 53 = some (6, 17, 2) := by decide +kernel
theorem fl_6_56 : tb_fd tb_FL 6 56 = some (6, 18, 2) := by decide +kernel
theorem fl_6_59 : tb_fd tb_FL 6 59 = some (6, 19, 2) := by decide +kernel
theorem fl_6_62 : tb_fd tb_FL 6 62 = some (6, 21, 2) := by decide +kernel
theorem fl_6_65 : tb_fd tb_FL 6 65 = some (6, 22, 2) := by decide +kernel
theorem fl_6_68 : tb_fd tb_FL 6 68 = some (6, 23, 2) := by decide +kernel
theorem fl_6_71 : tb_fd tb_FL 6 71 = some (6, 24, 2) := by decide +kernel
theorem fl_6_74 : tb_fd tb_FL 6 74 = some (6, 25, 0) := by decide +kernel
theorem fl_6_78 : tb_fd tb_FL 6 78 = some (6, 0, 0) := by decide +kernel
theorem fl_6_81 : tb_fd tb_FL 6 81 = some (6, 1, 0) := by decide +kernel
theorem fl_6_88 : tb_fd tb_FL 6 88 = some (6, 7, 1) := by decide +kernel
theorem fl_6_122 : tb_fd tb_FL 6 122 = some (6, 27, 1) := by decide +kernel
theorem fl_6_125 : tb_fd tb_FL 6 125 = some (6, 26, 0) := by decide +kernel
theorem fl_6_145 : tb_fd tb_FL 6 145 = some (6, 20, 0) := by decide +kernel
theorem nl_0 : sm_nL tb_T 0 = (2, 0, 0) := rfl
theorem hf_0 : sm_ins tb_T 0 = tb_f0 := rfl
theorem ho_0 : tb_on 0 = 0 := rfl
theorem nl_1 : sm_nL tb_T 1 = (6, 2, 0) := rfl
theorem hf_1 : sm_ins tb_T 1 = tb_f1 := rfl
theorem ho_1 : tb_on 1 = 0 := rfl
theorem nl_2 : sm_nL tb_T 2 = (2, 2, 0) := rfl
theorem hf_2 : sm_ins tb_T 2 = tb_f2 := rfl
theorem ho_2 : tb_on 2 = 0 := rfl
theorem nl_3 : sm_nL tb_T 3 = (4, 0, 0) := rfl
theorem hf_3 : sm_ins tb_T 3 = tb_f3 := rfl
theorem ho_3 : tb_on 3 = 0 := rfl
theorem nl_4 : sm_nL tb_T 4 = (2, 0, 0) := rfl
theorem hf_4 : sm_ins tb_T 4 = tb_f4 := rfl
theorem ho_4 : tb_on 4 = 0 := rfl
theorem nl_5 : sm_nL tb_T 5 = (2, 2, 0) := rfl
theorem hf_5 : sm_ins tb_T 5 = tb_f5 := rfl
theorem ho_5 : tb_on 5 = 0 := rfl
theorem nl_6 : sm_nL tb_T 6 = (3, 1, 0) := rfl
theorem hf_6 : sm_ins tb_T 6 = tb_f6 := rfl
theorem ho_6 : tb_on 6 = 0 := rfl
theorem nl_7 : sm_nL tb_T 7 = (1, 1, 0) := rfl
theorem hf_7 : sm_ins tb_T 7 = tb_f7 := rfl
theorem ho_7 : tb_on 7 = 0 := rfl
theorem nl_8 : sm_nL tb_T 8 = (3, 2, 0) := rfl
theorem hf_8 : sm_ins tb_T 8 = tb_f8 := rfl
theorem ho_8 : tb_on 8 = 0 := rfl
theorem nl_9 : sm_nL tb_T 9 = (2, 2, 0) := rfl
theorem hf_9 : sm_ins tb_T 9 = tb_f9 := rfl
theorem ho_9 : tb_on 9 = 0 := rfl
theorem nl_10 : sm_nL tb_T 10 = (5, 1, 0) := rfl
theorem hf_10 : sm_ins tb_T 10 = tb_f10 := rfl
theorem ho_10 : tb_on 10 = 0 := rfl
theorem nl_11 : sm_nL tb_T 11 = (3, 1, 0) := rfl
theorem hf_11 : sm_ins tb_T 11 = tb_f11 := rfl
theorem ho_11 : tb_on 11 = 0 := rfl
theorem nl_12 : sm_nL tb_T 12 = (3, 1, 0) := rfl
theorem hf_12 : sm_ins tb_T 12 = tb_f12 := rfl
theorem ho_12 : tb_on 12 = 0 := rfl
theorem nl_13 : sm_nL tb_T 13 = (2, 2, 0) := rfl
theorem hf_13 : sm_ins tb_T 13 = tb_f13 := rfl
theorem ho_13 : tb_on 13 = 0 := rfl
theorem nl_14 : sm_nL tb_T 14 = (3, 1, 0) := rfl
theorem hf_14 : sm_ins tb_T 14 = tb_f14 := rfl
theorem ho_14 : tb_on 14 = 0 := rfl
theorem nl_15 : sm_nL tb_T 15 = (2, 1, 0) := rfl
theorem hf_15 : sm_ins tb_T 15 = tb_f15 := rfl
theorem ho_15 : tb_on 15 = 0 := rfl
theorem nl_16 : sm_nL tb_T 16 = (4, 1, 0) := rfl
theorem hf_16 : sm_ins tb_T 16 = tb_f16 := rfl
theorem ho_16 : tb_on 16 = 0 := rfl
theorem nl_17 : sm_nL tb_T 17 = (1, 1, 0) := rfl
theorem hf_17 : sm_ins tb_T 17 = tb_f17 := rfl
theorem ho_17 : tb_on 17 = 0 := rfl
theorem nl_18 : sm_nL tb_T 18 = (4, 2, 0) := rfl
theorem hf_18 : sm_ins tb_T 18 = tb_f18 := rfl
theorem ho_18 : tb_on 18 = 0 := rfl
theorem nl_19 : sm_nL tb_T 19 = (1, 0, 0) := rfl
theorem hf_19 : sm_ins tb_T 19 = tb_f19 := rfl
theorem ho_19 : tb_on 19 = 0 := rfl
theorem nl_20 : sm_nL tb_T 20 = (2, 2, 0) := rfl
theorem hf_20 : sm_ins tb_T 20 = tb_f20 := rfl
theorem ho_20 : tb_on 20 = 0 := rfl
theorem nl_21 : sm_nL tb_T 21 = (5, 1, 0) := rfl
theorem hf_21 : sm_ins tb_T 21 = tb_f21 := rfl
theorem ho_21 : tb_on 21 = 0 := rfl
theorem nl_22 : sm_nL tb_T 22 = (1, 0, 0) := rfl
theorem hf_22 : sm_ins tb_T 22 = tb_f22 := rfl
theorem ho_22 : tb_on 22 = 0 := rfl
theorem nl_23 : sm_nL tb_T 23 = (5, 1, 0) := rfl
theorem hf_23 : sm_ins tb_T 23 = tb_f23 := rfl
theorem ho_23 : tb_on 23 = 0 := rfl
theorem nl_24 : sm_nL tb_T 24 = (5, 1, 0) := rfl
theorem hf_24 : sm_ins tb_T 24 = tb_f24 := rfl
theorem ho_24 : tb_on 24 = 0 := rfl
theorem nl_25 : sm_nL tb_T 25 = (4, 1, 0) := rfl
theorem hf_25 : sm_ins tb_T 25 = tb_f25 := rfl
theorem ho_25 : tb_on 25 = 0 := rfl
theorem nl_26 : sm_nL tb_T 26 = (2, 2, 0) := rfl
theorem hf_26 : sm_ins tb_T 26 = tb_f26 := rfl
theorem ho_26 : tb_on 26 = 0 := rfl
theorem nl_27 : sm_nL tb_T 27 = (3, 1, 0) := rfl
theorem hf_27 : sm_ins tb_T 27 = tb_f27 := rfl
theorem ho_27 : tb_on 27 = 0 := rfl
theorem nl_28 : sm_nL tb_T 28 = (1, 0, 1) := rfl
theorem hf_28 : sm_ins tb_T 28 = tb_f28 := rfl
theorem ho_28 : tb_on 28 = 1 := rfl
theorem nl_29 : sm_nL tb_T 29 = (4, 1, 1) := rfl
theorem hf_29 : sm_ins tb_T 29 = tb_f29 := rfl
theorem ho_29 : tb_on 29 = 1 := rfl
theorem nl_30 : sm_nL tb_T 30 = (5, 1, 1) := rfl
theorem hf_30 : sm_ins tb_T 30 = tb_f30 := rfl
theorem ho_30 : tb_on 30 = 1 := rfl
theorem nl_31 : sm_nL tb_T 31 = (2, 1, 1) := rfl
theorem hf_31 : sm_ins tb_T 31 = tb_f31 := rfl
theorem ho_31 : tb_on 31 = 1 := rfl
theorem nl_32 : sm_nL tb_T 32 = (2, 1, 1) := rfl
theorem hf_32 : sm_ins tb_T 32 = tb_f32 := rfl
theorem ho_32 : tb_on 32 = 1 := rfl
theorem nl_33 : sm_nL tb_T 33 = (2, 1, 1) := rfl
theorem hf_33 : sm_ins tb_T 33 = tb_f33 := rfl
theorem ho_33 : tb_on 33 = 1 := rfl
theorem nl_34 : sm_nL tb_T 34 = (3, 1, 1) := rfl
theorem hf_34 : sm_ins tb_T 34 = tb_f34 := rfl
theorem ho_34 : tb_on 34 = 1 := rfl
theorem nl_35 : sm_nL tb_T 35 = (2, 0, 1) := rfl
theorem hf_35 : sm_ins tb_T 35 = tb_f35 := rfl
theorem ho_35 : tb_on 35 = 1 := rfl
theorem nl_36 : sm_nL tb_T 36 = (4, 0, 1) := rfl
theorem hf_36 : sm_ins tb_T 36 = tb_f36 := rfl
theorem ho_36 : tb_on 36 = 1 := rfl
theorem nl_37 : sm_nL tb_T 37 = (6, 2, 1) := rfl
theorem hf_37 : sm_ins tb_T 37 = tb_f37 := rfl
theorem ho_37 : tb_on 37 = 1 := rfl
theorem nl_38 : sm_nL tb_T 38 = (2, 2, 1) := rfl
theorem hf_38 : sm_ins tb_T 38 = tb_f38 := rfl
theorem ho_38 : tb_on 38 = 1 := rfl
theorem nl_39 : sm_nL tb_T 39 = (6, 1, 1) := rfl
theorem hf_39 : sm_ins tb_T 39 = tb_f39 := rfl
theorem ho_39 : tb_on 39 = 1 := rfl
theorem nl_40 : sm_nL tb_T 40 = (6, 1, 1) := rfl
theorem hf_40 : sm_ins tb_T 40 = tb_f40 := rfl
theorem ho_40 : tb_on 40 = 1 := rfl
theorem nl_41 : sm_nL tb_T 41 = (6, 1, 1) := rfl
theorem hf_41 : sm_ins tb_T 41 = tb_f41 := rfl
theorem ho_41 : tb_on 41 = 1 := rfl
theorem nl_42 : sm_nL tb_T 42 = (3, 0, 1) := rfl
theorem hf_42 : sm_ins tb_T 42 = tb_f42 := rfl
theorem ho_42 : tb_on 42 = 1 := rfl
theorem nl_43 : sm_nL tb_T 43 = (1, 0, 2) := rfl
theorem hf_43 : sm_ins tb_T 43 = tb_f43 := rfl
theorem ho_43 : tb_on 43 = 2 := rfl
theorem nl_44 : sm_nL tb_T 44 = (6, 2, 2) := rfl
theorem hf_44 : sm_ins tb_T 44 = tb_f44 := rfl
theorem ho_44 : tb_on 44 = 2 := rfl
theorem nl_45 : sm_nL tb_T 45 = (6, 2, 2) := rfl
theorem hf_45 : sm_ins tb_T 45 = tb_f45 := rfl
theorem ho_45 : tb_on 45 = 2 := rfl
theorem nl_46 : sm_nL tb_T 46 = (4, 1, 2) := rfl
theorem hf_46 : sm_ins tb_T 46 = tb_f46 := rfl
theorem ho_46 : tb_on 46 = 2 := rfl
theorem nl_47 : sm_nL tb_T 47 = (5, 2, 2) := rfl
theorem hf_47 : sm_ins tb_T 47 = tb_f47 := rfl
theorem ho_47 : tb_on 47 = 2 := rfl
theorem nl_48 : sm_nL tb_T 48 = (6, 2, 2) := rfl
theorem hf_48 : sm_ins tb_T 48 = tb_f48 := rfl
theorem ho_48 : tb_on 48 = 2 := rfl
theorem nl_49 : sm_nL tb_T 49 = (8, 1, 2) := rfl
theorem hf_49 : sm_ins tb_T 49 = tb_f49 := rfl
theorem ho_49 : tb_on 49 = 2 := rfl
theorem nl_50 : sm_nL tb_T 50 = (7, 1, 2) := rfl
theorem hf_50 : sm_ins tb_T 50 = tb_f50 := rfl
theorem ho_50 : tb_on 50 = 2 := rfl
theorem nl_51 : sm_nL tb_T 51 = (6, 0, 2) := rfl
theorem hf_51 : sm_ins tb_T 51 = tb_f51 := rfl
theorem ho_51 : tb_on 51 = 2 := rfl
theorem nl_52 : sm_nL tb_T 52 = (4, 1, 2) := rfl
theorem hf_52 : sm_ins tb_T 52 = tb_f52 := rfl
theorem ho_52 : tb_on 52 = 2 := rfl
theorem nl_53 : sm_nL tb_T 53 = (5, 1, 2) := rfl
theorem hf_53 : sm_ins tb_T 53 = tb_f53 := rfl
theorem ho_53 : tb_on 53 = 2 := rfl
theorem nl_54 : sm_nL tb_T 54 = (1, 0, 3) := rfl
theorem hf_54 : sm_ins tb_T 54 = tb_f54 := rfl
theorem ho_54 : tb_on 54 = 3 := rfl
theorem nl_55 : sm_nL tb_T 55 = (3, 0, 3) := rfl
theorem hf_55 : sm_ins tb_T 55 = tb_f55 := rfl
theorem ho_55 : tb_on 55 = 3 := rfl
theorem nl_56 : sm_nL tb_T 56 = (5, 0, 3) := rfl
theorem hf_56 : sm_ins tb_T 56 = tb_f56 := rfl
theorem ho_56 : tb_on 56 = 3 := rfl
theorem nl_57 : sm_nL tb_T 57 = (1, 0, 4) := rfl
theorem hf_57 : sm_ins tb_T 57 = tb_f57 := rfl
theorem ho_57 : tb_on 57 = 4 := rfl
theorem nl_58 : sm_nL tb_T 58 = (1, 0, 5) := rfl
theorem hf_58 : sm_ins tb_T 58 = tb_f58 := rfl
theorem ho_58 : tb_on 58 = 5 := rfl
theorem nl_59 : sm_nL tb_T 59 = (4, 0, 5) := rfl
theorem hf_59 : sm_ins tb_T 59 = tb_f59 := rfl
theorem ho_59 : tb_on 59 = 5 := rfl
theorem nl_60 : sm_nL tb_T 60 = (3, 2, 5) := rfl
theorem hf_60 : sm_ins tb_T 60 = tb_f60 := rfl
theorem ho_60 : tb_on 60 = 5 := rfl
theorem nl_61 : sm_nL tb_T 61 = (3, 2, 5) := rfl
theorem hf_61 : sm_ins tb_T 61 = tb_f61 := rfl
theorem ho_61 : tb_on 61 = 5 := rfl
theorem nl_62 : sm_nL tb_T 62 = (2, 0, 5) := rfl
theorem hf_62 : sm_ins tb_T 62 = tb_f62 := rfl
theorem ho_62 : tb_on 62 = 5 := rfl
theorem nl_63 : sm_nL tb_T 63 = (4, 0, 5) := rfl
theorem hf_63 : sm_ins tb_T 63 = tb_f63 := rfl
theorem ho_63 : tb_on 63 = 5 := rfl
theorem nl_64 : sm_nL tb_T 64 = (3, 2, 5) := rfl
theorem hf_64 : sm_ins tb_T 64 = tb_f64 := rfl
theorem ho_64 : tb_on 64 = 5 := rfl
theorem nl_65 : sm_nL tb_T 65 = (4, 2, 5) := rfl
theorem hf_65 : sm_ins tb_T 65 = tb_f65 := rfl
theorem ho_65 : tb_on 65 = 5 := rfl
theorem nl_66 : sm_nL tb_T 66 = (3, 2, 5) := rfl
theorem hf_66 : sm_ins tb_T 66 = tb_f66 := rfl
theorem ho_66 : tb_on 66 = 5 := rfl
theorem nl_67 : sm_nL tb_T 67 = (3, 0, 5) := rfl
theorem hf_67 : sm_ins tb_T 67 = tb_f67 := rfl
theorem ho_67 : tb_on 67 = 5 := rfl
theorem nl_68 : sm_nL tb_T 68 = (3, 0, 5) := rfl
theorem hf_68 : sm_ins tb_T 68 = tb_f68 := rfl
theorem ho_68 : tb_on 68 = 5 := rfl
theorem nl_69 : sm_nL tb_T 69 = (4, 1, 5) := rfl
theorem hf_69 : sm_ins tb_T 69 = tb_f69 := rfl
theorem ho_69 : tb_on 69 = 5 := rfl
theorem nl_70 : sm_nL tb_T 70 = (4, 0, 5) := rfl
theorem hf_70 : sm_ins tb_T 70 = tb_f70 := rfl
theorem ho_70 : tb_on 70 = 5 := rfl
theorem nl_71 : sm_nL tb_T 71 = (5, 1, 5) := rfl
theorem hf_71 : sm_ins tb_T 71 = tb_f71 := rfl
theorem ho_71 : tb_on 71 = 5 := rfl
theorem nl_72 : sm_nL tb_T 72 = (2, 0, 6) := rfl
theorem hf_72 : sm_ins tb_T 72 = tb_f72 := rfl
theorem ho_72 : tb_on 72 = 6 := rfl
theorem nl_73 : sm_nL tb_T 73 = (1, 1, 6) := rfl
theorem hf_73 : sm_ins tb_T 73 = tb_f73 := rfl
theorem ho_73 : tb_on 73 = 6 := rfl
theorem nl_74 : sm_nL tb_T 74 = (3, 2, 6) := rfl
theorem hf_74 : sm_ins tb_T 74 = tb_f74 := rfl
theorem ho_74 : tb_on 74 = 6 := rfl
theorem nl_75 : sm_nL tb_T 75 = (1, 2, 6) := rfl
theorem hf_75 : sm_ins tb_T 75 = tb_f75 := rfl
theorem ho_75 : tb_on 75 = 6 := rfl
theorem nl_76 : sm_nL tb_T 76 = (3, 2, 6) := rfl
theorem hf_76 : sm_ins tb_T 76 = tb_f76 := rfl
theorem ho_76 : tb_on 76 = 6 := rfl
theorem nl_77 : sm_nL tb_T 77 = (7, 1, 6) := rfl
theorem hf_77 : sm_ins tb_T 77 = tb_f77 := rfl
theorem ho_77 : tb_on 77 = 6 := rfl
theorem nl_78 : sm_nL tb_T 78 = (3, 2, 6) := rfl
theorem hf_78 : sm_ins tb_T 78 = tb_f78 := rfl
theorem ho_78 : tb_on 78 = 6 := rfl
theorem nl_79 : sm_nL tb_T 79 = (7, 1, 6) := rfl
theorem hf_79 : sm_ins tb_T 79 = tb_f79 := rfl
theorem ho_79 : tb_on 79 = 6 := rfl
theorem nl_80 : sm_nL tb_T 80 = (3, 0, 6) := rfl
theorem hf_80 : sm_ins tb_T 80 = tb_f80 := rfl
theorem ho_80 : tb_on 80 = 6 := rfl
theorem nl_81 : sm_nL tb_T 81 = (6, 0, 6) := rfl
theorem hf_81 : sm_ins tb_T 81 = tb_f81 := rfl
theorem ho_81 : tb_on 81 = 6 := rfl
theorem nl_82 : sm_nL tb_T 82 = (7, 0, 6) := rfl
theorem hf_82 : sm_ins tb_T 82 = tb_f82 := rfl
theorem ho_82 : tb_on 82 = 6 := rfl
theorem nl_83 : sm_nL tb_T 83 = (3, 2, 6) := rfl
theorem hf_83 : sm_ins tb_T 83 = tb_f83 := rfl
theorem ho_83 : tb_on 83 = 6 := rfl
theorem nl_84 : sm_nL tb_T 84 = (4, 1, 6) := rfl
theorem hf_84 : sm_ins tb_T 84 = tb_f84 := rfl
theorem ho_84 : tb_on 84 = 6 := rfl
theorem nl_85 : sm_nL tb_T 85 = (6, 1, 6) := rfl
theorem hf_85 : sm_ins tb_T 85 = tb_f85 := rfl
theorem ho_85 : tb_on 85 = 6 := rfl
theorem nl_86 : sm_nL tb_T 86 = (3, 1, 6) := rfl
theorem hf_86 : sm_ins tb_T 86 = tb_f86 := rfl
theorem ho_86 : tb_on 86 = 6 := rfl
theorem nl_87 : sm_nL tb_T 87 = (3, 2, 6) := rfl
theorem hf_87 : sm_ins tb_T 87 = tb_f87 := rfl
theorem ho_87 : tb_on 87 = 6 := rfl
theorem nl_88 : sm_nL tb_T 88 = (5, 2, 6) := rfl
theorem hf_88 : sm_ins tb_T 88 = tb_f88 := rfl
theorem ho_88 : tb_on 88 = 6 := rfl
theorem nl_89 : sm_nL tb_T 89 = (4, 1, 6) := rfl
theorem hf_89 : sm_ins tb_T 89 = tb_f89 := rfl
theorem ho_89 : tb_on 89 = 6 := rfl
theorem nl_90 : sm_nL tb_T 90 = (4, 1, 6) := rfl
theorem hf_90 : sm_ins tb_T 90 = tb_f90 := rfl
theorem ho_90 : tb_on 90 = 6 := rfl
theorem nl_91 : sm_nL tb_T 91 = (15, 1, 6) := rfl
theorem hf_91 : sm_ins tb_T 91 = tb_f91 := rfl
theorem ho_91 : tb_on 91 = 6 := rfl
theorem nl_92 : sm_nL tb_T 92 = (5, 1, 6) := rfl
theorem hf_92 : sm_ins tb_T 92 = tb_f92 := rfl
theorem ho_92 : tb_on 92 = 6 := rfl
theorem nl_93 : sm_nL tb_T 93 = (5, 1, 6) := rfl
theorem hf_93 : sm_ins tb_T 93 = tb_f93 := rfl
theorem ho_93 : tb_on 93 = 6 := rfl
theorem nl_94 : sm_nL tb_T 94 = (9, 1, 6) := rfl
theorem hf_94 : sm_ins tb_T 94 = tb_f94 := rfl
theorem ho_94 : tb_on 94 = 6 := rfl
theorem nl_95 : sm_nL tb_T 95 = (3, 1, 6) := rfl
theorem hf_95 : sm_ins tb_T 95 = tb_f95 := rfl
theorem ho_95 : tb_on 95 = 6 := rfl
theorem nl_96 : sm_nL tb_T 96 = (7, 2, 6) := rfl
theorem hf_96 : sm_ins tb_T 96 = tb_f96 := rfl
theorem ho_96 : tb_on 96 = 6 := rfl
theorem nl_97 : sm_nL tb_T 97 = (3, 0, 6) := rfl
theorem hf_97 : sm_ins tb_T 97 = tb_f97 := rfl
theorem ho_97 : tb_on 97 = 6 := rfl
theorem nl_98 : sm_nL tb_T 98 = (5, 0, 6) := rfl
theorem hf_98 : sm_ins tb_T 98 = tb_f98 := rfl
theorem ho_98 : tb_on 98 = 6 := rfl
theorem nl_99 : sm_nL tb_T 99 = (5, 2, 6) := rfl
theorem hf_99 : sm_ins tb_T 99 = tb_f99 := rfl
theorem ho_99 : tb_on 99 = 6 := rfl
theorem nl_100 : sm_nL tb_T 100 = (3, 2, 6) := rfl
theorem hf_100 : sm_ins tb_T 100 = tb_f100 := rfl
theorem ho_100 : tb_on 100 = 6 := rfl
theorem nl_101 : sm_nL tb_T 101 = (4, 1, 6) := rfl
theorem hf_101 : sm_ins tb_T 101 = tb_f101 := rfl
theorem ho_101 : tb_on 101 = 6 := rfl
theorem nl_102 : sm_nL tb_T 102 = (2, 1, 6) := rfl
theorem hf_102 : sm_ins tb_T 102 = tb_f102 := rfl
theorem ho_102 : tb_on 102 = 6 := rfl
theorem nl_103 : sm_nL tb_T 103 = (7, 1, 6) := rfl
theorem hf_103 : sm_ins tb_T 103 = tb_f103 := rfl
theorem ho_103 : tb_on 103 = 6 := rfl
theorem nl_104 : sm_nL tb_T 104 = (10, 0, 6) := rfl
theorem hf_104 : sm_ins tb_T 104 = tb_f104 := rfl
theorem ho_104 : tb_on 104 = 6 := rfl
theorem nl_105 : sm_nL tb_T 105 = (4, 2, 6) := rfl
theorem hf_105 : sm_ins tb_T 105 = tb_f105 := rfl
theorem ho_105 : tb_on 105 = 6 := rfl
theorem nl_106 : sm_nL tb_T 106 = (3, 2, 6) := rfl
theorem hf_106 : sm_ins tb_T 106 = tb_f106 := rfl
theorem ho_106 : tb_on 106 = 6 := rfl
theorem nl_107 : sm_nL tb_T 107 = (4, 2, 6) := rfl
theorem hf_107 : sm_ins tb_T 107 = tb_f107 := rfl
theorem ho_107 : tb_on 107 = 6 := rfl
theorem nl_108 : sm_nL tb_T 108 = (4, 0, 6) := rfl
theorem hf_108 : sm_ins tb_T 108 = tb_f108 := rfl
theorem ho_108 : tb_on 108 = 6 := rfl
theorem nl_109 : sm_nL tb_T 109 = (2, 2, 6) := rfl
theorem hf_109 : sm_ins tb_T 109 = tb_f109 := rfl
theorem ho_109 : tb_on 109 = 6 := rfl
theorem nl_110 : sm_nL tb_T 110 = (3, 1, 6) := rfl
theorem hf_110 : sm_ins tb_T 110 = tb_f110 := rfl
theorem ho_110 : tb_on 110 = 6 := rfl
theorem nl_111 : sm_nL tb_T 111 = (1, 1, 6) := rfl
theorem hf_111 : sm_ins tb_T 111 = tb_f111 := rfl
theorem ho_111 : tb_on 111 = 6 := rfl
theorem nl_112 : sm_nL tb_T 112 = (3, 2, 6) := rfl
theorem hf_112 : sm_ins tb_T 112 = tb_f112 := rfl
theorem ho_112 : tb_on 112 = 6 := rfl
theorem nl_113 : sm_nL tb_T 113 = (2, 2, 6) := rfl
theorem hf_113 : sm_ins tb_T 113 = tb_f113 := rfl
theorem ho_113 : tb_on 113 = 6 := rfl
theorem nl_114 : sm_nL tb_T 114 = (2, 2, 6) := rfl
theorem hf_114 : sm_ins tb_T 114 = tb_f114 := rfl
theorem ho_114 : tb_on 114 = 6 := rfl
theorem nl_115 : sm_nL tb_T 115 = (9, 0, 6) := rfl
theorem hf_115 : sm_ins tb_T 115 = tb_f115 := rfl
theorem ho_115 : tb_on 115 = 6 := rfl
theorem nl_116 : sm_nL tb_T 116 = (2, 2, 6) := rfl
theorem hf_116 : sm_ins tb_T 116 = tb_f116 := rfl
theorem ho_116 : tb_on 116 = 6 := rfl
theorem nl_117 : sm_nL tb_T 117 = (6, 1, 6) := rfl
theorem hf_117 : sm_ins tb_T 117 = tb_f117 := rfl
theorem ho_117 : tb_on 117 = 6 := rfl
theorem nl_118 : sm_nL tb_T 118 = (4, 1, 6) := rfl
theorem hf_118 : sm_ins tb_T 118 = tb_f118 := rfl
theorem ho_118 : tb_on 118 = 6 := rfl
theorem nl_119 : sm_nL tb_T 119 = (3, 1, 6) := rfl
theorem hf_119 : sm_ins tb_T 119 = tb_f119 := rfl
theorem ho_119 : tb_on 119 = 6 := rfl
theorem nl_120 : sm_nL tb_T 120 = (2, 2, 6) := rfl
theorem hf_120 : sm_ins tb_T 120 = tb_f120 := rfl
theorem ho_120 : tb_on 120 = 6 := rfl
theorem nl_121 : sm_nL tb_T 121 = (3, 1, 6) := rfl
theorem hf_121 : sm_ins tb_T 121 = tb_f121 := rfl
theorem ho_121 : tb_on 121 = 6 := rfl
theorem nl_122 : sm_nL tb_T 122 = (2, 1, 6) := rfl
theorem hf_122 : sm_ins tb_T 122 = tb_f122 := rfl
theorem ho_122 : tb_on 122 = 6 := rfl
theorem nl_123 : sm_nL tb_T 123 = (3, 1, 6) := rfl
theorem hf_123 : sm_ins tb_T 123 = tb_f123 := rfl
theorem ho_123 : tb_on 123 = 6 := rfl
theorem nl_124 : sm_nL tb_T 124 = (1, 1, 6) := rfl
theorem hf_124 : sm_ins tb_T 124 = tb_f124 := rfl
theorem ho_124 : tb_on 124 = 6 := rfl
theorem nl_125 : sm_nL tb_T 125 = (5, 1, 99) := rfl
theorem hf_125 : sm_ins tb_T 125 = tb_f125 := rfl
theorem ho_125 : tb_on 125 = 7 := rfl
theorem nl_126 : sm_nL tb_T 126 = (1, 1, 99) := rfl
theorem hf_126 : sm_ins tb_T 126 = tb_f126 := rfl
theorem ho_126 : tb_on 126 = 7 := rfl
theorem nl_127 : sm_nL tb_T 127 = (1, 1, 99) := rfl
theorem hf_127 : sm_ins tb_T 127 = tb_f127 := rfl
theorem ho_127 : tb_on 127 = 7 := rfl
theorem nl_128 : sm_nL tb_T 128 = (1, 1, 99) := rfl
theorem hf_128 : sm_ins tb_T 128 = tb_f128 := rfl
theorem ho_128 : tb_on 128 = 7 := rfl
theorem nl_129 : sm_nL tb_T 129 = (1, 1, 99) := rfl
theorem hf_129 : sm_ins tb_T 129 = tb_f129 := rfl
theorem ho_129 : tb_on 129 = 7 := rfl
theorem nl_130 : sm_nL tb_T 130 = (1, 1, 99) := rfl
theorem hf_130 : sm_ins tb_T 130 = tb_f130 := rfl
theorem ho_130 : tb_on 130 = 7 := rfl
theorem nl_131 : sm_nL tb_T 131 = (5, 1, 99) := rfl
theorem hf_131 : sm_ins tb_T 131 = tb_f131 := rfl
theorem ho_131 : tb_on 131 = 8 := rfl
theorem nl_132 : sm_nL tb_T 132 = (4, 1, 99) := rfl
theorem hf_132 : sm_ins tb_T 132 = tb_f132 := rfl
theorem ho_132 : tb_on 132 = 8 := rfl
theorem nl_133 : sm_nL tb_T 133 = (6, 1, 99) := rfl
theorem hf_133 : sm_ins tb_T 133 = tb_f133 := rfl
theorem ho_133 : tb_on 133 = 8 := rfl
theorem nl_134 : sm_nL tb_T 134 = (5, 1, 99) := rfl
theorem hf_134 : sm_ins tb_T 134 = tb_f134 := rfl
theorem ho_134 : tb_on 134 = 8 := rfl
theorem nl_135 : sm_nL tb_T 135 = (6, 1, 99) := rfl
theorem hf_135 : sm_ins tb_T 135 = tb_f135 := rfl
theorem ho_135 : tb_on 135 = 8 := rfl
theorem nl_136 : sm_nL tb_T 136 = (5, 1, 99) := rfl
theorem hf_136 : sm_ins tb_T 136 = tb_f136 := rfl
theorem ho_136 : tb_on 136 = 8 := rfl
theorem nl_137 : sm_nL tb_T 137 = (4, 1, 99) := rfl
theorem hf_137 : sm_ins tb_T 137 = tb_f137 := rfl
theorem ho_137 : tb_on 137 = 8 := rfl
theorem nl_138 : sm_nL tb_T 138 = (4, 1, 99) := rfl
theorem hf_138 : sm_ins tb_T 138 = tb_f138 := rfl
theorem ho_138 : tb_on 138 = 8 := rfl
theorem nl_139 : sm_nL tb_T 139 = (7, 2, 99) := rfl
theorem hf_139 : sm_ins tb_T 139 = tb_f139 := rfl
theorem ho_139 : tb_on 139 = 8 := rfl
theorem nl_140 : sm_nL tb_T 140 = (4, 0, 99) := rfl
theorem hf_140 : sm_ins tb_T 140 = tb_f140 := rfl
theorem ho_140 : tb_on 140 = 9 := rfl
theorem inc1 (i : Nat) : nI i + Int32.ofInt 1 = nI (i + 1) := nI_1 i
theorem dec1 {i : Nat} (h : 1 ≤ i) : nI i + Int32.ofInt (-1) = nI (i - 1) := by
  obtain ⟨j, rfl⟩ : ∃ j, i = j + 1 := ⟨i - 1, by omega⟩
  have e : nI (j + 1) + Int32.ofInt (-1) = nI (j + 1) - 1 := by
    rw [Int32.sub_eq_add_neg]
    congr 1
  rw [e, nI_pred]
  rfl
theorem subn {a b : Nat} (h : b ≤ a) : nI a - nI b = nI (a - b) := by
  obtain ⟨c, rfl⟩ : ∃ c, a = b + c := ⟨a - b, by omega⟩
  rw [← nI_add, Nat.add_sub_cancel_left]
  rw [Int32.add_comm, Int32.add_sub_cancel]
theorem muln (a b : Nat) : nI a * nI b = nI (a * b) := by
  unfold nI
  exact (Int32.ofNat_mul a b).symm
theorem up_s {M : sm_M} {k i : Nat} {v : Int32} : sm_up M k i v k i = v := by simp [sm_up, upd]
theorem up_k {M : sm_M} {k i a j : Nat} {v : Int32} (h : a ≠ k) : sm_up M k i v a j = M a j := by simp [sm_up, h]
theorem up_i {M : sm_M} {k i a j : Nat} {v : Int32} (h : j ≠ i) : sm_up M k i v a j = M a j := by
  unfold sm_up
  split
  · next e => subst e; simp [upd, h]
  · rfl
theorem up_o {M : sm_M} {k i a j : Nat} {v : Int32} (h : a ≠ k ∨ j ≠ i) : sm_up M k i v a j = M a j := by
  rcases h with h | h
  · exact up_k h
  · exact up_i h
theorem up_e {M : sm_M} {k i a j : Nat} {v : Int32} (h : a = k ∧ j = i) : sm_up M k i v a j = v := by
  obtain ⟨rfl, rfl⟩ := h
  exact up_s
/-- a method by its contract: it answers, and the memory is another; no new cells -/
def cr (z D B : Nat) (As : List Value) (M : sm_M) (R : Option Value → sm_M → Prop) : Prop := ∀ (X : Nat × (Nat → Int32)) (J : sm_J) (rc rs d lw : Nat), D ≤ d → B ≤ lw → sm_wp tb_T X tb_ok d lw z 0 (sm_ent (sm_nL tb_T z).1 As) [] (wSH, M, J, rc, rs) (fun o h' => ∃ v M1, o = .inl v ∧ h' = (wSH, M1, J, rc, rs) ∧ R v M1)
theorem cr_mono {z D B : Nat} {As : List Value} {M : sm_M} {R R' : Option Value → sm_M → Prop} (h : cr z D B As M R) (hr : ∀ v M1, R v M1 → R' v M1) : cr z D B As M R' := by
  intro X J rc rs d lw hd hw
  refine wp_mono (h X J rc rs d lw hd hw) (fun o h' q => ?_)
  obtain ⟨v, M1, e1, e2, e3⟩ := q
  exact ⟨v, M1, e1, e2, hr v M1 e3⟩
section GO
variable {X : Nat × (Nat → Int32)} {d lw y c pc p : Nat} {f : Nat → Option Instr} {L L' : sm_L} {S : List Value} {sh : List sm_S} {M : sm_M} {J : sm_J} {rc rs : Nat} {h : sm_H} {Q : sm_O → sm_H → Prop}
theorem go_i {i : Instr} {r : sm_P} (hf : sm_ins tb_T y = f) (hins : f pc = some i) (hr : sm_isret i = false) (hv : sm_inv tb_T y i = none) (hi : sm_i tb_T X tb_ok y i pc L S h = some r) (k : sm_wp tb_T X tb_ok d lw y r.1 r.2.1 r.2.2.1 r.2.2.2 Q) : sm_wp tb_T X tb_ok d lw y pc L S h Q :=
  wp_i (by rw [hf]; exact hins) hr hv hi k
theorem go_iconst {n : Int} {v : Int32} (hf : sm_ins tb_T y = f) (hins : f pc = some (.iconst n)) (hp : pc + 1 = p) (hv : Int32.ofInt n = v) (k : sm_wp tb_T X tb_ok d lw y p L (.int v :: S) h Q) : sm_wp tb_T X tb_ok d lw y pc L S h Q := by
  subst hp
  exact go_i (r := (pc + 1, L, .int (Int32.ofInt n) :: S, h)) hf hins rfl rfl rfl (by rw [hv]; exact k)
theorem go_bipush {n : Int} {v : Int32} (hf : sm_ins tb_T y = f) (hins : f pc = some (.bipush n)) (hp : pc + 2 = p) (hv : (Int8.ofInt n).toInt32 = v) (k : sm_wp tb_T X tb_ok d lw y p L (.int v :: S) h Q) : sm_wp tb_T X tb_ok d lw y pc L S h Q := by
  subst hp
  exact go_i (r := (pc + 2, L, .int (Int8.ofInt n).toInt32 :: S, h)) hf hins rfl rfl rfl (by rw [hv]; exact k)
theorem go_sipush {n : Int} {v : Int32} (hf : sm_ins tb_T y = f) (hins : f pc = some (.sipush n)) (hp : pc + 3 = p) (hv : (Int16.ofInt n).toInt32 = v) (k : sm_wp tb_T X tb_ok d lw y p L (.int v :: S) h Q) : sm_wp tb_T X tb_ok d lw y pc L S h Q := by
  subst hp
  exact go_i (r := (pc + 3, L, .int (Int16.ofInt n).toInt32 :: S, h)) hf hins rfl rfl rfl (by rw [hv]; exact k)
theorem go_lconst {n : Fin 2} (hf : sm_ins tb_T y = f) (hins : f pc = some (.lconst n)) (hp : pc + 1 = p) (k : sm_wp tb_T X tb_ok d lw y p L (.long (Int64.ofNat n.val) :: S) h Q) : sm_wp tb_T X tb_ok d lw y pc L S h Q := by
  subst hp
  exact go_i (r := (pc + 1, L, .long (Int64.ofNat n.val) :: S, h)) hf hins rfl rfl rfl k
theorem go_il0 {x : Int32} {r : sm_L} (hf : sm_ins tb_T y = f) (hins : f pc = some (.iload_n 0)) (hp : pc + 1 = p) (k : sm_wp tb_T X tb_ok d lw y p (some (.int x) :: r) (.int x :: S) h Q) : sm_wp tb_T X tb_ok d lw y pc (some (.int x) :: r) S h Q := by
  subst hp
  exact go_i (r := (pc + 1, some (.int x) :: r, .int x :: S, h)) hf hins rfl rfl rfl k
theorem go_al0 {x : Nat} {r : sm_L} (hf : sm_ins tb_T y = f) (hins : f pc = some (.aload_n 0)) (hp : pc + 1 = p) (k : sm_wp tb_T X tb_ok d lw y p (some (.ref x) :: r) (.ref x :: S) h Q) : sm_wp tb_T X tb_ok d lw y pc (some (.ref x) :: r) S h Q := by
  subst hp
  exact go_i (r := (pc + 1, some (.ref x) :: r, .ref x :: S, h)) hf hins rfl rfl rfl k
theorem go_is0 {a0 : Option Value} {x : Int32} {r : sm_L} (hf : sm_ins tb_T y = f) (hins : f pc = some (.istore_n 0)) (hp : pc + 1 = p) (k : sm_wp tb_T X tb_ok d lw y p (some (.int x) :: r) S h Q) : sm_wp tb_T X tb_ok d lw y pc (a0 :: r) (.int x :: S) h Q := by
  subst hp
  exact go_i (r := (pc + 1, some (.int x) :: r, S, h)) hf hins rfl rfl rfl k
theorem go_as0 {a0 : Option Value} {x : Nat} {r : sm_L} (hf : sm_ins tb_T y = f) (hins : f pc = some (.astore_n 0)) (hp : pc + 1 = p) (k : sm_wp tb_T X tb_ok d lw y p (some (.ref x) :: r) S h Q) : sm_wp tb_T X tb_ok d lw y pc (a0 :: r) (.ref x :: S) h Q := by
  subst hp
  exact go_i (r := (pc + 1, some (.ref x) :: r, S, h)) hf hins rfl rfl rfl k
theorem go_ic0 {n : Int} {x v : Int32} {r : sm_L} (hf : sm_ins tb_T y = f) (hins : f pc = some (.iinc 0 n)) (hp : pc + 3 = p) (hv : x + Int32.ofInt n = v) (k : sm_wp tb_T X tb_ok d lw y p (some (.int v) :: r) S h Q) : sm_wp tb_T X tb_ok d lw y pc (some (.int x) :: r) S h Q := by
  subst hp
  subst hv
  exact go_i (r := (pc + 3, some (.int (x + Int32.ofInt n)) :: r, S, h)) hf hins rfl rfl rfl k
theorem go_il1 {a0 : Option Value} {x : Int32} {r : sm_L} (hf : sm_ins tb_T y = f) (hins : f pc = some (.iload_n 1)) (hp : pc + 1 = p) (k : sm_wp tb_T X tb_ok d lw y p (a0 :: some (.int x) :: r) (.int x :: S) h Q) : sm_wp tb_T X tb_ok d lw y pc (a0 :: some (.int x) :: r) S h Q := by
  subst hp
  exact go_i (r := (pc + 1, a0 :: some (.int x) :: r, .int x :: S, h)) hf hins rfl rfl rfl k
theorem go_al1 {a0 : Option Value} {x : Nat} {r : sm_L} (hf : sm_ins tb_T y = f) (hins : f pc = some (.aload_n 1)) (hp : pc + 1 = p) (k : sm_wp tb_T X tb_ok d lw y p (a0 :: some (.ref x) :: r) (.ref x :: S) h Q) : sm_wp tb_T X tb_ok d lw y pc (a0 :: some (.ref x) :: r) S h Q := by
  subst hp
  exact go_i (r := (pc + 1, a0 :: some (.ref x) :: r, .ref x :: S, h)) hf hins rfl rfl rfl k
theorem go_is1 {a0 a1 : Option Value} {x : Int32} {r : sm_L} (hf : sm_ins tb_T y = f) (hins : f pc = some (.istore_n 1)) (hp : pc + 1 = p) (k : sm_wp tb_T X tb_ok d lw y p (a0 :: some (.int x) :: r) S h Q) : sm_wp tb_T X tb_ok d lw y pc (a0 :: a1 :: r) (.int x :: S) h Q := by
  subst hp
  exact go_i (r := (pc + 1, a0 :: some (.int x) :: r, S, h)) hf hins rfl rfl rfl k
theorem go_as1 {a0 a1 : Option Value} {x : Nat} {r : sm_L} (hf : sm_ins tb_T y = f) (hins : f pc = some (.astore_n 1)) (hp : pc + 1 = p) (k : sm_wp tb_T X tb_ok d lw y p (a0 :: some (.ref x) :: r) S h Q) : sm_wp tb_T X tb_ok d lw y pc (a0 :: a1 :: r) (.ref x :: S) h Q := by
  subst hp
  exact go_i (r := (pc + 1, a0 :: some (.ref x) :: r, S, h)) hf hins rfl rfl rfl k
theorem go_ic1 {a0 : Option Value} {n : Int} {x v : Int32} {r : sm_L} (hf : sm_ins tb_T y = f) (hins : f pc = some (.iinc 1 n)) (hp : pc + 3 = p) (hv : x + Int32.ofInt n = v) (k : sm_wp tb_T X tb_ok d lw y p (a0 :: some (.int v) :: r) S h Q) : sm_wp tb_T X tb_ok d lw y pc (a0 :: some (.int x) :: r) S h Q := by
  subst hp
  subst hv
  exact go_i (r := (pc + 3, a0 :: some (.int (x + Int32.ofInt n)) :: r, S, h)) hf hins rfl rfl rfl k
theorem go_il2 {a0 a1 : Option Value} {x : Int32} {r : sm_L} (hf : sm_ins tb_T y = f) (hins : f pc = some (.iload_n 2)) (hp : pc + 1 = p) (k : sm_wp tb_T X tb_ok d lw y p (a0 :: a1 :: some (.int x) :: r) (.int x :: S) h Q) : sm_wp tb_T X tb_ok d lw y pc (a0 :: a1 :: some (.int x) :: r) S h Q := by
  subst hp
  exact go_i (r := (pc + 1, a0 :: a1 :: some (.int x) :: r, .int x :: S, h)) hf hins rfl rfl rfl k
theorem go_al2 {a0 a1 : Option Value} {x : Nat} {r : sm_L} (hf : sm_ins tb_T y = f) (hins : f pc = some (.aload_n 2)) (hp : pc + 1 = p) (k : sm_wp tb_T X tb_ok d lw y p (a0 :: a1 :: some (.ref x) :: r) (.ref x :: S) h Q) : sm_wp tb_T X tb_ok d lw y pc (a0 :: a1 :: some (.ref x) :: r) S h Q := by
  subst hp
  exact go_i (r := (pc + 1, a0 :: a1 :: some (.ref x) :: r, .ref x :: S, h)) hf hins rfl rfl rfl k
theorem go_is2 {a0 a1 a2 : Option Value} {x : Int32} {r : sm_L} (hf : sm_ins tb_T y = f) (hins : f pc = some (.istore_n 2)) (hp : pc + 1 = p) (k : sm_wp tb_T X tb_ok d lw y p (a0 :: a1 :: some (.int x) :: r) S h Q) : sm_wp tb_T X tb_ok d lw y pc (a0 :: a1 :: a2 :: r) (.int x :: S) h Q := by
  subst hp
  exact go_i (r := (pc + 1, a0 :: a1 :: some (.int x) :: r, S, h)) hf hins rfl rfl rfl k
theorem go_as2 {a0 a1 a2 : Option Value} {x : Nat} {r : sm_L} (hf : sm_ins tb_T y = f) (hins : f pc = some (.astore_n 2)) (hp : pc + 1 = p) (k : sm_wp tb_T X tb_ok d lw y p (a0 :: a1 :: some (.ref x) :: r) S h Q) : sm_wp tb_T X tb_ok d lw y pc (a0 :: a1 :: a2 :: r) (.ref x :: S) h Q := by
  subst hp
  exact go_i (r := (pc + 1, a0 :: a1 :: some (.ref x) :: r, S, h)) hf hins rfl rfl rfl k
theorem go_ic2 {a0 a1 : Option Value} {n : Int} {x v : Int32} {r : sm_L} (hf : sm_ins tb_T y = f) (hins : f pc = some (.iinc 2 n)) (hp : pc + 3 = p) (hv : x + Int32.ofInt n = v) (k : sm_wp tb_T X tb_ok d lw y p (a0 :: a1 :: some (.int v) :: r) S h Q) : sm_wp tb_T X tb_ok d lw y pc (a0 :: a1 :: some (.int x) :: r) S h Q := by
  subst hp
  subst hv
  exact go_i (r := (pc + 3, a0 :: a1 :: some (.int (x + Int32.ofInt n)) :: r, S, h)) hf hins rfl rfl rfl k
theorem go_il3 {a0 a1 a2 : Option Value} {x : Int32} {r : sm_L} (hf : sm_ins tb_T y = f) (hins : f pc = some (.iload_n 3)) (hp : pc + 1 = p) (k : sm_wp tb_T X tb_ok d lw y p (a0 :: a1 :: a2 :: some (.int x) :: r) (.int x :: S) h Q) : sm_wp tb_T X tb_ok d lw y pc (a0 :: a1 :: a2 :: some (.int x) :: r) S h Q := by
  subst hp
  exact go_i (r := (pc + 1, a0 :: a1 :: a2 :: some (.int x) :: r, .int x :: S, h)) hf hins rfl rfl rfl k
theorem go_al3 {a0 a1 a2 : Option Value} {x : Nat} {r : sm_L} (hf : sm_ins tb_T y = f) (hins : f pc = some (.aload_n 3)) (hp : pc + 1 = p) (k : sm_wp tb_T X tb_ok d lw y p (a0 :: a1 :: a2 :: some (.ref x) :: r) (.ref x :: S) h Q) : sm_wp tb_T X tb_ok d lw y pc (a0 :: a1 :: a2 :: some (.ref x) :: r) S h Q := by
  subst hp
  exact go_i (r := (pc + 1, a0 :: a1 :: a2 :: some (.ref x) :: r, .ref x :: S, h)) hf hins rfl rfl rfl k
theorem go_is3 {a0 a1 a2 a3 : Option Value} {x : Int32} {r : sm_L} (hf : sm_ins tb_T y = f) (hins : f pc = some (.istore_n 3)) (hp : pc + 1 = p) (k : sm_wp tb_T X tb_ok d lw y p (a0 :: a1 :: a2 :: some (.int x) :: r) S h Q) : sm_wp tb_T X tb_ok d lw y pc (a0 :: a1 :: a2 :: a3 :: r) (.int x :: S) h Q := by
  subst hp
  exact go_i (r := (pc + 1, a0 :: a1 :: a2 :: some (.int x) :: r, S, h)) hf hins rfl rfl rfl k
theorem go_as3 {a0 a1 a2 a3 : Option Value} {x : Nat} {r : sm_L} (hf : sm_ins tb_T y = f) (hins : f pc = some (.astore_n 3)) (hp : pc + 1 = p) (k : sm_wp tb_T X tb_ok d lw y p (a0 :: a1 :: a2 :: some (.ref x) :: r) S h Q) : sm_wp tb_T X tb_ok d lw y pc (a0 :: a1 :: a2 :: a3 :: r) (.ref x :: S) h Q := by
  subst hp
  exact go_i (r := (pc + 1, a0 :: a1 :: a2 :: some (.ref x) :: r, S, h)) hf hins rfl rfl rfl k
theorem go_ic3 {a0 a1 a2 : Option Value} {n : Int} {x v : Int32} {r : sm_L} (hf : sm_ins tb_T y = f) (hins : f pc = some (.iinc 3 n)) (hp : pc + 3 = p) (hv : x + Int32.ofInt n = v) (k : sm_wp tb_T X tb_ok d lw y p (a0 :: a1 :: a2 :: some (.int v) :: r) S h Q) : sm_wp tb_T X tb_ok d lw y pc (a0 :: a1 :: a2 :: some (.int x) :: r) S h Q := by
  subst hp
  subst hv
  exact go_i (r := (pc + 3, a0 :: a1 :: a2 :: some (.int (x + Int32.ofInt n)) :: r, S, h)) hf hins rfl rfl rfl k
theorem go_il4 {a0 a1 a2 a3 : Option Value} {x : Int32} {r : sm_L} (hf : sm_ins tb_T y = f) (hins : f pc = some (.iload 4)) (hp : pc + 2 = p) (k : sm_wp tb_T X tb_ok d lw y p (a0 :: a1 :: a2 :: a3 :: some (.int x) :: r) (.int x :: S) h Q) : sm_wp tb_T X tb_ok d lw y pc (a0 :: a1 :: a2 :: a3 :: some (.int x) :: r) S h Q := by
  subst hp
  exact go_i (r := (pc + 2, a0 :: a1 :: a2 :: a3 :: some (.int x) :: r, .int x :: S, h)) hf hins rfl rfl rfl k
theorem go_al4 {a0 a1 a2 a3 : Option Value} {x : Nat} {r : sm_L} (hf : sm_ins tb_T y = f) (hins : f pc = some (.aload 4)) (hp : pc + 2 = p) (k : sm_wp tb_T X tb_ok d lw y p (a0 :: a1 :: a2 :: a3 :: some (.ref x) :: r) (.ref x :: S) h Q) : sm_wp tb_T X tb_ok d lw y pc (a0 :: a1 :: a2 :: a3 :: some (.ref x) :: r) S h Q := by
  subst hp
  exact go_i (r := (pc + 2, a0 :: a1 :: a2 :: a3 :: some (.ref x) :: r, .ref x :: S, h)) hf hins rfl rfl rfl k
theorem go_is4 {a0 a1 a2 a3 a4 : Option Value} {x : Int32} {r : sm_L} (hf : sm_ins tb_T y = f) (hins : f pc = some (.istore 4)) (hp : pc + 2 = p) (k : sm_wp tb_T X tb_ok d lw y p (a0 :: a1 :: a2 :: a3 :: some (.int x) :: r) S h Q) : sm_wp tb_T X tb_ok d lw y pc (a0 :: a1 :: a2 :: a3 :: a4 :: r) (.int x :: S) h Q := by
  subst hp
  exact go_i (r := (pc + 2, a0 :: a1 :: a2 :: a3 :: some (.int x) :: r, S, h)) hf hins rfl rfl rfl k
theorem go_as4 {a0 a1 a2 a3 a4 : Option Value} {x : Nat} {r : sm_L} (hf : sm_ins tb_T y = f) (hins : f pc = some (.astore 4)) (hp : pc + 2 = p) (k : sm_wp tb_T X tb_ok d lw y p (a0 :: a1 :: a2 :: a3 :: some (.ref x) :: r) S h Q) : sm_wp tb_T X tb_ok d lw y pc (a0 :: a1 :: a2 :: a3 :: a4 :: r) (.ref x :: S) h Q := by
  subst hp
  exact go_i (r := (pc + 2, a0 :: a1 :: a2 :: a3 :: some (.ref x) :: r, S, h)) hf hins rfl rfl rfl k
theorem go_ic4 {a0 a1 a2 a3 : Option Value} {n : Int} {x v : Int32} {r : sm_L} (hf : sm_ins tb_T y = f) (hins : f pc = some (.iinc 4 n)) (hp : pc + 3 = p) (hv : x + Int32.ofInt n = v) (k : sm_wp tb_T X tb_ok d lw y p (a0 :: a1 :: a2 :: a3 :: some (.int v) :: r) S h Q) : sm_wp tb_T X tb_ok d lw y pc (a0 :: a1 :: a2 :: a3 :: some (.int x) :: r) S h Q := by
  subst hp
  subst hv
  exact go_i (r := (pc + 3, a0 :: a1 :: a2 :: a3 :: some (.int (x + Int32.ofInt n)) :: r, S, h)) hf hins rfl rfl rfl k
theorem go_il5 {a0 a1 a2 a3 a4 : Option Value} {x : Int32} {r : sm_L} (hf : sm_ins tb_T y = f) (hins : f pc = some (.iload 5)) (hp : pc + 2 = p) (k : sm_wp tb_T X tb_ok d lw y p (a0 :: a1 :: a2 :: a3 :: a4 :: some (.int x) :: r) (.int x :: S) h Q) : sm_wp tb_T X tb_ok d lw y pc (a0 :: a1 :: a2 :: a3 :: a4 :: some (.int x) :: r) S h Q := by
  subst hp
  exact go_i (r := (pc + 2, a0 :: a1 :: a2 :: a3 :: a4 :: some (.int x) :: r, .int x :: S, h)) hf hins rfl rfl rfl k
theorem go_al5 {a0 a1 a2 a3 a4 : Option Value} {x : Nat} {r : sm_L} (hf : sm_ins tb_T y = f) (hins : f pc = some (.aload 5)) (hp : pc + 2 = p) (k : sm_wp tb_T X tb_ok d lw y p (a0 :: a1 :: a2 :: a3 :: a4 :: some (.ref x) :: r) (.ref x :: S) h Q) : sm_wp tb_T X tb_ok d lw y pc (a0 :: a1 :: a2 :: a3 :: a4 :: some (.ref x) :: r) S h Q := by
  subst hp
  exact go_i (r := (pc + 2, a0 :: a1 :: a2 :: a3 :: a4 :: some (.ref x) :: r, .ref x :: S, h)) hf hins rfl rfl rfl k
theorem go_is5 {a0 a1 a2 a3 a4 a5 : Option Value} {x : Int32} {r : sm_L} (hf : sm_ins tb_T y = f) (hins : f pc = some (.istore 5)) (hp : pc + 2 = p) (k : sm_wp tb_T X tb_ok d lw y p (a0 :: a1 :: a2 :: a3 :: a4 :: some (.int x) :: r) S h Q) : sm_wp tb_T X tb_ok d lw y pc (a0 :: a1 :: a2 :: a3 :: a4 :: a5 :: r) (.int x :: S) h Q := by
  subst hp
  exact go_i (r := (pc + 2, a0 :: a1 :: a2 :: a3 :: a4 :: some (.int x) :: r, S, h)) hf hins rfl rfl rfl k
theorem go_as5 {a0 a1 a2 a3 a4 a5 : Option Value} {x : Nat} {r : sm_L} (hf : sm_ins tb_T y = f) (hins : f pc = some (.astore 5)) (hp : pc + 2 = p) (k : sm_wp tb_T X tb_ok d lw y p (a0 :: a1 :: a2 :: a3 :: a4 :: some (.ref x) :: r) S h Q) : sm_wp tb_T X tb_ok d lw y pc (a0 :: a1 :: a2 :: a3 :: a4 :: a5 :: r) (.ref x :: S) h Q := by
  subst hp
  exact go_i (r := (pc + 2, a0 :: a1 :: a2 :: a3 :: a4 :: some (.ref x) :: r, S, h)) hf hins rfl rfl rfl k
theorem go_ic5 {a0 a1 a2 a3 a4 : Option Value} {n : Int} {x v : Int32} {r : sm_L} (hf : sm_ins tb_T y = f) (hins : f pc = some (.iinc 5 n)) (hp : pc + 3 = p) (hv : x + Int32.ofInt n = v) (k : sm_wp tb_T X tb_ok d lw y p (a0 :: a1 :: a2 :: a3 :: a4 :: some (.int v) :: r) S h Q) : sm_wp tb_T X tb_ok d lw y pc (a0 :: a1 :: a2 :: a3 :: a4 :: some (.int x) :: r) S h Q := by
  subst hp
  subst hv
  exact go_i (r := (pc + 3, a0 :: a1 :: a2 :: a3 :: a4 :: some (.int (x + Int32.ofInt n)) :: r, S, h)) hf hins rfl rfl rfl k
theorem go_il6 {a0 a1 a2 a3 a4 a5 : Option Value} {x : Int32} {r : sm_L} (hf : sm_ins tb_T y = f) (hins : f pc = some (.iload 6)) (hp : pc + 2 = p) (k : sm_wp tb_T X tb_ok d lw y p (a0 :: a1 :: a2 :: a3 :: a4 :: a5 :: some (.int x) :: r) (.int x :: S) h Q) : sm_wp tb_T X tb_ok d lw y pc (a0 :: a1 :: a2 :: a3 :: a4 :: a5 :: some (.int x) :: r) S h Q := by
  subst hp
  exact go_i (r := (pc + 2, a0 :: a1 :: a2 :: a3 :: a4 :: a5 :: some (.int x) :: r, .int x :: S, h)) hf hins rfl rfl rfl k
theorem go_al6 {a0 a1 a2 a3 a4 a5 : Option Value} {x : Nat} {r : sm_L} (hf : sm_ins tb_T y = f) (hins : f pc = some (.aload 6)) (hp : pc + 2 = p) (k : sm_wp tb_T X tb_ok d lw y p (a0 :: a1 :: a2 :: a3 :: a4 :: a5 :: some (.ref x) :: r) (.ref x :: S) h Q) : sm_wp tb_T X tb_ok d lw y pc (a0 :: a1 :: a2 :: a3 :: a4 :: a5 :: some (.ref x) :: r) S h Q := by
  subst hp
  exact go_i (r := (pc + 2, a0 :: a1 :: a2 :: a3 :: a4 :: a5 :: some (.ref x) :: r, .ref x :: S, h)) hf hins rfl rfl rfl k
theorem go_is6 {a0 a1 a2 a3 a4 a5 a6 : Option Value} {x : Int32} {r : sm_L} (hf : sm_ins tb_T y = f) (hins : f pc = some (.istore 6)) (hp : pc + 2 = p) (k : sm_wp tb_T X tb_ok d lw y p (a0 :: a1 :: a2 :: a3 :: a4 :: a5 :: some (.int x) :: r) S h Q) : sm_wp tb_T X tb_ok d lw y pc (a0 :: a1 :: a2 :: a3 :: a4 :: a5 :: a6 :: r) (.int x :: S) h Q := by
  subst hp
  exact go_i (r := (pc + 2, a0 :: a1 :: a2 :: a3 :: a4 :: a5 :: some (.int x) :: r, S, h)) hf hins rfl rfl rfl k
theorem go_as6 {a0 a1 a2 a3 a4 a5 a6 : Option Value} {x : Nat} {r : sm_L} (hf : sm_ins tb_T y = f) (hins : f pc = some (.astore 6)) (hp : pc + 2 = p) (k : sm_wp tb_T X tb_ok d lw y p (a0 :: a1 :: a2 :: a3 :: a4 :: a5 :: some (.ref x) :: r) S h Q) : sm_wp tb_T X tb_ok d lw y pc (a0 :: a1 :: a2 :: a3 :: a4 :: a5 :: a6 :: r) (.ref x :: S) h Q := by
  subst hp
  exact go_i (r := (pc + 2, a0 :: a1 :: a2 :: a3 :: a4 :: a5 :: some (.ref x) :: r, S, h)) hf hins rfl rfl rfl k
theorem go_ic6 {a0 a1 a2 a3 a4 a5 : Option Value} {n : Int} {x v : Int32} {r : sm_L} (hf : sm_ins tb_T y = f) (hins : f pc = some (.iinc 6 n)) (hp : pc + 3 = p) (hv : x + Int32.ofInt n = v) (k : sm_wp tb_T X tb_ok d lw y p (a0 :: a1 :: a2 :: a3 :: a4 :: a5 :: some (.int v) :: r) S h Q) : sm_wp tb_T X tb_ok d lw y pc (a0 :: a1 :: a2 :: a3 :: a4 :: a5 :: some (.int x) :: r) S h Q := by
  subst hp
  subst hv
  exact go_i (r := (pc + 3, a0 :: a1 :: a2 :: a3 :: a4 :: a5 :: some (.int (x + Int32.ofInt n)) :: r, S, h)) hf hins rfl rfl rfl k
theorem go_il7 {a0 a1 a2 a3 a4 a5 a6 : Option Value} {x : Int32} {r : sm_L} (hf : sm_ins tb_T y = f) (hins : f pc = some (.iload 7)) (hp : pc + 2 = p) (k : sm_wp tb_T X tb_ok d lw y p (a0 :: a1 :: a2 :: a3 :: a4 :: a5 :: a6 :: some (.int x) :: r) (.int x :: S) h Q) : sm_wp tb_T X tb_ok d lw y pc (a0 :: a1 :: a2 :: a3 :: a4 :: a5 :: a6 :: some (.int x) :: r) S h Q := by
  subst hp
  exact go_i (r := (pc + 2, a0 :: a1 :: a2 :: a3 :: a4 :: a5 :: a6 :: some (.int x) :: r, .int x :: S, h)) hf hins rfl rfl rfl k
theorem go_al7 {a0 a1 a2 a3 a4 a5 a6 : Option Value} {x : Nat} {r : sm_L} (hf : sm_ins tb_T y = f) (hins : f pc = some (.aload 7)) (hp : pc + 2 = p) (k : sm_wp tb_T X tb_ok d lw y p (a0 :: a1 :: a2 :: a3 :: a4 :: a5 :: a6 :: some (.ref x) :: r) (.ref x :: S) h Q) : sm_wp tb_T X tb_ok d lw y pc (a0 :: a1 :: a2 :: a3 :: a4 :: a5 :: a6 :: some (.ref x) :: r) S h Q := by
  subst hp
  exact go_i (r := (pc + 2, a0 :: a1 :: a2 :: a3 :: a4 :: a5 :: a6 :: some (.ref x) :: r, .ref x :: S, h)) hf hins rfl rfl rfl k
theorem go_is7 {a0 a1 a2 a3 a4 a5 a6 a7 : Option Value} {x : Int32} {r : sm_L} (hf : sm_ins tb_T y = f) (hins : f pc = some (.istore 7)) (hp : pc + 2 = p) (k : sm_wp tb_T X tb_ok d lw y p (a0 :: a1 :: a2 :: a3 :: a4 :: a5 :: a6 :: some (.int x) :: r) S h Q) : sm_wp tb_T X tb_ok d lw y pc (a0 :: a1 :: a2 :: a3 :: a4 :: a5 :: a6 :: a7 :: r) (.int x :: S) h Q := by
  subst hp
  exact go_i (r := (pc + 2, a0 :: a1 :: a2 :: a3 :: a4 :: a5 :: a6 :: some (.int x) :: r, S, h)) hf hins rfl rfl rfl k
theorem go_as7 {a0 a1 a2 a3 a4 a5 a6 a7 : Option Value} {x : Nat} {r : sm_L} (hf : sm_ins tb_T y = f) (hins : f pc = some (.astore 7)) (hp : pc + 2 = p) (k : sm_wp tb_T X tb_ok d lw y p (a0 :: a1 :: a2 :: a3 :: a4 :: a5 :: a6 :: some (.ref x) :: r) S h Q) : sm_wp tb_T X tb_ok d lw y pc (a0 :: a1 :: a2 :: a3 :: a4 :: a5 :: a6 :: a7 :: r) (.ref x :: S) h Q := by
  subst hp
  exact go_i (r := (pc + 2, a0 :: a1 :: a2 :: a3 :: a4 :: a5 :: a6 :: some (.ref x) :: r, S, h)) hf hins rfl rfl rfl k
theorem go_ic7 {a0 a1 a2 a3 a4 a5 a6 : Option Value} {n : Int} {x v : Int32} {r : sm_L} (hf : sm_ins tb_T y = f) (hins : f pc = some (.iinc 7 n)) (hp : pc + 3 = p) (hv : x + Int32.ofInt n = v) (k : sm_wp tb_T X tb_ok d lw y p (a0 :: a1 :: a2 :: a3 :: a4 :: a5 :: a6 :: some (.int v) :: r) S h Q) : sm_wp tb_T X tb_ok d lw y pc (a0 :: a1 :: a2 :: a3 :: a4 :: a5 :: a6 :: some (.int x) :: r) S h Q := by
  subst hp
  subst hv
  exact go_i (r := (pc + 3, a0 :: a1 :: a2 :: a3 :: a4 :: a5 :: a6 :: some (.int (x + Int32.ofInt n)) :: r, S, h)) hf hins rfl rfl rfl k
theorem go_il8 {a0 a1 a2 a3 a4 a5 a6 a7 : Option Value} {x : Int32} {r : sm_L} (hf : sm_ins tb_T y = f) (hins : f pc = some (.iload 8)) (hp : pc + 2 = p) (k : sm_wp tb_T X tb_ok d lw y p (a0 :: a1 :: a2 :: a3 :: a4 :: a5 :: a6 :: a7 :: some (.int x) :: r) (.int x :: S) h Q) : sm_wp tb_T X tb_ok d lw y pc (a0 :: a1 :: a2 :: a3 :: a4 :: a5 :: a6 :: a7 :: some (.int x) :: r) S h Q := by
  subst hp
  exact go_i (r := (pc + 2, a0 :: a1 :: a2 :: a3 :: a4 :: a5 :: a6 :: a7 :: some (.int x) :: r, .int x :: S, h)) hf hins rfl rfl rfl k
theorem go_al8 {a0 a1 a2 a3 a4 a5 a6 a7 : Option Value} {x : Nat} {r : sm_L} (hf : sm_ins tb_T y = f) (hins : f pc = some (.aload 8)) (hp : pc + 2 = p) (k : sm_wp tb_T X tb_ok d lw y p (a0 :: a1 :: a2 :: a3 :: a4 :: a5 :: a6 :: a7 :: some (.ref x) :: r) (.ref x :: S) h Q) : sm_wp tb_T X tb_ok d lw y pc (a0 :: a1 :: a2 :: a3 :: a4 :: a5 :: a6 :: a7 :: some (.ref x) :: r) S h Q := by
  subst hp
  exact go_i (r := (pc + 2, a0 :: a1 :: a2 :: a3 :: a4 :: a5 :: a6 :: a7 :: some (.ref x) :: r, .ref x :: S, h)) hf hins rfl rfl rfl k
theorem go_is8 {a0 a1 a2 a3 a4 a5 a6 a7 a8 : Option Value} {x : Int32} {r : sm_L} (hf : sm_ins tb_T y = f) (hins : f pc = some (.istore 8)) (hp : pc + 2 = p) (k : sm_wp tb_T X tb_ok d lw y p (a0 :: a1 :: a2 :: a3 :: a4 :: a5 :: a6 :: a7 :: some (.int x) :: r) S h Q) : sm_wp tb_T X tb_ok d lw y pc (a0 :: a1 :: a2 :: a3 :: a4 :: a5 :: a6 :: a7 :: a8 :: r) (.int x :: S) h Q := by
  subst hp
  exact go_i (r := (pc + 2, a0 :: a1 :: a2 :: a3 :: a4 :: a5 :: a6 :: a7 :: some (.int x) :: r, S, h)) hf hins rfl rfl rfl k
theorem go_as8 {a0 a1 a2 a3 a4 a5 a6 a7 a8 : Option Value} {x : Nat} {r : sm_L} (hf : sm_ins tb_T y = f) (hins : f pc = some (.astore 8)) (hp : pc + 2 = p) (k : sm_wp tb_T X tb_ok d lw y p (a0 :: a1 :: a2 :: a3 :: a4 :: a5 :: a6 :: a7 :: some (.ref x) :: r) S h Q) : sm_wp tb_T X tb_ok d lw y pc (a0 :: a1 :: a2 :: a3 :: a4 :: a5 :: a6 :: a7 :: a8 :: r) (.ref x :: S) h Q := by
  subst hp
  exact go_i (r := (pc + 2, a0 :: a1 :: a2 :: a3 :: a4 :: a5 :: a6 :: a7 :: some (.ref x) :: r, S, h)) hf hins rfl rfl rfl k
theorem go_ic8 {a0 a1 a2 a3 a4 a5 a6 a7 : Option Value} {n : Int} {x v : Int32} {r : sm_L} (hf : sm_ins tb_T y = f) (hins : f pc = some (.iinc 8 n)) (hp : pc + 3 = p) (hv : x + Int32.ofInt n = v) (k : sm_wp tb_T X tb_ok d lw y p (a0 :: a1 :: a2 :: a3 :: a4 :: a5 :: a6 :: a7 :: some (.int v) :: r) S h Q) : sm_wp tb_T X tb_ok d lw y pc (a0 :: a1 :: a2 :: a3 :: a4 :: a5 :: a6 :: a7 :: some (.int x) :: r) S h Q := by
  subst hp
  subst hv
  exact go_i (r := (pc + 3, a0 :: a1 :: a2 :: a3 :: a4 :: a5 :: a6 :: a7 :: some (.int (x + Int32.ofInt n)) :: r, S, h)) hf hins rfl rfl rfl k
theorem go_il9 {a0 a1 a2 a3 a4 a5 a6 a7 a8 : Option Value} {x : Int32} {r : sm_L} (hf : sm_ins tb_T y = f) (hins : f pc = some (.iload 9)) (hp : pc + 2 = p) (k : sm_wp tb_T X tb_ok d lw y p (a0 :: a1 :: a2 :: a3 :: a4 :: a5 :: a6 :: a7 :: a8 :: some (.int x) :: r) (.int x :: S) h Q) : sm_wp tb_T X tb_ok d lw y pc (a0 :: a1 :: a2 :: a3 :: a4 :: a5 :: a6 :: a7 :: a8 :: some (.int x) :: r) S h Q := by
  subst hp
  exact go_i (r := (pc + 2, a0 :: a1 :: a2 :: a3 :: a4 :: a5 :: a6 :: a7 :: a8 :: some (.int x) :: r, .int x :: S, h)) hf hins rfl rfl rfl k
theorem go_al9 {a0 a1 a2 a3 a4 a5 a6 a7 a8 : Option Value} {x : Nat} {r : sm_L} (hf : sm_ins tb_T y = f) (hins : f pc = some (.aload 9)) (hp : pc + 2 = p) (k : sm_wp tb_T X tb_ok d lw y p (a0 :: a1 :: a2 :: a3 :: a4 :: a5 :: a6 :: a7 :: a8 :: some (.ref x) :: r) (.ref x :: S) h Q) : sm_wp tb_T X tb_ok d lw y pc (a0 :: a1 :: a2 :: a3 :: a4 :: a5 :: a6 :: a7 :: a8 :: some (.ref x) :: r) S h Q := by
  subst hp
  exact go_i (r := (pc + 2, a0 :: a1 :: a2 :: a3 :: a4 :: a5 :: a6 :: a7 :: a8 :: some (.ref x) :: r, .ref x :: S, h)) hf hins rfl rfl rfl k
theorem go_is9 {a0 a1 a2 a3 a4 a5 a6 a7 a8 a9 : Option Value} {x : Int32} {r : sm_L} (hf : sm_ins tb_T y = f) (hins : f pc = some (.istore 9)) (hp : pc + 2 = p) (k : sm_wp tb_T X tb_ok d lw y p (a0 :: a1 :: a2 :: a3 :: a4 :: a5 :: a6 :: a7 :: a8 :: some (.int x) :: r) S h Q) : sm_wp tb_T X tb_ok d lw y pc (a0 :: a1 :: a2 :: a3 :: a4 :: a5 :: a6 :: a7 :: a8 :: a9 :: r) (.int x :: S) h Q := by
  subst hp
  exact go_i (r := (pc + 2, a0 :: a1 :: a2 :: a3 :: a4 :: a5 :: a6 :: a7 :: a8 :: some (.int x) :: r, S, h)) hf hins rfl rfl rfl k
theorem go_as9 {a0 a1 a2 a3 a4 a5 a6 a7 a8 a9 : Option Value} {x : Nat} {r : sm_L} (hf : sm_ins tb_T y = f) (hins : f pc = some (.astore 9)) (hp : pc + 2 = p) (k : sm_wp tb_T X tb_ok d lw y p (a0 :: a1 :: a2 :: a3 :: a4 :: a5 :: a6 :: a7 :: a8 :: some (.ref x) :: r) S h Q) : sm_wp tb_T X tb_ok d lw y pc (a0 :: a1 :: a2 :: a3 :: a4 :: a5 :: a6 :: a7 :: a8 :: a9 :: r) (.ref x :: S) h Q := by
  subst hp
  exact go_i (r := (pc + 2, a0 :: a1 :: a2 :: a3 :: a4 :: a5 :: a6 :: a7 :: a8 :: some (.ref x) :: r, S, h)) hf hins rfl rfl rfl k
theorem go_ic9 {a0 a1 a2 a3 a4 a5 a6 a7 a8 : Option Value} {n : Int} {x v : Int32} {r : sm_L} (hf : sm_ins tb_T y = f) (hins : f pc = some (.iinc 9 n)) (hp : pc + 3 = p) (hv : x + Int32.ofInt n = v) (k : sm_wp tb_T X tb_ok d lw y p (a0 :: a1 :: a2 :: a3 :: a4 :: a5 :: a6 :: a7 :: a8 :: some (.int v) :: r) S h Q) : sm_wp tb_T X tb_ok d lw y pc (a0 :: a1 :: a2 :: a3 :: a4 :: a5 :: a6 :: a7 :: a8 :: some (.int x) :: r) S h Q := by
  subst hp
  subst hv
  exact go_i (r := (pc + 3, a0 :: a1 :: a2 :: a3 :: a4 :: a5 :: a6 :: a7 :: a8 :: some (.int (x + Int32.ofInt n)) :: r, S, h)) hf hins rfl rfl rfl k
theorem go_il10 {a0 a1 a2 a3 a4 a5 a6 a7 a8 a9 : Option Value} {x : Int32} {r : sm_L} (hf : sm_ins tb_T y = f) (hins : f pc = some (.iload 10)) (hp : pc + 2 = p) (k : sm_wp tb_T X tb_ok d lw y p (a0 :: a1 :: a2 :: a3 :: a4 :: a5 :: a6 :: a7 :: a8 :: a9 :: some (.int x) :: r) (.int x :: S) h Q) : sm_wp tb_T X tb_ok d lw y pc (a0 :: a1 :: a2 :: a3 :: a4 :: a5 :: a6 :: a7 :: a8 :: a9 :: some (.int x) :: r) S h Q := by
  subst hp
  exact go_i (r := (pc + 2, a0 :: a1 :: a2 :: a3 :: a4 :: a5 :: a6 :: a7 :: a8 :: a9 :: some (.int x) :: r, .int x :: S, h)) hf hins rfl rfl rfl k
theorem go_al10 {a0 a1 a2 a3 a4 a5 a6 a7 a8 a9 : Option Value} {x : Nat} {r : sm_L} (hf : sm_ins tb_T y = f) (hins : f pc = some (.aload 10)) (hp : pc + 2 = p) (k : sm_wp tb_T X tb_ok d lw y p (a0 :: a1 :: a2 :: a3 :: a4 :: a5 :: a6 :: a7 :: a8 :: a9 :: some (.ref x) :: r) (.ref x :: S) h Q) : sm_wp tb_T X tb_ok d lw y pc (a0 :: a1 :: a2 :: a3 :: a4 :: a5 :: a6 :: a7 :: a8 :: a9 :: some (.ref x) :: r) S h Q := by
  subst hp
  exact go_i (r := (pc + 2, a0 :: a1 :: a2 :: a3 :: a4 :: a5 :: a6 :: a7 :: a8 :: a9 :: some (.ref x) :: r, .ref x :: S, h)) hf hins rfl rfl rfl k
theorem go_is10 {a0 a1 a2 a3 a4 a5 a6 a7 a8 a9 a10 : Option Value} {x : Int32} {r : sm_L} (hf : sm_ins tb_T y = f) (hins : f pc = some (.istore 10)) (hp : pc + 2 = p) (k : sm_wp tb_T X tb_ok d lw y p (a0 :: a1 :: a2 :: a3 :: a4 :: a5 :: a6 :: a7 :: a8 :: a9 :: some (.int x) :: r) S h Q) : sm_wp tb_T X tb_ok d lw y pc (a0 :: a1 :: a2 :: a3 :: a4 :: a5 :: a6 :: a7 :: a8 :: a9 :: a10 :: r) (.int x :: S) h Q := by
  subst hp
  exact go_i (r := (pc + 2, a0 :: a1 :: a2 :: a3 :: a4 :: a5 :: a6 :: a7 :: a8 :: a9 :: some (.int x) :: r, S, h)) hf hins rfl rfl rfl k
theorem go_as10 {a0 a1 a2 a3 a4 a5 a6 a7 a8 a9 a10 : Option Value} {x : Nat} {r : sm_L} (hf : sm_ins tb_T y = f) (hins : f pc = some (.astore 10)) (hp : pc + 2 = p) (k : sm_wp tb_T X tb_ok d lw y p (a0 :: a1 :: a2 :: a3 :: a4 :: a5 :: a6 :: a7 :: a8 :: a9 :: some (.ref x) :: r) S h Q) : sm_wp tb_T X tb_ok d lw y pc (a0 :: a1 :: a2 :: a3 :: a4 :: a5 :: a6 :: a7 :: a8 :: a9 :: a10 :: r) (.ref x :: S) h Q := by
  subst hp
  exact go_i (r := (pc + 2, a0 :: a1 :: a2 :: a3 :: a4 :: a5 :: a6 :: a7 :: a8 :: a9 :: some (.ref x) :: r, S, h)) hf hins rfl rfl rfl k
theorem go_ic10 {a0 a1 a2 a3 a4 a5 a6 a7 a8 a9 : Option Value} {n : Int} {x v : Int32} {r : sm_L} (hf : sm_ins tb_T y = f) (hins : f pc = some (.iinc 10 n)) (hp : pc + 3 = p) (hv : x + Int32.ofInt n = v) (k : sm_wp tb_T X tb_ok d lw y p (a0 :: a1 :: a2 :: a3 :: a4 :: a5 :: a6 :: a7 :: a8 :: a9 :: some (.int v) :: r) S h Q) : sm_wp tb_T X tb_ok d lw y pc (a0 :: a1 :: a2 :: a3 :: a4 :: a5 :: a6 :: a7 :: a8 :: a9 :: some (.int x) :: r) S h Q := by
  subst hp
  subst hv
  exact go_i (r := (pc + 3, a0 :: a1 :: a2 :: a3 :: a4 :: a5 :: a6 :: a7 :: a8 :: a9 :: some (.int (x + Int32.ofInt n)) :: r, S, h)) hf hins rfl rfl rfl k
theorem go_il11 {a0 a1 a2 a3 a4 a5 a6 a7 a8 a9 a10 : Option Value} {x : Int32} {r : sm_L} (hf : sm_ins tb_T y = f) (hins : f pc = some (.iload 11)) (hp : pc + 2 = p) (k : sm_wp tb_T X tb_ok d lw y p (a0 :: a1 :: a2 :: a3 :: a4 :: a5 :: a6 :: a7 :: a8 :: a9 :: a10 :: some (.int x) :: r) (.int x :: S) h Q) : sm_wp tb_T X tb_ok d lw y pc (a0 :: a1 :: a2 :: a3 :: a4 :: a5 :: a6 :: a7 :: a8 :: a9 :: a10 :: some (.int x) :: r) S h Q := by
  subst hp
  exact go_i (r := (pc + 2, a0 :: a1 :: a2 :: a3 :: a4 :: a5 :: a6 :: a7 :: a8 :: a9 :: a10 :: some (.int x) :: r, .int x :: S, h)) hf hins rfl rfl rfl k
theorem go_al11 {a0 a1 a2 a3 a4 a5 a6 a7 a8 a9 a10 : Option Value} {x : Nat} {r : sm_L} (hf : sm_ins tb_T y = f) (hins : f pc = some (.aload 11)) (hp : pc + 2 = p) (k : sm_wp tb_T X tb_ok d lw y p (a0 :: a1 :: a2 :: a3 :: a4 :: a5 :: a6 :: a7 :: a8 :: a9 :: a10 :: some (.ref x) :: r) (.ref x :: S) h Q) : sm_wp tb_T X tb_ok d lw y pc (a0 :: a1 :: a2 :: a3 :: a4 :: a5 :: a6 :: a7 :: a8 :: a9 :: a10 :: some (.ref x) :: r) S h Q := by
  subst hp
  exact go_i (r := (pc + 2, a0 :: a1 :: a2 :: a3 :: a4 :: a5 :: a6 :: a7 :: a8 :: a9 :: a10 :: some (.ref x) :: r, .ref x :: S, h)) hf hins rfl rfl rfl k
theorem go_is11 {a0 a1 a2 a3 a4 a5 a6 a7 a8 a9 a10 a11 : Option Value} {x : Int32} {r : sm_L} (hf : sm_ins tb_T y = f) (hins : f pc = some (.istore 11)) (hp : pc + 2 = p) (k : sm_wp tb_T X tb_ok d lw y p (a0 :: a1 :: a2 :: a3 :: a4 :: a5 :: a6 :: a7 :: a8 :: a9 :: a10 :: some (.int x) :: r) S h Q) : sm_wp tb_T X tb_ok d lw y pc (a0 :: a1 :: a2 :: a3 :: a4 :: a5 :: a6 :: a7 :: a8 :: a9 :: a10 :: a11 :: r) (.int x :: S) h Q := by
  subst hp
  exact go_i (r := (pc + 2, a0 :: a1 :: a2 :: a3 :: a4 :: a5 :: a6 :: a7 :: a8 :: a9 :: a10 :: some (.int x) :: r, S, h)) hf hins rfl rfl rfl k
theorem go_as11 {a0 a1 a2 a3 a4 a5 a6 a7 a8 a9 a10 a11 : Option Value} {x : Nat} {r : sm_L} (hf : sm_ins tb_T y = f) (hins : f pc = some (.astore 11)) (hp : pc + 2 = p) (k : sm_wp tb_T X tb_ok d lw y p (a0 :: a1 :: a2 :: a3 :: a4 :: a5 :: a6 :: a7 :: a8 :: a9 :: a10 :: some (.ref x) :: r) S h Q) : sm_wp tb_T X tb_ok d lw y pc (a0 :: a1 :: a2 :: a3 :: a4 :: a5 :: a6 :: a7 :: a8 :: a9 :: a10 :: a11 :: r) (.ref x :: S) h Q := by
  subst hp
  exact go_i (r := (pc + 2, a0 :: a1 :: a2 :: a3 :: a4 :: a5 :: a6 :: a7 :: a8 :: a9 :: a10 :: some (.ref x) :: r, S, h)) hf hins rfl rfl rfl k
theorem go_ic11 {a0 a1 a2 a3 a4 a5 a6 a7 a8 a9 a10 : Option Value} {n : Int} {x v : Int32} {r : sm_L} (hf : sm_ins tb_T y = f) (hins : f pc = some (.iinc 11 n)) (hp : pc + 3 = p) (hv : x + Int32.ofInt n = v) (k : sm_wp tb_T X tb_ok d lw y p (a0 :: a1 :: a2 :: a3 :: a4 :: a5 :: a6 :: a7 :: a8 :: a9 :: a10 :: some (.int v) :: r) S h Q) : sm_wp tb_T X tb_ok d lw y pc (a0 :: a1 :: a2 :: a3 :: a4 :: a5 :: a6 :: a7 :: a8 :: a9 :: a10 :: some (.int x) :: r) S h Q := by
  subst hp
  subst hv
  exact go_i (r := (pc + 3, a0 :: a1 :: a2 :: a3 :: a4 :: a5 :: a6 :: a7 :: a8 :: a9 :: a10 :: some (.int (x + Int32.ofInt n)) :: r, S, h)) hf hins rfl rfl rfl k
theorem go_il12 {a0 a1 a2 a3 a4 a5 a6 a7 a8 a9 a10 a11 : Option Value} {x : Int32} {r : sm_L} (hf : sm_ins tb_T y = f) (hins : f pc = some (.iload 12)) (hp : pc + 2 = p) (k : sm_wp tb_T X tb_ok d lw y p (a0 :: a1 :: a2 :: a3 :: a4 :: a5 :: a6 :: a7 :: a8 :: a9 :: a10 :: a11 :: some (.int x) :: r) (.int x :: S) h Q) : sm_wp tb_T X tb_ok d lw y pc (a0 :: a1 :: a2 :: a3 :: a4 :: a5 :: a6 :: a7 :: a8 :: a9 :: a10 :: a11 :: some (.int x) :: r) S h Q := by
  subst hp
  exact go_i (r := (pc + 2, a0 :: a1 :: a2 :: a3 :: a4 :: a5 :: a6 :: a7 :: a8 :: a9 :: a10 :: a11 :: some (.int x) :: r, .int x :: S, h)) hf hins rfl rfl rfl k
theorem go_al12 {a0 a1 a2 a3 a4 a5 a6 a7 a8 a9 a10 a11 : Option Value} {x : Nat} {r : sm_L} (hf : sm_ins tb_T y = f) (hins : f pc = some (.aload 12)) (hp : pc + 2 = p) (k : sm_wp tb_T X tb_ok d lw y p (a0 :: a1 :: a2 :: a3 :: a4 :: a5 :: a6 :: a7 :: a8 :: a9 :: a10 :: a11 :: some (.ref x) :: r) (.ref x :: S) h Q) : sm_wp tb_T X tb_ok d lw y pc (a0 :: a1 :: a2 :: a3 :: a4 :: a5 :: a6 :: a7 :: a8 :: a9 :: a10 :: a11 :: some (.ref x) :: r) S h Q := by
  subst hp
  exact go_i (r := (pc + 2, a0 :: a1 :: a2 :: a3 :: a4 :: a5 :: a6 :: a7 :: a8 :: a9 :: a10 :: a11 :: some (.ref x) :: r, .ref x :: S, h)) hf hins rfl rfl rfl k
theorem go_is12 {a0 a1 a2 a3 a4 a5 a6 a7 a8 a9 a10 a11 a12 : Option Value} {x : Int32} {r : sm_L} (hf : sm_ins tb_T y = f) (hins : f pc = some (.istore 12)) (hp : pc + 2 = p) (k : sm_wp tb_T X tb_ok d lw y p (a0 :: a1 :: a2 :: a3 :: a4 :: a5 :: a6 :: a7 :: a8 :: a9 :: a10 :: a11 :: some (.int x) :: r) S h Q) : sm_wp tb_T X tb_ok d lw y pc (a0 :: a1 :: a2 :: a3 :: a4 :: a5 :: a6 :: a7 :: a8 :: a9 :: a10 :: a11 :: a12 :: r) (.int x :: S) h Q := by
  subst hp
  exact go_i (r := (pc + 2, a0 :: a1 :: a2 :: a3 :: a4 :: a5 :: a6 :: a7 :: a8 :: a9 :: a10 :: a11 :: some (.int x) :: r, S, h)) hf hins rfl rfl rfl k
theorem go_as12 {a0 a1 a2 a3 a4 a5 a6 a7 a8 a9 a10 a11 a12 : Option Value} {x : Nat} {r : sm_L} (hf : sm_ins tb_T y = f) (hins : f pc = some (.astore 12)) (hp : pc + 2 = p) (k : sm_wp tb_T X tb_ok d lw y p (a0 :: a1 :: a2 :: a3 :: a4 :: a5 :: a6 :: a7 :: a8 :: a9 :: a10 :: a11 :: some (.ref x) :: r) S h Q) : sm_wp tb_T X tb_ok d lw y pc (a0 :: a1 :: a2 :: a3 :: a4 :: a5 :: a6 :: a7 :: a8 :: a9 :: a10 :: a11 :: a12 :: r) (.ref x :: S) h Q := by
  subst hp
  exact go_i (r := (pc + 2, a0 :: a1 :: a2 :: a3 :: a4 :: a5 :: a6 :: a7 :: a8 :: a9 :: a10 :: a11 :: some (.ref x) :: r, S, h)) hf hins rfl rfl rfl k
theorem go_ic12 {a0 a1 a2 a3 a4 a5 a6 a7 a8 a9 a10 a11 : Option Value} {n : Int} {x v : Int32} {r : sm_L} (hf : sm_ins tb_T y = f) (hins : f pc = some (.iinc 12 n)) (hp : pc + 3 = p) (hv : x + Int32.ofInt n = v) (k : sm_wp tb_T X tb_ok d lw y p (a0 :: a1 :: a2 :: a3 :: a4 :: a5 :: a6 :: a7 :: a8 :: a9 :: a10 :: a11 :: some (.int v) :: r) S h Q) : sm_wp tb_T X tb_ok d lw y pc (a0 :: a1 :: a2 :: a3 :: a4 :: a5 :: a6 :: a7 :: a8 :: a9 :: a10 :: a11 :: some (.int x) :: r) S h Q := by
  subst hp
  subst hv
  exact go_i (r := (pc + 3, a0 :: a1 :: a2 :: a3 :: a4 :: a5 :: a6 :: a7 :: a8 :: a9 :: a10 :: a11 :: some (.int (x + Int32.ofInt n)) :: r, S, h)) hf hins rfl rfl rfl k
theorem go_il13 {a0 a1 a2 a3 a4 a5 a6 a7 a8 a9 a10 a11 a12 : Option Value} {x : Int32} {r : sm_L} (hf : sm_ins tb_T y = f) (hins : f pc = some (.iload 13)) (hp : pc + 2 = p) (k : sm_wp tb_T X tb_ok d lw y p (a0 :: a1 :: a2 :: a3 :: a4 :: a5 :: a6 :: a7 :: a8 :: a9 :: a10 :: a11 :: a12 :: some (.int x) :: r) (.int x :: S) h Q) : sm_wp tb_T X tb_ok d lw y pc (a0 :: a1 :: a2 :: a3 :: a4 :: a5 :: a6 :: a7 :: a8 :: a9 :: a10 :: a11 :: a12 :: some (.int x) :: r) S h Q := by
  subst hp
  exact go_i (r := (pc + 2, a0 :: a1 :: a2 :: a3 :: a4 :: a5 :: a6 :: a7 :: a8 :: a9 :: a10 :: a11 :: a12 :: some (.int x) :: r, .int x :: S, h)) hf hins rfl rfl rfl k
theorem go_al13 {a0 a1 a2 a3 a4 a5 a6 a7 a8 a9 a10 a11 a12 : Option Value} {x : Nat} {r : sm_L} (hf : sm_ins tb_T y = f) (hins : f pc = some (.aload 13)) (hp : pc + 2 = p) (k : sm_wp tb_T X tb_ok d lw y p (a0 :: a1 :: a2 :: a3 :: a4 :: a5 :: a6 :: a7 :: a8 :: a9 :: a10 :: a11 :: a12 :: some (.ref x) :: r) (.ref x :: S) h Q) : sm_wp tb_T X tb_ok d lw y pc (a0 :: a1 :: a2 :: a3 :: a4 :: a5 :: a6 :: a7 :: a8 :: a9 :: a10 :: a11 :: a12 :: some (.ref x) :: r) S h Q := by
  subst hp
  exact go_i (r := (pc + 2, a0 :: a1 :: a2 :: a3 :: a4 :: a5 :: a6 :: a7 :: a8 :: a9 :: a10 :: a11 :: a12 :: some (.ref x) :: r, .ref x :: S, h)) hf hins rfl rfl rfl k
theorem go_is13 {a0 a1 a2 a3 a4 a5 a6 a7 a8 a9 a10 a11 a12 a13 : Option Value} {x : Int32} {r : sm_L} (hf : sm_ins tb_T y = f) (hins : f pc = some (.istore 13)) (hp : pc + 2 = p) (k : sm_wp tb_T X tb_ok d lw y p (a0 :: a1 :: a2 :: a3 :: a4 :: a5 :: a6 :: a7 :: a8 :: a9 :: a10 :: a11 :: a12 :: some (.int x) :: r) S h Q) : sm_wp tb_T X tb_ok d lw y pc (a0 :: a1 :: a2 :: a3 :: a4 :: a5 :: a6 :: a7 :: a8 :: a9 :: a10 :: a11 :: a12 :: a13 :: r) (.int x :: S) h Q := by
  subst hp
  exact go_i (r := (pc + 2, a0 :: a1 :: a2 :: a3 :: a4 :: a5 :: a6 :: a7 :: a8 :: a9 :: a10 :: a11 :: a12 :: some (.int x) :: r, S, h)) hf hins rfl rfl rfl k
theorem go_as13 {a0 a1 a2 a3 a4 a5 a6 a7 a8 a9 a10 a11 a12 a13 : Option Value} {x : Nat} {r : sm_L} (hf : sm_ins tb_T y = f) (hins : f pc = some (.astore 13)) (hp : pc + 2 = p) (k : sm_wp tb_T X tb_ok d lw y p (a0 :: a1 :: a2 :: a3 :: a4 :: a5 :: a6 :: a7 :: a8 :: a9 :: a10 :: a11 :: a12 :: some (.ref x) :: r) S h Q) : sm_wp tb_T X tb_ok d lw y pc (a0 :: a1 :: a2 :: a3 :: a4 :: a5 :: a6 :: a7 :: a8 :: a9 :: a10 :: a11 :: a12 :: a13 :: r) (.ref x :: S) h Q := by
  subst hp
  exact go_i (r := (pc + 2, a0 :: a1 :: a2 :: a3 :: a4 :: a5 :: a6 :: a7 :: a8 :: a9 :: a10 :: a11 :: a12 :: some (.ref x) :: r, S, h)) hf hins rfl rfl rfl k
theorem go_ic13 {a0 a1 a2 a3 a4 a5 a6 a7 a8 a9 a10 a11 a12 : Option Value} {n : Int} {x v : Int32} {r : sm_L} (hf : sm_ins tb_T y = f) (hins : f pc = some (.iinc 13 n)) (hp : pc + 3 = p) (hv : x + Int32.ofInt n = v) (k : sm_wp tb_T X tb_ok d lw y p (a0 :: a1 :: a2 :: a3 :: a4 :: a5 :: a6 :: a7 :: a8 :: a9 :: a10 :: a11 :: a12 :: some (.int v) :: r) S h Q) : sm_wp tb_T X tb_ok d lw y pc (a0 :: a1 :: a2 :: a3 :: a4 :: a5 :: a6 :: a7 :: a8 :: a9 :: a10 :: a11 :: a12 :: some (.int x) :: r) S h Q := by
  subst hp
  subst hv
  exact go_i (r := (pc + 3, a0 :: a1 :: a2 :: a3 :: a4 :: a5 :: a6 :: a7 :: a8 :: a9 :: a10 :: a11 :: a12 :: some (.int (x + Int32.ofInt n)) :: r, S, h)) hf hins rfl rfl rfl k
theorem go_il14 {a0 a1 a2 a3 a4 a5 a6 a7 a8 a9 a10 a11 a12 a13 : Option Value} {x : Int32} {r : sm_L} (hf : sm_ins tb_T y = f) (hins : f pc = some (.iload 14)) (hp : pc + 2 = p) (k : sm_wp tb_T X tb_ok d lw y p (a0 :: a1 :: a2 :: a3 :: a4 :: a5 :: a6 :: a7 :: a8 :: a9 :: a10 :: a11 :: a12 :: a13 :: some (.int x) :: r) (.int x :: S) h Q) : sm_wp tb_T X tb_ok d lw y pc (a0 :: a1 :: a2 :: a3 :: a4 :: a5 :: a6 :: a7 :: a8 :: a9 :: a10 :: a11 :: a12 :: a13 :: some (.int x) :: r) S h Q := by
  subst hp
  exact go_i (r := (pc + 2, a0 :: a1 :: a2 :: a3 :: a4 :: a5 :: a6 :: a7 :: a8 :: a9 :: a10 :: a11 :: a12 :: a13 :: some (.int x) :: r, .int x :: S, h)) hf hins rfl rfl rfl k
theorem go_al14 {a0 a1 a2 a3 a4 a5 a6 a7 a8 a9 a10 a11 a12 a13 : Option Value} {x : Nat} {r : sm_L} (hf : sm_ins tb_T y = f) (hins : f pc = some (.aload 14)) (hp : pc + 2 = p) (k : sm_wp tb_T X tb_ok d lw y p (a0 :: a1 :: a2 :: a3 :: a4 :: a5 :: a6 :: a7 :: a8 :: a9 :: a10 :: a11 :: a12 :: a13 :: some (.ref x) :: r) (.ref x :: S) h Q) : sm_wp tb_T X tb_ok d lw y pc (a0 :: a1 :: a2 :: a3 :: a4 :: a5 :: a6 :: a7 :: a8 :: a9 :: a10 :: a11 :: a12 :: a13 :: some (.ref x) :: r) S h Q := by
  subst hp
  exact go_i (r := (pc + 2, a0 :: a1 :: a2 :: a3 :: a4 :: a5 :: a6 :: a7 :: a8 :: a9 :: a10 :: a11 :: a12 :: a13 :: some (.ref x) :: r, .ref x :: S, h)) hf hins rfl rfl rfl k
theorem go_is14 {a0 a1 a2 a3 a4 a5 a6 a7 a8 a9 a10 a11 a12 a13 a14 : Option Value} {x : Int32} {r : sm_L} (hf : sm_ins tb_T y = f) (hins : f pc = some (.istore 14)) (hp : pc + 2 = p) (k : sm_wp tb_T X tb_ok d lw y p (a0 :: a1 :: a2 :: a3 :: a4 :: a5 :: a6 :: a7 :: a8 :: a9 :: a10 :: a11 :: a12 :: a13 :: some (.int x) :: r) S h Q) : sm_wp tb_T X tb_ok d lw y pc (a0 :: a1 :: a2 :: a3 :: a4 :: a5 :: a6 :: a7 :: a8 :: a9 :: a10 :: a11 :: a12 :: a13 :: a14 :: r) (.int x :: S) h Q := by
  subst hp
  exact go_i (r := (pc + 2, a0 :: a1 :: a2 :: a3 :: a4 :: a5 :: a6 :: a7 :: a8 :: a9 :: a10 :: a11 :: a12 :: a13 :: some (.int x) :: r, S, h)) hf hins rfl rfl rfl k
theorem go_as14 {a0 a1 a2 a3 a4 a5 a6 a7 a8 a9 a10 a11 a12 a13 a14 : Option Value} {x : Nat} {r : sm_L} (hf : sm_ins tb_T y = f) (hins : f pc = some (.astore 14)) (hp : pc + 2 = p) (k : sm_wp tb_T X tb_ok d lw y p (a0 :: a1 :: a2 :: a3 :: a4 :: a5 :: a6 :: a7 :: a8 :: a9 :: a10 :: a11 :: a12 :: a13 :: some (.ref x) :: r) S h Q) : sm_wp tb_T X tb_ok d lw y pc (a0 :: a1 :: a2 :: a3 :: a4 :: a5 :: a6 :: a7 :: a8 :: a9 :: a10 :: a11 :: a12 :: a13 :: a14 :: r) (.ref x :: S) h Q := by
  subst hp
  exact go_i (r := (pc + 2, a0 :: a1 :: a2 :: a3 :: a4 :: a5 :: a6 :: a7 :: a8 :: a9 :: a10 :: a11 :: a12 :: a13 :: some (.ref x) :: r, S, h)) hf hins rfl rfl rfl k
theorem go_ic14 {a0 a1 a2 a3 a4 a5 a6 a7 a8 a9 a10 a11 a12 a13 : Option Value} {n : Int} {x v : Int32} {r : sm_L} (hf : sm_ins tb_T y = f) (hins : f pc = some (.iinc 14 n)) (hp : pc + 3 = p) (hv : x + Int32.ofInt n = v) (k : sm_wp tb_T X tb_ok d lw y p (a0 :: a1 :: a2 :: a3 :: a4 :: a5 :: a6 :: a7 :: a8 :: a9 :: a10 :: a11 :: a12 :: a13 :: some (.int v) :: r) S h Q) : sm_wp tb_T X tb_ok d lw y pc (a0 :: a1 :: a2 :: a3 :: a4 :: a5 :: a6 :: a7 :: a8 :: a9 :: a10 :: a11 :: a12 :: a13 :: some (.int x) :: r) S h Q := by
  subst hp
  subst hv
  exact go_i (r := (pc + 3, a0 :: a1 :: a2 :: a3 :: a4 :: a5 :: a6 :: a7 :: a8 :: a9 :: a10 :: a11 :: a12 :: a13 :: some (.int (x + Int32.ofInt n)) :: r, S, h)) hf hins rfl rfl rfl k
theorem go_alX {x : Nat} {r : sm_L} (hf : sm_ins tb_T y = f) (hins : f pc = some (.aload_n 0)) (hp : pc + 1 = p) (k : sm_wp tb_T X tb_ok d lw y p (some (.retAddr x) :: r) (.retAddr x :: S) h Q) : sm_wp tb_T X tb_ok d lw y pc (some (.retAddr x) :: r) S h Q := by
  subst hp
  exact go_i (r := (pc + 1, some (.retAddr x) :: r, .retAddr x :: S, h)) hf hins rfl rfl rfl k
theorem go_iadd {a b v : Int32} (hf : sm_ins tb_T y = f) (hins : f pc = some .iadd) (hp : pc + 1 = p) (hv : a + b = v) (k : sm_wp tb_T X tb_ok d lw y p L (.int v :: S) h Q) : sm_wp tb_T X tb_ok d lw y pc L (.int b :: .int a :: S) h Q := by
  subst hp
  subst hv
  exact go_i (r := (pc + 1, L, .int (a + b) :: S, h)) hf hins rfl rfl rfl k
theorem go_isub {a b v : Int32} (hf : sm_ins tb_T y = f) (hins : f pc = some .isub) (hp : pc + 1 = p) (hv : a - b = v) (k : sm_wp tb_T X tb_ok d lw y p L (.int v :: S) h Q) : sm_wp tb_T X tb_ok d lw y pc L (.int b :: .int a :: S) h Q := by
  subst hp
  subst hv
  exact go_i (r := (pc + 1, L, .int (a - b) :: S, h)) hf hins rfl rfl rfl k
theorem go_imul {a b v : Int32} (hf : sm_ins tb_T y = f) (hins : f pc = some .imul) (hp : pc + 1 = p) (hv : a * b = v) (k : sm_wp tb_T X tb_ok d lw y p L (.int v :: S) h Q) : sm_wp tb_T X tb_ok d lw y pc L (.int b :: .int a :: S) h Q := by
  subst hp
  subst hv
  exact go_i (r := (pc + 1, L, .int (a * b) :: S, h)) hf hins rfl rfl rfl k
theorem go_iand {a b v : Int32} (hf : sm_ins tb_T y = f) (hins : f pc = some .iand) (hp : pc + 1 = p) (hv : a &&& b = v) (k : sm_wp tb_T X tb_ok d lw y p L (.int v :: S) h Q) : sm_wp tb_T X tb_ok d lw y pc L (.int b :: .int a :: S) h Q := by
  subst hp
  subst hv
  exact go_i (r := (pc + 1, L, .int (a &&& b) :: S, h)) hf hins rfl rfl rfl k
theorem go_ior {a b v : Int32} (hf : sm_ins tb_T y = f) (hins : f pc = some .ior) (hp : pc + 1 = p) (hv : a ||| b = v) (k : sm_wp tb_T X tb_ok d lw y p L (.int v :: S) h Q) : sm_wp tb_T X tb_ok d lw y pc L (.int b :: .int a :: S) h Q := by
  subst hp
  subst hv
  exact go_i (r := (pc + 1, L, .int (a ||| b) :: S, h)) hf hins rfl rfl rfl k
theorem go_ixor {a b v : Int32} (hf : sm_ins tb_T y = f) (hins : f pc = some .ixor) (hp : pc + 1 = p) (hv : a ^^^ b = v) (k : sm_wp tb_T X tb_ok d lw y p L (.int v :: S) h Q) : sm_wp tb_T X tb_ok d lw y pc L (.int b :: .int a :: S) h Q := by
  subst hp
  subst hv
  exact go_i (r := (pc + 1, L, .int (a ^^^ b) :: S, h)) hf hins rfl rfl rfl k
theorem go_ishl {a b v : Int32} (hf : sm_ins tb_T y = f) (hins : f pc = some .ishl) (hp : pc + 1 = p) (hv : a <<< (b &&& 31) = v) (k : sm_wp tb_T X tb_ok d lw y p L (.int v :: S) h Q) : sm_wp tb_T X tb_ok d lw y pc L (.int b :: .int a :: S) h Q := by
  subst hp
  subst hv
  exact go_i (r := (pc + 1, L, .int (a <<< (b &&& 31)) :: S, h)) hf hins rfl rfl rfl k
theorem go_ishr {a b v : Int32} (hf : sm_ins tb_T y = f) (hins : f pc = some .ishr) (hp : pc + 1 = p) (hv : a >>> (b &&& 31) = v) (k : sm_wp tb_T X tb_ok d lw y p L (.int v :: S) h Q) : sm_wp tb_T X tb_ok d lw y pc L (.int b :: .int a :: S) h Q := by
  subst hp
  subst hv
  exact go_i (r := (pc + 1, L, .int (a >>> (b &&& 31)) :: S, h)) hf hins rfl rfl rfl k
theorem go_br {c : ClassFile.Cond} {off : Int} {a : Int32} {p2 : Nat} (hf : sm_ins tb_T y = f) (hins : f pc = some (.ifCond c off)) (hp : pc + 3 = p) (h0 : (pc : Int) + off = p2) (kt : sm_cnd c a 0 → sm_wp tb_T X tb_ok d lw y p2 L S h Q) (kf : ¬ sm_cnd c a 0 → sm_wp tb_T X tb_ok d lw y p L S h Q) : sm_wp tb_T X tb_ok d lw y pc L (.int a :: S) h Q := by
  subst hp
  have e2 : sm_tgt pc off = p2 := by unfold sm_tgt; omega
  refine go_i (r := (sm_sel c a 0 (sm_tgt pc off) (pc + 3), L, S, h)) hf hins rfl rfl (if_pos (by omega)) ?_
  by_cases hc : sm_cnd c a 0
  · rw [sm_sel_t hc, e2]; exact kt hc
  · rw [sm_sel_f hc]; exact kf hc
theorem go_br2 {c : ClassFile.Cond} {off : Int} {a b : Int32} {p2 : Nat} (hf : sm_ins tb_T y = f) (hins : f pc = some (.if_icmp c off)) (hp : pc + 3 = p) (h0 : (pc : Int) + off = p2) (kt : sm_cnd c a b → sm_wp tb_T X tb_ok d lw y p2 L S h Q) (kf : ¬ sm_cnd c a b → sm_wp tb_T X tb_ok d lw y p L S h Q) : sm_wp tb_T X tb_ok d lw y pc L (.int b :: .int a :: S) h Q := by
  subst hp
  have e2 : sm_tgt pc off = p2 := by unfold sm_tgt; omega
  refine go_i (r := (sm_sel c a b (sm_tgt pc off) (pc + 3), L, S, h)) hf hins rfl rfl (if_pos (by omega)) ?_
  by_cases hc : sm_cnd c a b
  · rw [sm_sel_t hc, e2]; exact kt hc
  · rw [sm_sel_f hc]; exact kf hc
theorem go_if_eq {off : Int} {a : Int32} {p2 : Nat} (hf : sm_ins tb_T y = f) (hins : f pc = some (.ifCond .eq off)) (hp : pc + 3 = p) (h0 : (pc : Int) + off = p2) (kt : a = 0 → sm_wp tb_T X tb_ok d lw y p2 L S h Q) (kf : ¬ a = 0 → sm_wp tb_T X tb_ok d lw y p L S h Q) : sm_wp tb_T X tb_ok d lw y pc L (.int a :: S) h Q :=
  go_br hf hins hp h0 kt (fun hc => kf hc)
theorem go_ic_eq {off : Int} {a b : Int32} {p2 : Nat} (hf : sm_ins tb_T y = f) (hins : f pc = some (.if_icmp .eq off)) (hp : pc + 3 = p) (h0 : (pc : Int) + off = p2) (kt : a = b → sm_wp tb_T X tb_ok d lw y p2 L S h Q) (kf : ¬ a = b → sm_wp tb_T X tb_ok d lw y p L S h Q) : sm_wp tb_T X tb_ok d lw y pc L (.int b :: .int a :: S) h Q :=
  go_br2 hf hins hp h0 kt (fun hc => kf hc)
theorem go_nn_eq {off : Int} {a b : Nat} {p2 : Nat} (hf : sm_ins tb_T y = f) (hins : f pc = some (.if_icmp .eq off)) (hp : pc + 3 = p) (h0 : (pc : Int) + off = p2) (ha : a < 2 ^ 31) (hb : b < 2 ^ 31) (kt : a = b → sm_wp tb_T X tb_ok d lw y p2 L S h Q) (kf : ¬ a = b → sm_wp tb_T X tb_ok d lw y p L S h Q) : sm_wp tb_T X tb_ok d lw y pc L (.int (nI b) :: .int (nI a) :: S) h Q :=
  go_ic_eq hf hins hp h0 (fun hc => kt ((nI_eq ha hb).mp hc)) (fun hc => kf (fun h9 => hc ((nI_eq ha hb).mpr h9)))
theorem go_if_ne {off : Int} {a : Int32} {p2 : Nat} (hf : sm_ins tb_T y = f) (hins : f pc = some (.ifCond .ne off)) (hp : pc + 3 = p) (h0 : (pc : Int) + off = p2) (kt : ¬ a = 0 → sm_wp tb_T X tb_ok d lw y p2 L S h Q) (kf : a = 0 → sm_wp tb_T X tb_ok d lw y p L S h Q) : sm_wp tb_T X tb_ok d lw y pc L (.int a :: S) h Q :=
  go_br hf hins hp h0 kt (fun hc => kf (Classical.not_not.mp hc))
theorem go_ic_ne {off : Int} {a b : Int32} {p2 : Nat} (hf : sm_ins tb_T y = f) (hins : f pc = some (.if_icmp .ne off)) (hp : pc + 3 = p) (h0 : (pc : Int) + off = p2) (kt : ¬ a = b → sm_wp tb_T X tb_ok d lw y p2 L S h Q) (kf : a = b → sm_wp tb_T X tb_ok d lw y p L S h Q) : sm_wp tb_T X tb_ok d lw y pc L (.int b :: .int a :: S) h Q :=
  go_br2 hf hins hp h0 kt (fun hc => kf (Classical.not_not.mp hc))
theorem go_nn_ne {off : Int} {a b : Nat} {p2 : Nat} (hf : sm_ins tb_T y = f) (hins : f pc = some (.if_icmp .ne off)) (hp : pc + 3 = p) (h0 : (pc : Int) + off = p2) (ha : a < 2 ^ 31) (hb : b < 2 ^ 31) (kt : ¬ a = b → sm_wp tb_T X tb_ok d lw y p2 L S h Q) (kf : a = b → sm_wp tb_T X tb_ok d lw y p L S h Q) : sm_wp tb_T X tb_ok d lw y pc L (.int (nI b) :: .int (nI a) :: S) h Q :=
  go_ic_ne hf hins hp h0 (fun hc => kt ((not_congr (nI_eq ha hb)).mp hc)) (fun hc => kf ((nI_eq ha hb).mp hc))
theorem go_if_lt {off : Int} {a : Int32} {p2 : Nat} (hf : sm_ins tb_T y = f) (hins : f pc = some (.ifCond .lt off)) (hp : pc + 3 = p) (h0 : (pc : Int) + off = p2) (kt : a < 0 → sm_wp tb_T X tb_ok d lw y p2 L S h Q) (kf : ¬ a < 0 → sm_wp tb_T X tb_ok d lw y p L S h Q) : sm_wp tb_T X tb_ok d lw y pc L (.int a :: S) h Q :=
  go_br hf hins hp h0 kt (fun hc => kf hc)
theorem go_ic_lt {off : Int} {a b : Int32} {p2 : Nat} (hf : sm_ins tb_T y = f) (hins : f pc = some (.if_icmp .lt off)) (hp : pc + 3 = p) (h0 : (pc : Int) + off = p2) (kt : a < b → sm_wp tb_T X tb_ok d lw y p2 L S h Q) (kf : ¬ a < b → sm_wp tb_T X tb_ok d lw y p L S h Q) : sm_wp tb_T X tb_ok d lw y pc L (.int b :: .int a :: S) h Q :=
  go_br2 hf hins hp h0 kt (fun hc => kf hc)
theorem go_nn_lt {off : Int} {a b : Nat} {p2 : Nat} (hf : sm_ins tb_T y = f) (hins : f pc = some (.if_icmp .lt off)) (hp : pc + 3 = p) (h0 : (pc : Int) + off = p2) (ha : a < 2 ^ 31) (hb : b < 2 ^ 31) (kt : a < b → sm_wp tb_T X tb_ok d lw y p2 L S h Q) (kf : ¬ a < b → sm_wp tb_T X tb_ok d lw y p L S h Q) : sm_wp tb_T X tb_ok d lw y pc L (.int (nI b) :: .int (nI a) :: S) h Q :=
  go_ic_lt hf hins hp h0 (fun hc => kt ((nI_ltI ha hb).mp hc)) (fun hc => kf (fun h9 => hc ((nI_ltI ha hb).mpr h9)))
theorem go_if_ge {off : Int} {a : Int32} {p2 : Nat} (hf : sm_ins tb_T y = f) (hins : f pc = some (.ifCond .ge off)) (hp : pc + 3 = p) (h0 : (pc : Int) + off = p2) (kt : 0 ≤ a → sm_wp tb_T X tb_ok d lw y p2 L S h Q) (kf : ¬ 0 ≤ a → sm_wp tb_T X tb_ok d lw y p L S h Q) : sm_wp tb_T X tb_ok d lw y pc L (.int a :: S) h Q :=
  go_br hf hins hp h0 kt (fun hc => kf hc)
theorem go_ic_ge {off : Int} {a b : Int32} {p2 : Nat} (hf : sm_ins tb_T y = f) (hins : f pc = some (.if_icmp .ge off)) (hp : pc + 3 = p) (h0 : (pc : Int) + off = p2) (kt : b ≤ a → sm_wp tb_T X tb_ok d lw y p2 L S h Q) (kf : ¬ b ≤ a → sm_wp tb_T X tb_ok d lw y p L S h Q) : sm_wp tb_T X tb_ok d lw y pc L (.int b :: .int a :: S) h Q :=
  go_br2 hf hins hp h0 kt (fun hc => kf hc)
theorem go_nn_ge {off : Int} {a b : Nat} {p2 : Nat} (hf : sm_ins tb_T y = f) (hins : f pc = some (.if_icmp .ge off)) (hp : pc + 3 = p) (h0 : (pc : Int) + off = p2) (ha : a < 2 ^ 31) (hb : b < 2 ^ 31) (kt : b ≤ a → sm_wp tb_T X tb_ok d lw y p2 L S h Q) (kf : ¬ b ≤ a → sm_wp tb_T X tb_ok d lw y p L S h Q) : sm_wp tb_T X tb_ok d lw y pc L (.int (nI b) :: .int (nI a) :: S) h Q :=
  go_ic_ge hf hins hp h0 (fun hc => kt ((nI_leI hb ha).mp hc)) (fun hc => kf (fun h9 => hc ((nI_leI hb ha).mpr h9)))
theorem go_if_gt {off : Int} {a : Int32} {p2 : Nat} (hf : sm_ins tb_T y = f) (hins : f pc = some (.ifCond .gt off)) (hp : pc + 3 = p) (h0 : (pc : Int) + off = p2) (kt : 0 < a → sm_wp tb_T X tb_ok d lw y p2 L S h Q) (kf : ¬ 0 < a → sm_wp tb_T X tb_ok d lw y p L S h Q) : sm_wp tb_T X tb_ok d lw y pc L (.int a :: S) h Q :=
  go_br hf hins hp h0 kt (fun hc => kf hc)
theorem go_ic_gt {off : Int} {a b : Int32} {p2 : Nat} (hf : sm_ins tb_T y = f) (hins : f pc = some (.if_icmp .gt off)) (hp : pc + 3 = p) (h0 : (pc : Int) + off = p2) (kt : b < a → sm_wp tb_T X tb_ok d lw y p2 L S h Q) (kf : ¬ b < a → sm_wp tb_T X tb_ok d lw y p L S h Q) : sm_wp tb_T X tb_ok d lw y pc L (.int b :: .int a :: S) h Q :=
  go_br2 hf hins hp h0 kt (fun hc => kf hc)
theorem go_nn_gt {off : Int} {a b : Nat} {p2 : Nat} (hf : sm_ins tb_T y = f) (hins : f pc = some (.if_icmp .gt off)) (hp : pc + 3 = p) (h0 : (pc : Int) + off = p2) (ha : a < 2 ^ 31) (hb : b < 2 ^ 31) (kt : b < a → sm_wp tb_T X tb_ok d lw y p2 L S h Q) (kf : ¬ b < a → sm_wp tb_T X tb_ok d lw y p L S h Q) : sm_wp tb_T X tb_ok d lw y pc L (.int (nI b) :: .int (nI a) :: S) h Q :=
  go_ic_gt hf hins hp h0 (fun hc => kt ((nI_ltI hb ha).mp hc)) (fun hc => kf (fun h9 => hc ((nI_ltI hb ha).mpr h9)))
theorem go_if_le {off : Int} {a : Int32} {p2 : Nat} (hf : sm_ins tb_T y = f) (hins : f pc = some (.ifCond .le off)) (hp : pc + 3 = p) (h0 : (pc : Int) + off = p2) (kt : a ≤ 0 → sm_wp tb_T X tb_ok d lw y p2 L S h Q) (kf : ¬ a ≤ 0 → sm_wp tb_T X tb_ok d lw y p L S h Q) : sm_wp tb_T X tb_ok d lw y pc L (.int a :: S) h Q :=
  go_br hf hins hp h0 kt (fun hc => kf hc)
theorem go_ic_le {off : Int} {a b : Int32} {p2 : Nat} (hf : sm_ins tb_T y = f) (hins : f pc = some (.if_icmp .le off)) (hp : pc + 3 = p) (h0 : (pc : Int) + off = p2) (kt : a ≤ b → sm_wp tb_T X tb_ok d lw y p2 L S h Q) (kf : ¬ a ≤ b → sm_wp tb_T X tb_ok d lw y p L S h Q) : sm_wp tb_T X tb_ok d lw y pc L (.int b :: .int a :: S) h Q :=
  go_br2 hf hins hp h0 kt (fun hc => kf hc)
theorem go_nn_le {off : Int} {a b : Nat} {p2 : Nat} (hf : sm_ins tb_T y = f) (hins : f pc = some (.if_icmp .le off)) (hp : pc + 3 = p) (h0 : (pc : Int) + off = p2) (ha : a < 2 ^ 31) (hb : b < 2 ^ 31) (kt : a ≤ b → sm_wp tb_T X tb_ok d lw y p2 L S h Q) (kf : ¬ a ≤ b → sm_wp tb_T X tb_ok d lw y p L S h Q) : sm_wp tb_T X tb_ok d lw y pc L (.int (nI b) :: .int (nI a) :: S) h Q :=
  go_ic_le hf hins hp h0 (fun hc => kt ((nI_leI ha hb).mp hc)) (fun hc => kf (fun h9 => hc ((nI_leI ha hb).mpr h9)))
theorem go_goto {off : Int} {p2 : Nat} (hf : sm_ins tb_T y = f) (hins : f pc = some (.goto off)) (h0 : (pc : Int) + off = p2) (k : sm_wp tb_T X tb_ok d lw y p2 L S h Q) : sm_wp tb_T X tb_ok d lw y pc L S h Q := by
  have e2 : sm_tgt pc off = p2 := by unfold sm_tgt; omega
  exact go_i (r := (sm_tgt pc off, L, S, h)) hf hins rfl rfl (if_pos (by omega)) (by rw [e2]; exact k)
theorem go_get {idx ci j kd q : Nat} {v : Int32} {fs : List (Option (Option Nat))} (hf : sm_ins tb_T y = f) (ho : tb_on y = c) (hins : f pc = some (.getfield idx)) (hfl : tb_fd tb_FL c idx = some (ci, j, kd)) (hp : pc + 3 = p) (hq : sh[q]? = some (.inl (ci, fs))) (hj : fs[j]? = some none) (hv : M q j = v) (k : sm_wp tb_T X tb_ok d lw y p L (.int v :: S) (sh, M, J, rc, rs) Q) : sm_wp tb_T X tb_ok d lw y pc L (.ref q :: S) (sh, M, J, rc, rs) Q := by
  subst hp
  subst hv
  refine go_i (r := (pc + 3, L, .int (M q j) :: S, (sh, M, J, rc, rs))) hf hins rfl rfl ?_ k
  show sm_get (pc + 3) L (.ref q :: S) (sh, M, J, rc, rs) (tb_fd tb_FL (tb_on y) idx) = _
  unfold sm_get
  rw [ho, hfl]
  dsimp only
  rw [hq]
  dsimp only
  rw [if_pos rfl, hj]
theorem go_getr {idx ci j kd q z : Nat} {fs : List (Option (Option Nat))} (hf : sm_ins tb_T y = f) (ho : tb_on y = c) (hins : f pc = some (.getfield idx)) (hfl : tb_fd tb_FL c idx = some (ci, j, kd)) (hp : pc + 3 = p) (hq : sh[q]? = some (.inl (ci, fs))) (hj : fs[j]? = some (some (some z))) (k : sm_wp tb_T X tb_ok d lw y p L (.ref z :: S) (sh, M, J, rc, rs) Q) : sm_wp tb_T X tb_ok d lw y pc L (.ref q :: S) (sh, M, J, rc, rs) Q := by
  subst hp
  refine go_i (r := (pc + 3, L, .ref z :: S, (sh, M, J, rc, rs))) hf hins rfl rfl ?_ k
  show sm_get (pc + 3) L (.ref q :: S) (sh, M, J, rc, rs) (tb_fd tb_FL (tb_on y) idx) = _
  unfold sm_get
  rw [ho, hfl]
  dsimp only
  rw [hq]
  dsimp only
  rw [if_pos rfl, hj]
theorem go_put {idx ci j kd q : Nat} {x : Int32} {fs : List (Option (Option Nat))} (hf : sm_ins tb_T y = f) (ho : tb_on y = c) (hins : f pc = some (.putfield idx)) (hfl : tb_fd tb_FL c idx = some (ci, j, kd)) (hp : pc + 3 = p) (hq : sh[q]? = some (.inl (ci, fs))) (hj : fs[j]? = some none) (hkd : kd = 0 ∨ kd = 1 ∧ (x = 0 ∨ x = 1)) (k : sm_wp tb_T X tb_ok d lw y p L S (sh, sm_up M q j x, J, rc, rs) Q) : sm_wp tb_T X tb_ok d lw y pc L (.int x :: .ref q :: S) (sh, M, J, rc, rs) Q := by
  subst hp
  refine go_i (r := (pc + 3, L, S, (sh, sm_up M q j x, J, rc, rs))) hf hins rfl rfl ?_ k
  show sm_put (pc + 3) L (.int x :: .ref q :: S) (sh, M, J, rc, rs) (tb_fd tb_FL (tb_on y) idx) = _
  unfold sm_put
  rw [ho, hfl]
  dsimp only
  rw [hq]
  dsimp only
  rw [if_pos ⟨rfl, hj, hkd⟩]
theorem go_ix {k n : Nat} (hk : k < n) (hn : n < 2 ^ 31) : 0 ≤ (nI k).toInt ∧ (nI k).toInt < n ∧ (nI k).toNatClampNeg = k := by
  rw [nI_toInt (by omega), nI_clamp (by omega)]
  omega
theorem go_iald {q n k : Nat} {i v : Int32} (hf : sm_ins tb_T y = f) (hins : f pc = some .iaload) (hp : pc + 1 = p) (hq : sh[q]? = some (.inr (.inl (0, n)))) (hn : Nat.blt n 2147483648 = true) (hi : i = nI k) (hk : k < n) (hv : M q k = v) (kk : sm_wp tb_T X tb_ok d lw y p L (.int v :: S) (sh, M, J, rc, rs) Q) : sm_wp tb_T X tb_ok d lw y pc L (.int i :: .ref q :: S) (sh, M, J, rc, rs) Q := by
  subst hi
  subst hp
  subst hv
  obtain ⟨g1, g2, g3⟩ := go_ix hk (Nat.le_of_ble_eq_true hn)
  refine go_i (r := (pc + 1, L, .int (M q k) :: S, (sh, M, J, rc, rs))) hf hins rfl rfl ?_ kk
  show sm_ald (pc + 1) L (.int (nI k) :: .ref q :: S) (sh, M, J, rc, rs) 0 X = _
  unfold sm_ald
  dsimp only
  rw [hq]
  dsimp only
  rw [if_pos ⟨rfl, g1, g2⟩, g3]
theorem go_bald {q n k : Nat} {i v : Int32} (hf : sm_ins tb_T y = f) (hins : f pc = some .baload) (hp : pc + 1 = p) (hq : sh[q]? = some (.inr (.inl (1, n)))) (hn : Nat.blt n 2147483648 = true) (hi : i = nI k) (hk : k < n) (hv : M q k = v) (kk : sm_wp tb_T X tb_ok d lw y p L (.int v :: S) (sh, M, J, rc, rs) Q) : sm_wp tb_T X tb_ok d lw y pc L (.int i :: .ref q :: S) (sh, M, J, rc, rs) Q := by
  subst hi
  subst hp
  subst hv
  obtain ⟨g1, g2, g3⟩ := go_ix hk (Nat.le_of_ble_eq_true hn)
  refine go_i (r := (pc + 1, L, .int (M q k) :: S, (sh, M, J, rc, rs))) hf hins rfl rfl ?_ kk
  show sm_ald (pc + 1) L (.int (nI k) :: .ref q :: S) (sh, M, J, rc, rs) 1 X = _
  unfold sm_ald
  dsimp only
  rw [hq]
  dsimp only
  rw [if_pos ⟨rfl, g1, g2⟩, g3]
theorem go_iast {q n k : Nat} {i x : Int32} (hf : sm_ins tb_T y = f) (hins : f pc = some .iastore) (hp : pc + 1 = p) (hq : sh[q]? = some (.inr (.inl (0, n)))) (hn : Nat.blt n 2147483648 = true) (hi : i = nI k) (hk : k < n) (kk : sm_wp tb_T X tb_ok d lw y p L S (sh, sm_up M q k x, J, rc, rs) Q) : sm_wp tb_T X tb_ok d lw y pc L (.int x :: .int i :: .ref q :: S) (sh, M, J, rc, rs) Q := by
  subst hi
  subst hp
  obtain ⟨g1, g2, g3⟩ := go_ix hk (Nat.le_of_ble_eq_true hn)
  refine go_i (r := (pc + 1, L, S, (sh, sm_up M q k x, J, rc, rs))) hf hins rfl rfl ?_ kk
  show sm_ast (pc + 1) L (.int x :: .int (nI k) :: .ref q :: S) (sh, M, J, rc, rs) 0 = _
  unfold sm_ast
  dsimp only
  rw [hq]
  dsimp only
  rw [if_pos ⟨rfl, g1, g2, Or.inl rfl⟩, g3]
theorem go_bast {q n k : Nat} {i x : Int32} (hf : sm_ins tb_T y = f) (hins : f pc = some .bastore) (hp : pc + 1 = p) (hq : sh[q]? = some (.inr (.inl (1, n)))) (hn : Nat.blt n 2147483648 = true) (hi : i = nI k) (hk : k < n) (h01 : x = 0 ∨ x = 1) (kk : sm_wp tb_T X tb_ok d lw y p L S (sh, sm_up M q k x, J, rc, rs) Q) : sm_wp tb_T X tb_ok d lw y pc L (.int x :: .int i :: .ref q :: S) (sh, M, J, rc, rs) Q := by
  subst hi
  subst hp
  obtain ⟨g1, g2, g3⟩ := go_ix hk (Nat.le_of_ble_eq_true hn)
  refine go_i (r := (pc + 1, L, S, (sh, sm_up M q k x, J, rc, rs))) hf hins rfl rfl ?_ kk
  show sm_ast (pc + 1) L (.int x :: .int (nI k) :: .ref q :: S) (sh, M, J, rc, rs) 1 = _
  unfold sm_ast
  dsimp only
  rw [hq]
  dsimp only
  rw [if_pos ⟨rfl, g1, g2, Or.inr h01⟩, g3]
theorem go_aald {q k z : Nat} {i : Int32} {zs : List (Option Nat)} (hf : sm_ins tb_T y = f) (hins : f pc = some .aaload) (hp : pc + 1 = p) (hq : sh[q]? = some (.inr (.inr (.inr (3, zs))))) (hn : Nat.blt zs.length 2147483648 = true) (hi : i = nI k) (hz : zs[k]? = some (some z)) (kk : sm_wp tb_T X tb_ok d lw y p L (.ref z :: S) (sh, M, J, rc, rs) Q) : sm_wp tb_T X tb_ok d lw y pc L (.int i :: .ref q :: S) (sh, M, J, rc, rs) Q := by
  subst hi
  subst hp
  obtain ⟨g1, g2, g3⟩ := go_ix (List.getElem?_eq_some_iff.mp hz).1 (Nat.le_of_ble_eq_true hn)
  refine go_i (r := (pc + 1, L, .ref z :: S, (sh, M, J, rc, rs))) hf hins rfl rfl ?_ kk
  show sm_aald (pc + 1) L (.int (nI k) :: .ref q :: S) (sh, M, J, rc, rs) = _
  unfold sm_aald
  dsimp only
  rw [hq]
  dsimp only
  rw [if_pos ⟨g1, g2, by decide, by decide⟩, g3, hz]
theorem go_alen {q n : Nat} (hf : sm_ins tb_T y = f) (hins : f pc = some .arraylength) (hp : pc + 1 = p) (hq : sh[q]? = some (.inr (.inl (0, n)))) (kk : sm_wp tb_T X tb_ok d lw y p L (.int (nI n) :: S) (sh, M, J, rc, rs) Q) : sm_wp tb_T X tb_ok d lw y pc L (.ref q :: S) (sh, M, J, rc, rs) Q := by
  subst hp
  refine go_i (r := (pc + 1, L, .int (nI n) :: S, (sh, M, J, rc, rs))) hf hins rfl rfl ?_ kk
  show sm_alen (pc + 1) L (.ref q :: S) (sh, M, J, rc, rs) X = _
  unfold sm_alen
  dsimp only
  rw [hq]
  rfl
theorem go_alenX {q : Nat} (hf : sm_ins tb_T y = f) (hins : f pc = some .arraylength) (hp : pc + 1 = p) (kk : sm_wp tb_T X tb_ok d lw y p L (.int (nI X.1) :: S) h Q) : sm_wp tb_T X tb_ok d lw y pc L (.retAddr q :: S) h Q := by
  subst hp
  exact go_i (r := (pc + 1, L, .int (nI X.1) :: S, h)) hf hins rfl rfl rfl kk
theorem go_ialdX {q k : Nat} {i : Int32} (hf : sm_ins tb_T y = f) (hins : f pc = some .iaload) (hp : pc + 1 = p) (hi : i = nI k) (hk : k < X.1) (hX : X.1 < 2 ^ 31) (kk : sm_wp tb_T X tb_ok d lw y p L (.int (X.2 k) :: S) h Q) : sm_wp tb_T X tb_ok d lw y pc L (.int i :: .retAddr q :: S) h Q := by
  subst hi
  subst hp
  obtain ⟨g1, g2, g3⟩ := go_ix hk hX
  refine go_i (r := (pc + 1, L, .int (X.2 k) :: S, h)) hf hins rfl rfl ?_ kk
  show sm_ald (pc + 1) L (.int (nI k) :: .retAddr q :: S) h 0 X = _
  unfold sm_ald
  dsimp only
  rw [if_pos ⟨rfl, g1, g2⟩, g3]
theorem go_lald {q n k : Nat} {i : Int32} (hf : sm_ins tb_T y = f) (hins : f pc = some .laload) (hp : pc + 1 = p) (hq : sh[q]? = some (.inr (.inr (.inl n)))) (hn : Nat.blt n 2147483648 = true) (hi : i = nI k) (hk : k < n) (kk : sm_wp tb_T X tb_ok d lw y p L (.long (J q k) :: S) (sh, M, J, rc, rs) Q) : sm_wp tb_T X tb_ok d lw y pc L (.int i :: .ref q :: S) (sh, M, J, rc, rs) Q := by
  subst hi
  subst hp
  obtain ⟨g1, g2, g3⟩ := go_ix hk (Nat.le_of_ble_eq_true hn)
  refine go_i (r := (pc + 1, L, .long (J q k) :: S, (sh, M, J, rc, rs))) hf hins rfl rfl ?_ kk
  show sm_lald (pc + 1) L (.int (nI k) :: .ref q :: S) (sh, M, J, rc, rs) = _
  unfold sm_lald
  dsimp only
  rw [hq]
  dsimp only
  rw [if_pos ⟨g1, g2⟩, g3]
theorem go_last {q n k : Nat} {i : Int32} {x : Int64} (hf : sm_ins tb_T y = f) (hins : f pc = some .lastore) (hp : pc + 1 = p) (hq : sh[q]? = some (.inr (.inr (.inl n)))) (hn : Nat.blt n 2147483648 = true) (hi : i = nI k) (hk : k < n) (kk : sm_wp tb_T X tb_ok d lw y p L S (sh, M, sm_uj J q k x, rc, rs) Q) : sm_wp tb_T X tb_ok d lw y pc L (.long x :: .int i :: .ref q :: S) (sh, M, J, rc, rs) Q := by
  subst hi
  subst hp
  obtain ⟨g1, g2, g3⟩ := go_ix hk (Nat.le_of_ble_eq_true hn)
  refine go_i (r := (pc + 1, L, S, (sh, M, sm_uj J q k x, rc, rs))) hf hins rfl rfl ?_ kk
  show sm_last (pc + 1) L (.long x :: .int (nI k) :: .ref q :: S) (sh, M, J, rc, rs) = _
  unfold sm_last
  dsimp only
  rw [hq]
  dsimp only
  rw [if_pos ⟨g1, g2⟩, g3]
theorem go_i2l {x : Int32} (hf : sm_ins tb_T y = f) (hins : f pc = some .i2l) (hp : pc + 1 = p) (kk : sm_wp tb_T X tb_ok d lw y p L (.long x.toInt64 :: S) h Q) : sm_wp tb_T X tb_ok d lw y pc L (.int x :: S) h Q := by
  subst hp
  exact go_i (r := (pc + 1, L, .long x.toInt64 :: S, h)) hf hins rfl rfl rfl kk
theorem go_lcmp {a b : Int64} (hf : sm_ins tb_T y = f) (hins : f pc = some .lcmp) (hp : pc + 1 = p) (kk : sm_wp tb_T X tb_ok d lw y p L (.int (lg_cmp a b) :: S) h Q) : sm_wp tb_T X tb_ok d lw y pc L (.long b :: .long a :: S) h Q := by
  subst hp
  exact go_i (r := (pc + 1, L, .int (lg_cmp a b) :: S, h)) hf hins rfl rfl rfl kk
theorem go_pop {x : Int32} (hf : sm_ins tb_T y = f) (hins : f pc = some .pop) (hp : pc + 1 = p) (kk : sm_wp tb_T X tb_ok d lw y p L S h Q) : sm_wp tb_T X tb_ok d lw y pc L (.int x :: S) h Q := by
  subst hp
  exact go_i (r := (pc + 1, L, S, h)) hf hins rfl rfl rfl kk
theorem go_dup {x : Int32} (hf : sm_ins tb_T y = f) (hins : f pc = some .dup) (hp : pc + 1 = p) (kk : sm_wp tb_T X tb_ok d lw y p L (.int x :: .int x :: S) h Q) : sm_wp tb_T X tb_ok d lw y pc L (.int x :: S) h Q := by
  subst hp
  exact go_i (r := (pc + 1, L, .int x :: .int x :: S, h)) hf hins rfl rfl rfl kk
theorem go_dupr {x : Nat} (hf : sm_ins tb_T y = f) (hins : f pc = some .dup) (hp : pc + 1 = p) (kk : sm_wp tb_T X tb_ok d lw y p L (.ref x :: .ref x :: S) h Q) : sm_wp tb_T X tb_ok d lw y pc L (.ref x :: S) h Q := by
  subst hp
  exact go_i (r := (pc + 1, L, .ref x :: .ref x :: S, h)) hf hins rfl rfl rfl kk
theorem go_dup_x1 {x : Int32} {q : Nat} (hf : sm_ins tb_T y = f) (hins : f pc = some .dup_x1) (hp : pc + 1 = p) (kk : sm_wp tb_T X tb_ok d lw y p L (.int x :: .ref q :: .int x :: S) h Q) : sm_wp tb_T X tb_ok d lw y pc L (.int x :: .ref q :: S) h Q := by
  subst hp
  exact go_i (r := (pc + 1, L, .int x :: .ref q :: .int x :: S, h)) hf hins rfl rfl rfl kk
theorem go_dup_x2 {x i : Int32} {q : Nat} (hf : sm_ins tb_T y = f) (hins : f pc = some .dup_x2) (hp : pc + 1 = p) (kk : sm_wp tb_T X tb_ok d lw y p L (.int x :: .int i :: .ref q :: .int x :: S) h Q) : sm_wp tb_T X tb_ok d lw y pc L (.int x :: .int i :: .ref q :: S) h Q := by
  subst hp
  exact go_i (r := (pc + 1, L, .int x :: .int i :: .ref q :: .int x :: S, h)) hf hins rfl rfl rfl kk
theorem go_dup2 {i : Int32} {q : Nat} (hf : sm_ins tb_T y = f) (hins : f pc = some .dup2) (hp : pc + 1 = p) (kk : sm_wp tb_T X tb_ok d lw y p L (.int i :: .ref q :: .int i :: .ref q :: S) h Q) : sm_wp tb_T X tb_ok d lw y pc L (.int i :: .ref q :: S) h Q := by
  subst hp
  exact go_i (r := (pc + 1, L, .int i :: .ref q :: .int i :: .ref q :: S, h)) hf hins rfl rfl rfl kk
theorem go_tab {dd lo hi : Int} {offs : Array Int} {x : Int32} {pd : Nat} (hf : sm_ins tb_T y = f) (hins : f pc = some (.tableswitch dd lo hi offs)) (h0 : (pc : Int) + dd = pd) (kd : (x.toInt < lo ∨ hi < x.toInt) → sm_wp tb_T X tb_ok d lw y pd L S h Q) (kk : lo ≤ x.toInt → x.toInt ≤ hi → ∃ off p2, offs[(x.toInt - lo).toNat]? = some off ∧ (pc : Int) + off = (p2 : Nat) ∧ sm_wp tb_T X tb_ok d lw y p2 L S h Q) : sm_wp tb_T X tb_ok d lw y pc L (.int x :: S) h Q := by
  by_cases hx : x.toInt < lo ∨ hi < x.toInt
  · have e2 : sm_tgt pc dd = pd := by unfold sm_tgt; omega
    refine go_i (r := (sm_tgt pc dd, L, S, h)) hf hins rfl rfl ?_ (by rw [e2]; exact kd hx)
    show sm_tab pc L (.int x :: S) h dd lo hi offs = _
    unfold sm_tab
    dsimp only
    rw [if_pos hx]
    exact if_pos (by omega)
  · obtain ⟨off, p2, e1, e2, k⟩ := kk (by omega) (by omega)
    have e3 : sm_tgt pc off = p2 := by unfold sm_tgt; omega
    refine go_i (r := (sm_tgt pc off, L, S, h)) hf hins rfl rfl ?_ (by rw [e3]; exact k)
    show sm_tab pc L (.int x :: S) h dd lo hi offs = _
    unfold sm_tab
    dsimp only
    rw [if_neg hx, e1]
    exact if_pos (by omega)
theorem go_ret0 {n ci : Nat} (hf : sm_ins tb_T y = f) (hins : f pc = some .return_) (hn : sm_nL tb_T y = (n, 0, ci)) (hq : Q (.inl none) h) : sm_wp tb_T X tb_ok d lw y pc L [] h Q :=
  wp_ret (i := .return_) (v := none) (by rw [hf]; exact hins) rfl (by rw [hn]; rfl) hq
theorem go_ret1 {n ci : Nat} {x : Int32} (hf : sm_ins tb_T y = f) (hins : f pc = some .ireturn) (hn : sm_nL tb_T y = (n, 1, ci)) (hq : Q (.inl (some (.int x))) h) : sm_wp tb_T X tb_ok d lw y pc L [.int x] h Q :=
  wp_ret (i := .ireturn) (v := some (.int x)) (by rw [hf]; exact hins) rfl (by rw [hn]; rfl) hq
theorem go_ret2 {n ci : Nat} {x : Int32} (hf : sm_ins tb_T y = f) (hins : f pc = some .ireturn) (hn : sm_nL tb_T y = (n, 2, ci)) (h01 : x = 0 ∨ x = 1) (hq : Q (.inl (some (.int x))) h) : sm_wp tb_T X tb_ok d lw y pc L [.int x] h Q :=
  wp_ret (i := .ireturn) (v := some (.int x)) (by rw [hf]; exact hins) rfl (by rw [hn]; exact if_pos h01) hq
theorem inv_s {idx z w : Nat} (ho : tb_on y = c) (hc : tb_fd tb_CL c idx = some (3, z, w)) : sm_inv tb_T y (.invokestatic idx) = some (3, z, w) := by
  show (match tb_fd tb_CL (tb_on y) idx with
    | some (k, z, w) => if k = 1 ∨ k = 2 ∨ k = 3 then some (k, z, w) else none
    | none => none) = _
  rw [ho, hc]
  rfl
theorem inv_v {idx z w : Nat} (ho : tb_on y = c) (hc : tb_fd tb_CL c idx = some (4, z, w)) : sm_inv tb_T y (.invokevirtual idx) = some (4, z, w) := by
  show (match tb_fd tb_CL (tb_on y) idx with
    | some (k, z, w) => if k = 4 then some (k, z, w) else none
    | none => none) = _
  rw [ho, hc]
  rfl
theorem inv_l {idx k z w : Nat} (ho : tb_on y = c) (hc : tb_fd tb_CL c idx = some (k, z, w)) (hk : k = 1 ∨ k = 2) : sm_inv tb_T y (.invokestatic idx) = some (k, z, w) := by
  show (match tb_fd tb_CL (tb_on y) idx with
    | some (k, z, w) => if k = 1 ∨ k = 2 ∨ k = 3 then some (k, z, w) else none
    | none => none) = _
  rw [ho, hc]
  exact if_pos (by omega)
/-- a callee by its contract -/
theorem go_call {i : Instr} {k z w n rk ci D B : Nat} {As S' : List Value} {R : Option Value → sm_M → Prop} (hf : sm_ins tb_T y = f) (hins : f pc = some i) (hp : pc + 3 = p) (hv : sm_inv tb_T y i = some (k, z, w)) (hk : k = 3 ∨ k = 4) (hn : sm_nL tb_T z = (n, rk, ci)) (hr : sm_isret i = false) (hA : (S.take w).reverse = As) (hS : S.drop w = S') (hw : Nat.ble w S.length = true) (hs : Nat.ble (sm_sum S') 8 = true) (hrc : sm_rcv k ci As (wSH, M, J, rc, rs) = true) (hc1 : (S.take w).all sm_c1 = true) (hwn : Nat.ble w n = true)
    (ht : tb_thr z As (wSH, M, J, rc, rs) = none) (hD : D < d) (hB : B + (19 + n) ≤ lw) (hc : cr z D B As M R) (kv : ∀ v M1, R v M1 → sm_wp tb_T X tb_ok d lw y p L (v.toList ++ S') (wSH, M1, J, rc, rs) Q) : sm_wp tb_T X tb_ok d lw y pc L S (wSH, M, J, rc, rs) Q := by
  subst hp
  subst hA
  subst hS
  obtain ⟨d, rfl⟩ : ∃ d', d = d' + 1 := ⟨d - 1, by omega⟩
  have hn1 : (sm_nL tb_T z).1 = n := by rw [hn]
  have hn3 : (sm_nL tb_T z).2.2 = ci := by rw [hn]
  refine wp_call (by rw [hf]; exact hins) hr hv (by omega) ⟨Nat.le_of_ble_eq_true hw, Nat.le_of_ble_eq_true hs, by rw [hn3]; exact hrc, hc1, by rw [hn1]; exact Nat.le_of_ble_eq_true hwn, by rw [hn1]; omega⟩ ht (hc X J rc rs d _ (by omega) (by rw [hn1]; omega)) (fun v' h' hq => ?_) (fun x h' hq => ?_)
  · obtain ⟨v, M1, e1, rfl, hR⟩ := hq
    cases e1
    exact ⟨by unfold sm_ok2; simp, kv _ _ hR⟩
  · obtain ⟨v, M1, e1, -⟩ := hq
    cases e1
/-- Math.max -/
theorem go_max {idx : Nat} {a b : Int32} (hf : sm_ins tb_T y = f) (ho : tb_on y = c) (hins : f pc = some (.invokestatic idx)) (hc : tb_fd tb_CL c idx = some (1, 0, 2)) (hp : pc + 3 = p) (hs : Nat.ble (sm_sum S) 8 = true) (hD : 0 < d) (hB : 100 ≤ lw) (k : sm_wp tb_T X tb_ok d lw y p L (.int (if a < b then b else a) :: S) h Q) : sm_wp tb_T X tb_ok d lw y pc L (.int b :: .int a :: S) h Q := by
  subst hp
  obtain ⟨d, rfl⟩ : ∃ d', d = d' + 1 := ⟨d - 1, by omega⟩
  exact wp_lib (r := (pc + 3, L, .int (if a < b then b else a) :: S, h)) (by rw [hf]; exact hins) rfl (inv_l ho hc (Or.inl rfl)) (by omega) hB (if_pos (Nat.le_of_ble_eq_true hs)) k
theorem go_acp {idx q0 q1 n0 n1 n sp dp : Nat} {in' isp idp : Int32} (hf : sm_ins tb_T y = f) (ho : tb_on y = c) (hins : f pc = some (.invokestatic idx)) (hc : tb_fd tb_CL c idx = some (2, 0, 5)) (hp : pc + 3 = p) (hs : Nat.ble (sm_sum S) 8 = true) (hD : 0 < d) (hB : 100 ≤ lw) (h0 : sh[q0]? = some (.inr (.inl (0, n0)))) (h1 : sh[q1]? = some (.inr (.inl (0, n1)))) (en : in' = nI n) (es : isp = nI sp) (ed : idp = nI dp) (b0 : sp + n ≤ n0) (b1 : dp + n ≤ n1) (c0 : Nat.blt n0 2147483648 = true) (c1 : Nat.blt n1 2147483648 = true)
    (k : sm_wp tb_T X tb_ok d lw y p L S (sh, sm_uf M q1 (va_cpy (M q0) (M q1) sp dp n), J, rc, rs) Q) : sm_wp tb_T X tb_ok d lw y pc L (.int in' :: .int idp :: .ref q1 :: .int isp :: .ref q0 :: S) (sh, M, J, rc, rs) Q := by
  subst hp
  subst en
  subst es
  subst ed
  obtain ⟨d, rfl⟩ : ∃ d', d = d' + 1 := ⟨d - 1, by omega⟩
  have c0 := Nat.le_of_ble_eq_true c0
  have c1 := Nat.le_of_ble_eq_true c1
  refine wp_lib (r := (pc + 3, L, S, (sh, sm_uf M q1 (va_cpy (M q0) (M q1) sp dp n), J, rc, rs))) (by rw [hf]; exact hins) rfl (inv_l ho hc (Or.inr rfl)) (by omega) hB ?_ k
  show sm_lib 2 (pc + 3) L (.int (nI n) :: .int (nI dp) :: .ref q1 :: .int (nI sp) :: .ref q0 :: S) (sh, M, J, rc, rs) = _
  simp only [sm_lib, h0, h1]
  rw [nI_toInt (n := n) (by omega), nI_toInt (n := sp) (by omega), nI_toInt (n := dp) (by omega), nI_clamp (n := n) (by omega), nI_clamp (n := sp) (by omega), nI_clamp (n := dp) (by omega)]
  rw [if_pos ⟨Nat.le_of_ble_eq_true hs, by omega, by omega, by omega, by omega, by omega⟩]
end GO
end
section
/-! ===== small methods, mail ===== -/
noncomputable def bI (p : Prop) : Int32 := @ite _ p (Classical.propDecidable p) (nI 1) (nI 0)
theorem bI_t {p : Prop} (h : p) : bI p = nI 1 := if_pos h
theorem bI_f {p : Prop} (h : ¬ p) : bI p = nI 0 := if_neg h
theorem nI_10 : ¬ nI 1 = 0 := by decide
theorem bI_0 {p : Prop} : bI p = 0 ↔ ¬ p := by
  by_cases h : p
  · rw [bI_t h]; exact ⟨fun e => absurd e nI_10, fun e => absurd h e⟩
  · rw [bI_f h]; exact ⟨fun _ => h, fun _ => rfl⟩
theorem bI_n0 {p : Prop} : ¬ bI p = 0 ↔ p := by rw [bI_0, Classical.not_not]
theorem bI_01 {p : Prop} : bI p = 0 ∨ bI p = 1 := by
  by_cases h : p
  · rw [bI_t h]; exact Or.inr rfl
  · rw [bI_f h]; exact Or.inl rfl
theorem bI_congr {p q : Prop} (h : p ↔ q) : bI p = bI q := by rw [propext h]
theorem rcv_of {q ci : Nat} {fs : List (Option (Option Nat))} {vs : List Value} {h : sm_H} (hq : h.1[q]? = some (.inl (ci, fs))) : sm_rcv 4 ci (.ref q :: vs) h = true := by
  simp [sm_rcv, hq]
theorem i32_nlt {a b : Int32} : ¬ a < b ↔ b ≤ a := by rw [Int32.lt_iff_toInt_lt, Int32.le_iff_toInt_le]; omega
theorem i32_nle {a b : Int32} : ¬ a ≤ b ↔ b < a := by rw [Int32.lt_iff_toInt_lt, Int32.le_iff_toInt_le]; omega
theorem nI_of0 {x : Int32} {n : Nat} (h0 : ¬ x < 0) (h1 : x < nI n) (hn : n < 2 ^ 31) : ∃ k, k < n ∧ x = nI k := by
  obtain ⟨j, hj, rfl⟩ := nI_of h0
  exact ⟨j, (nI_ltI hj hn).mp h1, rfl⟩
/-- a row's entry, -1 where there is none -/
def rdAt (g : Nat → Int32) (N : Nat) (t : Int32) : Int32 := if ¬ t < 0 ∧ t < nI N then g t.toNatClampNeg else -1
theorem rdAt_t {g : Nat → Int32} {N k : Nat} (h : k < N) (hN : N < 2 ^ 31) : rdAt g N (nI k) = g k := by
  unfold rdAt
  rw [if_pos ⟨nI_pos (by omega), (nI_ltI (by omega) hN).mpr h⟩, nI_clamp (by omega)]
theorem rdAt_f {g : Nat → Int32} {N : Nat} {t : Int32} (h : t < 0 ∨ nI N ≤ t) : rdAt g N t = -1 := by
  unfold rdAt
  rw [if_neg]
  rintro ⟨g1, g2⟩
  rcases h with h | h
  · exact g1 h
  · exact i32_nlt.mpr h g2
theorem rdAt_in {g : Nat → Int32} {N : Nat} {t v : Int32} (hN : N < 2 ^ 31) (hv : ¬ v = -1) (h : rdAt g N t = v) : ∃ k, k < N ∧ t = nI k ∧ g k = v := by
  unfold rdAt at h
  split at h
  · next hc =>
    obtain ⟨k, hk, rfl⟩ := nI_of0 hc.1 hc.2 hN
    rw [nI_clamp (by omega)] at h
    exact ⟨k, hk, rfl, h⟩
  · exact absurd h.symm hv
theorem nI_m1 {n : Nat} (h : n < 2 ^ 31) : ¬ nI n = -1 := fun e => nI_pos h (by rw [e]; decide)
/-- the x of a term of a kind -/
def valF (g x : Nat → Int32) (N : Nat) (t k : Int32) : Int32 := if rdAt g N t = k then rdAt x N t else -1
def tailF (g b : Nat → Int32) (N : Nat) : Nat → Int32 → Int32
  | 0, t => t
  | n + 1, t => tailF g b N n (if rdAt g N t = nI 4 then rdAt b N t else -1)
theorem tailF_s {g b : Nat → Int32} {N n : Nat} {t : Int32} : tailF g b N (n + 1) t = tailF g b N n (if rdAt g N t = nI 4 then rdAt b N t else -1) := rfl
def partF (g x b : Nat → Int32) (N : Nat) (t : Int32) (n : Nat) : Int32 := valF g x N (tailF g b N n t) (nI 4)
theorem c_isBelow {M : sm_M} {n b : Int32} : cr 2 0 0 [.int n, .int b] M (fun v M1 => v = some (.int (bI (¬ n < 0 ∧ n < b))) ∧ M1 = M) := by
  intro X J rc rs d lw hd hw
  show sm_wp tb_T X tb_ok d lw 2 0 [some (.int n), some (.int b)] [] _ _
  refine go_il0 hf_2 rfl rfl ?_
  refine go_if_lt hf_2 rfl rfl rfl (fun h1 => ?_) (fun h1 => ?_)
  · refine go_iconst hf_2 rfl rfl ci_0 ?_
    refine go_ret2 hf_2 rfl nl_2 (by first | exact Or.inl rfl | exact Or.inr rfl | assumption) ?_
    exact ⟨_, _, rfl, rfl, by rw [bI_f (fun g => g.1 h1)], rfl⟩
  · refine go_il0 hf_2 rfl rfl ?_
    refine go_il1 hf_2 rfl rfl ?_
    first | refine go_nn_ge hf_2 rfl rfl rfl (by omega) (by omega) (fun h6 => ?_) (fun h6 => ?_) | refine go_ic_ge hf_2 rfl rfl rfl (fun h6 => ?_) (fun h6 => ?_)
    · refine go_iconst hf_2 rfl rfl ci_0 ?_
      refine go_ret2 hf_2 rfl nl_2 (by first | exact Or.inl rfl | exact Or.inr rfl | assumption) ?_
      exact ⟨_, _, rfl, rfl, by rw [bI_f (fun g => i32_nlt.mpr h6 g.2)], rfl⟩
    · refine go_iconst hf_2 rfl rfl ci_1 ?_
      refine go_goto hf_2 rfl rfl ?_
      refine go_ret2 hf_2 rfl nl_2 (by first | exact Or.inl rfl | exact Or.inr rfl | assumption) ?_
      exact ⟨_, _, rfl, rfl, by rw [bI_t ⟨h1, i32_nle.mp h6⟩], rfl⟩
theorem c_isDevice {M : sm_M} {n : Int32} : cr 75 0 0 [.int n] M (fun v M1 => v = some (.int (bI (¬ n < 0 ∧ n < nI 3))) ∧ M1 = M) := by
  intro X J rc rs d lw hd hw
  show sm_wp tb_T X tb_ok d lw 75 0 [some (.int n)] [] _ _
  refine go_il0 hf_75 rfl rfl ?_
  refine go_if_lt hf_75 rfl rfl rfl (fun h1 => ?_) (fun h1 => ?_)
  · refine go_iconst hf_75 rfl rfl ci_0 ?_
    refine go_ret2 hf_75 rfl nl_75 (by first | exact Or.inl rfl | exact Or.inr rfl | assumption) ?_
    exact ⟨_, _, rfl, rfl, by rw [bI_f (fun g => g.1 h1)], rfl⟩
  · refine go_il0 hf_75 rfl rfl ?_
    refine go_iconst hf_75 rfl rfl ci_3 ?_
    first | refine go_nn_ge hf_75 rfl rfl rfl (by omega) (by omega) (fun h6 => ?_) (fun h6 => ?_) | refine go_ic_ge hf_75 rfl rfl rfl (fun h6 => ?_) (fun h6 => ?_)
    · refine go_iconst hf_75 rfl rfl ci_0 ?_
      refine go_ret2 hf_75 rfl nl_75 (by first | exact Or.inl rfl | exact Or.inr rfl | assumption) ?_
      exact ⟨_, _, rfl, rfl, by rw [bI_f (fun g => i32_nlt.mpr h6 g.2)], rfl⟩
    · refine go_iconst hf_75 rfl rfl ci_1 ?_
      refine go_goto hf_75 rfl rfl ?_
      refine go_ret2 hf_75 rfl nl_75 (by first | exact Or.inl rfl | exact Or.inr rfl | assumption) ?_
      exact ⟨_, _, rfl, rfl, by rw [bI_t ⟨h1, i32_nle.mp h6⟩], rfl⟩
theorem c_isTerm {M : sm_M} {n : Int32} {N : Nat} (hN : M 40 1 = nI N) : cr 114 0 0 [.ref 40, .int n] M (fun v M1 => v = some (.int (bI (¬ n < 0 ∧ n < nI N))) ∧ M1 = M) := by
  intro X J rc rs d lw hd hw
  show sm_wp tb_T X tb_ok d lw 114 0 [some (.ref 40), some (.int n)] [] _ _
  refine go_il1 hf_114 rfl rfl ?_
  refine go_if_lt hf_114 rfl rfl rfl (fun h1 => ?_) (fun h1 => ?_)
  · refine go_iconst hf_114 rfl rfl ci_0 ?_
    refine go_ret2 hf_114 rfl nl_114 (by first | exact Or.inl rfl | exact Or.inr rfl | assumption) ?_
    exact ⟨_, _, rfl, rfl, by rw [bI_f (fun g => g.1 h1)], rfl⟩
  · refine go_il1 hf_114 rfl rfl ?_
    refine go_al0 hf_114 rfl rfl ?_
    refine go_get hf_114 ho_114 rfl fl_6_81 rfl (by first | assumption | rfl) rfl (by first | assumption | ((repeat rewrite [up_k]) <;> first | assumption | decide | omega) | exact rfl) ?_
    refine go_ic_ge hf_114 rfl rfl rfl (fun h9 => ?_) (fun h9 => ?_)
    · refine go_iconst hf_114 rfl rfl ci_0 ?_
      refine go_ret2 hf_114 rfl nl_114 (by first | exact Or.inl rfl | exact Or.inr rfl | assumption) ?_
      exact ⟨_, _, rfl, rfl, by rw [bI_f (fun g => i32_nlt.mpr h9 g.2)], rfl⟩
    · refine go_iconst hf_114 rfl rfl ci_1 ?_
      refine go_goto hf_114 rfl rfl ?_
      refine go_ret2 hf_114 rfl nl_114 (by first | exact Or.inl rfl | exact Or.inr rfl | assumption) ?_
      exact ⟨_, _, rfl, rfl, by rw [bI_t ⟨h1, i32_nle.mp h9⟩], rfl⟩
theorem c_kindOf {M : sm_M} {t : Int32} {N : Nat} (hN : M 1 6 = nI N) (hN9 : N ≤ 900) : cr 31 0 0 [.ref 1, .int t] M (fun v M1 => v = some (.int (rdAt (M 2) N t)) ∧ M1 = M) := by
  intro X J rc rs d lw hd hw
  show sm_wp tb_T X tb_ok d lw 31 0 [some (.ref 1), some (.int t)] [] _ _
  refine go_il1 hf_31 rfl rfl ?_
  refine go_if_lt hf_31 rfl rfl rfl (fun h1 => ?_) (fun h1 => ?_)
  · refine go_iconst hf_31 rfl rfl ci_m1 ?_
    refine go_ret1 hf_31 rfl nl_31 ?_
    exact ⟨_, _, rfl, rfl, by rw [rdAt_f (Or.inl h1)], rfl⟩
  · refine go_il1 hf_31 rfl rfl ?_
    refine go_al0 hf_31 rfl rfl ?_
    refine go_get hf_31 ho_31 rfl fl_1_37 rfl (by first | assumption | rfl) rfl (by first | assumption | ((repeat rewrite [up_k]) <;> first | assumption | decide | omega) | exact rfl) ?_
    refine go_ic_ge hf_31 rfl rfl rfl (fun h9 => ?_) (fun h9 => ?_)
    · refine go_iconst hf_31 rfl rfl ci_m1 ?_
      refine go_ret1 hf_31 rfl nl_31 ?_
      exact ⟨_, _, rfl, rfl, by rw [rdAt_f (Or.inr h9)], rfl⟩
    · obtain ⟨k, hk, rfl⟩ := nI_of0 h1 (i32_nle.mp h9) (by omega)
      refine go_al0 hf_31 rfl rfl ?_
      refine go_getr hf_31 ho_31 rfl fl_1_9 rfl (by first | assumption | rfl) rfl ?_
      refine go_il1 hf_31 rfl rfl ?_
      refine go_iald hf_31 rfl rfl (by first | assumption | rfl) rfl (by first | exact rfl | assumption) (by omega) (by first | assumption | ((repeat rewrite [up_k]) <;> first | assumption | decide | omega) | exact rfl) ?_
      refine go_goto hf_31 rfl rfl ?_
      refine go_ret1 hf_31 rfl nl_31 ?_
      exact ⟨_, _, rfl, rfl, by rw [rdAt_t hk (by omega)], rfl⟩
theorem c_xOf {M : sm_M} {t : Int32} {N : Nat} (hN : M 1 6 = nI N) (hN9 : N ≤ 900) : cr 33 1 21 [.ref 1, .int t] M (fun v M1 => v = some (.int (rdAt (M 3) N t)) ∧ M1 = M) := by
  intro X J rc rs d lw hd hw
  show sm_wp tb_T X tb_ok d lw 33 0 [some (.ref 1), some (.int t)] [] _ _
  refine go_il1 hf_33 rfl rfl ?_
  refine go_al0 hf_33 rfl rfl ?_
  refine go_get hf_33 ho_33 rfl fl_1_37 rfl (by first | assumption | rfl) rfl (by first | assumption | ((repeat rewrite [up_k]) <;> first | assumption | decide | omega) | exact rfl) ?_
  refine go_call hf_33 rfl rfl (inv_s ho_33 cl_1_41) (by decide) nl_2 rfl rfl rfl rfl rfl rfl rfl rfl rfl (by omega) (by omega) (c_isBelow) ?_
  rintro _ _ ⟨rfl, rfl⟩
  refine go_if_eq hf_33 rfl rfl rfl (fun h8 => ?_) (fun h8 => ?_)
  · refine go_iconst hf_33 rfl rfl ci_m1 ?_
    refine go_ret1 hf_33 rfl nl_33 ?_
    exact ⟨_, _, rfl, rfl, by unfold rdAt; rw [if_neg (bI_0.mp h8)], rfl⟩
  · obtain ⟨g1, g2⟩ := bI_n0.mp h8
    obtain ⟨k, hk, rfl⟩ := nI_of0 g1 g2 (by omega)
    refine go_al0 hf_33 rfl rfl ?_
    refine go_getr hf_33 ho_33 rfl fl_1_15 rfl (by first | assumption | rfl) rfl ?_
    refine go_il1 hf_33 rfl rfl ?_
    refine go_iald hf_33 rfl rfl (by first | assumption | rfl) rfl (by first | exact rfl | assumption) (by omega) (by first | assumption | ((repeat rewrite [up_k]) <;> first | assumption | decide | omega) | exact rfl) ?_
    refine go_goto hf_33 rfl rfl ?_
    refine go_ret1 hf_33 rfl nl_33 ?_
    exact ⟨_, _, rfl, rfl, by rw [rdAt_t hk (by omega)], rfl⟩
theorem c_yOf {M : sm_M} {t : Int32} {N : Nat} (hN : M 1 6 = nI N) (hN9 : N ≤ 900) : cr 32 1 21 [.ref 1, .int t] M (fun v M1 => v = some (.int (rdAt (M 4) N t)) ∧ M1 = M) := by
  intro X J rc rs d lw hd hw
  show sm_wp tb_T X tb_ok d lw 32 0 [some (.ref 1), some (.int t)] [] _ _
  refine go_il1 hf_32 rfl rfl ?_
  refine go_al0 hf_32 rfl rfl ?_
  refine go_get hf_32 ho_32 rfl fl_1_37 rfl (by first | assumption | rfl) rfl (by first | assumption | ((repeat rewrite [up_k]) <;> first | assumption | decide | omega) | exact rfl) ?_
  refine go_call hf_32 rfl rfl (inv_s ho_32 cl_1_41) (by decide) nl_2 rfl rfl rfl rfl rfl rfl rfl rfl rfl (by omega) (by omega) (c_isBelow) ?_
  rintro _ _ ⟨rfl, rfl⟩
  refine go_if_eq hf_32 rfl rfl rfl (fun h8 => ?_) (fun h8 => ?_)
  · refine go_iconst hf_32 rfl rfl ci_m1 ?_
    refine go_ret1 hf_32 rfl nl_32 ?_
    exact ⟨_, _, rfl, rfl, by unfold rdAt; rw [if_neg (bI_0.mp h8)], rfl⟩
  · obtain ⟨g1, g2⟩ := bI_n0.mp h8
    obtain ⟨k, hk, rfl⟩ := nI_of0 g1 g2 (by omega)
    refine go_al0 hf_32 rfl rfl ?_
    refine go_getr hf_32 ho_32 rfl fl_1_18 rfl (by first | assumption | rfl) rfl ?_
    refine go_il1 hf_32 rfl rfl ?_
    refine go_iald hf_32 rfl rfl (by first | assumption | rfl) rfl (by first | exact rfl | assumption) (by omega) (by first | assumption | ((repeat rewrite [up_k]) <;> first | assumption | decide | omega) | exact rfl) ?_
    refine go_goto hf_32 rfl rfl ?_
    refine go_ret1 hf_32 rfl nl_32 ?_
    exact ⟨_, _, rfl, rfl, by rw [rdAt_t hk (by omega)], rfl⟩
theorem c_isKnown {M : sm_M} {t : Int32} {N : Nat} (hN : M 1 6 = nI N) (hN9 : N ≤ 900) (hop : ∀ i, i < N → M 5 i = 0 ∨ M 5 i = 1) : cr 38 1 21 [.ref 1, .int t] M (fun v M1 => v = some (.int (bI (∃ k, k < N ∧ t = nI k ∧ M 5 k = 1))) ∧ M1 = M) := by
  intro X J rc rs d lw hd hw
  show sm_wp tb_T X tb_ok d lw 38 0 [some (.ref 1), some (.int t)] [] _ _
  refine go_il1 hf_38 rfl rfl ?_
  refine go_al0 hf_38 rfl rfl ?_
  refine go_get hf_38 ho_38 rfl fl_1_37 rfl (by first | assumption | rfl) rfl (by first | assumption | ((repeat rewrite [up_k]) <;> first | assumption | decide | omega) | exact rfl) ?_
  refine go_call hf_38 rfl rfl (inv_s ho_38 cl_1_41) (by decide) nl_2 rfl rfl rfl rfl rfl rfl rfl rfl rfl (by omega) (by omega) (c_isBelow) ?_
  rintro _ _ ⟨rfl, rfl⟩
  refine go_if_eq hf_38 rfl rfl rfl (fun h8 => ?_) (fun h8 => ?_)
  · refine go_iconst hf_38 rfl rfl ci_0 ?_
    refine go_ret2 hf_38 rfl nl_38 (by first | exact Or.inl rfl | exact Or.inr rfl | assumption) ?_
    refine ⟨_, _, rfl, rfl, ?_, rfl⟩
    rw [bI_f]
    rintro ⟨k, hk, rfl, -⟩
    exact bI_0.mp h8 ⟨nI_pos (by omega), (nI_ltI (by omega) (by omega)).mpr hk⟩
  · obtain ⟨g1, g2⟩ := bI_n0.mp h8
    obtain ⟨k, hk, rfl⟩ := nI_of0 g1 g2 (by omega)
    refine go_al0 hf_38 rfl rfl ?_
    refine go_getr hf_38 ho_38 rfl fl_1_21 rfl (by first | assumption | rfl) rfl ?_
    refine go_il1 hf_38 rfl rfl ?_
    refine go_bald hf_38 rfl rfl (by first | assumption | rfl) rfl (by first | exact rfl | assumption) (by omega) (by first | assumption | ((repeat rewrite [up_k]) <;> first | assumption | decide | omega) | exact rfl) ?_
    refine go_if_eq hf_38 rfl rfl rfl (fun h17 => ?_) (fun h17 => ?_)
    · refine go_iconst hf_38 rfl rfl ci_0 ?_
      refine go_ret2 hf_38 rfl nl_38 (by first | exact Or.inl rfl | exact Or.inr rfl | assumption) ?_
      refine ⟨_, _, rfl, rfl, ?_, rfl⟩
      rw [bI_f]
      rintro ⟨k2, hk2, e, g⟩
      rw [(nI_eq (by omega) (by omega)).mp e, g] at h17
      exact absurd h17 (by decide)
    · refine go_iconst hf_38 rfl rfl ci_1 ?_
      refine go_goto hf_38 rfl rfl ?_
      refine go_ret2 hf_38 rfl nl_38 (by first | exact Or.inl rfl | exact Or.inr rfl | assumption) ?_
      refine ⟨_, _, rfl, rfl, ?_, rfl⟩
      rw [bI_t ⟨k, hk, rfl, (hop k hk).resolve_left h17⟩]
theorem c_valueOf {M : sm_M} {t : Int32} {N : Nat} (hN : M 1 6 = nI N) (hN9 : N ≤ 900) {kk : Nat} (hk9 : kk < 100) : cr 34 1 21 [.ref 1, .int t, .int (nI kk)] M (fun v M1 => v = some (.int (valF (M 2) (M 3) N t (nI kk))) ∧ M1 = M) := by
  intro X J rc rs d lw hd hw
  show sm_wp tb_T X tb_ok d lw 34 0 [some (.ref 1), some (.int t), some (.int (nI kk))] [] _ _
  refine go_al0 hf_34 rfl rfl ?_
  refine go_il1 hf_34 rfl rfl ?_
  refine go_call hf_34 rfl rfl (inv_v ho_34 cl_1_45) (by decide) nl_31 rfl rfl rfl rfl rfl (by first | rfl | exact rcv_of (by assumption)) rfl rfl rfl (by omega) (by omega) (c_kindOf hN hN9) ?_
  rintro _ _ ⟨rfl, rfl⟩
  refine go_il2 hf_34 rfl rfl ?_
  refine go_ic_ne hf_34 rfl rfl rfl (fun h6 => ?_) (fun h6 => ?_)
  · refine go_iconst hf_34 rfl rfl ci_m1 ?_
    refine go_ret1 hf_34 rfl nl_34 ?_
    exact ⟨_, _, rfl, rfl, by unfold valF; rw [if_neg h6], rfl⟩
  · obtain ⟨k, hk, rfl, hkk⟩ := rdAt_in (by omega) (nI_m1 (by omega)) h6
    refine go_al0 hf_34 rfl rfl ?_
    refine go_getr hf_34 ho_34 rfl fl_1_15 rfl (by first | assumption | rfl) rfl ?_
    refine go_il1 hf_34 rfl rfl ?_
    refine go_iald hf_34 rfl rfl (by first | assumption | rfl) rfl (by first | exact rfl | assumption) (by omega) (by first | assumption | ((repeat rewrite [up_k]) <;> first | assumption | decide | omega) | exact rfl) ?_
    refine go_goto hf_34 rfl rfl ?_
    refine go_ret1 hf_34 rfl nl_34 ?_
    exact ⟨_, _, rfl, rfl, by unfold valF; rw [if_pos h6, rdAt_t hk (by omega)], rfl⟩
theorem c_tailOf {M : sm_M} {t : Int32} {N : Nat} (hN : M 1 6 = nI N) (hN9 : N ≤ 900) {n : Nat} (hn9 : n < 100) : cr 30 0 0 [.ref 1, .int t, .int (nI n)] M (fun v M1 => v = some (.int (tailF (M 2) (M 4) N n t)) ∧ M1 = M) := by
  intro X J rc rs d lw hd hw
  show sm_wp tb_T X tb_ok d lw 30 0 [some (.ref 1), some (.int t), some (.int (nI n)), none, none] [] _ _
  have loop : ∀ (m i : Nat) (r : Int32), i + m = n → tailF (M 2) (M 4) N m r = tailF (M 2) (M 4) N n t → sm_wp tb_T X tb_ok d lw 30 5 [some (.ref 1), some (.int t), some (.int (nI n)), some (.int r), some (.int (nI i))] [] (wSH, M, J, rc, rs) (fun o h' => ∃ v M1, o = .inl v ∧ h' = (wSH, M1, J, rc, rs) ∧ v = some (.int (tailF (M 2) (M 4) N n t)) ∧ M1 = M) := by
    intro m
    induction m with
    | zero =>
      intro i r hi hr
      refine go_il4 hf_30 rfl rfl ?_
      refine go_il2 hf_30 rfl rfl ?_
      first | refine go_nn_ge hf_30 rfl rfl rfl (by omega) (by omega) (fun h8 => ?_) (fun h8 => absurd h8 (by omega)) | refine go_ic_ge hf_30 rfl rfl rfl (fun h8 => ?_) (fun h8 => absurd h8 (by omega))
      refine go_il3 hf_30 rfl rfl ?_
      refine go_ret1 hf_30 rfl nl_30 ?_
      exact ⟨_, _, rfl, rfl, by rw [← hr]; rfl, rfl⟩
    | succ m ih =>
      intro i r hi hr
      refine go_il4 hf_30 rfl rfl ?_
      refine go_il2 hf_30 rfl rfl ?_
      first | refine go_nn_ge hf_30 rfl rfl rfl (by omega) (by omega) (fun h8 => absurd h8 (by omega)) (fun h8 => ?_) | refine go_ic_ge hf_30 rfl rfl rfl (fun h8 => absurd h8 (by omega)) (fun h8 => ?_)
      refine go_il3 hf_30 rfl rfl ?_
      refine go_if_lt hf_30 rfl rfl rfl (fun h12 => ?_) (fun h12 => ?_)
      · refine go_iconst hf_30 rfl rfl ci_m1 ?_
        refine go_is3 hf_30 rfl rfl ?_
        refine go_ic4 hf_30 rfl rfl (by first | exact inc1 _ | exact rfl) ?_
        refine go_goto hf_30 rfl rfl ?_
        rw [tailF_s] at hr
        rw [if_neg (fun e => nI_m1 (n := 4) (by omega) (by rw [← e, rdAt_f (Or.inl h12)]))] at hr
        exact ih (i + 1) _ (by omega) hr
      · refine go_il3 hf_30 rfl rfl ?_
        refine go_al0 hf_30 rfl rfl ?_
        refine go_get hf_30 ho_30 rfl fl_1_37 rfl (by first | assumption | rfl) rfl (by first | assumption | ((repeat rewrite [up_k]) <;> first | assumption | decide | omega) | exact rfl) ?_
        refine go_ic_ge hf_30 rfl rfl rfl (fun h20 => ?_) (fun h20 => ?_)
        · refine go_iconst hf_30 rfl rfl ci_m1 ?_
          refine go_is3 hf_30 rfl rfl ?_
          refine go_ic4 hf_30 rfl rfl (by first | exact inc1 _ | exact rfl) ?_
          refine go_goto hf_30 rfl rfl ?_
          rw [tailF_s] at hr
          rw [if_neg (fun e => nI_m1 (n := 4) (by omega) (by rw [← e, rdAt_f (Or.inr h20)]))] at hr
          exact ih (i + 1) _ (by omega) hr
        · obtain ⟨k, hk, rfl⟩ := nI_of0 h12 (i32_nle.mp h20) (by omega)
          refine go_al0 hf_30 rfl rfl ?_
          refine go_getr hf_30 ho_30 rfl fl_1_9 rfl (by first | assumption | rfl) rfl ?_
          refine go_il3 hf_30 rfl rfl ?_
          refine go_iald hf_30 rfl rfl (by first | assumption | rfl) rfl (by first | exact rfl | assumption) (by omega) (by first | assumption | ((repeat rewrite [up_k]) <;> first | assumption | decide | omega) | exact rfl) ?_
          refine go_iconst hf_30 rfl rfl ci_4 ?_
          refine go_ic_ne hf_30 rfl rfl rfl (fun h30 => ?_) (fun h30 => ?_)
          · refine go_iconst hf_30 rfl rfl ci_m1 ?_
            refine go_is3 hf_30 rfl rfl ?_
            refine go_ic4 hf_30 rfl rfl (by first | exact inc1 _ | exact rfl) ?_
            refine go_goto hf_30 rfl rfl ?_
            rw [tailF_s] at hr
            rw [if_neg (fun e => h30 (by rw [rdAt_t hk (by omega)] at e; exact e))] at hr
            exact ih (i + 1) _ (by omega) hr
          · refine go_al0 hf_30 rfl rfl ?_
            refine go_getr hf_30 ho_30 rfl fl_1_18 rfl (by first | assumption | rfl) rfl ?_
            refine go_il3 hf_30 rfl rfl ?_
            refine go_iald hf_30 rfl rfl (by first | assumption | rfl) rfl (by first | exact rfl | assumption) (by omega) (by first | assumption | ((repeat rewrite [up_k]) <;> first | assumption | decide | omega) | exact rfl) ?_
            refine go_goto hf_30 rfl rfl ?_
            refine go_is3 hf_30 rfl rfl ?_
            refine go_ic4 hf_30 rfl rfl (by first | exact inc1 _ | exact rfl) ?_
            refine go_goto hf_30 rfl rfl ?_
            rw [tailF_s] at hr
            rw [rdAt_t hk (by omega), rdAt_t hk (by omega), if_pos h30] at hr
            exact ih (i + 1) _ (by omega) hr
  refine go_il1 hf_30 rfl rfl ?_
  refine go_is3 hf_30 rfl rfl ?_
  refine go_iconst hf_30 rfl rfl ci_0 ?_
  refine go_is4 hf_30 rfl rfl ?_
  exact loop n 0 t (by omega) rfl
theorem c_partOf {M : sm_M} {t : Int32} {N : Nat} (hN : M 1 6 = nI N) (hN9 : N ≤ 900) {n : Nat} (hn9 : n < 100) : cr 29 1 24 [.ref 1, .int t, .int (nI n)] M (fun v M1 => v = some (.int (partF (M 2) (M 3) (M 4) N t n)) ∧ M1 = M) := by
  intro X J rc rs d lw hd hw
  show sm_wp tb_T X tb_ok d lw 29 0 [some (.ref 1), some (.int t), some (.int (nI n)), none] [] _ _
  refine go_al0 hf_29 rfl rfl ?_
  refine go_il1 hf_29 rfl rfl ?_
  refine go_il2 hf_29 rfl rfl ?_
  refine go_call hf_29 rfl rfl (inv_v ho_29 cl_1_49) (by decide) nl_30 rfl rfl rfl rfl rfl (by first | rfl | exact rcv_of (by assumption)) rfl rfl rfl (by omega) (by omega) ((c_tailOf hN hN9 hn9)) ?_
  rintro _ _ ⟨rfl, rfl⟩
  refine go_is3 hf_29 rfl rfl ?_
  refine go_al0 hf_29 rfl rfl ?_
  refine go_il3 hf_29 rfl rfl ?_
  refine go_call hf_29 rfl rfl (inv_v ho_29 cl_1_45) (by decide) nl_31 rfl rfl rfl rfl rfl (by first | rfl | exact rcv_of (by assumption)) rfl rfl rfl (by omega) (by omega) ((c_kindOf hN hN9)) ?_
  rintro _ _ ⟨rfl, rfl⟩
  refine go_iconst hf_29 rfl rfl ci_4 ?_
  refine go_ic_ne hf_29 rfl rfl rfl (fun h13 => ?_) (fun h13 => ?_)
  · refine go_iconst hf_29 rfl rfl ci_m1 ?_
    refine go_ret1 hf_29 rfl nl_29 ?_
    exact ⟨_, _, rfl, rfl, by unfold partF valF; rw [if_neg h13], rfl⟩
  · obtain ⟨k, hk, e9, hkk⟩ := rdAt_in (by omega) (nI_m1 (by omega)) h13
    refine go_al0 hf_29 rfl rfl ?_
    refine go_getr hf_29 ho_29 rfl fl_1_15 rfl (by first | assumption | rfl) rfl ?_
    refine go_il3 hf_29 rfl rfl ?_
    refine go_iald hf_29 rfl rfl (by first | assumption | rfl) rfl (by first | exact rfl | assumption) (by omega) (by first | assumption | ((repeat rewrite [up_k]) <;> first | assumption | decide | omega) | exact rfl) ?_
    refine go_goto hf_29 rfl rfl ?_
    refine go_ret1 hf_29 rfl nl_29 ?_
    exact ⟨_, _, rfl, rfl, by unfold partF valF; rw [if_pos h13, e9, rdAt_t hk (by omega)], rfl⟩
/-! entries as numbers below 32768 -/
theorem en_or {a b k : Nat} (h : b < 2 ^ k) : nI (a * 2 ^ k) ||| nI b = nI (a * 2 ^ k + b) := by
  have e : a * 2 ^ k + b = a * 2 ^ k ||| b := by
    rw [← Nat.shiftLeft_eq]
    exact Nat.shiftLeft_add_eq_or_of_lt h a
  rw [e]
  apply Int32.toBitVec_inj.1
  show BitVec.ofNat 32 (a * 2 ^ k) ||| BitVec.ofNat 32 b = BitVec.ofNat 32 (a * 2 ^ k ||| b)
  apply BitVec.eq_of_getLsbD_eq
  intro i hi
  simp [BitVec.getLsbD_or, BitVec.getLsbD_ofNat, hi]
theorem en_all' {w : Nat} (h : w < 32768) : (nI w >>> (nI 13 &&& 31) = nI (w / 8192) ∧ (nI w >>> (nI 11 &&& 31)) &&& nI 3 = nI (w / 2048 % 4) ∧ (nI w >>> (nI 6 &&& 31)) &&& nI 31 = nI (w / 64 % 32) ∧ (nI w >>> (nI 6 &&& 31)) &&& nI 127 = nI (w / 64 % 128) ∧ nI w &&& nI 63 = nI (w % 64)) := by
  refine ⟨pk_shrN (by omega) _ 13 (by decide), ?_, ?_, ?_, pk_andN (by omega) 6 (by decide)⟩
  · rw [pk_shrN (by omega) _ 11 (by decide)]
    exact pk_andN (by omega) 2 (by decide)
  · rw [pk_shrN (by omega) _ 6 (by decide)]
    exact pk_andN (by omega) 5 (by decide)
  · rw [pk_shrN (by omega) _ 6 (by decide)]
    exact pk_andN (by omega) 7 (by decide)
theorem en_pack {i d c t : Nat} (h1 : i < 4) (h2 : d < 4) (h3 : c < 32) (h4 : t < 64) : ((((nI i <<< (nI 2 &&& 31)) ||| nI d) <<< (nI 5 &&& 31)) ||| nI c) <<< (nI 6 &&& 31) ||| nI t = nI (((i * 4 + d) * 32 + c) * 64 + t) := by
  rw [pk_shlN (n := i) _ 2 (by decide) (by omega), en_or (k := 2) (by omega), pk_shlN (n := i * 2 ^ 2 + d) _ 5 (by decide) (by omega), en_or (k := 5) (by omega), pk_shlN (n := (i * 2 ^ 2 + d) * 2 ^ 5 + c) _ 6 (by decide) (by omega), en_or (k := 6) (by omega)]
theorem c_itemOf {M : sm_M} {w : Nat} (hw9 : w < 32768) : cr 129 0 0 [.int (nI w)] M (fun v M1 => v = some (.int (nI (w / 8192))) ∧ M1 = M) := by
  intro X J rc rs d lw hd hw
  show sm_wp tb_T X tb_ok d lw 129 0 [some (.int (nI w))] [] _ _
  refine go_il0 hf_129 rfl rfl ?_
  refine go_bipush hf_129 rfl rfl cb_13 ?_
  refine go_ishr hf_129 rfl rfl (en_all' hw9).1 ?_
  refine go_ret1 hf_129 rfl nl_129 ?_
  exact ⟨_, _, rfl, rfl, rfl, rfl⟩
theorem c_deviceOf {M : sm_M} {w : Nat} (hw9 : w < 32768) : cr 127 0 0 [.int (nI w)] M (fun v M1 => v = some (.int (nI (w / 2048 % 4))) ∧ M1 = M) := by
  intro X J rc rs d lw hd hw
  show sm_wp tb_T X tb_ok d lw 127 0 [some (.int (nI w))] [] _ _
  refine go_il0 hf_127 rfl rfl ?_
  refine go_bipush hf_127 rfl rfl cb_11 ?_
  refine go_ishr hf_127 rfl rfl rfl ?_
  refine go_iconst hf_127 rfl rfl ci_3 ?_
  refine go_iand hf_127 rfl rfl (en_all' hw9).2.1 ?_
  refine go_ret1 hf_127 rfl nl_127 ?_
  exact ⟨_, _, rfl, rfl, rfl, rfl⟩
theorem c_countOf {M : sm_M} {w : Nat} (hw9 : w < 32768) : cr 126 0 0 [.int (nI w)] M (fun v M1 => v = some (.int (nI (w / 64 % 32))) ∧ M1 = M) := by
  intro X J rc rs d lw hd hw
  show sm_wp tb_T X tb_ok d lw 126 0 [some (.int (nI w))] [] _ _
  refine go_il0 hf_126 rfl rfl ?_
  refine go_bipush hf_126 rfl rfl cb_6 ?_
  refine go_ishr hf_126 rfl rfl rfl ?_
  refine go_bipush hf_126 rfl rfl cb_31 ?_
  refine go_iand hf_126 rfl rfl (en_all' hw9).2.2.1 ?_
  refine go_ret1 hf_126 rfl nl_126 ?_
  exact ⟨_, _, rfl, rfl, rfl, rfl⟩
theorem c_dotOf {M : sm_M} {w : Nat} (hw9 : w < 32768) : cr 128 0 0 [.int (nI w)] M (fun v M1 => v = some (.int (nI (w / 64 % 128))) ∧ M1 = M) := by
  intro X J rc rs d lw hd hw
  show sm_wp tb_T X tb_ok d lw 128 0 [some (.int (nI w))] [] _ _
  refine go_il0 hf_128 rfl rfl ?_
  refine go_bipush hf_128 rfl rfl cb_6 ?_
  refine go_ishr hf_128 rfl rfl rfl ?_
  refine go_bipush hf_128 rfl rfl cb_127 ?_
  refine go_iand hf_128 rfl rfl (en_all' hw9).2.2.2.1 ?_
  refine go_ret1 hf_128 rfl nl_128 ?_
  exact ⟨_, _, rfl, rfl, rfl, rfl⟩
theorem c_contentOf {M : sm_M} {w : Nat} (hw9 : w < 32768) : cr 130 0 0 [.int (nI w)] M (fun v M1 => v = some (.int (nI (w % 64))) ∧ M1 = M) := by
  intro X J rc rs d lw hd hw
  show sm_wp tb_T X tb_ok d lw 130 0 [some (.int (nI w))] [] _ _
  refine go_il0 hf_130 rfl rfl ?_
  refine go_bipush hf_130 rfl rfl cb_63 ?_
  refine go_iand hf_130 rfl rfl (en_all' hw9).2.2.2.2 ?_
  refine go_ret1 hf_130 rfl nl_130 ?_
  exact ⟨_, _, rfl, rfl, rfl, rfl⟩
theorem c_pack {M : sm_M} {i k c t : Nat} (h1 : i < 4) (h2 : k < 4) (h3 : c < 32) (h4 : t < 64) : cr 125 0 0 [.int (nI i), .int (nI k), .int (nI c), .int (nI t)] M (fun v M1 => v = some (.int (nI (((i * 4 + k) * 32 + c) * 64 + t))) ∧ M1 = M) := by
  intro X J rc rs d lw hd hw
  show sm_wp tb_T X tb_ok d lw 125 0 [some (.int (nI i)), some (.int (nI k)), some (.int (nI c)), some (.int (nI t)), none] [] _ _
  refine go_il0 hf_125 rfl rfl ?_
  refine go_iconst hf_125 rfl rfl ci_2 ?_
  refine go_ishl hf_125 rfl rfl rfl ?_
  refine go_il1 hf_125 rfl rfl ?_
  refine go_ior hf_125 rfl rfl rfl ?_
  refine go_iconst hf_125 rfl rfl ci_5 ?_
  refine go_ishl hf_125 rfl rfl rfl ?_
  refine go_il2 hf_125 rfl rfl ?_
  refine go_ior hf_125 rfl rfl rfl ?_
  refine go_is4 hf_125 rfl rfl ?_
  refine go_il4 hf_125 rfl rfl ?_
  refine go_bipush hf_125 rfl rfl cb_6 ?_
  refine go_ishl hf_125 rfl rfl rfl ?_
  refine go_il3 hf_125 rfl rfl ?_
  refine go_ior hf_125 rfl rfl (en_pack h1 h2 h3 h4) ?_
  refine go_ret1 hf_125 rfl nl_125 ?_
  exact ⟨_, _, rfl, rfl, rfl, rfl⟩
/-- the reference's entry in its four rows -/
def qd (M : sm_M) (i w : Nat) : Prop := M 51 i = nI (w / 8192) ∧ M 52 i = nI (w % 64) ∧ M 53 i = nI (w / 2048 % 4) ∧ M 54 i = nI (w / 64 % 32)
theorem c_is {M : sm_M} {t : Int32} {N kk : Nat} (hN9 : N ≤ 900) (hk9 : kk < 100) (ht : t = -1 ∨ ∃ j, j < N ∧ t = nI j) : cr 100 0 0 [.ref 40, .int t, .int (nI kk)] M (fun v M1 => v = some (.int (bI (rdAt (M 41) N t = nI kk))) ∧ M1 = M) := by
  intro X J rc rs d lw hd hw
  show sm_wp tb_T X tb_ok d lw 100 0 [some (.ref 40), some (.int t), some (.int (nI kk))] [] _ _
  refine go_il1 hf_100 rfl rfl ?_
  refine go_if_lt hf_100 rfl rfl rfl (fun h1 => ?_) (fun h1 => ?_)
  · refine go_iconst hf_100 rfl rfl ci_0 ?_
    refine go_ret2 hf_100 rfl nl_100 (by first | exact Or.inl rfl | exact Or.inr rfl | assumption) ?_
    exact ⟨_, _, rfl, rfl, by rw [bI_f (fun e => nI_m1 (n := kk) (by omega) (by rw [← e, rdAt_f (Or.inl h1)]))], rfl⟩
  · rcases ht with rfl | ⟨j, hj, rfl⟩
    · exact absurd (by decide) h1
    refine go_al0 hf_100 rfl rfl ?_
    refine go_getr hf_100 ho_100 rfl fl_6_7 rfl (by first | assumption | rfl) rfl ?_
    refine go_il1 hf_100 rfl rfl ?_
    refine go_iald hf_100 rfl rfl (by first | assumption | rfl) rfl (by first | exact rfl | assumption) (by omega) (by first | assumption | ((repeat rewrite [up_k]) <;> first | assumption | decide | omega) | exact rfl) ?_
    refine go_il2 hf_100 rfl rfl ?_
    refine go_ic_ne hf_100 rfl rfl rfl (fun h11 => ?_) (fun h11 => ?_)
    · refine go_iconst hf_100 rfl rfl ci_0 ?_
      refine go_ret2 hf_100 rfl nl_100 (by first | exact Or.inl rfl | exact Or.inr rfl | assumption) ?_
      exact ⟨_, _, rfl, rfl, by rw [bI_f (fun e => h11 (by rw [rdAt_t hj (by omega)] at e; exact e))], rfl⟩
    · refine go_iconst hf_100 rfl rfl ci_1 ?_
      refine go_goto hf_100 rfl rfl ?_
      refine go_ret2 hf_100 rfl nl_100 (by first | exact Or.inl rfl | exact Or.inr rfl | assumption) ?_
      exact ⟨_, _, rfl, rfl, by rw [bI_t (by rw [rdAt_t hj (by omega)]; exact h11)], rfl⟩
theorem c_knows {M : sm_M} {s k : Nat} {n : Int32} (hs : 3 * s + k < 15) : cr 105 0 0 [.ref 40, .int (nI s), .int (nI k), .int n] M (fun v M1 => v = some (.int (bI (n ≤ M 49 (3 * s + k)))) ∧ M1 = M) := by
  intro X J rc rs d lw hd hw
  show sm_wp tb_T X tb_ok d lw 105 0 [some (.ref 40), some (.int (nI s)), some (.int (nI k)), some (.int n)] [] _ _
  refine go_al0 hf_105 rfl rfl ?_
  refine go_getr hf_105 ho_105 rfl fl_6_35 rfl (by first | assumption | rfl) rfl ?_
  refine go_iconst hf_105 rfl rfl ci_3 ?_
  refine go_il1 hf_105 rfl rfl ?_
  refine go_imul hf_105 rfl rfl (by first | exact muln _ _ | exact rfl) ?_
  refine go_il2 hf_105 rfl rfl ?_
  refine go_iadd hf_105 rfl rfl (by first | exact nI_add _ _ | exact rfl) ?_
  refine go_iald hf_105 rfl rfl (by first | assumption | rfl) rfl (by first | exact rfl | assumption) (by omega) rfl ?_
  refine go_il3 hf_105 rfl rfl ?_
  refine go_ic_lt hf_105 rfl rfl rfl (fun h11 => ?_) (fun h11 => ?_)
  · refine go_iconst hf_105 rfl rfl ci_0 ?_
    refine go_ret2 hf_105 rfl nl_105 (by first | exact Or.inl rfl | exact Or.inr rfl | assumption) ?_
    exact ⟨_, _, rfl, rfl, by rw [bI_f (i32_nle.mpr h11)], rfl⟩
  · refine go_iconst hf_105 rfl rfl ci_1 ?_
    refine go_goto hf_105 rfl rfl ?_
    refine go_ret2 hf_105 rfl nl_105 (by first | exact Or.inl rfl | exact Or.inr rfl | assumption) ?_
    exact ⟨_, _, rfl, rfl, by rw [bI_t (i32_nlt.mp h11)], rfl⟩
theorem c_set {M : sm_M} {i : Nat} {a c k n : Int32} (hi : i < 72) : cr 81 0 0 [.ref 40, .int (nI i), .int a, .int c, .int k, .int n] M (fun v M1 => v = none ∧ M1 = sm_up (sm_up (sm_up (sm_up M 51 i a) 52 i c) 53 i k) 54 i n) := by
  intro X J rc rs d lw hd hw
  show sm_wp tb_T X tb_ok d lw 81 0 [some (.ref 40), some (.int (nI i)), some (.int a), some (.int c), some (.int k), some (.int n)] [] _ _
  refine go_al0 hf_81 rfl rfl ?_
  refine go_getr hf_81 ho_81 rfl fl_6_41 rfl (by first | assumption | rfl) rfl ?_
  refine go_il1 hf_81 rfl rfl ?_
  refine go_il2 hf_81 rfl rfl ?_
  refine go_iast hf_81 rfl rfl (by first | assumption | rfl) rfl (by first | exact rfl | assumption) (by omega) ?_
  refine go_al0 hf_81 rfl rfl ?_
  refine go_getr hf_81 ho_81 rfl fl_6_44 rfl (by first | assumption | rfl) rfl ?_
  refine go_il1 hf_81 rfl rfl ?_
  refine go_il3 hf_81 rfl rfl ?_
  refine go_iast hf_81 rfl rfl (by first | assumption | rfl) rfl (by first | exact rfl | assumption) (by omega) ?_
  refine go_al0 hf_81 rfl rfl ?_
  refine go_getr hf_81 ho_81 rfl fl_6_47 rfl (by first | assumption | rfl) rfl ?_
  refine go_il1 hf_81 rfl rfl ?_
  refine go_il4 hf_81 rfl rfl ?_
  refine go_iast hf_81 rfl rfl (by first | assumption | rfl) rfl (by first | exact rfl | assumption) (by omega) ?_
  refine go_al0 hf_81 rfl rfl ?_
  refine go_getr hf_81 ho_81 rfl fl_6_50 rfl (by first | assumption | rfl) rfl ?_
  refine go_il1 hf_81 rfl rfl ?_
  refine go_il5 hf_81 rfl rfl ?_
  refine go_iast hf_81 rfl rfl (by first | assumption | rfl) rfl (by first | exact rfl | assumption) (by omega) ?_
  refine go_ret0 hf_81 rfl nl_81 ?_
  exact ⟨_, _, rfl, rfl, rfl, rfl⟩
theorem c_copy {M : sm_M} {i j : Nat} (hi : i < 72) (hj : j < 72) : cr 80 1 25 [.ref 40, .int (nI i), .int (nI j)] M (fun v M1 => v = none ∧ M1 = sm_up (sm_up (sm_up (sm_up M 51 j (M 51 i)) 52 j (M 52 i)) 53 j (M 53 i)) 54 j (M 54 i)) := by
  intro X J rc rs d lw hd hw
  show sm_wp tb_T X tb_ok d lw 80 0 [some (.ref 40), some (.int (nI i)), some (.int (nI j))] [] _ _
  refine go_al0 hf_80 rfl rfl ?_
  refine go_il2 hf_80 rfl rfl ?_
  refine go_al0 hf_80 rfl rfl ?_
  refine go_getr hf_80 ho_80 rfl fl_6_41 rfl (by first | assumption | rfl) rfl ?_
  refine go_il1 hf_80 rfl rfl ?_
  refine go_iald hf_80 rfl rfl (by first | assumption | rfl) rfl (by first | exact rfl | assumption) (by omega) rfl ?_
  refine go_al0 hf_80 rfl rfl ?_
  refine go_getr hf_80 ho_80 rfl fl_6_44 rfl (by first | assumption | rfl) rfl ?_
  refine go_il1 hf_80 rfl rfl ?_
  refine go_iald hf_80 rfl rfl (by first | assumption | rfl) rfl (by first | exact rfl | assumption) (by omega) rfl ?_
  refine go_al0 hf_80 rfl rfl ?_
  refine go_getr hf_80 ho_80 rfl fl_6_47 rfl (by first | assumption | rfl) rfl ?_
  refine go_il1 hf_80 rfl rfl ?_
  refine go_iald hf_80 rfl rfl (by first | assumption | rfl) rfl (by first | exact rfl | assumption) (by omega) rfl ?_
  refine go_al0 hf_80 rfl rfl ?_
  refine go_getr hf_80 ho_80 rfl fl_6_50 rfl (by first | assumption | rfl) rfl ?_
  refine go_il1 hf_80 rfl rfl ?_
  refine go_iald hf_80 rfl rfl (by first | assumption | rfl) rfl (by first | exact rfl | assumption) (by omega) rfl ?_
  refine go_call hf_80 rfl rfl (inv_v ho_80 cl_6_99) (by decide) nl_81 rfl rfl rfl rfl rfl (by first | rfl | exact rcv_of (by assumption)) rfl rfl rfl (by omega) (by omega) (c_set hj) ?_
  rintro _ _ ⟨rfl, rfl⟩
  refine go_ret0 hf_80 rfl nl_80 ?_
  exact ⟨_, _, rfl, rfl, rfl, rfl⟩
theorem c_before {M : sm_M} {i j a b : Nat} (hi : i < 72) (hj : j < 72) (ha : a < 32768) (hb : b < 32768) (qa : qd M i a) (qb : qd M j b) : cr 83 0 0 [.ref 40, .int (nI i), .int (nI j)] M (fun v M1 => v = some (.int (bI (a / 64 < b / 64))) ∧ M1 = M) := by
  intro X J rc rs d lw hd hw
  show sm_wp tb_T X tb_ok d lw 83 0 [some (.ref 40), some (.int (nI i)), some (.int (nI j))] [] _ _
  obtain ⟨a1, a2, a3, a4⟩ := qa
  obtain ⟨b1, b2, b3, b4⟩ := qb
  refine go_al0 hf_83 rfl rfl ?_
  refine go_getr hf_83 ho_83 rfl fl_6_41 rfl (by first | assumption | rfl) rfl ?_
  refine go_il1 hf_83 rfl rfl ?_
  refine go_iald hf_83 rfl rfl (by first | assumption | rfl) rfl (by first | exact rfl | assumption) (by omega) (by first | assumption | ((repeat rewrite [up_k]) <;> first | assumption | decide | omega) | exact rfl) ?_
  refine go_al0 hf_83 rfl rfl ?_
  refine go_getr hf_83 ho_83 rfl fl_6_41 rfl (by first | assumption | rfl) rfl ?_
  refine go_il2 hf_83 rfl rfl ?_
  refine go_iald hf_83 rfl rfl (by first | assumption | rfl) rfl (by first | exact rfl | assumption) (by omega) (by first | assumption | ((repeat rewrite [up_k]) <;> first | assumption | decide | omega) | exact rfl) ?_
  first | refine go_nn_eq hf_83 rfl rfl rfl (by omega) (by omega) (fun h12 => ?_) (fun h12 => ?_) | refine go_ic_eq hf_83 rfl rfl rfl (fun h12 => ?_) (fun h12 => ?_)
  · refine go_al0 hf_83 rfl rfl ?_
    refine go_getr hf_83 ho_83 rfl fl_6_47 rfl (by first | assumption | rfl) rfl ?_
    refine go_il1 hf_83 rfl rfl ?_
    refine go_iald hf_83 rfl rfl (by first | assumption | rfl) rfl (by first | exact rfl | assumption) (by omega) (by first | assumption | ((repeat rewrite [up_k]) <;> first | assumption | decide | omega) | exact rfl) ?_
    refine go_al0 hf_83 rfl rfl ?_
    refine go_getr hf_83 ho_83 rfl fl_6_47 rfl (by first | assumption | rfl) rfl ?_
    refine go_il2 hf_83 rfl rfl ?_
    refine go_iald hf_83 rfl rfl (by first | assumption | rfl) rfl (by first | exact rfl | assumption) (by omega) (by first | assumption | ((repeat rewrite [up_k]) <;> first | assumption | decide | omega) | exact rfl) ?_
    first | refine go_nn_lt hf_83 rfl rfl rfl (by omega) (by omega) (fun h48 => ?_) (fun h48 => ?_) | refine go_ic_lt hf_83 rfl rfl rfl (fun h48 => ?_) (fun h48 => ?_)
    · refine go_iconst hf_83 rfl rfl ci_1 ?_
      refine go_goto hf_83 rfl rfl ?_
      refine go_ret2 hf_83 rfl nl_83 (by first | exact Or.inl rfl | exact Or.inr rfl | assumption) ?_
      exact ⟨_, _, rfl, rfl, by rw [bI_t (by omega)], rfl⟩
    · refine go_al0 hf_83 rfl rfl ?_
      refine go_getr hf_83 ho_83 rfl fl_6_47 rfl (by first | assumption | rfl) rfl ?_
      refine go_il1 hf_83 rfl rfl ?_
      refine go_iald hf_83 rfl rfl (by first | assumption | rfl) rfl (by first | exact rfl | assumption) (by omega) (by first | assumption | ((repeat rewrite [up_k]) <;> first | assumption | decide | omega) | exact rfl) ?_
      refine go_al0 hf_83 rfl rfl ?_
      refine go_getr hf_83 ho_83 rfl fl_6_47 rfl (by first | assumption | rfl) rfl ?_
      refine go_il2 hf_83 rfl rfl ?_
      refine go_iald hf_83 rfl rfl (by first | assumption | rfl) rfl (by first | exact rfl | assumption) (by omega) (by first | assumption | ((repeat rewrite [up_k]) <;> first | assumption | decide | omega) | exact rfl) ?_
      first | refine go_nn_ne hf_83 rfl rfl rfl (by omega) (by omega) (fun h63 => ?_) (fun h63 => ?_) | refine go_ic_ne hf_83 rfl rfl rfl (fun h63 => ?_) (fun h63 => ?_)
      · refine go_iconst hf_83 rfl rfl ci_0 ?_
        refine go_ret2 hf_83 rfl nl_83 (by first | exact Or.inl rfl | exact Or.inr rfl | assumption) ?_
        exact ⟨_, _, rfl, rfl, by rw [bI_f (by omega)], rfl⟩
      · refine go_al0 hf_83 rfl rfl ?_
        refine go_getr hf_83 ho_83 rfl fl_6_50 rfl (by first | assumption | rfl) rfl ?_
        refine go_il1 hf_83 rfl rfl ?_
        refine go_iald hf_83 rfl rfl (by first | assumption | rfl) rfl (by first | exact rfl | assumption) (by omega) (by first | assumption | ((repeat rewrite [up_k]) <;> first | assumption | decide | omega) | exact rfl) ?_
        refine go_al0 hf_83 rfl rfl ?_
        refine go_getr hf_83 ho_83 rfl fl_6_50 rfl (by first | assumption | rfl) rfl ?_
        refine go_il2 hf_83 rfl rfl ?_
        refine go_iald hf_83 rfl rfl (by first | assumption | rfl) rfl (by first | exact rfl | assumption) (by omega) (by first | assumption | ((repeat rewrite [up_k]) <;> first | assumption | decide | omega) | exact rfl) ?_
        first | refine go_nn_ge hf_83 rfl rfl rfl (by omega) (by omega) (fun h78 => ?_) (fun h78 => ?_) | refine go_ic_ge hf_83 rfl rfl rfl (fun h78 => ?_) (fun h78 => ?_)
        · refine go_iconst hf_83 rfl rfl ci_0 ?_
          refine go_ret2 hf_83 rfl nl_83 (by first | exact Or.inl rfl | exact Or.inr rfl | assumption) ?_
          exact ⟨_, _, rfl, rfl, by rw [bI_f (by omega)], rfl⟩
        · refine go_iconst hf_83 rfl rfl ci_1 ?_
          refine go_goto hf_83 rfl rfl ?_
          refine go_ret2 hf_83 rfl nl_83 (by first | exact Or.inl rfl | exact Or.inr rfl | assumption) ?_
          exact ⟨_, _, rfl, rfl, by rw [bI_t (by omega)], rfl⟩
  · refine go_al0 hf_83 rfl rfl ?_
    refine go_getr hf_83 ho_83 rfl fl_6_41 rfl (by first | assumption | rfl) rfl ?_
    refine go_il1 hf_83 rfl rfl ?_
    refine go_iald hf_83 rfl rfl (by first | assumption | rfl) rfl (by first | exact rfl | assumption) (by omega) (by first | assumption | ((repeat rewrite [up_k]) <;> first | assumption | decide | omega) | exact rfl) ?_
    refine go_al0 hf_83 rfl rfl ?_
    refine go_getr hf_83 ho_83 rfl fl_6_41 rfl (by first | assumption | rfl) rfl ?_
    refine go_il2 hf_83 rfl rfl ?_
    refine go_iald hf_83 rfl rfl (by first | assumption | rfl) rfl (by first | exact rfl | assumption) (by omega) (by first | assumption | ((repeat rewrite [up_k]) <;> first | assumption | decide | omega) | exact rfl) ?_
    first | refine go_nn_ge hf_83 rfl rfl rfl (by omega) (by omega) (fun h27 => ?_) (fun h27 => ?_) | refine go_ic_ge hf_83 rfl rfl rfl (fun h27 => ?_) (fun h27 => ?_)
    · refine go_iconst hf_83 rfl rfl ci_0 ?_
      refine go_ret2 hf_83 rfl nl_83 (by first | exact Or.inl rfl | exact Or.inr rfl | assumption) ?_
      exact ⟨_, _, rfl, rfl, by rw [bI_f (by omega)], rfl⟩
    · refine go_iconst hf_83 rfl rfl ci_1 ?_
      refine go_goto hf_83 rfl rfl ?_
      refine go_ret2 hf_83 rfl nl_83 (by first | exact Or.inl rfl | exact Or.inr rfl | assumption) ?_
      exact ⟨_, _, rfl, rfl, by rw [bI_t (by omega)], rfl⟩
/-! mail: a list -/
def ml (n : Int32) (a b c e : Nat → Int32) (ms : List (Int32 × Int32 × Int32 × Int32)) : Prop := n = nI ms.length ∧ ms.length ≤ 12 ∧ ∀ i x, ms[i]? = some x → a i = x.1 ∧ b i = x.2.1 ∧ c i = x.2.2.1 ∧ e i = x.2.2.2
theorem ml_snoc {n n' : Int32} {a b c e a' b' c' e' : Nat → Int32} {ms : List (Int32 × Int32 × Int32 × Int32)} {x : Int32 × Int32 × Int32 × Int32} (h : ml n a b c e ms) (hl : ms.length < 12) (hn : n' = nI (ms.length + 1)) (ho : ∀ i, i < ms.length → a' i = a i ∧ b' i = b i ∧ c' i = c i ∧ e' i = e i) (hx : a' ms.length = x.1 ∧ b' ms.length = x.2.1 ∧ c' ms.length = x.2.2.1 ∧ e' ms.length = x.2.2.2) : ml n' a' b' c' e' (ms ++ [x]) := by
  obtain ⟨h1, h2, h3⟩ := h
  refine ⟨by rw [hn]; simp, by simp; omega, fun i y hy => ?_⟩
  rcases Nat.lt_trichotomy i ms.length with hi | hi | hi
  · rw [List.getElem?_append_left hi] at hy
    obtain ⟨o1, o2, o3, o4⟩ := ho i hi
    rw [o1, o2, o3, o4]
    exact h3 i y hy
  · subst hi
    simp at hy
    subst hy
    exact hx
  · rw [List.getElem?_eq_none (by simp; omega)] at hy
    cases hy
theorem ml_erase {n n' : Int32} {a b c e a' b' c' e' : Nat → Int32} {ms : List (Int32 × Int32 × Int32 × Int32)} {m : Nat} (h : ml n a b c e ms) (hm : m < ms.length) (hn : n' = nI (ms.length - 1)) (ho : ∀ i, i < m → a' i = a i ∧ b' i = b i ∧ c' i = c i ∧ e' i = e i) (hx : ∀ i, m ≤ i → i < ms.length - 1 → a' i = a (i + 1) ∧ b' i = b (i + 1) ∧ c' i = c (i + 1) ∧ e' i = e (i + 1)) : ml n' a' b' c' e' (ms.eraseIdx m) := by
  obtain ⟨h1, h2, h3⟩ := h
  have hl : (ms.eraseIdx m).length = ms.length - 1 := List.length_eraseIdx_of_lt hm
  refine ⟨by rw [hn, hl], by omega, fun i y hy => ?_⟩
  have hi : i < ms.length - 1 := by rw [← hl]; exact (List.getElem?_eq_some_iff.mp hy).1
  rw [List.getElem?_eraseIdx] at hy
  split at hy
  · next hc =>
    obtain ⟨o1, o2, o3, o4⟩ := ho i hc
    rw [o1, o2, o3, o4]
    exact h3 i y hy
  · next hc =>
    obtain ⟨o1, o2, o3, o4⟩ := hx i (by omega) hi
    rw [o1, o2, o3, o4]
    exact h3 (i + 1) y hy
theorem c_msend {M : sm_M} {ms : List (Int32 × Int32 × Int32 × Int32)} {k a b t : Int32} (hm : ml (M 12 4) (M 13) (M 14) (M 15) (M 16) ms) : cr 56 0 0 [.ref 12, .int k, .int a, .int b, .int t] M (fun v M1 => v = none ∧ ml (M1 12 4) (M1 13) (M1 14) (M1 15) (M1 16) (if ms.length < 12 then ms ++ [(k, a, b, t)] else ms) ∧ ∀ q, (q < 12 ∨ 16 < q) → M1 q = M q) := by
  intro X J rc rs d lw hd hw
  show sm_wp tb_T X tb_ok d lw 56 0 [some (.ref 12), some (.int k), some (.int a), some (.int b), some (.int t)] [] _ _
  obtain ⟨hn, hl, hs⟩ := hm
  refine go_al0 hf_56 rfl rfl ?_
  refine go_get hf_56 ho_56 rfl fl_3_24 rfl (by first | assumption | rfl) rfl (by first | assumption | ((repeat rewrite [up_k]) <;> first | assumption | decide | omega) | exact rfl) ?_
  refine go_bipush hf_56 rfl rfl cb_12 ?_
  first | refine go_nn_lt hf_56 rfl rfl rfl (by omega) (by omega) (fun h6 => ?_) (fun h6 => ?_) | refine go_ic_lt hf_56 rfl rfl rfl (fun h6 => ?_) (fun h6 => ?_)
  · refine go_al0 hf_56 rfl rfl ?_
    refine go_getr hf_56 ho_56 rfl fl_3_9 rfl (by first | assumption | rfl) rfl ?_
    refine go_al0 hf_56 rfl rfl ?_
    refine go_get hf_56 ho_56 rfl fl_3_24 rfl (by first | assumption | rfl) rfl (by first | assumption | ((repeat rewrite [up_k]) <;> first | assumption | decide | omega) | exact rfl) ?_
    refine go_il1 hf_56 rfl rfl ?_
    refine go_iast hf_56 rfl rfl (by first | assumption | rfl) rfl (by first | exact rfl | assumption) (by omega) ?_
    refine go_al0 hf_56 rfl rfl ?_
    refine go_getr hf_56 ho_56 rfl fl_3_15 rfl (by first | assumption | rfl) rfl ?_
    refine go_al0 hf_56 rfl rfl ?_
    refine go_get hf_56 ho_56 rfl fl_3_24 rfl (by first | assumption | rfl) rfl (by first | assumption | ((repeat rewrite [up_k]) <;> first | assumption | decide | omega) | exact rfl) ?_
    refine go_il2 hf_56 rfl rfl ?_
    refine go_iast hf_56 rfl rfl (by first | assumption | rfl) rfl (by first | exact rfl | assumption) (by omega) ?_
    refine go_al0 hf_56 rfl rfl ?_
    refine go_getr hf_56 ho_56 rfl fl_3_18 rfl (by first | assumption | rfl) rfl ?_
    refine go_al0 hf_56 rfl rfl ?_
    refine go_get hf_56 ho_56 rfl fl_3_24 rfl (by first | assumption | rfl) rfl (by first | assumption | ((repeat rewrite [up_k]) <;> first | assumption | decide | omega) | exact rfl) ?_
    refine go_il3 hf_56 rfl rfl ?_
    refine go_iast hf_56 rfl rfl (by first | assumption | rfl) rfl (by first | exact rfl | assumption) (by omega) ?_
    refine go_al0 hf_56 rfl rfl ?_
    refine go_getr hf_56 ho_56 rfl fl_3_21 rfl (by first | assumption | rfl) rfl ?_
    refine go_al0 hf_56 rfl rfl ?_
    refine go_get hf_56 ho_56 rfl fl_3_24 rfl (by first | assumption | rfl) rfl (by first | assumption | ((repeat rewrite [up_k]) <;> first | assumption | decide | omega) | exact rfl) ?_
    refine go_il4 hf_56 rfl rfl ?_
    refine go_iast hf_56 rfl rfl (by first | assumption | rfl) rfl (by first | exact rfl | assumption) (by omega) ?_
    refine go_al0 hf_56 rfl rfl ?_
    first | refine go_dup hf_56 rfl rfl ?_ | refine go_dupr hf_56 rfl rfl ?_
    refine go_get hf_56 ho_56 rfl fl_3_24 rfl (by first | assumption | rfl) rfl (by first | assumption | ((repeat rewrite [up_k]) <;> first | assumption | decide | omega) | exact rfl) ?_
    refine go_iconst hf_56 rfl rfl ci_1 ?_
    refine go_iadd hf_56 rfl rfl (by first | exact nI_add _ _ | exact rfl) ?_
    refine go_put hf_56 ho_56 rfl fl_3_24 rfl (by first | assumption | rfl) rfl (Or.inl rfl) ?_
    refine go_ret0 hf_56 rfl nl_56 ?_
    refine ⟨_, _, rfl, rfl, rfl, ?_, fun q hq => ?_⟩
    · rw [if_pos h6]
      refine ml_snoc ⟨hn, hl, hs⟩ h6 up_s (fun i hi => ?_) ?_
      · refine ⟨?_, ?_, ?_, ?_⟩ <;> simp [sm_up, upd] <;> omega
      · simp [sm_up, upd]
    · simp only [sm_up]
      repeat rw [if_neg (by omega)]
  · refine go_ret0 hf_56 rfl nl_56 ?_
    exact ⟨_, _, rfl, rfl, rfl, by rw [if_neg h6]; exact ⟨hn, hl, hs⟩, fun _ _ => rfl⟩
theorem c_mremove {M : sm_M} {ms : List (Int32 × Int32 × Int32 × Int32)} {m : Nat} (hm : ml (M 12 4) (M 13) (M 14) (M 15) (M 16) ms) (hlt : m < ms.length) : cr 55 0 0 [.ref 12, .int (nI m)] M (fun v M1 => v = none ∧ ml (M1 12 4) (M1 13) (M1 14) (M1 15) (M1 16) (ms.eraseIdx m) ∧ ∀ a j, ¬ (a = 12 ∧ j = 4) → (a < 13 ∨ 16 < a) → M1 a j = M a j) := by
  intro X J rc rs d lw hd hw
  show sm_wp tb_T X tb_ok d lw 55 0 [some (.ref 12), some (.int (nI m)), none] [] _ _
  have hn := hm.1
  have hl := hm.2.1
  have loop : ∀ (n i : Nat) (M1 : sm_M), i + n = ms.length - 1 → m ≤ i → M1 12 4 = nI (ms.length - 1) → (∀ a j, ¬ (a = 12 ∧ j = 4) → (a < 13 ∨ 16 < a) → M1 a j = M a j) → (∀ a j, 13 ≤ a → a ≤ 16 → (j < m ∨ i ≤ j) → M1 a j = M a j) → (∀ a j, 13 ≤ a → a ≤ 16 → m ≤ j → j < i → M1 a j = M a (j + 1)) → sm_wp tb_T X tb_ok d lw 55 12 [some (.ref 12), some (.int (nI m)), some (.int (nI i))] [] (wSH, M1, J, rc, rs) (fun o h' => ∃ v M1, o = .inl v ∧ h' = (wSH, M1, J, rc, rs) ∧ v = none ∧ ml (M1 12 4) (M1 13) (M1 14) (M1 15) (M1 16) (ms.eraseIdx m) ∧ ∀ a j, ¬ (a = 12 ∧ j = 4) → (a < 13 ∨ 16 < a) → M1 a j = M a j) := by
    intro n
    induction n with
    | zero =>
      intro i M1 hi hmi hs hfr ho hx
      refine go_il2 hf_55 rfl rfl ?_
      refine go_al0 hf_55 rfl rfl ?_
      refine go_get hf_55 ho_55 rfl fl_3_24 rfl (by first | assumption | rfl) rfl (by first | assumption | ((repeat rewrite [up_k]) <;> first | assumption | decide | omega) | exact rfl) ?_
      first | refine go_nn_ge hf_55 rfl rfl rfl (by omega) (by omega) (fun h17 => ?_) (fun h17 => absurd h17 (by omega)) | refine go_ic_ge hf_55 rfl rfl rfl (fun h17 => ?_) (fun h17 => absurd h17 (by omega))
      refine go_ret0 hf_55 rfl nl_55 ?_
      have hi2 : i = ms.length - 1 := by omega
      refine ⟨_, _, rfl, rfl, rfl, ml_erase hm hlt hs (fun k hk => ?_) (fun k hk hk2 => ?_), hfr⟩
      · exact ⟨ho _ _ (by omega) (by omega) (by omega), ho _ _ (by omega) (by omega) (by omega), ho _ _ (by omega) (by omega) (by omega), ho _ _ (by omega) (by omega) (by omega)⟩
      · exact ⟨hx _ _ (by omega) (by omega) (by omega) (by omega), hx _ _ (by omega) (by omega) (by omega) (by omega), hx _ _ (by omega) (by omega) (by omega) (by omega), hx _ _ (by omega) (by omega) (by omega) (by omega)⟩
    | succ n ih =>
      intro i M1 hi hmi hs hfr ho hx
      refine go_il2 hf_55 rfl rfl ?_
      refine go_al0 hf_55 rfl rfl ?_
      refine go_get hf_55 ho_55 rfl fl_3_24 rfl (by first | assumption | rfl) rfl (by first | assumption | ((repeat rewrite [up_k]) <;> first | assumption | decide | omega) | exact rfl) ?_
      first | refine go_nn_ge hf_55 rfl rfl rfl (by omega) (by omega) (fun h17 => absurd h17 (by omega)) (fun h17 => ?_) | refine go_ic_ge hf_55 rfl rfl rfl (fun h17 => absurd h17 (by omega)) (fun h17 => ?_)
      refine go_al0 hf_55 rfl rfl ?_
      refine go_getr hf_55 ho_55 rfl fl_3_9 rfl (by first | assumption | rfl) rfl ?_
      refine go_il2 hf_55 rfl rfl ?_
      refine go_al0 hf_55 rfl rfl ?_
      refine go_getr hf_55 ho_55 rfl fl_3_9 rfl (by first | assumption | rfl) rfl ?_
      refine go_il2 hf_55 rfl rfl ?_
      refine go_iconst hf_55 rfl rfl ci_1 ?_
      refine go_iadd hf_55 rfl rfl (by first | exact nI_add _ _ | exact rfl) ?_
      refine go_iald hf_55 rfl rfl (by first | assumption | rfl) rfl (by first | exact rfl | assumption) (by omega) rfl ?_
      refine go_iast hf_55 rfl rfl (by first | assumption | rfl) rfl (by first | exact rfl | assumption) (by omega) ?_
      refine go_al0 hf_55 rfl rfl ?_
      refine go_getr hf_55 ho_55 rfl fl_3_15 rfl (by first | assumption | rfl) rfl ?_
      refine go_il2 hf_55 rfl rfl ?_
      refine go_al0 hf_55 rfl rfl ?_
      refine go_getr hf_55 ho_55 rfl fl_3_15 rfl (by first | assumption | rfl) rfl ?_
      refine go_il2 hf_55 rfl rfl ?_
      refine go_iconst hf_55 rfl rfl ci_1 ?_
      refine go_iadd hf_55 rfl rfl (by first | exact nI_add _ _ | exact rfl) ?_
      refine go_iald hf_55 rfl rfl (by first | assumption | rfl) rfl (by first | exact rfl | assumption) (by omega) rfl ?_
      refine go_iast hf_55 rfl rfl (by first | assumption | rfl) rfl (by first | exact rfl | assumption) (by omega) ?_
      refine go_al0 hf_55 rfl rfl ?_
      refine go_getr hf_55 ho_55 rfl fl_3_18 rfl (by first | assumption | rfl) rfl ?_
      refine go_il2 hf_55 rfl rfl ?_
      refine go_al0 hf_55 rfl rfl ?_
      refine go_getr hf_55 ho_55 rfl fl_3_18 rfl (by first | assumption | rfl) rfl ?_
      refine go_il2 hf_55 rfl rfl ?_
      refine go_iconst hf_55 rfl rfl ci_1 ?_
      refine go_iadd hf_55 rfl rfl (by first | exact nI_add _ _ | exact rfl) ?_
      refine go_iald hf_55 rfl rfl (by first | assumption | rfl) rfl (by first | exact rfl | assumption) (by omega) rfl ?_
      refine go_iast hf_55 rfl rfl (by first | assumption | rfl) rfl (by first | exact rfl | assumption) (by omega) ?_
      refine go_al0 hf_55 rfl rfl ?_
      refine go_getr hf_55 ho_55 rfl fl_3_21 rfl (by first | assumption | rfl) rfl ?_
      refine go_il2 hf_55 rfl rfl ?_
      refine go_al0 hf_55 rfl rfl ?_
      refine go_getr hf_55 ho_55 rfl fl_3_21 rfl (by first | assumption | rfl) rfl ?_
      refine go_il2 hf_55 rfl rfl ?_
      refine go_iconst hf_55 rfl rfl ci_1 ?_
      refine go_iadd hf_55 rfl rfl (by first | exact nI_add _ _ | exact rfl) ?_
      refine go_iald hf_55 rfl rfl (by first | assumption | rfl) rfl (by first | exact rfl | assumption) (by omega) rfl ?_
      refine go_iast hf_55 rfl rfl (by first | assumption | rfl) rfl (by first | exact rfl | assumption) (by omega) ?_
      refine go_ic2 hf_55 rfl rfl (by first | exact inc1 _ | exact rfl) ?_
      refine go_goto hf_55 rfl rfl ?_
      refine ih (i + 1) _ (by omega) (by omega) ?_ ?_ ?_ ?_
      · (repeat rewrite [up_k]) <;> first | assumption | decide
      · intro a j h1 h2
        simp only [sm_up]
        repeat rw [if_neg (by omega)]
        exact hfr a j h1 h2
      · intro a j h1 h2 h3
        rw [← ho a j h1 h2 (by omega)]
        repeat rw [up_o (by omega)]
      · intro a j h1 h2 h3 h4
        by_cases hj : j = i
        · subst hj
          rw [← ho a (j + 1) h1 h2 (by omega)]
          rcases (by omega : a = 13 ∨ a = 14 ∨ a = 15 ∨ a = 16) with rfl | rfl | rfl | rfl <;> simp [sm_up, upd]
        · repeat rw [up_o (by omega)]
          exact hx a j h1 h2 h3 (by omega)
  refine go_al0 hf_55 rfl rfl ?_
  first | refine go_dup hf_55 rfl rfl ?_ | refine go_dupr hf_55 rfl rfl ?_
  refine go_get hf_55 ho_55 rfl fl_3_24 rfl (by first | assumption | rfl) rfl (by first | assumption | ((repeat rewrite [up_k]) <;> first | assumption | decide | omega) | exact rfl) ?_
  refine go_iconst hf_55 rfl rfl ci_1 ?_
  refine go_isub hf_55 rfl rfl (subn (by omega)) ?_
  refine go_put hf_55 ho_55 rfl fl_3_24 rfl (by first | assumption | rfl) rfl (Or.inl rfl) ?_
  refine go_il1 hf_55 rfl rfl ?_
  refine go_is2 hf_55 rfl rfl ?_
  refine loop (ms.length - 1 - m) m _ (by omega) (by omega) up_s ?_ ?_ ?_
  · intro a j h1 h2
    exact up_o (by omega)
  · intro a j h1 h2 h3
    exact up_o (by omega)
  · intro a j h1 h2 h3 h4
    omega
theorem r_remove {M : sm_M} {ms : List (Int32 × Int32 × Int32 × Int32)} {m : Nat} (hm : ml (M 40 20) (M 58) (M 59) (M 60) (M 61) ms) (hlt : m < ms.length) : cr 97 0 0 [.ref 40, .int (nI m)] M (fun v M1 => v = none ∧ ml (M1 40 20) (M1 58) (M1 59) (M1 60) (M1 61) (ms.eraseIdx m) ∧ ∀ a j, ¬ (a = 40 ∧ j = 20) → (a < 58 ∨ 61 < a) → M1 a j = M a j) := by
  intro X J rc rs d lw hd hw
  show sm_wp tb_T X tb_ok d lw 97 0 [some (.ref 40), some (.int (nI m)), none] [] _ _
  have hn := hm.1
  have hl := hm.2.1
  have loop : ∀ (n i : Nat) (M1 : sm_M), i + n = ms.length - 1 → m ≤ i → M1 40 20 = nI (ms.length - 1) → (∀ a j, ¬ (a = 40 ∧ j = 20) → (a < 58 ∨ 61 < a) → M1 a j = M a j) → (∀ a j, 58 ≤ a → a ≤ 61 → (j < m ∨ i ≤ j) → M1 a j = M a j) → (∀ a j, 58 ≤ a → a ≤ 61 → m ≤ j → j < i → M1 a j = M a (j + 1)) → sm_wp tb_T X tb_ok d lw 97 12 [some (.ref 40), some (.int (nI m)), some (.int (nI i))] [] (wSH, M1, J, rc, rs) (fun o h' => ∃ v M1, o = .inl v ∧ h' = (wSH, M1, J, rc, rs) ∧ v = none ∧ ml (M1 40 20) (M1 58) (M1 59) (M1 60) (M1 61) (ms.eraseIdx m) ∧ ∀ a j, ¬ (a = 40 ∧ j = 20) → (a < 58 ∨ 61 < a) → M1 a j = M a j) := by
    intro n
    induction n with
    | zero =>
      intro i M1 hi hmi hs hfr ho hx
      refine go_il2 hf_97 rfl rfl ?_
      refine go_al0 hf_97 rfl rfl ?_
      refine go_get hf_97 ho_97 rfl fl_6_145 rfl (by first | assumption | rfl) rfl (by first | assumption | ((repeat rewrite [up_k]) <;> first | assumption | decide | omega) | exact rfl) ?_
      first | refine go_nn_ge hf_97 rfl rfl rfl (by omega) (by omega) (fun h17 => ?_) (fun h17 => absurd h17 (by omega)) | refine go_ic_ge hf_97 rfl rfl rfl (fun h17 => ?_) (fun h17 => absurd h17 (by omega))
      refine go_ret0 hf_97 rfl nl_97 ?_
      have hi2 : i = ms.length - 1 := by omega
      refine ⟨_, _, rfl, rfl, rfl, ml_erase hm hlt hs (fun k hk => ?_) (fun k hk hk2 => ?_), hfr⟩
      · exact ⟨ho _ _ (by omega) (by omega) (by omega), ho _ _ (by omega) (by omega) (by omega), ho _ _ (by omega) (by omega) (by omega), ho _ _ (by omega) (by omega) (by omega)⟩
      · exact ⟨hx _ _ (by omega) (by omega) (by omega) (by omega), hx _ _ (by omega) (by omega) (by omega) (by omega), hx _ _ (by omega) (by omega) (by omega) (by omega), hx _ _ (by omega) (by omega) (by omega) (by omega)⟩
    | succ n ih =>
      intro i M1 hi hmi hs hfr ho hx
      refine go_il2 hf_97 rfl rfl ?_
      refine go_al0 hf_97 rfl rfl ?_
      refine go_get hf_97 ho_97 rfl fl_6_145 rfl (by first | assumption | rfl) rfl (by first | assumption | ((repeat rewrite [up_k]) <;> first | assumption | decide | omega) | exact rfl) ?_
      first | refine go_nn_ge hf_97 rfl rfl rfl (by omega) (by omega) (fun h17 => absurd h17 (by omega)) (fun h17 => ?_) | refine go_ic_ge hf_97 rfl rfl rfl (fun h17 => absurd h17 (by omega)) (fun h17 => ?_)
      refine go_al0 hf_97 rfl rfl ?_
      refine go_getr hf_97 ho_97 rfl fl_6_62 rfl (by first | assumption | rfl) rfl ?_
      refine go_il2 hf_97 rfl rfl ?_
      refine go_al0 hf_97 rfl rfl ?_
      refine go_getr hf_97 ho_97 rfl fl_6_62 rfl (by first | assumption | rfl) rfl ?_
      refine go_il2 hf_97 rfl rfl ?_
      refine go_iconst hf_97 rfl rfl ci_1 ?_
      refine go_iadd hf_97 rfl rfl (by first | exact nI_add _ _ | exact rfl) ?_
      refine go_iald hf_97 rfl rfl (by first | assumption | rfl) rfl (by first | exact rfl | assumption) (by omega) rfl ?_
      refine go_iast hf_97 rfl rfl (by first | assumption | rfl) rfl (by first | exact rfl | assumption) (by omega) ?_
      refine go_al0 hf_97 rfl rfl ?_
      refine go_getr hf_97 ho_97 rfl fl_6_65 rfl (by first | assumption | rfl) rfl ?_
      refine go_il2 hf_97 rfl rfl ?_
      refine go_al0 hf_97 rfl rfl ?_
      refine go_getr hf_97 ho_97 rfl fl_6_65 rfl (by first | assumption | rfl) rfl ?_
      refine go_il2 hf_97 rfl rfl ?_
      refine go_iconst hf_97 rfl rfl ci_1 ?_
      refine go_iadd hf_97 rfl rfl (by first | exact nI_add _ _ | exact rfl) ?_
      refine go_iald hf_97 rfl rfl (by first | assumption | rfl) rfl (by first | exact rfl | assumption) (by omega) rfl ?_
      refine go_iast hf_97 rfl rfl (by first | assumption | rfl) rfl (by first | exact rfl | assumption) (by omega) ?_
      refine go_al0 hf_97 rfl rfl ?_
      refine go_getr hf_97 ho_97 rfl fl_6_68 rfl (by first | assumption | rfl) rfl ?_
      refine go_il2 hf_97 rfl rfl ?_
      refine go_al0 hf_97 rfl rfl ?_
      refine go_getr hf_97 ho_97 rfl fl_6_68 rfl (by first | assumption | rfl) rfl ?_
      refine go_il2 hf_97 rfl rfl ?_
      refine go_iconst hf_97 rfl rfl ci_1 ?_
      refine go_iadd hf_97 rfl rfl (by first | exact nI_add _ _ | exact rfl) ?_
      refine go_iald hf_97 rfl rfl (by first | assumption | rfl) rfl (by first | exact rfl | assumption) (by omega) rfl ?_
      refine go_iast hf_97 rfl rfl (by first | assumption | rfl) rfl (by first | exact rfl | assumption) (by omega) ?_
      refine go_al0 hf_97 rfl rfl ?_
      refine go_getr hf_97 ho_97 rfl fl_6_71 rfl (by first | assumption | rfl) rfl ?_
      refine go_il2 hf_97 rfl rfl ?_
      refine go_al0 hf_97 rfl rfl ?_
      refine go_getr hf_97 ho_97 rfl fl_6_71 rfl (by first | assumption | rfl) rfl ?_
      refine go_il2 hf_97 rfl rfl ?_
      refine go_iconst hf_97 rfl rfl ci_1 ?_
      refine go_iadd hf_97 rfl rfl (by first | exact nI_add _ _ | exact rfl) ?_
      refine go_iald hf_97 rfl rfl (by first | assumption | rfl) rfl (by first | exact rfl | assumption) (by omega) rfl ?_
      refine go_iast hf_97 rfl rfl (by first | assumption | rfl) rfl (by first | exact rfl | assumption) (by omega) ?_
      refine go_ic2 hf_97 rfl rfl (by first | exact inc1 _ | exact rfl) ?_
      refine go_goto hf_97 rfl rfl ?_
      refine ih (i + 1) _ (by omega) (by omega) ?_ ?_ ?_ ?_
      · (repeat rewrite [up_k]) <;> first | assumption | decide
      · intro a j h1 h2
        simp only [sm_up]
        repeat rw [if_neg (by omega)]
        exact hfr a j h1 h2
      · intro a j h1 h2 h3
        rw [← ho a j h1 h2 (by omega)]
        repeat rw [up_o (by omega)]
      · intro a j h1 h2 h3 h4
        by_cases hj : j = i
        · subst hj
          rw [← ho a (j + 1) h1 h2 (by omega)]
          rcases (by omega : a = 58 ∨ a = 59 ∨ a = 60 ∨ a = 61) with rfl | rfl | rfl | rfl <;> simp [sm_up, upd]
        · repeat rw [up_o (by omega)]
          exact hx a j h1 h2 h3 (by omega)
  refine go_al0 hf_97 rfl rfl ?_
  first | refine go_dup hf_97 rfl rfl ?_ | refine go_dupr hf_97 rfl rfl ?_
  refine go_get hf_97 ho_97 rfl fl_6_145 rfl (by first | assumption | rfl) rfl (by first | assumption | ((repeat rewrite [up_k]) <;> first | assumption | decide | omega) | exact rfl) ?_
  refine go_iconst hf_97 rfl rfl ci_1 ?_
  refine go_isub hf_97 rfl rfl (subn (by omega)) ?_
  refine go_put hf_97 ho_97 rfl fl_6_145 rfl (by first | assumption | rfl) rfl (Or.inl rfl) ?_
  refine go_il1 hf_97 rfl rfl ?_
  refine go_is2 hf_97 rfl rfl ?_
  refine loop (ms.length - 1 - m) m _ (by omega) (by omega) up_s ?_ ?_ ?_
  · intro a j h1 h2
    exact up_o (by omega)
  · intro a j h1 h2 h3
    exact up_o (by omega)
  · intro a j h1 h2 h3 h4
    omega
end
