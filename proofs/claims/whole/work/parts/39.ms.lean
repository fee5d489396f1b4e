/-! ===== all methods; the tables T ===== -/
def tb_ms0 : List tb_M := [
  (tb_f0, prog_1_method_1_code, 2, 0, 0, 0, ⟨"VaultDevices", "<init>", "()V"⟩, []),
  (tb_f1, prog_1_method_10_code, 6, 2, 0, 0, ⟨"VaultDevices", "deliver", "(I)Z"⟩, []),
  (tb_f2, prog_1_method_26_code, 2, 2, 0, 0, ⟨"VaultDevices", "isBelow", "(II)Z"⟩, []),
  (tb_f3, prog_1_method_25_code, 4, 0, 0, 0, ⟨"VaultDevices", "takeReply", "(II)V"⟩, []),
  (tb_f4, prog_1_method_24_code, 2, 0, 0, 0, ⟨"VaultDevices", "sendHeld", "(I)V"⟩, []),
  (tb_f5, prog_1_method_11_code, 2, 2, 0, 0, ⟨"VaultDevices", "drop", "(I)Z"⟩, []),
  (tb_f6, prog_1_method_12_code, 3, 1, 0, 0, ⟨"VaultDevices", "message", "(II)I"⟩, []),
  (tb_f7, prog_1_method_13_code, 1, 1, 0, 0, ⟨"VaultDevices", "flight", "()I"⟩, []),
  (tb_f8, prog_1_method_14_code, 3, 2, 0, 0, ⟨"VaultDevices", "forge", "(II)Z"⟩, []),
  (tb_f9, prog_1_method_15_code, 2, 2, 0, 0, ⟨"VaultDevices", "plant", "(I)Z"⟩, []),
  (tb_f10, prog_1_method_16_code, 5, 1, 0, 0, ⟨"VaultDevices", "build", "(III)I"⟩, []),
  (tb_f11, prog_1_method_17_code, 3, 1, 0, 0, ⟨"VaultDevices", "leak", "(I)I"⟩, []),
  (tb_f12, prog_1_method_18_code, 3, 1, 0, 0, ⟨"VaultDevices", "steal", "(I)I"⟩, []),
  (tb_f13, prog_1_method_19_code, 2, 2, 0, 0, ⟨"VaultDevices", "known", "(I)Z"⟩, []),
  (tb_f14, prog_1_method_20_code, 3, 1, 0, 0, ⟨"VaultDevices", "term", "(II)I"⟩, []),
  (tb_f15, prog_1_method_21_code, 2, 1, 0, 0, ⟨"VaultDevices", "atom", "(I)I"⟩, []),
  (tb_f16, prog_1_method_22_code, 4, 1, 0, 0, ⟨"VaultDevices", "device", "(II)I"⟩, []),
  (tb_f17, prog_1_method_23_code, 1, 1, 0, 0, ⟨"VaultDevices", "server", "()I"⟩, []),
  (tb_f18, prog_1_method_2_code, 4, 2, 0, 0, ⟨"VaultDevices", "unlock", "(II)Z"⟩, []),
  (tb_f19, prog_1_method_27_code, 1, 0, 0, 0, ⟨"VaultDevices", "require", "(Z)V"⟩, []),
  (tb_f20, prog_1_method_3_code, 2, 2, 0, 0, ⟨"VaultDevices", "lock", "(I)Z"⟩, []),
  (tb_f21, prog_1_method_4_code, 5, 1, 0, 0, ⟨"VaultDevices", "put", "(III)I"⟩, []),
  (tb_f22, prog_1_method_28_code, 1, 0, 0, 0, ⟨"VaultDevices", "requireOpen", "(LVaultDevices$Device;)V"⟩, []),
  (tb_f23, prog_1_method_5_code, 5, 1, 0, 0, ⟨"VaultDevices", "erase", "(II)I"⟩, [])]
def tb_ms1 : List tb_M := [
  (tb_f24, prog_1_method_6_code, 5, 1, 0, 0, ⟨"VaultDevices", "get", "(III)I"⟩, []),
  (tb_f25, prog_1_method_7_code, 4, 1, 0, 0, ⟨"VaultDevices", "change", "(II)I"⟩, []),
  (tb_f26, prog_1_method_8_code, 2, 2, 0, 0, ⟨"VaultDevices", "pull", "(I)Z"⟩, []),
  (tb_f27, prog_1_method_9_code, 3, 1, 0, 0, ⟨"VaultDevices", "push", "(I)I"⟩, []),
  (tb_f28, prog_7_method_1_code, 1, 0, 1, 1, ⟨"VaultDevices$Terms", "<init>", "()V"⟩, []),
  (tb_f29, prog_7_method_8_code, 4, 1, 1, 1, ⟨"VaultDevices$Terms", "partOf", "(II)I"⟩, []),
  (tb_f30, prog_7_method_7_code, 5, 1, 1, 1, ⟨"VaultDevices$Terms", "tailOf", "(II)I"⟩, []),
  (tb_f31, prog_7_method_2_code, 2, 1, 1, 1, ⟨"VaultDevices$Terms", "kindOf", "(I)I"⟩, []),
  (tb_f32, prog_7_method_4_code, 2, 1, 1, 1, ⟨"VaultDevices$Terms", "yOf", "(I)I"⟩, []),
  (tb_f33, prog_7_method_3_code, 2, 1, 1, 1, ⟨"VaultDevices$Terms", "xOf", "(I)I"⟩, []),
  (tb_f34, prog_7_method_6_code, 3, 1, 1, 1, ⟨"VaultDevices$Terms", "valueOf", "(II)I"⟩, []),
  (tb_f35, prog_7_method_13_code, 2, 0, 1, 1, ⟨"VaultDevices$Terms", "reveal", "(I)V"⟩, []),
  (tb_f36, prog_7_method_14_code, 4, 0, 1, 1, ⟨"VaultDevices$Terms", "spread", "()V"⟩, []),
  (tb_f37, prog_7_method_15_code, 6, 2, 1, 1, ⟨"VaultDevices$Terms", "takeApart", "(I)Z"⟩, []),
  (tb_f38, prog_7_method_5_code, 2, 2, 1, 1, ⟨"VaultDevices$Terms", "isKnown", "(I)Z"⟩, []),
  (tb_f39, prog_7_method_10_code, 6, 1, 1, 1, ⟨"VaultDevices$Terms", "make", "(III)I"⟩, []),
  (tb_f40, prog_7_method_9_code, 6, 1, 1, 1, ⟨"VaultDevices$Terms", "find", "(III)I"⟩, []),
  (tb_f41, prog_7_method_11_code, 6, 1, 1, 1, ⟨"VaultDevices$Terms", "makeList", "([III)I"⟩, []),
  (tb_f42, prog_7_method_12_code, 3, 0, 1, 1, ⟨"VaultDevices$Terms", "cutBack", "(I)V"⟩, []),
  (tb_f43, prog_5_method_1_code, 1, 0, 2, 2, ⟨"VaultDevices$Seals", "<init>", "()V"⟩, []),
  (tb_f44, prog_5_method_6_code, 6, 2, 2, 2, ⟨"VaultDevices$Seals", "read", "(LVaultDevices$Terms;ILVaultDevices$State;)Z"⟩, []),
  (tb_f45, prog_5_method_7_code, 6, 2, 2, 2, ⟨"VaultDevices$Seals", "readHeader", "(LVaultDevices$Terms;ILVaultDevices$State;)Z"⟩, []),
  (tb_f46, prog_5_method_8_code, 4, 1, 2, 2, ⟨"VaultDevices$Seals", "readHeaderBox", "(LVaultDevices$Terms;I)I"⟩, []),
  (tb_f47, prog_5_method_9_code, 5, 2, 2, 2, ⟨"VaultDevices$Seals", "readVector", "(LVaultDevices$Terms;ILVaultDevices$State;)Z"⟩, [])]
def tb_ms2 : List tb_M := [
  (tb_f48, prog_5_method_10_code, 6, 2, 2, 2, ⟨"VaultDevices$Seals", "readEntries", "(LVaultDevices$Terms;ILVaultDevices$State;)Z"⟩, []),
  (tb_f49, prog_5_method_11_code, 8, 1, 2, 2, ⟨"VaultDevices$Seals", "readEntry", "(LVaultDevices$Terms;I)I"⟩, []),
  (tb_f50, prog_5_method_2_code, 7, 1, 2, 2, ⟨"VaultDevices$Seals", "write", "(LVaultDevices$Terms;LVaultDevices$State;)I"⟩, []),
  (tb_f51, prog_5_method_3_code, 6, 0, 2, 2, ⟨"VaultDevices$Seals", "writeHeader", "(LVaultDevices$Terms;LVaultDevices$State;)V"⟩, []),
  (tb_f52, prog_5_method_4_code, 4, 1, 2, 2, ⟨"VaultDevices$Seals", "writeEntries", "(LVaultDevices$Terms;LVaultDevices$State;)I"⟩, []),
  (tb_f53, prog_5_method_5_code, 5, 1, 2, 2, ⟨"VaultDevices$Seals", "writeEntry", "(LVaultDevices$Terms;I)I"⟩, []),
  (tb_f54, prog_4_method_1_code, 1, 0, 3, 3, ⟨"VaultDevices$Mail", "<init>", "()V"⟩, []),
  (tb_f55, prog_4_method_3_code, 3, 0, 3, 3, ⟨"VaultDevices$Mail", "remove", "(I)V"⟩, []),
  (tb_f56, prog_4_method_2_code, 5, 0, 3, 3, ⟨"VaultDevices$Mail", "send", "(IIII)V"⟩, []),
  (tb_f57, prog_2_method_1_code, 1, 0, 4, 4, ⟨"VaultDevices$Device", "<init>", "()V"⟩, []),
  (tb_f58, prog_6_method_1_code, 1, 0, 5, 5, ⟨"VaultDevices$State", "<init>", "()V"⟩, []),
  (tb_f59, prog_6_method_2_code, 4, 0, 5, 5, ⟨"VaultDevices$State", "takeHeader", "(III)V"⟩, []),
  (tb_f60, prog_6_method_13_code, 3, 2, 5, 5, ⟨"VaultDevices$State", "mayFollow", "(I)Z"⟩, []),
  (tb_f61, prog_6_method_8_code, 3, 2, 5, 5, ⟨"VaultDevices$State", "knowsDotOf", "(I)Z"⟩, []),
  (tb_f62, prog_6_method_6_code, 2, 0, 5, 5, ⟨"VaultDevices$State", "insert", "(I)V"⟩, []),
  (tb_f63, prog_6_method_14_code, 4, 0, 5, 5, ⟨"VaultDevices$State", "insertInOrder", "([III)V"⟩, []),
  (tb_f64, prog_6_method_7_code, 3, 2, 5, 5, ⟨"VaultDevices$State", "isAbove", "([I)Z"⟩, []),
  (tb_f65, prog_6_method_10_code, 4, 2, 5, 5, ⟨"VaultDevices$State", "merge", "(LVaultDevices$State;)Z"⟩, []),
  (tb_f66, prog_6_method_9_code, 3, 2, 5, 5, ⟨"VaultDevices$State", "has", "(I)Z"⟩, []),
  (tb_f67, prog_6_method_11_code, 3, 0, 5, 5, ⟨"VaultDevices$State", "mergeVector", "(LVaultDevices$State;)V"⟩, []),
  (tb_f68, prog_6_method_12_code, 3, 0, 5, 5, ⟨"VaultDevices$State", "mergeHeader", "(LVaultDevices$State;)V"⟩, []),
  (tb_f69, prog_6_method_3_code, 4, 1, 5, 5, ⟨"VaultDevices$State", "countOf", "(I)I"⟩, []),
  (tb_f70, prog_6_method_5_code, 4, 0, 5, 5, ⟨"VaultDevices$State", "removeAll", "(I)V"⟩, []),
  (tb_f71, prog_6_method_4_code, 5, 1, 5, 5, ⟨"VaultDevices$State", "contentAt", "(II)I"⟩, [])]
def tb_ms3 : List tb_M := [
  (tb_f72, prog_9_method_1_code, 2, 0, 6, 6, ⟨"VaultDevicesModel", "<init>", "()V"⟩, []),
  (tb_f73, prog_9_method_2_code, 1, 1, 6, 6, ⟨"VaultDevicesModel", "thrown", "()I"⟩, []),
  (tb_f74, prog_9_method_29_code, 3, 2, 6, 6, ⟨"VaultDevicesModel", "unlock", "(II)Z"⟩, []),
  (tb_f75, prog_9_method_27_code, 1, 2, 6, 6, ⟨"VaultDevicesModel", "isDevice", "(I)Z"⟩, []),
  (tb_f76, prog_9_method_30_code, 3, 2, 6, 6, ⟨"VaultDevicesModel", "lock", "(I)Z"⟩, []),
  (tb_f77, prog_9_method_32_code, 7, 1, 6, 6, ⟨"VaultDevicesModel", "put", "(III)I"⟩, []),
  (tb_f78, prog_9_method_28_code, 3, 2, 6, 6, ⟨"VaultDevicesModel", "may", "(ZI)Z"⟩, []),
  (tb_f79, prog_9_method_31_code, 7, 1, 6, 6, ⟨"VaultDevicesModel", "count", "(IIZ)I"⟩, []),
  (tb_f80, prog_9_method_14_code, 3, 0, 6, 6, ⟨"VaultDevicesModel", "copy", "(II)V"⟩, []),
  (tb_f81, prog_9_method_13_code, 6, 0, 6, 6, ⟨"VaultDevicesModel", "set", "(IIIII)V"⟩, []),
  (tb_f82, prog_9_method_15_code, 7, 0, 6, 6, ⟨"VaultDevicesModel", "sink", "(I)V"⟩, []),
  (tb_f83, prog_9_method_12_code, 3, 2, 6, 6, ⟨"VaultDevicesModel", "before", "(II)Z"⟩, []),
  (tb_f84, prog_9_method_33_code, 4, 1, 6, 6, ⟨"VaultDevicesModel", "erase", "(II)I"⟩, []),
  (tb_f85, prog_9_method_34_code, 6, 1, 6, 6, ⟨"VaultDevicesModel", "get", "(III)I"⟩, []),
  (tb_f86, prog_9_method_35_code, 3, 1, 6, 6, ⟨"VaultDevicesModel", "change", "(II)I"⟩, []),
  (tb_f87, prog_9_method_36_code, 3, 2, 6, 6, ⟨"VaultDevicesModel", "pull", "(I)Z"⟩, []),
  (tb_f88, prog_9_method_24_code, 5, 2, 6, 6, ⟨"VaultDevicesModel", "send", "(IIII)Z"⟩, []),
  (tb_f89, prog_9_method_38_code, 4, 1, 6, 6, ⟨"VaultDevicesModel", "push", "(I)I"⟩, []),
  (tb_f90, prog_9_method_37_code, 4, 1, 6, 6, ⟨"VaultDevicesModel", "seal", "(I)I"⟩, []),
  (tb_f91, prog_9_method_8_code, 15, 1, 6, 6, ⟨"VaultDevicesModel", "makeSeal", "(I)I"⟩, []),
  (tb_f92, prog_9_method_5_code, 5, 1, 6, 6, ⟨"VaultDevicesModel", "make", "(III)I"⟩, []),
  (tb_f93, prog_9_method_4_code, 5, 1, 6, 6, ⟨"VaultDevicesModel", "look", "(III)I"⟩, []),
  (tb_f94, prog_9_method_7_code, 9, 1, 6, 6, ⟨"VaultDevicesModel", "makeEntry", "(I)I"⟩, []),
  (tb_f95, prog_9_method_6_code, 3, 1, 6, 6, ⟨"VaultDevicesModel", "settle", "(II)I"⟩, [])]
def tb_ms4 : List tb_M := [
  (tb_f96, prog_9_method_39_code, 7, 2, 6, 6, ⟨"VaultDevicesModel", "deliver", "(I)Z"⟩, []),
  (tb_f97, prog_9_method_25_code, 3, 0, 6, 6, ⟨"VaultDevicesModel", "remove", "(I)V"⟩, []),
  (tb_f98, prog_9_method_26_code, 5, 0, 6, 6, ⟨"VaultDevicesModel", "reply", "(II)V"⟩, []),
  (tb_f99, prog_9_method_23_code, 5, 2, 6, 6, ⟨"VaultDevicesModel", "isSeal", "(I)Z"⟩, []),
  (tb_f100, prog_9_method_18_code, 3, 2, 6, 6, ⟨"VaultDevicesModel", "is", "(II)Z"⟩, []),
  (tb_f101, prog_9_method_20_code, 4, 1, 6, 6, ⟨"VaultDevicesModel", "figure", "(II)I"⟩, []),
  (tb_f102, prog_9_method_19_code, 2, 1, 6, 6, ⟨"VaultDevicesModel", "part", "()I"⟩, []),
  (tb_f103, prog_9_method_21_code, 7, 1, 6, 6, ⟨"VaultDevicesModel", "boxed", "(I)I"⟩, []),
  (tb_f104, prog_9_method_22_code, 10, 0, 6, 6, ⟨"VaultDevicesModel", "readEntry", "(I)V"⟩, []),
  (tb_f105, prog_9_method_10_code, 4, 2, 6, 6, ⟨"VaultDevicesModel", "knows", "(III)Z"⟩, []),
  (tb_f106, prog_9_method_16_code, 3, 2, 6, 6, ⟨"VaultDevicesModel", "merge", "(I)Z"⟩, []),
  (tb_f107, prog_9_method_11_code, 4, 2, 6, 6, ⟨"VaultDevicesModel", "holds", "(II)Z"⟩, []),
  (tb_f108, prog_9_method_17_code, 4, 0, 6, 6, ⟨"VaultDevicesModel", "adopt", "(I)V"⟩, []),
  (tb_f109, prog_9_method_40_code, 2, 2, 6, 6, ⟨"VaultDevicesModel", "drop", "(I)Z"⟩, []),
  (tb_f110, prog_9_method_41_code, 3, 1, 6, 6, ⟨"VaultDevicesModel", "message", "(II)I"⟩, []),
  (tb_f111, prog_9_method_42_code, 1, 1, 6, 6, ⟨"VaultDevicesModel", "flight", "()I"⟩, []),
  (tb_f112, prog_9_method_44_code, 3, 2, 6, 6, ⟨"VaultDevicesModel", "forge", "(II)Z"⟩, []),
  (tb_f113, prog_9_method_43_code, 2, 2, 6, 6, ⟨"VaultDevicesModel", "isKnown", "(I)Z"⟩, []),
  (tb_f114, prog_9_method_3_code, 2, 2, 6, 6, ⟨"VaultDevicesModel", "isTerm", "(I)Z"⟩, []),
  (tb_f115, prog_9_method_9_code, 9, 0, 6, 6, ⟨"VaultDevicesModel", "spread", "()V"⟩, []),
  (tb_f116, prog_9_method_45_code, 2, 2, 6, 6, ⟨"VaultDevicesModel", "plant", "(I)Z"⟩, []),
  (tb_f117, prog_9_method_46_code, 6, 1, 6, 6, ⟨"VaultDevicesModel", "build", "(III)I"⟩, []),
  (tb_f118, prog_9_method_47_code, 4, 1, 6, 6, ⟨"VaultDevicesModel", "leak", "(I)I"⟩, []),
  (tb_f119, prog_9_method_48_code, 3, 1, 6, 6, ⟨"VaultDevicesModel", "steal", "(I)I"⟩, [])]
def tb_ms5 : List tb_M := [
  (tb_f120, prog_9_method_49_code, 2, 2, 6, 6, ⟨"VaultDevicesModel", "known", "(I)Z"⟩, []),
  (tb_f121, prog_9_method_50_code, 3, 1, 6, 6, ⟨"VaultDevicesModel", "term", "(II)I"⟩, []),
  (tb_f122, prog_9_method_51_code, 2, 1, 6, 6, ⟨"VaultDevicesModel", "atom", "(I)I"⟩, []),
  (tb_f123, prog_9_method_52_code, 3, 1, 6, 6, ⟨"VaultDevicesModel", "device", "(II)I"⟩, []),
  (tb_f124, prog_9_method_53_code, 1, 1, 6, 6, ⟨"VaultDevicesModel", "server", "()I"⟩, []),
  (tb_f125, prog_3_method_2_code, 5, 1, 99, 7, ⟨"VaultDevices$Entry", "pack", "(IIII)I"⟩, []),
  (tb_f126, prog_3_method_5_code, 1, 1, 99, 7, ⟨"VaultDevices$Entry", "countOf", "(I)I"⟩, []),
  (tb_f127, prog_3_method_4_code, 1, 1, 99, 7, ⟨"VaultDevices$Entry", "deviceOf", "(I)I"⟩, []),
  (tb_f128, prog_3_method_7_code, 1, 1, 99, 7, ⟨"VaultDevices$Entry", "dotOf", "(I)I"⟩, []),
  (tb_f129, prog_3_method_3_code, 1, 1, 99, 7, ⟨"VaultDevices$Entry", "itemOf", "(I)I"⟩, []),
  (tb_f130, prog_3_method_6_code, 1, 1, 99, 7, ⟨"VaultDevices$Entry", "contentOf", "(I)I"⟩, []),
  (tb_f131, method_3_code, 5, 1, 99, 8, ⟨"VaultDevicesLaw", "unlock", "(LVaultDevices;II[J)I"⟩, [(0, 17, 20, 13)]),
  (tb_f132, method_4_code, 4, 1, 99, 8, ⟨"VaultDevicesLaw", "lock", "(LVaultDevices;I[J)I"⟩, [(0, 16, 19, 13)]),
  (tb_f133, method_5_code, 6, 1, 99, 8, ⟨"VaultDevicesLaw", "put", "(LVaultDevices;III[J)I"⟩, [(0, 12, 15, 13), (0, 12, 19, 23)]),
  (tb_f134, method_6_code, 5, 1, 99, 8, ⟨"VaultDevicesLaw", "erase", "(LVaultDevices;II[J)I"⟩, [(0, 10, 13, 13), (0, 10, 17, 23)]),
  (tb_f135, method_7_code, 6, 1, 99, 8, ⟨"VaultDevicesLaw", "get", "(LVaultDevices;III[J)I"⟩, [(0, 12, 15, 13), (0, 12, 19, 23)]),
  (tb_f136, method_8_code, 5, 1, 99, 8, ⟨"VaultDevicesLaw", "change", "(LVaultDevices;II[J)I"⟩, [(0, 10, 13, 13), (0, 10, 17, 23)]),
  (tb_f137, method_9_code, 4, 1, 99, 8, ⟨"VaultDevicesLaw", "pull", "(LVaultDevices;I[J)I"⟩, [(0, 16, 19, 13), (0, 16, 22, 23)]),
  (tb_f138, method_10_code, 4, 1, 99, 8, ⟨"VaultDevicesLaw", "push", "(LVaultDevices;I[J)I"⟩, [(0, 9, 12, 13), (0, 9, 15, 23)]),
  (tb_f139, code, 7, 2, 99, 8, ⟨"VaultDevicesLaw", "law", "([I)Z"⟩, []),
  (tb_f140, prog_18_method_103_code, 4, 0, 99, 9, ⟨"java/util/Arrays", "fill", "([II)V"⟩, [])]
def tb_ms : List tb_M := tb_ms0 ++ (tb_ms1 ++ (tb_ms2 ++ (tb_ms3 ++ (tb_ms4 ++ (tb_ms5)))))
def tb_get (y : Nat) : tb_M := (tb_ms[y]?).getD (fun _ => none, ByteArray.mk #[], 0, 0, 99, 99, ⟨"", "", ""⟩, [])
def tb_on (y : Nat) : Nat := (tb_get y).2.2.2.2.2.1
def tb_bc (y : Nat) : ByteArray := (tb_get y).2.1
def tb_nm (y : Nat) : MethodName := (tb_get y).2.2.2.2.2.2.1
def tb_eh (y : Nat) : List (Nat × Nat × Nat × Nat) := (tb_get y).2.2.2.2.2.2.2
/-- require (19) throws 0 where its argument is 0; requireOpen (22) throws 1 where the device (class 4) is locked (field 3) -/
def tb_thr (z : Nat) (vs : List Value) (h : sm_H) : Option (Nat × Nat × Nat) := match z, vs with
  | 19, [.int x] => if x = 0 then some (0, 1, 6) else none
  | 22, [.ref q] => match h.1[q]? with
    | some (.inl (4, fs)) => if fs[3]? = some none ∧ ¬ h.2.1 q 3 = 0 then some (1, 1, 6) else none
    | _ => none
  | _, _ => none
def tb_cat (y pc x : Nat) : Option (Option (Nat × Nat)) := match tb_eh y with
  | [] => some none
  | _ :: _ => if x < 2 then (tb_fd tb_XL y (2 * pc + x)).map some else none
def tb_T : sm_T := (fun y => (tb_get y).1, fun y idx => tb_fd tb_FL (tb_on y) idx, fun y idx => tb_fd tb_NL (tb_on y) idx, fun y idx => tb_fd tb_AL (tb_on y) idx, fun y idx => tb_fd tb_CL (tb_on y) idx, tb_thr, fun y pc x => tb_cat y pc x, fun y => ((tb_get y).2.2.1, (tb_get y).2.2.2.1, (tb_get y).2.2.2.2.1))
def tb_ok (t ci : Nat) : Bool := Nat.beq t 3 && Nat.beq ci 4
def tb_tyN : List FieldType := [.int, .boolean, .long, .object "VaultDevices$Device", .object "VaultDevices$Device", .object "VaultDevices$Device"]
def tb_AO : List String := ["VaultDevices$Device"]
def tb_okM (q : tb_M) : Prop := tb_okI q.2.2.1 q.2.1 q.1 ∧ (∃ ini, (q.2.2.2.2.2.2.1.name == "<init>") = ini ∧ tb_okP tb_cl tb_WA q.2.2.2.2.2.2.1.cls ini tb_FL q.2.2.2.2.2.1 q.1) ∧ q.2.2.2.2.2.2.1.cls = tb_cn q.2.2.2.2.2.1
theorem tb_m0 : tb_okM (tb_f0, prog_1_method_1_code, 2, 0, 0, 0, ⟨"VaultDevices", "<init>", "()V"⟩, []) := ⟨tb_i0, ⟨true, by decide +kernel, tb_p0⟩, rfl⟩
theorem tb_m1 : tb_okM (tb_f1, prog_1_method_10_code, 6, 2, 0, 0, ⟨"VaultDevices", "deliver", "(I)Z"⟩, []) := ⟨tb_i1, ⟨false, by decide +kernel, tb_p1⟩, rfl⟩
theorem tb_m2 : tb_okM (tb_f2, prog_1_method_26_code, 2, 2, 0, 0, ⟨"VaultDevices", "isBelow", "(II)Z"⟩, []) := ⟨tb_i2, ⟨false, by decide +kernel, tb_p2⟩, rfl⟩
theorem tb_m3 : tb_okM (tb_f3, prog_1_method_25_code, 4, 0, 0, 0, ⟨"VaultDevices", "takeReply", "(II)V"⟩, []) := ⟨tb_i3, ⟨false, by decide +kernel, tb_p3⟩, rfl⟩
theorem tb_m4 : tb_okM (tb_f4, prog_1_method_24_code, 2, 0, 0, 0, ⟨"VaultDevices", "sendHeld", "(I)V"⟩, []) := ⟨tb_i4, ⟨false, by decide +kernel, tb_p4⟩, rfl⟩
theorem tb_m5 : tb_okM (tb_f5, prog_1_method_11_code, 2, 2, 0, 0, ⟨"VaultDevices", "drop", "(I)Z"⟩, []) := ⟨tb_i5, ⟨false, by decide +kernel, tb_p5⟩, rfl⟩
theorem tb_m6 : tb_okM (tb_f6, prog_1_method_12_code, 3, 1, 0, 0, ⟨"VaultDevices", "message", "(II)I"⟩, []) := ⟨tb_i6, ⟨false, by decide +kernel, tb_p6⟩, rfl⟩
theorem tb_m7 : tb_okM (tb_f7, prog_1_method_13_code, 1, 1, 0, 0, ⟨"VaultDevices", "flight", "()I"⟩, []) := ⟨tb_i7, ⟨false, by decide +kernel, tb_p7⟩, rfl⟩
theorem tb_m8 : tb_okM (tb_f8, prog_1_method_14_code, 3, 2, 0, 0, ⟨"VaultDevices", "forge", "(II)Z"⟩, []) := ⟨tb_i8, ⟨false, by decide +kernel, tb_p8⟩, rfl⟩
theorem tb_m9 : tb_okM (tb_f9, prog_1_method_15_code, 2, 2, 0, 0, ⟨"VaultDevices", "plant", "(I)Z"⟩, []) := ⟨tb_i9, ⟨false, by decide +kernel, tb_p9⟩, rfl⟩
theorem tb_m10 : tb_okM (tb_f10, prog_1_method_16_code, 5, 1, 0, 0, ⟨"VaultDevices", "build", "(III)I"⟩, []) := ⟨tb_i10, ⟨false, by decide +kernel, tb_p10⟩, rfl⟩
theorem tb_m11 : tb_okM (tb_f11, prog_1_method_17_code, 3, 1, 0, 0, ⟨"VaultDevices", "leak", "(I)I"⟩, []) := ⟨tb_i11, ⟨false, by decide +kernel, tb_p11⟩, rfl⟩
theorem tb_m12 : tb_okM (tb_f12, prog_1_method_18_code, 3, 1, 0, 0, ⟨"VaultDevices", "steal", "(I)I"⟩, []) := ⟨tb_i12, ⟨false, by decide +kernel, tb_p12⟩, rfl⟩
theorem tb_m13 : tb_okM (tb_f13, prog_1_method_19_code, 2, 2, 0, 0, ⟨"VaultDevices", "known", "(I)Z"⟩, []) := ⟨tb_i13, ⟨false, by decide +kernel, tb_p13⟩, rfl⟩
theorem tb_m14 : tb_okM (tb_f14, prog_1_method_20_code, 3, 1, 0, 0, ⟨"VaultDevices", "term", "(II)I"⟩, []) := ⟨tb_i14, ⟨false, by decide +kernel, tb_p14⟩, rfl⟩
theorem tb_m15 : tb_okM (tb_f15, prog_1_method_21_code, 2, 1, 0, 0, ⟨"VaultDevices", "atom", "(I)I"⟩, []) := ⟨tb_i15, ⟨false, by decide +kernel, tb_p15⟩, rfl⟩
theorem tb_m16 : tb_okM (tb_f16, prog_1_method_22_code, 4, 1, 0, 0, ⟨"VaultDevices", "device", "(II)I"⟩, []) := ⟨tb_i16, ⟨false, by decide +kernel, tb_p16⟩, rfl⟩
theorem tb_m17 : tb_okM (tb_f17, prog_1_method_23_code, 1, 1, 0, 0, ⟨"VaultDevices", "server", "()I"⟩, []) := ⟨tb_i17, ⟨false, by decide +kernel, tb_p17⟩, rfl⟩
theorem tb_m18 : tb_okM (tb_f18, prog_1_method_2_code, 4, 2, 0, 0, ⟨"VaultDevices", "unlock", "(II)Z"⟩, []) := ⟨tb_i18, ⟨false, by decide +kernel, tb_p18⟩, rfl⟩
theorem tb_m19 : tb_okM (tb_f19, prog_1_method_27_code, 1, 0, 0, 0, ⟨"VaultDevices", "require", "(Z)V"⟩, []) := ⟨tb_i19, ⟨false, by decide +kernel, tb_p19⟩, rfl⟩
theorem tb_m20 : tb_okM (tb_f20, prog_1_method_3_code, 2, 2, 0, 0, ⟨"VaultDevices", "lock", "(I)Z"⟩, []) := ⟨tb_i20, ⟨false, by decide +kernel, tb_p20⟩, rfl⟩
theorem tb_m21 : tb_okM (tb_f21, prog_1_method_4_code, 5, 1, 0, 0, ⟨"VaultDevices", "put", "(III)I"⟩, []) := ⟨tb_i21, ⟨false, by decide +kernel, tb_p21⟩, rfl⟩
theorem tb_m22 : tb_okM (tb_f22, prog_1_method_28_code, 1, 0, 0, 0, ⟨"VaultDevices", "requireOpen", "(LVaultDevices$Device;)V"⟩, []) := ⟨tb_i22, ⟨false, by decide +kernel, tb_p22⟩, rfl⟩
theorem tb_m23 : tb_okM (tb_f23, prog_1_method_5_code, 5, 1, 0, 0, ⟨"VaultDevices", "erase", "(II)I"⟩, []) := ⟨tb_i23, ⟨false, by decide +kernel, tb_p23⟩, rfl⟩
theorem tb_m24 : tb_okM (tb_f24, prog_1_method_6_code, 5, 1, 0, 0, ⟨"VaultDevices", "get", "(III)I"⟩, []) := ⟨tb_i24, ⟨false, by decide +kernel, tb_p24⟩, rfl⟩
theorem tb_m25 : tb_okM (tb_f25, prog_1_method_7_code, 4, 1, 0, 0, ⟨"VaultDevices", "change", "(II)I"⟩, []) := ⟨tb_i25, ⟨false, by decide +kernel, tb_p25⟩, rfl⟩
theorem tb_m26 : tb_okM (tb_f26, prog_1_method_8_code, 2, 2, 0, 0, ⟨"VaultDevices", "pull", "(I)Z"⟩, []) := ⟨tb_i26, ⟨false, by decide +kernel, tb_p26⟩, rfl⟩
theorem tb_m27 : tb_okM (tb_f27, prog_1_method_9_code, 3, 1, 0, 0, ⟨"VaultDevices", "push", "(I)I"⟩, []) := ⟨tb_i27, ⟨false, by decide +kernel, tb_p27⟩, rfl⟩
theorem tb_m28 : tb_okM (tb_f28, prog_7_method_1_code, 1, 0, 1, 1, ⟨"VaultDevices$Terms", "<init>", "()V"⟩, []) := ⟨tb_i28, ⟨true, by decide +kernel, tb_p28⟩, rfl⟩
theorem tb_m29 : tb_okM (tb_f29, prog_7_method_8_code, 4, 1, 1, 1, ⟨"VaultDevices$Terms", "partOf", "(II)I"⟩, []) := ⟨tb_i29, ⟨false, by decide +kernel, tb_p29⟩, rfl⟩
theorem tb_m30 : tb_okM (tb_f30, prog_7_method_7_code, 5, 1, 1, 1, ⟨"VaultDevices$Terms", "tailOf", "(II)I"⟩, []) := ⟨tb_i30, ⟨false, by decide +kernel, tb_p30⟩, rfl⟩
theorem tb_m31 : tb_okM (tb_f31, prog_7_method_2_code, 2, 1, 1, 1, ⟨"VaultDevices$Terms", "kindOf", "(I)I"⟩, []) := ⟨tb_i31, ⟨false, by decide +kernel, tb_p31⟩, rfl⟩
theorem tb_m32 : tb_okM (tb_f32, prog_7_method_4_code, 2, 1, 1, 1, ⟨"VaultDevices$Terms", "yOf", "(I)I"⟩, []) := ⟨tb_i32, ⟨false, by decide +kernel, tb_p32⟩, rfl⟩
theorem tb_m33 : tb_okM (tb_f33, prog_7_method_3_code, 2, 1, 1, 1, ⟨"VaultDevices$Terms", "xOf", "(I)I"⟩, []) := ⟨tb_i33, ⟨false, by decide +kernel, tb_p33⟩, rfl⟩
theorem tb_m34 : tb_okM (tb_f34, prog_7_method_6_code, 3, 1, 1, 1, ⟨"VaultDevices$Terms", "valueOf", "(II)I"⟩, []) := ⟨tb_i34, ⟨false, by decide +kernel, tb_p34⟩, rfl⟩
theorem tb_m35 : tb_okM (tb_f35, prog_7_method_13_code, 2, 0, 1, 1, ⟨"VaultDevices$Terms", "reveal", "(I)V"⟩, []) := ⟨tb_i35, ⟨false, by decide +kernel, tb_p35⟩, rfl⟩
theorem tb_m36 : tb_okM (tb_f36, prog_7_method_14_code, 4, 0, 1, 1, ⟨"VaultDevices$Terms", "spread", "()V"⟩, []) := ⟨tb_i36, ⟨false, by decide +kernel, tb_p36⟩, rfl⟩
theorem tb_m37 : tb_okM (tb_f37, prog_7_method_15_code, 6, 2, 1, 1, ⟨"VaultDevices$Terms", "takeApart", "(I)Z"⟩, []) := ⟨tb_i37, ⟨false, by decide +kernel, tb_p37⟩, rfl⟩
theorem tb_m38 : tb_okM (tb_f38, prog_7_method_5_code, 2, 2, 1, 1, ⟨"VaultDevices$Terms", "isKnown", "(I)Z"⟩, []) := ⟨tb_i38, ⟨false, by decide +kernel, tb_p38⟩, rfl⟩
theorem tb_m39 : tb_okM (tb_f39, prog_7_method_10_code, 6, 1, 1, 1, ⟨"VaultDevices$Terms", "make", "(III)I"⟩, []) := ⟨tb_i39, ⟨false, by decide +kernel, tb_p39⟩, rfl⟩
theorem tb_m40 : tb_okM (tb_f40, prog_7_method_9_code, 6, 1, 1, 1, ⟨"VaultDevices$Terms", "find", "(III)I"⟩, []) := ⟨tb_i40, ⟨false, by decide +kernel, tb_p40⟩, rfl⟩
theorem tb_m41 : tb_okM (tb_f41, prog_7_method_11_code, 6, 1, 1, 1, ⟨"VaultDevices$Terms", "makeList", "([III)I"⟩, []) := ⟨tb_i41, ⟨false, by decide +kernel, tb_p41⟩, rfl⟩
theorem tb_m42 : tb_okM (tb_f42, prog_7_method_12_code, 3, 0, 1, 1, ⟨"VaultDevices$Terms", "cutBack", "(I)V"⟩, []) := ⟨tb_i42, ⟨false, by decide +kernel, tb_p42⟩, rfl⟩
theorem tb_m43 : tb_okM (tb_f43, prog_5_method_1_code, 1, 0, 2, 2, ⟨"VaultDevices$Seals", "<init>", "()V"⟩, []) := ⟨tb_i43, ⟨true, by decide +kernel, tb_p43⟩, rfl⟩
theorem tb_m44 : tb_okM (tb_f44, prog_5_method_6_code, 6, 2, 2, 2, ⟨"VaultDevices$Seals", "read", "(LVaultDevices$Terms;ILVaultDevices$State;)Z"⟩, []) := ⟨tb_i44, ⟨false, by decide +kernel, tb_p44⟩, rfl⟩
theorem tb_m45 : tb_okM (tb_f45, prog_5_method_7_code, 6, 2, 2, 2, ⟨"VaultDevices$Seals", "readHeader", "(LVaultDevices$Terms;ILVaultDevices$State;)Z"⟩, []) := ⟨tb_i45, ⟨false, by decide +kernel, tb_p45⟩, rfl⟩
theorem tb_m46 : tb_okM (tb_f46, prog_5_method_8_code, 4, 1, 2, 2, ⟨"VaultDevices$Seals", "readHeaderBox", "(LVaultDevices$Terms;I)I"⟩, []) := ⟨tb_i46, ⟨false, by decide +kernel, tb_p46⟩, rfl⟩
theorem tb_m47 : tb_okM (tb_f47, prog_5_method_9_code, 5, 2, 2, 2, ⟨"VaultDevices$Seals", "readVector", "(LVaultDevices$Terms;ILVaultDevices$State;)Z"⟩, []) := ⟨tb_i47, ⟨false, by decide +kernel, tb_p47⟩, rfl⟩
theorem tb_m48 : tb_okM (tb_f48, prog_5_method_10_code, 6, 2, 2, 2, ⟨"VaultDevices$Seals", "readEntries", "(LVaultDevices$Terms;ILVaultDevices$State;)Z"⟩, []) := ⟨tb_i48, ⟨false, by decide +kernel, tb_p48⟩, rfl⟩
theorem tb_m49 : tb_okM (tb_f49, prog_5_method_11_code, 8, 1, 2, 2, ⟨"VaultDevices$Seals", "readEntry", "(LVaultDevices$Terms;I)I"⟩, []) := ⟨tb_i49, ⟨false, by decide +kernel, tb_p49⟩, rfl⟩
theorem tb_m50 : tb_okM (tb_f50, prog_5_method_2_code, 7, 1, 2, 2, ⟨"VaultDevices$Seals", "write", "(LVaultDevices$Terms;LVaultDevices$State;)I"⟩, []) := ⟨tb_i50, ⟨false, by decide +kernel, tb_p50⟩, rfl⟩
theorem tb_m51 : tb_okM (tb_f51, prog_5_method_3_code, 6, 0, 2, 2, ⟨"VaultDevices$Seals", "writeHeader", "(LVaultDevices$Terms;LVaultDevices$State;)V"⟩, []) := ⟨tb_i51, ⟨false, by decide +kernel, tb_p51⟩, rfl⟩
theorem tb_m52 : tb_okM (tb_f52, prog_5_method_4_code, 4, 1, 2, 2, ⟨"VaultDevices$Seals", "writeEntries", "(LVaultDevices$Terms;LVaultDevices$State;)I"⟩, []) := ⟨tb_i52, ⟨false, by decide +kernel, tb_p52⟩, rfl⟩
theorem tb_m53 : tb_okM (tb_f53, prog_5_method_5_code, 5, 1, 2, 2, ⟨"VaultDevices$Seals", "writeEntry", "(LVaultDevices$Terms;I)I"⟩, []) := ⟨tb_i53, ⟨false, by decide +kernel, tb_p53⟩, rfl⟩
theorem tb_m54 : tb_okM (tb_f54, prog_4_method_1_code, 1, 0, 3, 3, ⟨"VaultDevices$Mail", "<init>", "()V"⟩, []) := ⟨tb_i54, ⟨true, by decide +kernel, tb_p54⟩, rfl⟩
theorem tb_m55 : tb_okM (tb_f55, prog_4_method_3_code, 3, 0, 3, 3, ⟨"VaultDevices$Mail", "remove", "(I)V"⟩, []) := ⟨tb_i55, ⟨false, by decide +kernel, tb_p55⟩, rfl⟩
theorem tb_m56 : tb_okM (tb_f56, prog_4_method_2_code, 5, 0, 3, 3, ⟨"VaultDevices$Mail", "send", "(IIII)V"⟩, []) := ⟨tb_i56, ⟨false, by decide +kernel, tb_p56⟩, rfl⟩
theorem tb_m57 : tb_okM (tb_f57, prog_2_method_1_code, 1, 0, 4, 4, ⟨"VaultDevices$Device", "<init>", "()V"⟩, []) := ⟨tb_i57, ⟨true, by decide +kernel, tb_p57⟩, rfl⟩
theorem tb_m58 : tb_okM (tb_f58, prog_6_method_1_code, 1, 0, 5, 5, ⟨"VaultDevices$State", "<init>", "()V"⟩, []) := ⟨tb_i58, ⟨true, by decide +kernel, tb_p58⟩, rfl⟩
theorem tb_m59 : tb_okM (tb_f59, prog_6_method_2_code, 4, 0, 5, 5, ⟨"VaultDevices$State", "takeHeader", "(III)V"⟩, []) := ⟨tb_i59, ⟨false, by decide +kernel, tb_p59⟩, rfl⟩
theorem tb_m60 : tb_okM (tb_f60, prog_6_method_13_code, 3, 2, 5, 5, ⟨"VaultDevices$State", "mayFollow", "(I)Z"⟩, []) := ⟨tb_i60, ⟨false, by decide +kernel, tb_p60⟩, rfl⟩
theorem tb_m61 : tb_okM (tb_f61, prog_6_method_8_code, 3, 2, 5, 5, ⟨"VaultDevices$State", "knowsDotOf", "(I)Z"⟩, []) := ⟨tb_i61, ⟨false, by decide +kernel, tb_p61⟩, rfl⟩
theorem tb_m62 : tb_okM (tb_f62, prog_6_method_6_code, 2, 0, 5, 5, ⟨"VaultDevices$State", "insert", "(I)V"⟩, []) := ⟨tb_i62, ⟨false, by decide +kernel, tb_p62⟩, rfl⟩
theorem tb_m63 : tb_okM (tb_f63, prog_6_method_14_code, 4, 0, 5, 5, ⟨"VaultDevices$State", "insertInOrder", "([III)V"⟩, []) := ⟨tb_i63, ⟨false, by decide +kernel, tb_p63⟩, rfl⟩
theorem tb_m64 : tb_okM (tb_f64, prog_6_method_7_code, 3, 2, 5, 5, ⟨"VaultDevices$State", "isAbove", "([I)Z"⟩, []) := ⟨tb_i64, ⟨false, by decide +kernel, tb_p64⟩, rfl⟩
theorem tb_m65 : tb_okM (tb_f65, prog_6_method_10_code, 4, 2, 5, 5, ⟨"VaultDevices$State", "merge", "(LVaultDevices$State;)Z"⟩, []) := ⟨tb_i65, ⟨false, by decide +kernel, tb_p65⟩, rfl⟩
theorem tb_m66 : tb_okM (tb_f66, prog_6_method_9_code, 3, 2, 5, 5, ⟨"VaultDevices$State", "has", "(I)Z"⟩, []) := ⟨tb_i66, ⟨false, by decide +kernel, tb_p66⟩, rfl⟩
theorem tb_m67 : tb_okM (tb_f67, prog_6_method_11_code, 3, 0, 5, 5, ⟨"VaultDevices$State", "mergeVector", "(LVaultDevices$State;)V"⟩, []) := ⟨tb_i67, ⟨false, by decide +kernel, tb_p67⟩, rfl⟩
theorem tb_m68 : tb_okM (tb_f68, prog_6_method_12_code, 3, 0, 5, 5, ⟨"VaultDevices$State", "mergeHeader", "(LVaultDevices$State;)V"⟩, []) := ⟨tb_i68, ⟨false, by decide +kernel, tb_p68⟩, rfl⟩
theorem tb_m69 : tb_okM (tb_f69, prog_6_method_3_code, 4, 1, 5, 5, ⟨"VaultDevices$State", "countOf", "(I)I"⟩, []) := ⟨tb_i69, ⟨false, by decide +kernel, tb_p69⟩, rfl⟩
theorem tb_m70 : tb_okM (tb_f70, prog_6_method_5_code, 4, 0, 5, 5, ⟨"VaultDevices$State", "removeAll", "(I)V"⟩, []) := ⟨tb_i70, ⟨false, by decide +kernel, tb_p70⟩, rfl⟩
theorem tb_m71 : tb_okM (tb_f71, prog_6_method_4_code, 5, 1, 5, 5, ⟨"VaultDevices$State", "contentAt", "(II)I"⟩, []) := ⟨tb_i71, ⟨false, by decide +kernel, tb_p71⟩, rfl⟩
theorem tb_m72 : tb_okM (tb_f72, prog_9_method_1_code, 2, 0, 6, 6, ⟨"VaultDevicesModel", "<init>", "()V"⟩, []) := ⟨tb_i72, ⟨true, by decide +kernel, tb_p72⟩, rfl⟩
theorem tb_m73 : tb_okM (tb_f73, prog_9_method_2_code, 1, 1, 6, 6, ⟨"VaultDevicesModel", "thrown", "()I"⟩, []) := ⟨tb_i73, ⟨false, by decide +kernel, tb_p73⟩, rfl⟩
theorem tb_m74 : tb_okM (tb_f74, prog_9_method_29_code, 3, 2, 6, 6, ⟨"VaultDevicesModel", "unlock", "(II)Z"⟩, []) := ⟨tb_i74, ⟨false, by decide +kernel, tb_p74⟩, rfl⟩
theorem tb_m75 : tb_okM (tb_f75, prog_9_method_27_code, 1, 2, 6, 6, ⟨"VaultDevicesModel", "isDevice", "(I)Z"⟩, []) := ⟨tb_i75, ⟨false, by decide +kernel, tb_p75⟩, rfl⟩
theorem tb_m76 : tb_okM (tb_f76, prog_9_method_30_code, 3, 2, 6, 6, ⟨"VaultDevicesModel", "lock", "(I)Z"⟩, []) := ⟨tb_i76, ⟨false, by decide +kernel, tb_p76⟩, rfl⟩
theorem tb_m77 : tb_okM (tb_f77, prog_9_method_32_code, 7, 1, 6, 6, ⟨"VaultDevicesModel", "put", "(III)I"⟩, []) := ⟨tb_i77, ⟨false, by decide +kernel, tb_p77⟩, rfl⟩
theorem tb_m78 : tb_okM (tb_f78, prog_9_method_28_code, 3, 2, 6, 6, ⟨"VaultDevicesModel", "may", "(ZI)Z"⟩, []) := ⟨tb_i78, ⟨false, by decide +kernel, tb_p78⟩, rfl⟩
theorem tb_m79 : tb_okM (tb_f79, prog_9_method_31_code, 7, 1, 6, 6, ⟨"VaultDevicesModel", "count", "(IIZ)I"⟩, []) := ⟨tb_i79, ⟨false, by decide +kernel, tb_p79⟩, rfl⟩
theorem tb_m80 : tb_okM (tb_f80, prog_9_method_14_code, 3, 0, 6, 6, ⟨"VaultDevicesModel", "copy", "(II)V"⟩, []) := ⟨tb_i80, ⟨false, by decide +kernel, tb_p80⟩, rfl⟩
theorem tb_m81 : tb_okM (tb_f81, prog_9_method_13_code, 6, 0, 6, 6, ⟨"VaultDevicesModel", "set", "(IIIII)V"⟩, []) := ⟨tb_i81, ⟨false, by decide +kernel, tb_p81⟩, rfl⟩
theorem tb_m82 : tb_okM (tb_f82, prog_9_method_15_code, 7, 0, 6, 6, ⟨"VaultDevicesModel", "sink", "(I)V"⟩, []) := ⟨tb_i82, ⟨false, by decide +kernel, tb_p82⟩, rfl⟩
theorem tb_m83 : tb_okM (tb_f83, prog_9_method_12_code, 3, 2, 6, 6, ⟨"VaultDevicesModel", "before", "(II)Z"⟩, []) := ⟨tb_i83, ⟨false, by decide +kernel, tb_p83⟩, rfl⟩
theorem tb_m84 : tb_okM (tb_f84, prog_9_method_33_code, 4, 1, 6, 6, ⟨"VaultDevicesModel", "erase", "(II)I"⟩, []) := ⟨tb_i84, ⟨false, by decide +kernel, tb_p84⟩, rfl⟩
theorem tb_m85 : tb_okM (tb_f85, prog_9_method_34_code, 6, 1, 6, 6, ⟨"VaultDevicesModel", "get", "(III)I"⟩, []) := ⟨tb_i85, ⟨false, by decide +kernel, tb_p85⟩, rfl⟩
theorem tb_m86 : tb_okM (tb_f86, prog_9_method_35_code, 3, 1, 6, 6, ⟨"VaultDevicesModel", "change", "(II)I"⟩, []) := ⟨tb_i86, ⟨false, by decide +kernel, tb_p86⟩, rfl⟩
theorem tb_m87 : tb_okM (tb_f87, prog_9_method_36_code, 3, 2, 6, 6, ⟨"VaultDevicesModel", "pull", "(I)Z"⟩, []) := ⟨tb_i87, ⟨false, by decide +kernel, tb_p87⟩, rfl⟩
theorem tb_m88 : tb_okM (tb_f88, prog_9_method_24_code, 5, 2, 6, 6, ⟨"VaultDevicesModel", "send", "(IIII)Z"⟩, []) := ⟨tb_i88, ⟨false, by decide +kernel, tb_p88⟩, rfl⟩
theorem tb_m89 : tb_okM (tb_f89, prog_9_method_38_code, 4, 1, 6, 6, ⟨"VaultDevicesModel", "push", "(I)I"⟩, []) := ⟨tb_i89, ⟨false, by decide +kernel, tb_p89⟩, rfl⟩
theorem tb_m90 : tb_okM (tb_f90, prog_9_method_37_code, 4, 1, 6, 6, ⟨"VaultDevicesModel", "seal", "(I)I"⟩, []) := ⟨tb_i90, ⟨false, by decide +kernel, tb_p90⟩, rfl⟩
theorem tb_m91 : tb_okM (tb_f91, prog_9_method_8_code, 15, 1, 6, 6, ⟨"VaultDevicesModel", "makeSeal", "(I)I"⟩, []) := ⟨tb_i91, ⟨false, by decide +kernel, tb_p91⟩, rfl⟩
theorem tb_m92 : tb_okM (tb_f92, prog_9_method_5_code, 5, 1, 6, 6, ⟨"VaultDevicesModel", "make", "(III)I"⟩, []) := ⟨tb_i92, ⟨false, by decide +kernel, tb_p92⟩, rfl⟩
theorem tb_m93 : tb_okM (tb_f93, prog_9_method_4_code, 5, 1, 6, 6, ⟨"VaultDevicesModel", "look", "(III)I"⟩, []) := ⟨tb_i93, ⟨false, by decide +kernel, tb_p93⟩, rfl⟩
theorem tb_m94 : tb_okM (tb_f94, prog_9_method_7_code, 9, 1, 6, 6, ⟨"VaultDevicesModel", "makeEntry", "(I)I"⟩, []) := ⟨tb_i94, ⟨false, by decide +kernel, tb_p94⟩, rfl⟩
theorem tb_m95 : tb_okM (tb_f95, prog_9_method_6_code, 3, 1, 6, 6, ⟨"VaultDevicesModel", "settle", "(II)I"⟩, []) := ⟨tb_i95, ⟨false, by decide +kernel, tb_p95⟩, rfl⟩
theorem tb_m96 : tb_okM (tb_f96, prog_9_method_39_code, 7, 2, 6, 6, ⟨"VaultDevicesModel", "deliver", "(I)Z"⟩, []) := ⟨tb_i96, ⟨false, by decide +kernel, tb_p96⟩, rfl⟩
theorem tb_m97 : tb_okM (tb_f97, prog_9_method_25_code, 3, 0, 6, 6, ⟨"VaultDevicesModel", "remove", "(I)V"⟩, []) := ⟨tb_i97, ⟨false, by decide +kernel, tb_p97⟩, rfl⟩
theorem tb_m98 : tb_okM (tb_f98, prog_9_method_26_code, 5, 0, 6, 6, ⟨"VaultDevicesModel", "reply", "(II)V"⟩, []) := ⟨tb_i98, ⟨false, by decide +kernel, tb_p98⟩, rfl⟩
theorem tb_m99 : tb_okM (tb_f99, prog_9_method_23_code, 5, 2, 6, 6, ⟨"VaultDevicesModel", "isSeal", "(I)Z"⟩, []) := ⟨tb_i99, ⟨false, by decide +kernel, tb_p99⟩, rfl⟩
theorem tb_m100 : tb_okM (tb_f100, prog_9_method_18_code, 3, 2, 6, 6, ⟨"VaultDevicesModel", "is", "(II)Z"⟩, []) := ⟨tb_i100, ⟨false, by decide +kernel, tb_p100⟩, rfl⟩
theorem tb_m101 : tb_okM (tb_f101, prog_9_method_20_code, 4, 1, 6, 6, ⟨"VaultDevicesModel", "figure", "(II)I"⟩, []) := ⟨tb_i101, ⟨false, by decide +kernel, tb_p101⟩, rfl⟩
theorem tb_m102 : tb_okM (tb_f102, prog_9_method_19_code, 2, 1, 6, 6, ⟨"VaultDevicesModel", "part", "()I"⟩, []) := ⟨tb_i102, ⟨false, by decide +kernel, tb_p102⟩, rfl⟩
theorem tb_m103 : tb_okM (tb_f103, prog_9_method_21_code, 7, 1, 6, 6, ⟨"VaultDevicesModel", "boxed", "(I)I"⟩, []) := ⟨tb_i103, ⟨false, by decide +kernel, tb_p103⟩, rfl⟩
theorem tb_m104 : tb_okM (tb_f104, prog_9_method_22_code, 10, 0, 6, 6, ⟨"VaultDevicesModel", "readEntry", "(I)V"⟩, []) := ⟨tb_i104, ⟨false, by decide +kernel, tb_p104⟩, rfl⟩
theorem tb_m105 : tb_okM (tb_f105, prog_9_method_10_code, 4, 2, 6, 6, ⟨"VaultDevicesModel", "knows", "(III)Z"⟩, []) := ⟨tb_i105, ⟨false, by decide +kernel, tb_p105⟩, rfl⟩
theorem tb_m106 : tb_okM (tb_f106, prog_9_method_16_code, 3, 2, 6, 6, ⟨"VaultDevicesModel", "merge", "(I)Z"⟩, []) := ⟨tb_i106, ⟨false, by decide +kernel, tb_p106⟩, rfl⟩
theorem tb_m107 : tb_okM (tb_f107, prog_9_method_11_code, 4, 2, 6, 6, ⟨"VaultDevicesModel", "holds", "(II)Z"⟩, []) := ⟨tb_i107, ⟨false, by decide +kernel, tb_p107⟩, rfl⟩
theorem tb_m108 : tb_okM (tb_f108, prog_9_method_17_code, 4, 0, 6, 6, ⟨"VaultDevicesModel", "adopt", "(I)V"⟩, []) := ⟨tb_i108, ⟨false, by decide +kernel, tb_p108⟩, rfl⟩
theorem tb_m109 : tb_okM (tb_f109, prog_9_method_40_code, 2, 2, 6, 6, ⟨"VaultDevicesModel", "drop", "(I)Z"⟩, []) := ⟨tb_i109, ⟨false, by decide +kernel, tb_p109⟩, rfl⟩
theorem tb_m110 : tb_okM (tb_f110, prog_9_method_41_code, 3, 1, 6, 6, ⟨"VaultDevicesModel", "message", "(II)I"⟩, []) := ⟨tb_i110, ⟨false, by decide +kernel, tb_p110⟩, rfl⟩
theorem tb_m111 : tb_okM (tb_f111, prog_9_method_42_code, 1, 1, 6, 6, ⟨"VaultDevicesModel", "flight", "()I"⟩, []) := ⟨tb_i111, ⟨false, by decide +kernel, tb_p111⟩, rfl⟩
theorem tb_m112 : tb_okM (tb_f112, prog_9_method_44_code, 3, 2, 6, 6, ⟨"VaultDevicesModel", "forge", "(II)Z"⟩, []) := ⟨tb_i112, ⟨false, by decide +kernel, tb_p112⟩, rfl⟩
theorem tb_m113 : tb_okM (tb_f113, prog_9_method_43_code, 2, 2, 6, 6, ⟨"VaultDevicesModel", "isKnown", "(I)Z"⟩, []) := ⟨tb_i113, ⟨false, by decide +kernel, tb_p113⟩, rfl⟩
theorem tb_m114 : tb_okM (tb_f114, prog_9_method_3_code, 2, 2, 6, 6, ⟨"VaultDevicesModel", "isTerm", "(I)Z"⟩, []) := ⟨tb_i114, ⟨false, by decide +kernel, tb_p114⟩, rfl⟩
theorem tb_m115 : tb_okM (tb_f115, prog_9_method_9_code, 9, 0, 6, 6, ⟨"VaultDevicesModel", "spread", "()V"⟩, []) := ⟨tb_i115, ⟨false, by decide +kernel, tb_p115⟩, rfl⟩
theorem tb_m116 : tb_okM (tb_f116, prog_9_method_45_code, 2, 2, 6, 6, ⟨"VaultDevicesModel", "plant", "(I)Z"⟩, []) := ⟨tb_i116, ⟨false, by decide +kernel, tb_p116⟩, rfl⟩
theorem tb_m117 : tb_okM (tb_f117, prog_9_method_46_code, 6, 1, 6, 6, ⟨"VaultDevicesModel", "build", "(III)I"⟩, []) := ⟨tb_i117, ⟨false, by decide +kernel, tb_p117⟩, rfl⟩
theorem tb_m118 : tb_okM (tb_f118, prog_9_method_47_code, 4, 1, 6, 6, ⟨"VaultDevicesModel", "leak", "(I)I"⟩, []) := ⟨tb_i118, ⟨false, by decide +kernel, tb_p118⟩, rfl⟩
theorem tb_m119 : tb_okM (tb_f119, prog_9_method_48_code, 3, 1, 6, 6, ⟨"VaultDevicesModel", "steal", "(I)I"⟩, []) := ⟨tb_i119, ⟨false, by decide +kernel, tb_p119⟩, rfl⟩
theorem tb_m120 : tb_okM (tb_f120, prog_9_method_49_code, 2, 2, 6, 6, ⟨"VaultDevicesModel", "known", "(I)Z"⟩, []) := ⟨tb_i120, ⟨false, by decide +kernel, tb_p120⟩, rfl⟩
theorem tb_m121 : tb_okM (tb_f121, prog_9_method_50_code, 3, 1, 6, 6, ⟨"VaultDevicesModel", "term", "(II)I"⟩, []) := ⟨tb_i121, ⟨false, by decide +kernel, tb_p121⟩, rfl⟩
theorem tb_m122 : tb_okM (tb_f122, prog_9_method_51_code, 2, 1, 6, 6, ⟨"VaultDevicesModel", "atom", "(I)I"⟩, []) := ⟨tb_i122, ⟨false, by decide +kernel, tb_p122⟩, rfl⟩
theorem tb_m123 : tb_okM (tb_f123, prog_9_method_52_code, 3, 1, 6, 6, ⟨"VaultDevicesModel", "device", "(II)I"⟩, []) := ⟨tb_i123, ⟨false, by decide +kernel, tb_p123⟩, rfl⟩
theorem tb_m124 : tb_okM (tb_f124, prog_9_method_53_code, 1, 1, 6, 6, ⟨"VaultDevicesModel", "server", "()I"⟩, []) := ⟨tb_i124, ⟨false, by decide +kernel, tb_p124⟩, rfl⟩
theorem tb_m125 : tb_okM (tb_f125, prog_3_method_2_code, 5, 1, 99, 7, ⟨"VaultDevices$Entry", "pack", "(IIII)I"⟩, []) := ⟨tb_i125, ⟨false, by decide +kernel, tb_p125⟩, rfl⟩
theorem tb_m126 : tb_okM (tb_f126, prog_3_method_5_code, 1, 1, 99, 7, ⟨"VaultDevices$Entry", "countOf", "(I)I"⟩, []) := ⟨tb_i126, ⟨false, by decide +kernel, tb_p126⟩, rfl⟩
theorem tb_m127 : tb_okM (tb_f127, prog_3_method_4_code, 1, 1, 99, 7, ⟨"VaultDevices$Entry", "deviceOf", "(I)I"⟩, []) := ⟨tb_i127, ⟨false, by decide +kernel, tb_p127⟩, rfl⟩
theorem tb_m128 : tb_okM (tb_f128, prog_3_method_7_code, 1, 1, 99, 7, ⟨"VaultDevices$Entry", "dotOf", "(I)I"⟩, []) := ⟨tb_i128, ⟨false, by decide +kernel, tb_p128⟩, rfl⟩
theorem tb_m129 : tb_okM (tb_f129, prog_3_method_3_code, 1, 1, 99, 7, ⟨"VaultDevices$Entry", "itemOf", "(I)I"⟩, []) := ⟨tb_i129, ⟨false, by decide +kernel, tb_p129⟩, rfl⟩
theorem tb_m130 : tb_okM (tb_f130, prog_3_method_6_code, 1, 1, 99, 7, ⟨"VaultDevices$Entry", "contentOf", "(I)I"⟩, []) := ⟨tb_i130, ⟨false, by decide +kernel, tb_p130⟩, rfl⟩
theorem tb_m131 : tb_okM (tb_f131, method_3_code, 5, 1, 99, 8, ⟨"VaultDevicesLaw", "unlock", "(LVaultDevices;II[J)I"⟩, [(0, 17, 20, 13)]) := ⟨tb_i131, ⟨false, by decide +kernel, tb_p131⟩, rfl⟩
theorem tb_m132 : tb_okM (tb_f132, method_4_code, 4, 1, 99, 8, ⟨"VaultDevicesLaw", "lock", "(LVaultDevices;I[J)I"⟩, [(0, 16, 19, 13)]) := ⟨tb_i132, ⟨false, by decide +kernel, tb_p132⟩, rfl⟩
theorem tb_m133 : tb_okM (tb_f133, method_5_code, 6, 1, 99, 8, ⟨"VaultDevicesLaw", "put", "(LVaultDevices;III[J)I"⟩, [(0, 12, 15, 13), (0, 12, 19, 23)]) := ⟨tb_i133, ⟨false, by decide +kernel, tb_p133⟩, rfl⟩
theorem tb_m134 : tb_okM (tb_f134, method_6_code, 5, 1, 99, 8, ⟨"VaultDevicesLaw", "erase", "(LVaultDevices;II[J)I"⟩, [(0, 10, 13, 13), (0, 10, 17, 23)]) := ⟨tb_i134, ⟨false, by decide +kernel, tb_p134⟩, rfl⟩
theorem tb_m135 : tb_okM (tb_f135, method_7_code, 6, 1, 99, 8, ⟨"VaultDevicesLaw", "get", "(LVaultDevices;III[J)I"⟩, [(0, 12, 15, 13), (0, 12, 19, 23)]) := ⟨tb_i135, ⟨false, by decide +kernel, tb_p135⟩, rfl⟩
theorem tb_m136 : tb_okM (tb_f136, method_8_code, 5, 1, 99, 8, ⟨"VaultDevicesLaw", "change", "(LVaultDevices;II[J)I"⟩, [(0, 10, 13, 13), (0, 10, 17, 23)]) := ⟨tb_i136, ⟨false, by decide +kernel, tb_p136⟩, rfl⟩
theorem tb_m137 : tb_okM (tb_f137, method_9_code, 4, 1, 99, 8, ⟨"VaultDevicesLaw", "pull", "(LVaultDevices;I[J)I"⟩, [(0, 16, 19, 13), (0, 16, 22, 23)]) := ⟨tb_i137, ⟨false, by decide +kernel, tb_p137⟩, rfl⟩
theorem tb_m138 : tb_okM (tb_f138, method_10_code, 4, 1, 99, 8, ⟨"VaultDevicesLaw", "push", "(LVaultDevices;I[J)I"⟩, [(0, 9, 12, 13), (0, 9, 15, 23)]) := ⟨tb_i138, ⟨false, by decide +kernel, tb_p138⟩, rfl⟩
theorem tb_m139 : tb_okM (tb_f139, code, 7, 2, 99, 8, ⟨"VaultDevicesLaw", "law", "([I)Z"⟩, []) := ⟨tb_i139, ⟨false, by decide +kernel, tb_p139⟩, rfl⟩
theorem tb_m140 : tb_okM (tb_f140, prog_18_method_103_code, 4, 0, 99, 9, ⟨"java/util/Arrays", "fill", "([II)V"⟩, []) := ⟨tb_i140, ⟨false, by decide +kernel, tb_p140⟩, rfl⟩
theorem tb_mo0 : ∀ q ∈ tb_ms0, tb_okM q := List.forall_mem_cons.mpr ⟨tb_m0, List.forall_mem_cons.mpr ⟨tb_m1, List.forall_mem_cons.mpr ⟨tb_m2, List.forall_mem_cons.mpr ⟨tb_m3, List.forall_mem_cons.mpr ⟨tb_m4, List.forall_mem_cons.mpr ⟨tb_m5, List.forall_mem_cons.mpr ⟨tb_m6, List.forall_mem_cons.mpr ⟨tb_m7, List.forall_mem_cons.mpr ⟨tb_m8, List.forall_mem_cons.mpr ⟨tb_m9, List.forall_mem_cons.mpr ⟨tb_m10, List.forall_mem_cons.mpr ⟨tb_m11, List.forall_mem_cons.mpr ⟨tb_m12, List.forall_mem_cons.mpr ⟨tb_m13, List.forall_mem_cons.mpr ⟨tb_m14, List.forall_mem_cons.mpr ⟨tb_m15, List.forall_mem_cons.mpr ⟨tb_m16, List.forall_mem_cons.mpr ⟨tb_m17, List.forall_mem_cons.mpr ⟨tb_m18, List.forall_mem_cons.mpr ⟨tb_m19, List.forall_mem_cons.mpr ⟨tb_m20, List.forall_mem_cons.mpr ⟨tb_m21, List.forall_mem_cons.mpr ⟨tb_m22, List.forall_mem_cons.mpr ⟨tb_m23, fun _ h => absurd h List.not_mem_nil⟩⟩⟩⟩⟩⟩⟩⟩⟩⟩⟩⟩⟩⟩⟩⟩⟩⟩⟩⟩⟩⟩⟩⟩
theorem tb_mo1 : ∀ q ∈ tb_ms1, tb_okM q := List.forall_mem_cons.mpr ⟨tb_m24, List.forall_mem_cons.mpr ⟨tb_m25, List.forall_mem_cons.mpr ⟨tb_m26, List.forall_mem_cons.mpr ⟨tb_m27, List.forall_mem_cons.mpr ⟨tb_m28, List.forall_mem_cons.mpr ⟨tb_m29, List.forall_mem_cons.mpr ⟨tb_m30, List.forall_mem_cons.mpr ⟨tb_m31, List.forall_mem_cons.mpr ⟨tb_m32, List.forall_mem_cons.mpr ⟨tb_m33, List.forall_mem_cons.mpr ⟨tb_m34, List.forall_mem_cons.mpr ⟨tb_m35, List.forall_mem_cons.mpr ⟨tb_m36, List.forall_mem_cons.mpr ⟨tb_m37, List.forall_mem_cons.mpr ⟨tb_m38, List.forall_mem_cons.mpr ⟨tb_m39, List.forall_mem_cons.mpr ⟨tb_m40, List.forall_mem_cons.mpr ⟨tb_m41, List.forall_mem_cons.mpr ⟨tb_m42, List.forall_mem_cons.mpr ⟨tb_m43, List.forall_mem_cons.mpr ⟨tb_m44, List.forall_mem_cons.mpr ⟨tb_m45, List.forall_mem_cons.mpr ⟨tb_m46, List.forall_mem_cons.mpr ⟨tb_m47, fun _ h => absurd h List.not_mem_nil⟩⟩⟩⟩⟩⟩⟩⟩⟩⟩⟩⟩⟩⟩⟩⟩⟩⟩⟩⟩⟩⟩⟩⟩
theorem tb_mo2 : ∀ q ∈ tb_ms2, tb_okM q := List.forall_mem_cons.mpr ⟨tb_m48, List.forall_mem_cons.mpr ⟨tb_m49, List.forall_mem_cons.mpr ⟨tb_m50, List.forall_mem_cons.mpr ⟨tb_m51, List.forall_mem_cons.mpr ⟨tb_m52, List.forall_mem_cons.mpr ⟨tb_m53, List.forall_mem_cons.mpr ⟨tb_m54, List.forall_mem_cons.mpr ⟨tb_m55, List.forall_mem_cons.mpr ⟨tb_m56, List.forall_mem_cons.mpr ⟨tb_m57, List.forall_mem_cons.mpr ⟨tb_m58, List.forall_mem_cons.mpr ⟨tb_m59, List.forall_mem_cons.mpr ⟨tb_m60, List.forall_mem_cons.mpr ⟨tb_m61, List.forall_mem_cons.mpr ⟨tb_m62, List.forall_mem_cons.mpr ⟨tb_m63, List.forall_mem_cons.mpr ⟨tb_m64, List.forall_mem_cons.mpr ⟨tb_m65, List.forall_mem_cons.mpr ⟨tb_m66, List.forall_mem_cons.mpr ⟨tb_m67, List.forall_mem_cons.mpr ⟨tb_m68, List.forall_mem_cons.mpr ⟨tb_m69, List.forall_mem_cons.mpr ⟨tb_m70, List.forall_mem_cons.mpr ⟨tb_m71, fun _ h => absurd h List.not_mem_nil⟩⟩⟩⟩⟩⟩⟩⟩⟩⟩⟩⟩⟩⟩⟩⟩⟩⟩⟩⟩⟩⟩⟩⟩
theorem tb_mo3 : ∀ q ∈ tb_ms3, tb_okM q := List.forall_mem_cons.mpr ⟨tb_m72, List.forall_mem_cons.mpr ⟨tb_m73, List.forall_mem_cons.mpr ⟨tb_m74, List.forall_mem_cons.mpr ⟨tb_m75, List.forall_mem_cons.mpr ⟨tb_m76, List.forall_mem_cons.mpr ⟨tb_m77, List.forall_mem_cons.mpr ⟨tb_m78, List.forall_mem_cons.mpr ⟨tb_m79, List.forall_mem_cons.mpr ⟨tb_m80, List.forall_mem_cons.mpr ⟨tb_m81, List.forall_mem_cons.mpr ⟨tb_m82, List.forall_mem_cons.mpr ⟨tb_m83, List.forall_mem_cons.mpr ⟨tb_m84, List.forall_mem_cons.mpr ⟨tb_m85, List.forall_mem_cons.mpr ⟨tb_m86, List.forall_mem_cons.mpr ⟨tb_m87, List.forall_mem_cons.mpr ⟨tb_m88, List.forall_mem_cons.mpr ⟨tb_m89, List.forall_mem_cons.mpr ⟨tb_m90, List.forall_mem_cons.mpr ⟨tb_m91, List.forall_mem_cons.mpr ⟨tb_m92, List.forall_mem_cons.mpr ⟨tb_m93, List.forall_mem_cons.mpr ⟨tb_m94, List.forall_mem_cons.mpr ⟨tb_m95, fun _ h => absurd h List.not_mem_nil⟩⟩⟩⟩⟩⟩⟩⟩⟩⟩⟩⟩⟩⟩⟩⟩⟩⟩⟩⟩⟩⟩⟩⟩
theorem tb_mo4 : ∀ q ∈ tb_ms4, tb_okM q := List.forall_mem_cons.mpr ⟨tb_m96, List.forall_mem_cons.mpr ⟨tb_m97, List.forall_mem_cons.mpr ⟨tb_m98, List.forall_mem_cons.mpr ⟨tb_m99, List.forall_mem_cons.mpr ⟨tb_m100, List.forall_mem_cons.mpr ⟨tb_m101, List.forall_mem_cons.mpr ⟨tb_m102, List.forall_mem_cons.mpr ⟨tb_m103, List.forall_mem_cons.mpr ⟨tb_m104, List.forall_mem_cons.mpr ⟨tb_m105, List.forall_mem_cons.mpr ⟨tb_m106, List.forall_mem_cons.mpr ⟨tb_m107, List.forall_mem_cons.mpr ⟨tb_m108, List.forall_mem_cons.mpr ⟨tb_m109, List.forall_mem_cons.mpr ⟨tb_m110, List.forall_mem_cons.mpr ⟨tb_m111, List.forall_mem_cons.mpr ⟨tb_m112, List.forall_mem_cons.mpr ⟨tb_m113, List.forall_mem_cons.mpr ⟨tb_m114, List.forall_mem_cons.mpr ⟨tb_m115, List.forall_mem_cons.mpr ⟨tb_m116, List.forall_mem_cons.mpr ⟨tb_m117, List.forall_mem_cons.mpr ⟨tb_m118, List.forall_mem_cons.mpr ⟨tb_m119, fun _ h => absurd h List.not_mem_nil⟩⟩⟩⟩⟩⟩⟩⟩⟩⟩⟩⟩⟩⟩⟩⟩⟩⟩⟩⟩⟩⟩⟩⟩
theorem tb_mo5 : ∀ q ∈ tb_ms5, tb_okM q := List.forall_mem_cons.mpr ⟨tb_m120, List.forall_mem_cons.mpr ⟨tb_m121, List.forall_mem_cons.mpr ⟨tb_m122, List.forall_mem_cons.mpr ⟨tb_m123, List.forall_mem_cons.mpr ⟨tb_m124, List.forall_mem_cons.mpr ⟨tb_m125, List.forall_mem_cons.mpr ⟨tb_m126, List.forall_mem_cons.mpr ⟨tb_m127, List.forall_mem_cons.mpr ⟨tb_m128, List.forall_mem_cons.mpr ⟨tb_m129, List.forall_mem_cons.mpr ⟨tb_m130, List.forall_mem_cons.mpr ⟨tb_m131, List.forall_mem_cons.mpr ⟨tb_m132, List.forall_mem_cons.mpr ⟨tb_m133, List.forall_mem_cons.mpr ⟨tb_m134, List.forall_mem_cons.mpr ⟨tb_m135, List.forall_mem_cons.mpr ⟨tb_m136, List.forall_mem_cons.mpr ⟨tb_m137, List.forall_mem_cons.mpr ⟨tb_m138, List.forall_mem_cons.mpr ⟨tb_m139, List.forall_mem_cons.mpr ⟨tb_m140, fun _ h => absurd h List.not_mem_nil⟩⟩⟩⟩⟩⟩⟩⟩⟩⟩⟩⟩⟩⟩⟩⟩⟩⟩⟩⟩⟩
theorem tb_msok : ∀ q ∈ tb_ms, tb_okM q := List.forall_mem_append.mpr ⟨tb_mo0, List.forall_mem_append.mpr ⟨tb_mo1, List.forall_mem_append.mpr ⟨tb_mo2, List.forall_mem_append.mpr ⟨tb_mo3, List.forall_mem_append.mpr ⟨tb_mo4, tb_mo5⟩⟩⟩⟩⟩
theorem tb_all (y : Nat) : tb_okM (tb_get y) := by
  unfold tb_get
  cases h : tb_ms[y]? with
  | none => exact ⟨fun pc i h => (by cases h), ⟨false, (by decide +kernel), fun pc i idx ci j k h => (by cases h)⟩, rfl⟩
  | some q => exact tb_msok q (List.mem_of_getElem? h)
theorem tb_Tab : sm_Tab tb_T tb_ok tb_cl tb_WA tb_NW tb_tyN tb_AO tb_bc tb_nm := by
  refine ⟨?_, ?_, ?_, ?_, ?_, ?_, ⟨_, _, _, rfl⟩, by decide +kernel, by decide +kernel, by decide +kernel⟩
  · intro y idx ci j k h
    have h1 := tb_F _ (tb_fd_mem h)
    have h2 := tb_chF_of tb_C h1
    have h3 : (tb_nm y).cls = tb_cn (tb_on y) := (tb_all y).2.2
    rw [h3]
    exact h2
  · intro y pc i idx ci j k h1 h2 h3
    obtain ⟨ini, h4, h5⟩ := (tb_all y).2.1
    have h6 : ((tb_nm y).name == "<init>") = ini := h4
    rw [h6]
    exact h5 pc i idx ci j k h1 h2 h3
  · intro y idx ci fs h
    have h1 := tb_N _ (tb_fd_mem h)
    have h2 := tb_chN_of tb_C h1
    have h3 : (tb_nm y).cls = tb_cn (tb_on y) := (tb_all y).2.2
    rw [h3]
    exact h2
  · intro y idx u h
    have h1 := tb_fd_mem h
    have h3 : (tb_nm y).cls = tb_cn (tb_on y) := (tb_all y).2.2
    rw [h3]
    have h4 := List.mem_singleton.mp h1
    obtain ⟨g1, g2⟩ := Prod.mk.inj h4
    obtain ⟨g2, g3⟩ := Prod.mk.inj g2
    rw [g1, g2, g3]
    exact ⟨"VaultDevices$Device", rfl, by decide +kernel, by decide +kernel⟩
  · intro y pc i h
    exact (tb_all y).1 pc i h
  · intro t ci h
    unfold tb_ok at h
    rw [Bool.and_eq_true] at h
    have h1 := Nat.eq_of_beq_eq_true h.1
    have h2 := Nat.eq_of_beq_eq_true h.2
    subst h1 h2
    exact ⟨_, rfl, rfl⟩
