def LW : List Ent := [(0, 8, 0, 0), (1, 400, 1, 0), (0, 4, 0, 0), (0, 6, 0, 0), (1, 401, 0, 0), (1, 401, 0, 0), (1, 401, 0, 0), (0, 3, 0, 0), (1, 8, 0, 0), (1, 96, 0, 0), (1, 20, 0, 0), (1, 48, 0, 0), (1, 9, 0, 0), (0, 3, 0, 0), (1, 8, 0, 0), (1, 96, 0, 0), (1, 20, 0, 0), (1, 48, 0, 0), (1, 9, 0, 0), (0, 2, 0, 0), (1, 8, 0, 0), (1, 8, 0, 0), (1, 8, 0, 0), (1, 8, 0, 0), (1, 8, 0, 0), (1, 8, 0, 0), (1, 8, 0, 0), (1, 4, 0, 0), (1, 8, 0, 0), (1, 8, 0, 0), (1, 8, 0, 0), (1, 8, 0, 0), (0, 7, 0, 0), (1, 768, 0, 0), (2, 3, 0, 0), (2, 3, 0, 0), (0, 1, 0, 0), (1, 256, 0, 0), (1, 256, 0, 0), (0, 0, 0, 0), (1, 480, 0, 0), (1, 10, 0, 0), (1, 10, 0, 0), (0, 5, 0, 0), (1, 8, 0, 0), (1, 3, 0, 0), (1, 4, 0, 0), (3, 2, 49, 4), (1, 2, 2, 0), (0, 5, 0, 0), (1, 8, 0, 0), (1, 3, 0, 0), (1, 4, 0, 0), (0, 5, 0, 0), (1, 8, 0, 0), (1, 3, 0, 0), (1, 4, 0, 0), (0, 9, 0, 0), (1, 400, 1, 0), (1, 2, 0, 0), (1, 16, 0, 0), (1, 16, 0, 0), (1, 192, 0, 0), (1, 2, 0, 0), (1, 40, 0, 0), (1, 2, 0, 0), (1, 96, 0, 0), (1, 2, 0, 0), (1, 2, 0, 0), (1, 18, 0, 0), (1, 8, 0, 0), (1, 64, 0, 0), (1, 64, 0, 0), (1, 64, 0, 0), (1, 64, 0, 0), (1, 10, 0, 0), (1, 10, 0, 0), (1, 24, 0, 0), (1, 256, 0, 0), (2, 3, 0, 0), (2, 3, 0, 0), (1, 480, 0, 0), (1, 10, 0, 0), (1, 10, 0, 0), (1, 9, 0, 0), (1, 12, 0, 0), (1, 2, 2, 0)]
theorem lw_0 : LW[0]? = some (0, 8, 0, 0) := rfl
theorem lw_1 : LW[1]? = some (1, 400, 1, 0) := rfl
theorem la_1 : alen LW 1 1 = 400 := rfl
theorem lw_2 : LW[2]? = some (0, 4, 0, 0) := rfl
theorem lw_3 : LW[3]? = some (0, 6, 0, 0) := rfl
theorem lw_4 : LW[4]? = some (1, 401, 0, 0) := rfl
theorem la_4 : alen LW 0 4 = 401 := rfl
theorem lw_5 : LW[5]? = some (1, 401, 0, 0) := rfl
theorem la_5 : alen LW 0 5 = 401 := rfl
theorem lw_6 : LW[6]? = some (1, 401, 0, 0) := rfl
theorem la_6 : alen LW 0 6 = 401 := rfl
theorem lw_7 : LW[7]? = some (0, 3, 0, 0) := rfl
theorem lw_8 : LW[8]? = some (1, 8, 0, 0) := rfl
theorem la_8 : alen LW 0 8 = 8 := rfl
theorem lw_9 : LW[9]? = some (1, 96, 0, 0) := rfl
theorem la_9 : alen LW 0 9 = 96 := rfl
theorem lw_10 : LW[10]? = some (1, 20, 0, 0) := rfl
theorem la_10 : alen LW 0 10 = 20 := rfl
theorem lw_11 : LW[11]? = some (1, 48, 0, 0) := rfl
theorem la_11 : alen LW 0 11 = 48 := rfl
theorem lw_12 : LW[12]? = some (1, 9, 0, 0) := rfl
theorem la_12 : alen LW 0 12 = 9 := rfl
theorem lw_13 : LW[13]? = some (0, 3, 0, 0) := rfl
theorem lw_14 : LW[14]? = some (1, 8, 0, 0) := rfl
theorem la_14 : alen LW 0 14 = 8 := rfl
theorem lw_15 : LW[15]? = some (1, 96, 0, 0) := rfl
theorem la_15 : alen LW 0 15 = 96 := rfl
theorem lw_16 : LW[16]? = some (1, 20, 0, 0) := rfl
theorem la_16 : alen LW 0 16 = 20 := rfl
theorem lw_17 : LW[17]? = some (1, 48, 0, 0) := rfl
theorem la_17 : alen LW 0 17 = 48 := rfl
theorem lw_18 : LW[18]? = some (1, 9, 0, 0) := rfl
theorem la_18 : alen LW 0 18 = 9 := rfl
theorem lw_19 : LW[19]? = some (0, 2, 0, 0) := rfl
theorem lw_20 : LW[20]? = some (1, 8, 0, 0) := rfl
theorem la_20 : alen LW 0 20 = 8 := rfl
theorem lw_21 : LW[21]? = some (1, 8, 0, 0) := rfl
theorem la_21 : alen LW 0 21 = 8 := rfl
theorem lw_22 : LW[22]? = some (1, 8, 0, 0) := rfl
theorem la_22 : alen LW 0 22 = 8 := rfl
theorem lw_23 : LW[23]? = some (1, 8, 0, 0) := rfl
theorem la_23 : alen LW 0 23 = 8 := rfl
theorem lw_24 : LW[24]? = some (1, 8, 0, 0) := rfl
theorem la_24 : alen LW 0 24 = 8 := rfl
theorem lw_25 : LW[25]? = some (1, 8, 0, 0) := rfl
theorem la_25 : alen LW 0 25 = 8 := rfl
theorem lw_26 : LW[26]? = some (1, 8, 0, 0) := rfl
theorem la_26 : alen LW 0 26 = 8 := rfl
theorem lw_27 : LW[27]? = some (1, 4, 0, 0) := rfl
theorem la_27 : alen LW 0 27 = 4 := rfl
theorem lw_28 : LW[28]? = some (1, 8, 0, 0) := rfl
theorem la_28 : alen LW 0 28 = 8 := rfl
theorem lw_29 : LW[29]? = some (1, 8, 0, 0) := rfl
theorem la_29 : alen LW 0 29 = 8 := rfl
theorem lw_30 : LW[30]? = some (1, 8, 0, 0) := rfl
theorem la_30 : alen LW 0 30 = 8 := rfl
theorem lw_31 : LW[31]? = some (1, 8, 0, 0) := rfl
theorem la_31 : alen LW 0 31 = 8 := rfl
theorem lw_32 : LW[32]? = some (0, 7, 0, 0) := rfl
theorem lw_33 : LW[33]? = some (1, 768, 0, 0) := rfl
theorem la_33 : alen LW 0 33 = 768 := rfl
theorem lw_34 : LW[34]? = some (2, 3, 0, 0) := rfl
theorem la_34 : llen LW 34 = 3 := rfl
theorem lw_35 : LW[35]? = some (2, 3, 0, 0) := rfl
theorem la_35 : llen LW 35 = 3 := rfl
theorem lw_36 : LW[36]? = some (0, 1, 0, 0) := rfl
theorem lw_37 : LW[37]? = some (1, 256, 0, 0) := rfl
theorem la_37 : alen LW 0 37 = 256 := rfl
theorem lw_38 : LW[38]? = some (1, 256, 0, 0) := rfl
theorem la_38 : alen LW 0 38 = 256 := rfl
theorem lw_39 : LW[39]? = some (0, 0, 0, 0) := rfl
theorem lw_40 : LW[40]? = some (1, 480, 0, 0) := rfl
theorem la_40 : alen LW 0 40 = 480 := rfl
theorem lw_41 : LW[41]? = some (1, 10, 0, 0) := rfl
theorem la_41 : alen LW 0 41 = 10 := rfl
theorem lw_42 : LW[42]? = some (1, 10, 0, 0) := rfl
theorem la_42 : alen LW 0 42 = 10 := rfl
theorem lw_43 : LW[43]? = some (0, 5, 0, 0) := rfl
theorem lw_44 : LW[44]? = some (1, 8, 0, 0) := rfl
theorem la_44 : alen LW 0 44 = 8 := rfl
theorem lw_45 : LW[45]? = some (1, 3, 0, 0) := rfl
theorem la_45 : alen LW 0 45 = 3 := rfl
theorem lw_46 : LW[46]? = some (1, 4, 0, 0) := rfl
theorem la_46 : alen LW 0 46 = 4 := rfl
theorem lw_47 : LW[47]? = some (3, 2, 49, 4) := rfl
theorem lw_48 : LW[48]? = some (1, 2, 2, 0) := rfl
theorem la_48 : alen LW 2 48 = 2 := rfl
theorem lw_49 : LW[49]? = some (0, 5, 0, 0) := rfl
theorem lw_50 : LW[50]? = some (1, 8, 0, 0) := rfl
theorem la_50 : alen LW 0 50 = 8 := rfl
theorem lw_51 : LW[51]? = some (1, 3, 0, 0) := rfl
theorem la_51 : alen LW 0 51 = 3 := rfl
theorem lw_52 : LW[52]? = some (1, 4, 0, 0) := rfl
theorem la_52 : alen LW 0 52 = 4 := rfl
theorem lw_53 : LW[53]? = some (0, 5, 0, 0) := rfl
theorem lw_54 : LW[54]? = some (1, 8, 0, 0) := rfl
theorem la_54 : alen LW 0 54 = 8 := rfl
theorem lw_55 : LW[55]? = some (1, 3, 0, 0) := rfl
theorem la_55 : alen LW 0 55 = 3 := rfl
theorem lw_56 : LW[56]? = some (1, 4, 0, 0) := rfl
theorem la_56 : alen LW 0 56 = 4 := rfl
theorem lw_57 : LW[57]? = some (0, 9, 0, 0) := rfl
theorem lw_58 : LW[58]? = some (1, 400, 1, 0) := rfl
theorem la_58 : alen LW 1 58 = 400 := rfl
theorem lw_59 : LW[59]? = some (1, 2, 0, 0) := rfl
theorem la_59 : alen LW 0 59 = 2 := rfl
theorem lw_60 : LW[60]? = some (1, 16, 0, 0) := rfl
theorem la_60 : alen LW 0 60 = 16 := rfl
theorem lw_61 : LW[61]? = some (1, 16, 0, 0) := rfl
theorem la_61 : alen LW 0 61 = 16 := rfl
theorem lw_62 : LW[62]? = some (1, 192, 0, 0) := rfl
theorem la_62 : alen LW 0 62 = 192 := rfl
theorem lw_63 : LW[63]? = some (1, 2, 0, 0) := rfl
theorem la_63 : alen LW 0 63 = 2 := rfl
theorem lw_64 : LW[64]? = some (1, 40, 0, 0) := rfl
theorem la_64 : alen LW 0 64 = 40 := rfl
theorem lw_65 : LW[65]? = some (1, 2, 0, 0) := rfl
theorem la_65 : alen LW 0 65 = 2 := rfl
theorem lw_66 : LW[66]? = some (1, 96, 0, 0) := rfl
theorem la_66 : alen LW 0 66 = 96 := rfl
theorem lw_67 : LW[67]? = some (1, 2, 0, 0) := rfl
theorem la_67 : alen LW 0 67 = 2 := rfl
theorem lw_68 : LW[68]? = some (1, 2, 0, 0) := rfl
theorem la_68 : alen LW 0 68 = 2 := rfl
theorem lw_69 : LW[69]? = some (1, 18, 0, 0) := rfl
theorem la_69 : alen LW 0 69 = 18 := rfl
theorem lw_70 : LW[70]? = some (1, 8, 0, 0) := rfl
theorem la_70 : alen LW 0 70 = 8 := rfl
theorem lw_71 : LW[71]? = some (1, 64, 0, 0) := rfl
theorem la_71 : alen LW 0 71 = 64 := rfl
theorem lw_72 : LW[72]? = some (1, 64, 0, 0) := rfl
theorem la_72 : alen LW 0 72 = 64 := rfl
theorem lw_73 : LW[73]? = some (1, 64, 0, 0) := rfl
theorem la_73 : alen LW 0 73 = 64 := rfl
theorem lw_74 : LW[74]? = some (1, 64, 0, 0) := rfl
theorem la_74 : alen LW 0 74 = 64 := rfl
theorem lw_75 : LW[75]? = some (1, 10, 0, 0) := rfl
theorem la_75 : alen LW 0 75 = 10 := rfl
theorem lw_76 : LW[76]? = some (1, 10, 0, 0) := rfl
theorem la_76 : alen LW 0 76 = 10 := rfl
theorem lw_77 : LW[77]? = some (1, 24, 0, 0) := rfl
theorem la_77 : alen LW 0 77 = 24 := rfl
theorem lw_78 : LW[78]? = some (1, 256, 0, 0) := rfl
theorem la_78 : alen LW 0 78 = 256 := rfl
theorem lw_79 : LW[79]? = some (2, 3, 0, 0) := rfl
theorem la_79 : llen LW 79 = 3 := rfl
theorem lw_80 : LW[80]? = some (2, 3, 0, 0) := rfl
theorem la_80 : llen LW 80 = 3 := rfl
theorem lw_81 : LW[81]? = some (1, 480, 0, 0) := rfl
theorem la_81 : alen LW 0 81 = 480 := rfl
theorem lw_82 : LW[82]? = some (1, 10, 0, 0) := rfl
theorem la_82 : alen LW 0 82 = 10 := rfl
theorem lw_83 : LW[83]? = some (1, 10, 0, 0) := rfl
theorem la_83 : alen LW 0 83 = 10 := rfl
theorem lw_84 : LW[84]? = some (1, 9, 0, 0) := rfl
theorem la_84 : alen LW 0 84 = 9 := rfl
theorem lw_85 : LW[85]? = some (1, 12, 0, 0) := rfl
theorem la_85 : alen LW 0 85 = 12 := rfl
theorem lw_86 : LW[86]? = some (1, 2, 2, 0) := rfl
theorem la_86 : alen LW 2 86 = 2 := rfl
theorem Rn.go {lay : List Ent} {cc : ByteArray} {nL : Nat} {own : String} {ret : Option FieldType} {d : Nat} {P : Prg} (h : PrgOk lay cc nL own ret d P) {pc : Nat} {Q : Out} {lo : Lcs} {st : List Value} {S : Sto} {o : Opn} (ho : P.lookup pc = some o) (h1 : o (Rn P Q) Q lo st S) : Rn P Q pc lo st S := by
  refine Rn.step h ?_
  unfold at_
  rw [ho]
  exact h1
