def SH0 : List Sh := [.inl (8, [some (some (some 1)), some (some (some 3)), some (some (some 5)), some (some (some 19)), some (some (some 24)), some (some (some 29)), some (some (some 111)), some (some (some 128)), some (some (some 142)), some (some (some 143)), some (some (some 144)), some (some (some 145)), some (some (some 146)), some (some (some 147)), some (some (some 148))]),
  .inl (6, [some (some (some 2)), none]),
  .inr (.inl (.char, 80)),
  .inl (2, [some (some (some 4)), none]),
  .inr (.inr (.inl 10)),
  .inl (0, [some (some (some 6)), none, some (some none), some (some none), some (some (some 15)), some (some (some 16)), none, some (some (some 17)), none, some (some (some 18))]),
  .inr (.inl (.int, 8)),
  .inl (3, [some (some (some 8)), some (some (some 9)), some (some (some 10)), none, none, none, none, none, none]),
  .inr (.inl (.int, 40)),
  .inr (.inl (.int, 40)),
  .inr (.inl (.char, 40)),
  .inl (3, [some (some (some 12)), some (some (some 13)), some (some (some 14)), none, none, none, none, none, none]),
  .inr (.inl (.int, 40)),
  .inr (.inl (.int, 40)),
  .inr (.inl (.char, 40)),
  .inr (.inl (.int, 8)),
  .inr (.inl (.int, 8)),
  .inr (.inl (.int, 20)),
  .inr (.inl (.int, 8)),
  .inl (5, [some (some (some 20)), some (some (some 21)), some (some (some 22)), some (some (some 23)), none, none, none, none, none]),
  .inr (.inl (.int, 8)),
  .inr (.inl (.int, 8)),
  .inr (.inl (.int, 8)),
  .inr (.inl (.int, 8)),
  .inl (5, [some (some (some 25)), some (some (some 26)), some (some (some 27)), some (some (some 28)), none, none, none, none, none]),
  .inr (.inl (.int, 8)),
  .inr (.inl (.int, 8)),
  .inr (.inl (.int, 8)),
  .inr (.inl (.int, 8)),
  .inl (1, [some (some (some 30)), none, none]),
  .inr (.inr (.inr (.object "BorrowedWeight$State", [some 31, some 36, some 41, some 46, some 51, some 56, some 61, some 66, some 71, some 76, some 81, some 86, some 91, some 96, some 101, some 106]))),
  .inl (5, [some (some (some 32)), some (some (some 33)), some (some (some 34)), some (some (some 35)), none, none, none, none, none]),
  .inr (.inl (.int, 8)),
  .inr (.inl (.int, 8)),
  .inr (.inl (.int, 8)),
  .inr (.inl (.int, 8)),
  .inl (5, [some (some (some 37)), some (some (some 38)), some (some (some 39)), some (some (some 40)), none, none, none, none, none]),
  .inr (.inl (.int, 8)),
  .inr (.inl (.int, 8)),
  .inr (.inl (.int, 8)),
  .inr (.inl (.int, 8)),
  .inl (5, [some (some (some 42)), some (some (some 43)), some (some (some 44)), some (some (some 45)), none, none, none, none, none]),
  .inr (.inl (.int, 8)),
  .inr (.inl (.int, 8)),
  .inr (.inl (.int, 8)),
  .inr (.inl (.int, 8)),
  .inl (5, [some (some (some 47)), some (some (some 48)), some (some (some 49)), some (some (some 50)), none, none, none, none, none]),
  .inr (.inl (.int, 8)),
  .inr (.inl (.int, 8)),
  .inr (.inl (.int, 8)),
  .inr (.inl (.int, 8)),
  .inl (5, [some (some (some 52)), some (some (some 53)), some (some (some 54)), some (some (some 55)), none, none, none, none, none]),
  .inr (.inl (.int, 8)),
  .inr (.inl (.int, 8)),
  .inr (.inl (.int, 8)),
  .inr (.inl (.int, 8)),
  .inl (5, [some (some (some 57)), some (some (some 58)), some (some (some 59)), some (some (some 60)), none, none, none, none, none]),
  .inr (.inl (.int, 8)),
  .inr (.inl (.int, 8)),
  .inr (.inl (.int, 8)),
  .inr (.inl (.int, 8)),
  .inl (5, [some (some (some 62)), some (some (some 63)), some (some (some 64)), some (some (some 65)), none, none, none, none, none]),
  .inr (.inl (.int, 8)),
  .inr (.inl (.int, 8)),
  .inr (.inl (.int, 8)),
  .inr (.inl (.int, 8)),
  .inl (5, [some (some (some 67)), some (some (some 68)), some (some (some 69)), some (some (some 70)), none, none, none, none, none]),
  .inr (.inl (.int, 8)),
  .inr (.inl (.int, 8)),
  .inr (.inl (.int, 8)),
  .inr (.inl (.int, 8)),
  .inl (5, [some (some (some 72)), some (some (some 73)), some (some (some 74)), some (some (some 75)), none, none, none, none, none]),
  .inr (.inl (.int, 8)),
  .inr (.inl (.int, 8)),
  .inr (.inl (.int, 8)),
  .inr (.inl (.int, 8)),
  .inl (5, [some (some (some 77)), some (some (some 78)), some (some (some 79)), some (some (some 80)), none, none, none, none, none]),
  .inr (.inl (.int, 8)),
  .inr (.inl (.int, 8)),
  .inr (.inl (.int, 8)),
  .inr (.inl (.int, 8)),
  .inl (5, [some (some (some 82)), some (some (some 83)), some (some (some 84)), some (some (some 85)), none, none, none, none, none]),
  .inr (.inl (.int, 8)),
  .inr (.inl (.int, 8)),
  .inr (.inl (.int, 8)),
  .inr (.inl (.int, 8)),
  .inl (5, [some (some (some 87)), some (some (some 88)), some (some (some 89)), some (some (some 90)), none, none, none, none, none]),
  .inr (.inl (.int, 8)),
  .inr (.inl (.int, 8)),
  .inr (.inl (.int, 8)),
  .inr (.inl (.int, 8)),
  .inl (5, [some (some (some 92)), some (some (some 93)), some (some (some 94)), some (some (some 95)), none, none, none, none, none]),
  .inr (.inl (.int, 8)),
  .inr (.inl (.int, 8)),
  .inr (.inl (.int, 8)),
  .inr (.inl (.int, 8)),
  .inl (5, [some (some (some 97)), some (some (some 98)), some (some (some 99)), some (some (some 100)), none, none, none, none, none]),
  .inr (.inl (.int, 8)),
  .inr (.inl (.int, 8)),
  .inr (.inl (.int, 8)),
  .inr (.inl (.int, 8)),
  .inl (5, [some (some (some 102)), some (some (some 103)), some (some (some 104)), some (some (some 105)), none, none, none, none, none]),
  .inr (.inl (.int, 8)),
  .inr (.inl (.int, 8)),
  .inr (.inl (.int, 8)),
  .inr (.inl (.int, 8)),
  .inl (5, [some (some (some 107)), some (some (some 108)), some (some (some 109)), some (some (some 110)), none, none, none, none, none]),
  .inr (.inl (.int, 8)),
  .inr (.inl (.int, 8)),
  .inr (.inl (.int, 8)),
  .inr (.inl (.int, 8)),
  .inl (4, [some (some (some 112)), none]),
  .inr (.inr (.inr (.object "BorrowedWeight$State", [some 113, some 118, some 123]))),
  .inl (5, [some (some (some 114)), some (some (some 115)), some (some (some 116)), some (some (some 117)), none, none, none, none, none]),
  .inr (.inl (.int, 8)),
  .inr (.inl (.int, 8)),
  .inr (.inl (.int, 8)),
  .inr (.inl (.int, 8)),
  .inl (5, [some (some (some 119)), some (some (some 120)), some (some (some 121)), some (some (some 122)), none, none, none, none, none]),
  .inr (.inl (.int, 8)),
  .inr (.inl (.int, 8)),
  .inr (.inl (.int, 8)),
  .inr (.inl (.int, 8)),
  .inl (5, [some (some (some 124)), some (some (some 125)), some (some (some 126)), some (some (some 127)), none, none, none, none, none]),
  .inr (.inl (.int, 8)),
  .inr (.inl (.int, 8)),
  .inr (.inl (.int, 8)),
  .inr (.inl (.int, 8)),
  .inl (7, [some (some (some 129)), some (some (some 130)), some (some (some 131)), none, some (some (some 132)), none]),
  .inr (.inl (.int, 10)),
  .inr (.inl (.int, 10)),
  .inr (.inl (.int, 10)),
  .inr (.inr (.inr (.array .int, [some 133, some 134, some 135, some 136, some 137, some 138, some 139, some 140, some 141]))),
  .inr (.inl (.int, 21)),
  .inr (.inl (.int, 21)),
  .inr (.inl (.int, 21)),
  .inr (.inl (.int, 21)),
  .inr (.inl (.int, 21)),
  .inr (.inl (.int, 21)),
  .inr (.inl (.int, 21)),
  .inr (.inl (.int, 21)),
  .inr (.inl (.int, 21)),
  .inr (.inl (.int, 8)),
  .inr (.inl (.int, 256)),
  .inr (.inl (.int, 256)),
  .inr (.inl (.int, 13)),
  .inr (.inl (.int, 12)),
  .inr (.inl (.int, 12)),
  .inr (.inl (.boolean, 441)),
  .inl (9, [none, none, some (some (some 150)), none, none, none, some (some (some 151)), some (some (some 152)), some (some (some 153)), some (some (some 154)), some (some (some 155)), none, none, none, none, some (some (some 156)), none, some (some (some 157)), some (some (some 158)), none, none, some (some (some 159)), some (some (some 160)), none, some (some (some 161)), none, none, some (some (some 162)), some (some (some 163)), some (some (some 164)), none, some (some (some 165)), some (some (some 166)), some (some (some 167)), some (some (some 168)), none, some (some (some 169)), some (some (some 170)), some (some (some 171)), some (some (some 172)), some (some (some 173)), some (some (some 174)), some (some (some 175)), some (some (some 176)), none, some (some (some 177)), some (some (some 178)), some (some (some 179))]),
  .inr (.inr (.inl 24)),
  .inr (.inl (.int, 8)),
  .inr (.inl (.int, 20)),
  .inr (.inl (.int, 37)),
  .inr (.inl (.int, 37)),
  .inr (.inl (.int, 80)),
  .inr (.inl (.int, 48)),
  .inr (.inl (.int, 80)),
  .inr (.inl (.int, 80)),
  .inr (.inl (.int, 80)),
  .inr (.inl (.int, 8)),
  .inr (.inl (.int, 592)),
  .inr (.inl (.int, 60)),
  .inr (.inl (.int, 60)),
  .inr (.inl (.int, 60)),
  .inr (.inl (.int, 8)),
  .inr (.inl (.int, 256)),
  .inr (.inl (.int, 8)),
  .inr (.inl (.int, 8)),
  .inr (.inl (.int, 10)),
  .inr (.inl (.int, 10)),
  .inr (.inl (.int, 10)),
  .inr (.inl (.int, 189)),
  .inr (.inl (.int, 12)),
  .inr (.inl (.int, 12)),
  .inr (.inl (.boolean, 441)),
  .inr (.inl (.int, 80)),
  .inr (.inl (.boolean, 3)),
  .inr (.inl (.int, 3)),
  .inr (.inl (.int, 111)),
  .inr (.inr (.inl 1))]
theorem sh_0 : SH0[0]? = some (.inl (8, [some (some (some 1)), some (some (some 3)), some (some (some 5)), some (some (some 19)), some (some (some 24)), some (some (some 29)), some (some (some 111)), some (some (some 128)), some (some (some 142)), some (some (some 143)), some (some (some 144)), some (some (some 145)), some (some (some 146)), some (some (some 147)), some (some (some 148))])) := rfl
theorem sh_1 : SH0[1]? = some (.inl (6, [some (some (some 2)), none])) := rfl
theorem sh_2 : SH0[2]? = some (.inr (.inl (.char, 80))) := rfl
theorem sh_3 : SH0[3]? = some (.inl (2, [some (some (some 4)), none])) := rfl
theorem sh_4 : SH0[4]? = some (.inr (.inr (.inl 10))) := rfl
theorem sh_5 : SH0[5]? = some (.inl (0, [some (some (some 6)), none, some (some none), some (some none), some (some (some 15)), some (some (some 16)), none, some (some (some 17)), none, some (some (some 18))])) := rfl
theorem sh_6 : SH0[6]? = some (.inr (.inl (.int, 8))) := rfl
theorem sh_7 : SH0[7]? = some (.inl (3, [some (some (some 8)), some (some (some 9)), some (some (some 10)), none, none, none, none, none, none])) := rfl
theorem sh_8 : SH0[8]? = some (.inr (.inl (.int, 40))) := rfl
theorem sh_9 : SH0[9]? = some (.inr (.inl (.int, 40))) := rfl
theorem sh_10 : SH0[10]? = some (.inr (.inl (.char, 40))) := rfl
theorem sh_11 : SH0[11]? = some (.inl (3, [some (some (some 12)), some (some (some 13)), some (some (some 14)), none, none, none, none, none, none])) := rfl
theorem sh_12 : SH0[12]? = some (.inr (.inl (.int, 40))) := rfl
theorem sh_13 : SH0[13]? = some (.inr (.inl (.int, 40))) := rfl
theorem sh_14 : SH0[14]? = some (.inr (.inl (.char, 40))) := rfl
theorem sh_15 : SH0[15]? = some (.inr (.inl (.int, 8))) := rfl
theorem sh_16 : SH0[16]? = some (.inr (.inl (.int, 8))) := rfl
theorem sh_17 : SH0[17]? = some (.inr (.inl (.int, 20))) := rfl
theorem sh_18 : SH0[18]? = some (.inr (.inl (.int, 8))) := rfl
theorem sh_19 : SH0[19]? = some (.inl (5, [some (some (some 20)), some (some (some 21)), some (some (some 22)), some (some (some 23)), none, none, none, none, none])) := rfl
theorem sh_20 : SH0[20]? = some (.inr (.inl (.int, 8))) := rfl
theorem sh_21 : SH0[21]? = some (.inr (.inl (.int, 8))) := rfl
theorem sh_22 : SH0[22]? = some (.inr (.inl (.int, 8))) := rfl
theorem sh_23 : SH0[23]? = some (.inr (.inl (.int, 8))) := rfl
theorem sh_24 : SH0[24]? = some (.inl (5, [some (some (some 25)), some (some (some 26)), some (some (some 27)), some (some (some 28)), none, none, none, none, none])) := rfl
theorem sh_25 : SH0[25]? = some (.inr (.inl (.int, 8))) := rfl
theorem sh_26 : SH0[26]? = some (.inr (.inl (.int, 8))) := rfl
theorem sh_27 : SH0[27]? = some (.inr (.inl (.int, 8))) := rfl
theorem sh_28 : SH0[28]? = some (.inr (.inl (.int, 8))) := rfl
theorem sh_29 : SH0[29]? = some (.inl (1, [some (some (some 30)), none, none])) := rfl
theorem sh_30 : SH0[30]? = some (.inr (.inr (.inr (.object "BorrowedWeight$State", [some 31, some 36, some 41, some 46, some 51, some 56, some 61, some 66, some 71, some 76, some 81, some 86, some 91, some 96, some 101, some 106])))) := rfl
theorem sh_31 : SH0[31]? = some (.inl (5, [some (some (some 32)), some (some (some 33)), some (some (some 34)), some (some (some 35)), none, none, none, none, none])) := rfl
theorem sh_32 : SH0[32]? = some (.inr (.inl (.int, 8))) := rfl
theorem sh_33 : SH0[33]? = some (.inr (.inl (.int, 8))) := rfl
theorem sh_34 : SH0[34]? = some (.inr (.inl (.int, 8))) := rfl
theorem sh_35 : SH0[35]? = some (.inr (.inl (.int, 8))) := rfl
theorem sh_36 : SH0[36]? = some (.inl (5, [some (some (some 37)), some (some (some 38)), some (some (some 39)), some (some (some 40)), none, none, none, none, none])) := rfl
theorem sh_37 : SH0[37]? = some (.inr (.inl (.int, 8))) := rfl
theorem sh_38 : SH0[38]? = some (.inr (.inl (.int, 8))) := rfl
theorem sh_39 : SH0[39]? = some (.inr (.inl (.int, 8))) := rfl
theorem sh_40 : SH0[40]? = some (.inr (.inl (.int, 8))) := rfl
theorem sh_41 : SH0[41]? = some (.inl (5, [some (some (some 42)), some (some (some 43)), some (some (some 44)), some (some (some 45)), none, none, none, none, none])) := rfl
theorem sh_42 : SH0[42]? = some (.inr (.inl (.int, 8))) := rfl
theorem sh_43 : SH0[43]? = some (.inr (.inl (.int, 8))) := rfl
theorem sh_44 : SH0[44]? = some (.inr (.inl (.int, 8))) := rfl
theorem sh_45 : SH0[45]? = some (.inr (.inl (.int, 8))) := rfl
theorem sh_46 : SH0[46]? = some (.inl (5, [some (some (some 47)), some (some (some 48)), some (some (some 49)), some (some (some 50)), none, none, none, none, none])) := rfl
theorem sh_47 : SH0[47]? = some (.inr (.inl (.int, 8))) := rfl
theorem sh_48 : SH0[48]? = some (.inr (.inl (.int, 8))) := rfl
theorem sh_49 : SH0[49]? = some (.inr (.inl (.int, 8))) := rfl
theorem sh_50 : SH0[50]? = some (.inr (.inl (.int, 8))) := rfl
theorem sh_51 : SH0[51]? = some (.inl (5, [some (some (some 52)), some (some (some 53)), some (some (some 54)), some (some (some 55)), none, none, none, none, none])) := rfl
theorem sh_52 : SH0[52]? = some (.inr (.inl (.int, 8))) := rfl
theorem sh_53 : SH0[53]? = some (.inr (.inl (.int, 8))) := rfl
theorem sh_54 : SH0[54]? = some (.inr (.inl (.int, 8))) := rfl
theorem sh_55 : SH0[55]? = some (.inr (.inl (.int, 8))) := rfl
theorem sh_56 : SH0[56]? = some (.inl (5, [some (some (some 57)), some (some (some 58)), some (some (some 59)), some (some (some 60)), none, none, none, none, none])) := rfl
theorem sh_57 : SH0[57]? = some (.inr (.inl (.int, 8))) := rfl
theorem sh_58 : SH0[58]? = some (.inr (.inl (.int, 8))) := rfl
theorem sh_59 : SH0[59]? = some (.inr (.inl (.int, 8))) := rfl
theorem sh_60 : SH0[60]? = some (.inr (.inl (.int, 8))) := rfl
theorem sh_61 : SH0[61]? = some (.inl (5, [some (some (some 62)), some (some (some 63)), some (some (some 64)), some (some (some 65)), none, none, none, none, none])) := rfl
theorem sh_62 : SH0[62]? = some (.inr (.inl (.int, 8))) := rfl
theorem sh_63 : SH0[63]? = some (.inr (.inl (.int, 8))) := rfl
theorem sh_64 : SH0[64]? = some (.inr (.inl (.int, 8))) := rfl
theorem sh_65 : SH0[65]? = some (.inr (.inl (.int, 8))) := rfl
theorem sh_66 : SH0[66]? = some (.inl (5, [some (some (some 67)), some (some (some 68)), some (some (some 69)), some (some (some 70)), none, none, none, none, none])) := rfl
theorem sh_67 : SH0[67]? = some (.inr (.inl (.int, 8))) := rfl
theorem sh_68 : SH0[68]? = some (.inr (.inl (.int, 8))) := rfl
theorem sh_69 : SH0[69]? = some (.inr (.inl (.int, 8))) := rfl
theorem sh_70 : SH0[70]? = some (.inr (.inl (.int, 8))) := rfl
theorem sh_71 : SH0[71]? = some (.inl (5, [some (some (some 72)), some (some (some 73)), some (some (some 74)), some (some (some 75)), none, none, none, none, none])) := rfl
theorem sh_72 : SH0[72]? = some (.inr (.inl (.int, 8))) := rfl
theorem sh_73 : SH0[73]? = some (.inr (.inl (.int, 8))) := rfl
theorem sh_74 : SH0[74]? = some (.inr (.inl (.int, 8))) := rfl
theorem sh_75 : SH0[75]? = some (.inr (.inl (.int, 8))) := rfl
theorem sh_76 : SH0[76]? = some (.inl (5, [some (some (some 77)), some (some (some 78)), some (some (some 79)), some (some (some 80)), none, none, none, none, none])) := rfl
theorem sh_77 : SH0[77]? = some (.inr (.inl (.int, 8))) := rfl
theorem sh_78 : SH0[78]? = some (.inr (.inl (.int, 8))) := rfl
theorem sh_79 : SH0[79]? = some (.inr (.inl (.int, 8))) := rfl
theorem sh_80 : SH0[80]? = some (.inr (.inl (.int, 8))) := rfl
theorem sh_81 : SH0[81]? = some (.inl (5, [some (some (some 82)), some (some (some 83)), some (some (some 84)), some (some (some 85)), none, none, none, none, none])) := rfl
theorem sh_82 : SH0[82]? = some (.inr (.inl (.int, 8))) := rfl
theorem sh_83 : SH0[83]? = some (.inr (.inl (.int, 8))) := rfl
theorem sh_84 : SH0[84]? = some (.inr (.inl (.int, 8))) := rfl
theorem sh_85 : SH0[85]? = some (.inr (.inl (.int, 8))) := rfl
theorem sh_86 : SH0[86]? = some (.inl (5, [some (some (some 87)), some (some (some 88)), some (some (some 89)), some (some (some 90)), none, none, none, none, none])) := rfl
theorem sh_87 : SH0[87]? = some (.inr (.inl (.int, 8))) := rfl
theorem sh_88 : SH0[88]? = some (.inr (.inl (.int, 8))) := rfl
theorem sh_89 : SH0[89]? = some (.inr (.inl (.int, 8))) := rfl
theorem sh_90 : SH0[90]? = some (.inr (.inl (.int, 8))) := rfl
theorem sh_91 : SH0[91]? = some (.inl (5, [some (some (some 92)), some (some (some 93)), some (some (some 94)), some (some (some 95)), none, none, none, none, none])) := rfl
theorem sh_92 : SH0[92]? = some (.inr (.inl (.int, 8))) := rfl
theorem sh_93 : SH0[93]? = some (.inr (.inl (.int, 8))) := rfl
theorem sh_94 : SH0[94]? = some (.inr (.inl (.int, 8))) := rfl
theorem sh_95 : SH0[95]? = some (.inr (.inl (.int, 8))) := rfl
theorem sh_96 : SH0[96]? = some (.inl (5, [some (some (some 97)), some (some (some 98)), some (some (some 99)), some (some (some 100)), none, none, none, none, none])) := rfl
theorem sh_97 : SH0[97]? = some (.inr (.inl (.int, 8))) := rfl
theorem sh_98 : SH0[98]? = some (.inr (.inl (.int, 8))) := rfl
theorem sh_99 : SH0[99]? = some (.inr (.inl (.int, 8))) := rfl
theorem sh_100 : SH0[100]? = some (.inr (.inl (.int, 8))) := rfl
theorem sh_101 : SH0[101]? = some (.inl (5, [some (some (some 102)), some (some (some 103)), some (some (some 104)), some (some (some 105)), none, none, none, none, none])) := rfl
theorem sh_102 : SH0[102]? = some (.inr (.inl (.int, 8))) := rfl
theorem sh_103 : SH0[103]? = some (.inr (.inl (.int, 8))) := rfl
theorem sh_104 : SH0[104]? = some (.inr (.inl (.int, 8))) := rfl
theorem sh_105 : SH0[105]? = some (.inr (.inl (.int, 8))) := rfl
theorem sh_106 : SH0[106]? = some (.inl (5, [some (some (some 107)), some (some (some 108)), some (some (some 109)), some (some (some 110)), none, none, none, none, none])) := rfl
theorem sh_107 : SH0[107]? = some (.inr (.inl (.int, 8))) := rfl
theorem sh_108 : SH0[108]? = some (.inr (.inl (.int, 8))) := rfl
theorem sh_109 : SH0[109]? = some (.inr (.inl (.int, 8))) := rfl
theorem sh_110 : SH0[110]? = some (.inr (.inl (.int, 8))) := rfl
theorem sh_111 : SH0[111]? = some (.inl (4, [some (some (some 112)), none])) := rfl
theorem sh_112 : SH0[112]? = some (.inr (.inr (.inr (.object "BorrowedWeight$State", [some 113, some 118, some 123])))) := rfl
theorem sh_113 : SH0[113]? = some (.inl (5, [some (some (some 114)), some (some (some 115)), some (some (some 116)), some (some (some 117)), none, none, none, none, none])) := rfl
theorem sh_114 : SH0[114]? = some (.inr (.inl (.int, 8))) := rfl
theorem sh_115 : SH0[115]? = some (.inr (.inl (.int, 8))) := rfl
theorem sh_116 : SH0[116]? = some (.inr (.inl (.int, 8))) := rfl
theorem sh_117 : SH0[117]? = some (.inr (.inl (.int, 8))) := rfl
theorem sh_118 : SH0[118]? = some (.inl (5, [some (some (some 119)), some (some (some 120)), some (some (some 121)), some (some (some 122)), none, none, none, none, none])) := rfl
theorem sh_119 : SH0[119]? = some (.inr (.inl (.int, 8))) := rfl
theorem sh_120 : SH0[120]? = some (.inr (.inl (.int, 8))) := rfl
theorem sh_121 : SH0[121]? = some (.inr (.inl (.int, 8))) := rfl
theorem sh_122 : SH0[122]? = some (.inr (.inl (.int, 8))) := rfl
theorem sh_123 : SH0[123]? = some (.inl (5, [some (some (some 124)), some (some (some 125)), some (some (some 126)), some (some (some 127)), none, none, none, none, none])) := rfl
theorem sh_124 : SH0[124]? = some (.inr (.inl (.int, 8))) := rfl
theorem sh_125 : SH0[125]? = some (.inr (.inl (.int, 8))) := rfl
theorem sh_126 : SH0[126]? = some (.inr (.inl (.int, 8))) := rfl
theorem sh_127 : SH0[127]? = some (.inr (.inl (.int, 8))) := rfl
theorem sh_128 : SH0[128]? = some (.inl (7, [some (some (some 129)), some (some (some 130)), some (some (some 131)), none, some (some (some 132)), none])) := rfl
theorem sh_129 : SH0[129]? = some (.inr (.inl (.int, 10))) := rfl
theorem sh_130 : SH0[130]? = some (.inr (.inl (.int, 10))) := rfl
theorem sh_131 : SH0[131]? = some (.inr (.inl (.int, 10))) := rfl
theorem sh_132 : SH0[132]? = some (.inr (.inr (.inr (.array .int, [some 133, some 134, some 135, some 136, some 137, some 138, some 139, some 140, some 141])))) := rfl
theorem sh_133 : SH0[133]? = some (.inr (.inl (.int, 21))) := rfl
theorem sh_134 : SH0[134]? = some (.inr (.inl (.int, 21))) := rfl
theorem sh_135 : SH0[135]? = some (.inr (.inl (.int, 21))) := rfl
theorem sh_136 : SH0[136]? = some (.inr (.inl (.int, 21))) := rfl
theorem sh_137 : SH0[137]? = some (.inr (.inl (.int, 21))) := rfl
theorem sh_138 : SH0[138]? = some (.inr (.inl (.int, 21))) := rfl
theorem sh_139 : SH0[139]? = some (.inr (.inl (.int, 21))) := rfl
theorem sh_140 : SH0[140]? = some (.inr (.inl (.int, 21))) := rfl
theorem sh_141 : SH0[141]? = some (.inr (.inl (.int, 21))) := rfl
theorem sh_142 : SH0[142]? = some (.inr (.inl (.int, 8))) := rfl
theorem sh_143 : SH0[143]? = some (.inr (.inl (.int, 256))) := rfl
theorem sh_144 : SH0[144]? = some (.inr (.inl (.int, 256))) := rfl
theorem sh_145 : SH0[145]? = some (.inr (.inl (.int, 13))) := rfl
theorem sh_146 : SH0[146]? = some (.inr (.inl (.int, 12))) := rfl
theorem sh_147 : SH0[147]? = some (.inr (.inl (.int, 12))) := rfl
theorem sh_148 : SH0[148]? = some (.inr (.inl (.boolean, 441))) := rfl
theorem sh_149 : SH0[149]? = some (.inl (9, [none, none, some (some (some 150)), none, none, none, some (some (some 151)), some (some (some 152)), some (some (some 153)), some (some (some 154)), some (some (some 155)), none, none, none, none, some (some (some 156)), none, some (some (some 157)), some (some (some 158)), none, none, some (some (some 159)), some (some (some 160)), none, some (some (some 161)), none, none, some (some (some 162)), some (some (some 163)), some (some (some 164)), none, some (some (some 165)), some (some (some 166)), some (some (some 167)), some (some (some 168)), none, some (some (some 169)), some (some (some 170)), some (some (some 171)), some (some (some 172)), some (some (some 173)), some (some (some 174)), some (some (some 175)), some (some (some 176)), none, some (some (some 177)), some (some (some 178)), some (some (some 179))])) := rfl
theorem sh_150 : SH0[150]? = some (.inr (.inr (.inl 24))) := rfl
theorem sh_151 : SH0[151]? = some (.inr (.inl (.int, 8))) := rfl
theorem sh_152 : SH0[152]? = some (.inr (.inl (.int, 20))) := rfl
theorem sh_153 : SH0[153]? = some (.inr (.inl (.int, 37))) := rfl
theorem sh_154 : SH0[154]? = some (.inr (.inl (.int, 37))) := rfl
theorem sh_155 : SH0[155]? = some (.inr (.inl (.int, 80))) := rfl
theorem sh_156 : SH0[156]? = some (.inr (.inl (.int, 48))) := rfl
theorem sh_157 : SH0[157]? = some (.inr (.inl (.int, 80))) := rfl
theorem sh_158 : SH0[158]? = some (.inr (.inl (.int, 80))) := rfl
theorem sh_159 : SH0[159]? = some (.inr (.inl (.int, 80))) := rfl
theorem sh_160 : SH0[160]? = some (.inr (.inl (.int, 8))) := rfl
theorem sh_161 : SH0[161]? = some (.inr (.inl (.int, 592))) := rfl
theorem sh_162 : SH0[162]? = some (.inr (.inl (.int, 60))) := rfl
theorem sh_163 : SH0[163]? = some (.inr (.inl (.int, 60))) := rfl
theorem sh_164 : SH0[164]? = some (.inr (.inl (.int, 60))) := rfl
theorem sh_165 : SH0[165]? = some (.inr (.inl (.int, 8))) := rfl
theorem sh_166 : SH0[166]? = some (.inr (.inl (.int, 256))) := rfl
theorem sh_167 : SH0[167]? = some (.inr (.inl (.int, 8))) := rfl
theorem sh_168 : SH0[168]? = some (.inr (.inl (.int, 8))) := rfl
theorem sh_169 : SH0[169]? = some (.inr (.inl (.int, 10))) := rfl
theorem sh_170 : SH0[170]? = some (.inr (.inl (.int, 10))) := rfl
theorem sh_171 : SH0[171]? = some (.inr (.inl (.int, 10))) := rfl
theorem sh_172 : SH0[172]? = some (.inr (.inl (.int, 189))) := rfl
theorem sh_173 : SH0[173]? = some (.inr (.inl (.int, 12))) := rfl
theorem sh_174 : SH0[174]? = some (.inr (.inl (.int, 12))) := rfl
theorem sh_175 : SH0[175]? = some (.inr (.inl (.boolean, 441))) := rfl
theorem sh_176 : SH0[176]? = some (.inr (.inl (.int, 80))) := rfl
theorem sh_177 : SH0[177]? = some (.inr (.inl (.boolean, 3))) := rfl
theorem sh_178 : SH0[178]? = some (.inr (.inl (.int, 3))) := rfl
theorem sh_179 : SH0[179]? = some (.inr (.inl (.int, 111))) := rfl
theorem sh_180 : SH0[180]? = some (.inr (.inr (.inl 1))) := rfl
def StAt (S : List Sh) (k : Nat) : Prop := S[k]? = some (.inl (5, [some (some (some (k + 1))), some (some (some (k + 2))), some (some (some (k + 3))), some (some (some (k + 4))), none, none, none, none, none])) ∧ S[k + 1]? = some (.inr (.inl (.int, 8))) ∧ S[k + 2]? = some (.inr (.inl (.int, 8))) ∧ S[k + 3]? = some (.inr (.inl (.int, 8))) ∧ S[k + 4]? = some (.inr (.inl (.int, 8)))
theorem st0 {S : List Sh} {k : Nat} (h : StAt S k) : S[k]? = some (.inl (5, [some (some (some (k + 1))), some (some (some (k + 2))), some (some (some (k + 3))), some (some (some (k + 4))), none, none, none, none, none])) := h.1
theorem st1 {S : List Sh} {k : Nat} (h : StAt S k) : S[k + 1]? = some (.inr (.inl (.int, 8))) := h.2.1
theorem st2 {S : List Sh} {k : Nat} (h : StAt S k) : S[k + 2]? = some (.inr (.inl (.int, 8))) := h.2.2.1
theorem st3 {S : List Sh} {k : Nat} (h : StAt S k) : S[k + 3]? = some (.inr (.inl (.int, 8))) := h.2.2.2.1
theorem st4 {S : List Sh} {k : Nat} (h : StAt S k) : S[k + 4]? = some (.inr (.inl (.int, 8))) := h.2.2.2.2
def RuAt (S : List Sh) (k : Nat) : Prop := S[k]? = some (.inl (3, [some (some (some (k + 1))), some (some (some (k + 2))), some (some (some (k + 3))), none, none, none, none, none, none])) ∧ S[k + 1]? = some (.inr (.inl (.int, 40))) ∧ S[k + 2]? = some (.inr (.inl (.int, 40))) ∧ S[k + 3]? = some (.inr (.inl (.char, 40)))
theorem ru0 {S : List Sh} {k : Nat} (h : RuAt S k) : S[k]? = some (.inl (3, [some (some (some (k + 1))), some (some (some (k + 2))), some (some (some (k + 3))), none, none, none, none, none, none])) := h.1
theorem ru1 {S : List Sh} {k : Nat} (h : RuAt S k) : S[k + 1]? = some (.inr (.inl (.int, 40))) := h.2.1
theorem ru2 {S : List Sh} {k : Nat} (h : RuAt S k) : S[k + 2]? = some (.inr (.inl (.int, 40))) := h.2.2.1
theorem ru3 {S : List Sh} {k : Nat} (h : RuAt S k) : S[k + 3]? = some (.inr (.inl (.char, 40))) := h.2.2.2
def MaAt (S : List Sh) (k : Nat) : Prop := S[k]? = some (.inr (.inl (.int, 37)))
def MbAt (S : List Sh) (k : Nat) : Prop := S[k]? = some (.inr (.inl (.int, 80)))
def stL : List Nat := [19, 24, 31, 36, 41, 46, 51, 56, 61, 66, 71, 76, 81, 86, 91, 96, 101, 106, 113, 118, 123]
def isState (k : Nat) : Bool := stL.contains k
def isRule (k : Nat) : Bool := [7, 11].contains k
def isFl (k : Nat) : Bool := [133, 134, 135, 136, 137, 138, 139, 140, 141].contains k
theorem stof {k : Nat} (h : isState k = true) : StAt SH0 k := by
  have hk : k ∈ stL := by simpa [isState] using h
  simp only [stL, List.mem_cons, List.not_mem_nil, or_false] at hk
  rcases hk with rfl | rfl | rfl | rfl | rfl | rfl | rfl | rfl | rfl | rfl | rfl | rfl | rfl | rfl | rfl | rfl | rfl | rfl | rfl | rfl | rfl <;> exact ⟨rfl, rfl, rfl, rfl, rfl⟩
theorem ruof {k : Nat} (h : isRule k = true) : RuAt SH0 k := by
  have hk : k ∈ [7, 11] := by simpa [isRule] using h
  simp only [List.mem_cons, List.not_mem_nil, or_false] at hk
  rcases hk with rfl | rfl <;> exact ⟨rfl, rfl, rfl, rfl⟩
theorem fl_at {k : Nat} (h : isFl k = true) : SH0[k]? = some (.inr (.inl (.int, 21))) := by
  have hk : k ∈ [133, 134, 135, 136, 137, 138, 139, 140, 141] := by simpa [isFl] using h
  simp only [List.mem_cons, List.not_mem_nil, or_false] at hk
  rcases hk with rfl | rfl | rfl | rfl | rfl | rfl | rfl | rfl | rfl <;> rfl
theorem mac_153 : MaAt SH0 153 := rfl
theorem mac_154 : MaAt SH0 154 := rfl
theorem mbc_158 : MbAt SH0 158 := rfl
theorem mbc_176 : MbAt SH0 176 := rfl
theorem stc_19 : StAt SH0 19 := ⟨rfl, rfl, rfl, rfl, rfl⟩
theorem stc_24 : StAt SH0 24 := ⟨rfl, rfl, rfl, rfl, rfl⟩
def L30 : List (Option Nat) := [some 31, some 36, some 41, some 46, some 51, some 56, some 61, some 66, some 71, some 76, some 81, some 86, some 91, some 96, some 101, some 106]
def L112 : List (Option Nat) := [some 113, some 118, some 123]
def L132 : List (Option Nat) := [some 133, some 134, some 135, some 136, some 137, some 138, some 139, some 140, some 141]
theorem kb_10 : (Int8.ofInt (10)).toInt32 = 10 := by decide
theorem kb_103 : (Int8.ofInt (103)).toInt32 = 103 := by decide
theorem kb_108 : (Int8.ofInt (108)).toInt32 = 108 := by decide
theorem kb_12 : (Int8.ofInt (12)).toInt32 = 12 := by decide
theorem kb_126 : (Int8.ofInt (126)).toInt32 = 126 := by decide
theorem kb_15 : (Int8.ofInt (15)).toInt32 = 15 := by decide
theorem kb_16 : (Int8.ofInt (16)).toInt32 = 16 := by decide
theorem kb_20 : (Int8.ofInt (20)).toInt32 = 20 := by decide
theorem kb_21 : (Int8.ofInt (21)).toInt32 = 21 := by decide
theorem kb_24 : (Int8.ofInt (24)).toInt32 = 24 := by decide
theorem kb_32 : (Int8.ofInt (32)).toInt32 = 32 := by decide
theorem kb_33 : (Int8.ofInt (33)).toInt32 = 33 := by decide
theorem kb_34 : (Int8.ofInt (34)).toInt32 = 34 := by decide
theorem kb_35 : (Int8.ofInt (35)).toInt32 = 35 := by decide
theorem kb_36 : (Int8.ofInt (36)).toInt32 = 36 := by decide
theorem kb_37 : (Int8.ofInt (37)).toInt32 = 37 := by decide
theorem kb_40 : (Int8.ofInt (40)).toInt32 = 40 := by decide
theorem kb_41 : (Int8.ofInt (41)).toInt32 = 41 := by decide
theorem kb_45 : (Int8.ofInt (45)).toInt32 = 45 := by decide
theorem kb_48 : (Int8.ofInt (48)).toInt32 = 48 := by decide
theorem kb_57 : (Int8.ofInt (57)).toInt32 = 57 := by decide
theorem kb_59 : (Int8.ofInt (59)).toInt32 = 59 := by decide
theorem kb_6 : (Int8.ofInt (6)).toInt32 = 6 := by decide
theorem kb_60 : (Int8.ofInt (60)).toInt32 = 60 := by decide
theorem kb_63 : (Int8.ofInt (63)).toInt32 = 63 := by decide
theorem kb_7 : (Int8.ofInt (7)).toInt32 = 7 := by decide
theorem kb_72 : (Int8.ofInt (72)).toInt32 = 72 := by decide
theorem kb_76 : (Int8.ofInt (76)).toInt32 = 76 := by decide
theorem kb_8 : (Int8.ofInt (8)).toInt32 = 8 := by decide
theorem kb_80 : (Int8.ofInt (80)).toInt32 = 80 := by decide
theorem kb_9 : (Int8.ofInt (9)).toInt32 = 9 := by decide
theorem kb_99 : (Int8.ofInt (99)).toInt32 = 99 := by decide
theorem kb_m100 : (Int8.ofInt (-100)).toInt32 = (-100) := by decide
theorem kb_m2 : (Int8.ofInt (-2)).toInt32 = (-2) := by decide
theorem kb_m3 : (Int8.ofInt (-3)).toInt32 = (-3) := by decide
theorem kb_m4 : (Int8.ofInt (-4)).toInt32 = (-4) := by decide
theorem kc_0 : Int32.ofInt (0) = 0 := by decide
theorem kc_1 : Int32.ofInt (1) = 1 := by decide
theorem kc_2 : Int32.ofInt (2) = 2 := by decide
theorem kc_3 : Int32.ofInt (3) = 3 := by decide
theorem kc_4 : Int32.ofInt (4) = 4 := by decide
theorem kc_5 : Int32.ofInt (5) = 5 := by decide
theorem kc_m1 : Int32.ofInt (-1) = (-1) := by decide
theorem kl_0 : Int64.ofNat (((0 : Fin 2)) : Nat) = 0 := by decide
theorem kl_1 : Int64.ofNat (((1 : Fin 2)) : Nat) = 1 := by decide
theorem ks_1000 : (Int16.ofInt (1000)).toInt32 = 1000 := by decide
theorem ks_10000 : (Int16.ofInt (10000)).toInt32 = 10000 := by decide
theorem ks_1008 : (Int16.ofInt (1008)).toInt32 = 1008 := by decide
theorem ks_1134 : (Int16.ofInt (1134)).toInt32 = 1134 := by decide
theorem ks_12345 : (Int16.ofInt (12345)).toInt32 = 12345 := by decide
theorem ks_2000 : (Int16.ofInt (2000)).toInt32 = 2000 := by decide
theorem ks_255 : (Int16.ofInt (255)).toInt32 = 255 := by decide
theorem ks_256 : (Int16.ofInt (256)).toInt32 = 256 := by decide
theorem ks_3000 : (Int16.ofInt (3000)).toInt32 = 3000 := by decide
theorem ks_555 : (Int16.ofInt (555)).toInt32 = 555 := by decide
theorem ks_999 : (Int16.ofInt (999)).toInt32 = 999 := by decide
theorem ks_9999 : (Int16.ofInt (9999)).toInt32 = 9999 := by decide
theorem ks_m10000 : (Int16.ofInt (-10000)).toInt32 = (-10000) := by decide
set_option maxRecDepth 20000 in
theorem ci_0 : ∀ w ∈ u_ws RX0 TX0 10, w ∈ lw_good := fun w h => List.mem_filter.mpr ⟨(goodIn_r (big := lw_tbl) (u_ws RX0 TX0 10) [255, 257, 259, 261, 263, 265, 267, 269, 271, 273] (by decide +kernel) (by decide +kernel) w h).1, List.all_eq_true.mp (show (u_ws RX0 TX0 10).all goodWord = true by decide +kernel) w h⟩
set_option maxRecDepth 20000 in
theorem ci_1 : ∀ w ∈ u_ws RX1 TX1 3, w ∈ lw_good := fun w h => List.mem_filter.mpr ⟨(goodIn_r (big := lw_tbl) (u_ws RX1 TX1 3) [341, 343, 345] (by decide +kernel) (by decide +kernel) w h).1, List.all_eq_true.mp (show (u_ws RX1 TX1 3).all goodWord = true by decide +kernel) w h⟩
set_option maxRecDepth 20000 in
theorem ci_2 : ∀ w ∈ u_ws RX2 TX2 2, w ∈ lw_good := fun w h => List.mem_filter.mpr ⟨(goodIn_r (big := lw_tbl) (u_ws RX2 TX2 2) [141, 143] (by decide +kernel) (by decide +kernel) w h).1, List.all_eq_true.mp (show (u_ws RX2 TX2 2).all goodWord = true by decide +kernel) w h⟩
set_option maxRecDepth 20000 in
theorem ci_3 : ∀ w ∈ u_ws RX3 TX3 9, w ∈ lw_good := fun w h => List.mem_filter.mpr ⟨(goodIn_r (big := lw_tbl) (u_ws RX3 TX3 9) [217, 219, 221, 223, 225, 227, 229, 231, 233] (by decide +kernel) (by decide +kernel) w h).1, List.all_eq_true.mp (show (u_ws RX3 TX3 9).all goodWord = true by decide +kernel) w h⟩
set_option maxRecDepth 20000 in
theorem ci_4 : ∀ w ∈ u_ws RX4 TX4 2, w ∈ lw_good := fun w h => List.mem_filter.mpr ⟨(goodIn_r (big := lw_tbl) (u_ws RX4 TX4 2) [358, 360] (by decide +kernel) (by decide +kernel) w h).1, List.all_eq_true.mp (show (u_ws RX4 TX4 2).all goodWord = true by decide +kernel) w h⟩
set_option maxRecDepth 20000 in
theorem ci_5 : ∀ w ∈ u_ws RX5 TX5 9, w ∈ lw_good := fun w h => List.mem_filter.mpr ⟨(goodIn_r (big := lw_tbl) (u_ws RX5 TX5 9) [309, 311, 313, 315, 317, 319, 321, 323, 325] (by decide +kernel) (by decide +kernel) w h).1, List.all_eq_true.mp (show (u_ws RX5 TX5 9).all goodWord = true by decide +kernel) w h⟩
set_option maxRecDepth 20000 in
theorem ci_6 : ∀ w ∈ u_ws RX6 TX6 2, w ∈ lw_good := fun w h => List.mem_filter.mpr ⟨(goodIn_r (big := lw_tbl) (u_ws RX6 TX6 2) [125, 127] (by decide +kernel) (by decide +kernel) w h).1, List.all_eq_true.mp (show (u_ws RX6 TX6 2).all goodWord = true by decide +kernel) w h⟩
set_option maxRecDepth 20000 in
theorem ci_7 : ∀ w ∈ u_ws RX7 TX7 6, w ∈ lw_good := fun w h => List.mem_filter.mpr ⟨(goodIn_r (big := lw_tbl) (u_ws RX7 TX7 6) [378, 380, 382, 384, 386, 388] (by decide +kernel) (by decide +kernel) w h).1, List.all_eq_true.mp (show (u_ws RX7 TX7 6).all goodWord = true by decide +kernel) w h⟩
set_option maxRecDepth 20000 in
theorem ci_8 : ∀ w ∈ u_ws RX8 TX8 15, w ∈ lw_good := fun w h => List.mem_filter.mpr ⟨(goodIn_r (big := lw_tbl) (u_ws RX8 TX8 15) [406, 408, 410, 412, 414, 416, 418, 420, 422, 424, 426, 428, 430, 432, 434] (by decide +kernel) (by decide +kernel) w h).1, List.all_eq_true.mp (show (u_ws RX8 TX8 15).all goodWord = true by decide +kernel) w h⟩
set_option maxRecDepth 20000 in
theorem ci_9 : ∀ w ∈ u_ws RX9 TX9 48, w ∈ lw_good := fun w h => List.mem_filter.mpr ⟨(goodIn_r (big := lw_tbl) (u_ws RX9 TX9 48) [1139, 1141, 1143, 1145, 1147, 1149, 1151, 1153, 1155, 1157, 1159, 1161, 1163, 1165, 1167, 1169, 1171, 1173, 1175, 1177, 1179, 1181, 1183, 1185, 1187, 1189, 1191, 1193, 1195, 1197, 1199, 1201, 1203, 1205, 1207, 1209, 1211, 1213, 1215, 1217, 1219, 1221, 1223, 1225, 1227, 1229, 1231, 1233] (by decide +kernel) (by decide +kernel) w h).1, List.all_eq_true.mp (show (u_ws RX9 TX9 48).all goodWord = true by decide +kernel) w h⟩
theorem flX0_105 : Fl RX0 105 0 6 := ⟨(RX0, TX0, 10), rfl, by decide, ci_0, wg 250 (by decide +kernel) (by decide +kernel), rfl⟩
theorem flX0_146 : Fl RX0 146 5 5 := ⟨(RX5, TX5, 9), rfl, by decide, ci_5, wg 300 (by decide +kernel) (by decide +kernel), rfl⟩
theorem flX0_156 : Fl RX0 156 5 6 := ⟨(RX5, TX5, 9), rfl, by decide, ci_5, wg 302 (by decide +kernel) (by decide +kernel), rfl⟩
theorem flX0_18 : Fl RX0 18 0 2 := ⟨(RX0, TX0, 10), rfl, by decide, ci_0, wg 241 (by decide +kernel) (by decide +kernel), rfl⟩
theorem flX0_22 : Fl RX0 22 0 3 := ⟨(RX0, TX0, 10), rfl, by decide, ci_0, wg 244 (by decide +kernel) (by decide +kernel), rfl⟩
theorem flX0_25 : Fl RX0 25 0 4 := ⟨(RX0, TX0, 10), rfl, by decide, ci_0, wg 246 (by decide +kernel) (by decide +kernel), rfl⟩
theorem flX0_28 : Fl RX0 28 0 5 := ⟨(RX0, TX0, 10), rfl, by decide, ci_0, wg 248 (by decide +kernel) (by decide +kernel), rfl⟩
theorem flX0_31 : Fl RX0 31 0 7 := ⟨(RX0, TX0, 10), rfl, by decide, ci_0, wg 252 (by decide +kernel) (by decide +kernel), rfl⟩
theorem flX0_34 : Fl RX0 34 0 8 := ⟨(RX0, TX0, 10), rfl, by decide, ci_0, wg 253 (by decide +kernel) (by decide +kernel), rfl⟩
theorem flX0_38 : Fl RX0 38 0 9 := ⟨(RX0, TX0, 10), rfl, by decide, ci_0, wg 254 (by decide +kernel) (by decide +kernel), rfl⟩
theorem flX0_41 : Fl RX0 41 0 1 := ⟨(RX0, TX0, 10), rfl, by decide, ci_0, wg 239 (by decide +kernel) (by decide +kernel), rfl⟩
theorem flX0_48 : Fl RX0 48 5 4 := ⟨(RX5, TX5, 9), rfl, by decide, ci_5, wg 296 (by decide +kernel) (by decide +kernel), rfl⟩
theorem flX0_62 : Fl RX0 62 6 1 := ⟨(RX6, TX6, 2), rfl, by decide, ci_6, wg 124 (by decide +kernel) (by decide +kernel), rfl⟩
theorem flX0_74 : Fl RX0 74 5 8 := ⟨(RX5, TX5, 9), rfl, by decide, ci_5, wg 307 (by decide +kernel) (by decide +kernel), rfl⟩
theorem flX0_84 : Fl RX0 84 5 3 := ⟨(RX5, TX5, 9), rfl, by decide, ci_5, wg 294 (by decide +kernel) (by decide +kernel), rfl⟩
theorem flX0_9 : Fl RX0 9 0 0 := ⟨(RX0, TX0, 10), rfl, by decide, ci_0, wg 237 (by decide +kernel) (by decide +kernel), rfl⟩
theorem flX0_92 : Fl RX0 92 5 0 := ⟨(RX5, TX5, 9), rfl, by decide, ci_5, wg 285 (by decide +kernel) (by decide +kernel), rfl⟩
theorem flX0_95 : Fl RX0 95 5 1 := ⟨(RX5, TX5, 9), rfl, by decide, ci_5, wg 288 (by decide +kernel) (by decide +kernel), rfl⟩
theorem flX0_98 : Fl RX0 98 5 2 := ⟨(RX5, TX5, 9), rfl, by decide, ci_5, wg 291 (by decide +kernel) (by decide +kernel), rfl⟩
theorem flX1_13 : Fl RX1 13 1 0 := ⟨(RX1, TX1, 3), rfl, by decide, ci_1, wg 337 (by decide +kernel) (by decide +kernel), rfl⟩
theorem flX1_18 : Fl RX1 18 1 2 := ⟨(RX1, TX1, 3), rfl, by decide, ci_1, wg 339 (by decide +kernel) (by decide +kernel), rfl⟩
theorem flX1_22 : Fl RX1 22 1 1 := ⟨(RX1, TX1, 3), rfl, by decide, ci_1, wg 338 (by decide +kernel) (by decide +kernel), rfl⟩
theorem flX2_11 : Fl RX2 11 2 0 := ⟨(RX2, TX2, 2), rfl, by decide, ci_2, wg 137 (by decide +kernel) (by decide +kernel), rfl⟩
theorem flX2_15 : Fl RX2 15 2 1 := ⟨(RX2, TX2, 2), rfl, by decide, ci_2, wg 139 (by decide +kernel) (by decide +kernel), rfl⟩
theorem flX3_11 : Fl RX3 11 3 0 := ⟨(RX3, TX3, 9), rfl, by decide, ci_3, wg 208 (by decide +kernel) (by decide +kernel), rfl⟩
theorem flX3_15 : Fl RX3 15 3 1 := ⟨(RX3, TX3, 9), rfl, by decide, ci_3, wg 209 (by decide +kernel) (by decide +kernel), rfl⟩
theorem flX3_18 : Fl RX3 18 3 2 := ⟨(RX3, TX3, 9), rfl, by decide, ci_3, wg 210 (by decide +kernel) (by decide +kernel), rfl⟩
theorem flX3_29 : Fl RX3 29 3 3 := ⟨(RX3, TX3, 9), rfl, by decide, ci_3, wg 211 (by decide +kernel) (by decide +kernel), rfl⟩
theorem flX3_33 : Fl RX3 33 3 4 := ⟨(RX3, TX3, 9), rfl, by decide, ci_3, wg 212 (by decide +kernel) (by decide +kernel), rfl⟩
theorem flX3_36 : Fl RX3 36 3 5 := ⟨(RX3, TX3, 9), rfl, by decide, ci_3, wg 213 (by decide +kernel) (by decide +kernel), rfl⟩
theorem flX3_39 : Fl RX3 39 3 6 := ⟨(RX3, TX3, 9), rfl, by decide, ci_3, wg 214 (by decide +kernel) (by decide +kernel), rfl⟩
theorem flX3_42 : Fl RX3 42 3 7 := ⟨(RX3, TX3, 9), rfl, by decide, ci_3, wg 215 (by decide +kernel) (by decide +kernel), rfl⟩
theorem flX3_45 : Fl RX3 45 3 8 := ⟨(RX3, TX3, 9), rfl, by decide, ci_3, wg 216 (by decide +kernel) (by decide +kernel), rfl⟩
theorem flX4_11 : Fl RX4 11 4 0 := ⟨(RX4, TX4, 2), rfl, by decide, ci_4, wg 356 (by decide +kernel) (by decide +kernel), rfl⟩
theorem flX4_16 : Fl RX4 16 4 1 := ⟨(RX4, TX4, 2), rfl, by decide, ci_4, wg 357 (by decide +kernel) (by decide +kernel), rfl⟩
theorem flX5_15 : Fl RX5 15 5 1 := ⟨(RX5, TX5, 9), rfl, by decide, ci_5, wg 286 (by decide +kernel) (by decide +kernel), rfl⟩
theorem flX5_18 : Fl RX5 18 5 2 := ⟨(RX5, TX5, 9), rfl, by decide, ci_5, wg 289 (by decide +kernel) (by decide +kernel), rfl⟩
theorem flX5_21 : Fl RX5 21 5 3 := ⟨(RX5, TX5, 9), rfl, by decide, ci_5, wg 292 (by decide +kernel) (by decide +kernel), rfl⟩
theorem flX5_24 : Fl RX5 24 5 5 := ⟨(RX5, TX5, 9), rfl, by decide, ci_5, wg 298 (by decide +kernel) (by decide +kernel), rfl⟩
theorem flX5_28 : Fl RX5 28 5 4 := ⟨(RX5, TX5, 9), rfl, by decide, ci_5, wg 295 (by decide +kernel) (by decide +kernel), rfl⟩
theorem flX5_31 : Fl RX5 31 5 6 := ⟨(RX5, TX5, 9), rfl, by decide, ci_5, wg 301 (by decide +kernel) (by decide +kernel), rfl⟩
theorem flX5_34 : Fl RX5 34 5 7 := ⟨(RX5, TX5, 9), rfl, by decide, ci_5, wg 304 (by decide +kernel) (by decide +kernel), rfl⟩
theorem flX5_37 : Fl RX5 37 5 8 := ⟨(RX5, TX5, 9), rfl, by decide, ci_5, wg 306 (by decide +kernel) (by decide +kernel), rfl⟩
theorem flX5_9 : Fl RX5 9 5 0 := ⟨(RX5, TX5, 9), rfl, by decide, ci_5, wg 282 (by decide +kernel) (by decide +kernel), rfl⟩
theorem flX6_15 : Fl RX6 15 6 1 := ⟨(RX6, TX6, 2), rfl, by decide, ci_6, wg 122 (by decide +kernel) (by decide +kernel), rfl⟩
theorem flX6_9 : Fl RX6 9 6 0 := ⟨(RX6, TX6, 2), rfl, by decide, ci_6, wg 120 (by decide +kernel) (by decide +kernel), rfl⟩
theorem flX7_11 : Fl RX7 11 7 0 := ⟨(RX7, TX7, 6), rfl, by decide, ci_7, wg 371 (by decide +kernel) (by decide +kernel), rfl⟩
theorem flX7_15 : Fl RX7 15 7 1 := ⟨(RX7, TX7, 6), rfl, by decide, ci_7, wg 372 (by decide +kernel) (by decide +kernel), rfl⟩
theorem flX7_18 : Fl RX7 18 7 2 := ⟨(RX7, TX7, 6), rfl, by decide, ci_7, wg 373 (by decide +kernel) (by decide +kernel), rfl⟩
theorem flX7_23 : Fl RX7 23 7 4 := ⟨(RX7, TX7, 6), rfl, by decide, ci_7, wg 376 (by decide +kernel) (by decide +kernel), rfl⟩
theorem flX7_26 : Fl RX7 26 7 3 := ⟨(RX7, TX7, 6), rfl, by decide, ci_7, wg 374 (by decide +kernel) (by decide +kernel), rfl⟩
theorem flX7_30 : Fl RX7 30 7 5 := ⟨(RX7, TX7, 6), rfl, by decide, ci_7, wg 377 (by decide +kernel) (by decide +kernel), rfl⟩
theorem flX7_39 : Fl RX7 39 5 0 := ⟨(RX5, TX5, 9), rfl, by decide, ci_5, wg 283 (by decide +kernel) (by decide +kernel), rfl⟩
theorem flX7_42 : Fl RX7 42 0 2 := ⟨(RX0, TX0, 10), rfl, by decide, ci_0, wg 242 (by decide +kernel) (by decide +kernel), rfl⟩
theorem flX8_10 : Fl RX8 10 8 0 := ⟨(RX8, TX8, 15), rfl, by decide, ci_8, wg 391 (by decide +kernel) (by decide +kernel), rfl⟩
theorem flX8_148 : Fl RX8 148 0 0 := ⟨(RX0, TX0, 10), rfl, by decide, ci_0, wg 238 (by decide +kernel) (by decide +kernel), rfl⟩
theorem flX8_151 : Fl RX8 151 5 0 := ⟨(RX5, TX5, 9), rfl, by decide, ci_5, wg 284 (by decide +kernel) (by decide +kernel), rfl⟩
theorem flX8_154 : Fl RX8 154 5 1 := ⟨(RX5, TX5, 9), rfl, by decide, ci_5, wg 287 (by decide +kernel) (by decide +kernel), rfl⟩
theorem flX8_157 : Fl RX8 157 5 2 := ⟨(RX5, TX5, 9), rfl, by decide, ci_5, wg 290 (by decide +kernel) (by decide +kernel), rfl⟩
theorem flX8_163 : Fl RX8 163 0 2 := ⟨(RX0, TX0, 10), rfl, by decide, ci_0, wg 243 (by decide +kernel) (by decide +kernel), rfl⟩
theorem flX8_171 : Fl RX8 171 0 4 := ⟨(RX0, TX0, 10), rfl, by decide, ci_0, wg 247 (by decide +kernel) (by decide +kernel), rfl⟩
theorem flX8_174 : Fl RX8 174 5 3 := ⟨(RX5, TX5, 9), rfl, by decide, ci_5, wg 293 (by decide +kernel) (by decide +kernel), rfl⟩
theorem flX8_186 : Fl RX8 186 5 4 := ⟨(RX5, TX5, 9), rfl, by decide, ci_5, wg 297 (by decide +kernel) (by decide +kernel), rfl⟩
theorem flX8_19 : Fl RX8 19 8 1 := ⟨(RX8, TX8, 15), rfl, by decide, ci_8, wg 392 (by decide +kernel) (by decide +kernel), rfl⟩
theorem flX8_222 : Fl RX8 222 5 5 := ⟨(RX5, TX5, 9), rfl, by decide, ci_5, wg 299 (by decide +kernel) (by decide +kernel), rfl⟩
theorem flX8_246 : Fl RX8 246 0 6 := ⟨(RX0, TX0, 10), rfl, by decide, ci_0, wg 251 (by decide +kernel) (by decide +kernel), rfl⟩
theorem flX8_249 : Fl RX8 249 0 5 := ⟨(RX0, TX0, 10), rfl, by decide, ci_0, wg 249 (by decide +kernel) (by decide +kernel), rfl⟩
theorem flX8_26 : Fl RX8 26 8 2 := ⟨(RX8, TX8, 15), rfl, by decide, ci_8, wg 393 (by decide +kernel) (by decide +kernel), rfl⟩
theorem flX8_265 : Fl RX8 265 0 1 := ⟨(RX0, TX0, 10), rfl, by decide, ci_0, wg 240 (by decide +kernel) (by decide +kernel), rfl⟩
theorem flX8_33 : Fl RX8 33 8 3 := ⟨(RX8, TX8, 15), rfl, by decide, ci_8, wg 394 (by decide +kernel) (by decide +kernel), rfl⟩
theorem flX8_334 : Fl RX8 334 7 3 := ⟨(RX7, TX7, 6), rfl, by decide, ci_7, wg 375 (by decide +kernel) (by decide +kernel), rfl⟩
theorem flX8_37 : Fl RX8 37 8 4 := ⟨(RX8, TX8, 15), rfl, by decide, ci_8, wg 395 (by decide +kernel) (by decide +kernel), rfl⟩
theorem flX8_383 : Fl RX8 383 0 3 := ⟨(RX0, TX0, 10), rfl, by decide, ci_0, wg 245 (by decide +kernel) (by decide +kernel), rfl⟩
theorem flX8_402 : Fl RX8 402 5 6 := ⟨(RX5, TX5, 9), rfl, by decide, ci_5, wg 303 (by decide +kernel) (by decide +kernel), rfl⟩
theorem flX8_405 : Fl RX8 405 5 7 := ⟨(RX5, TX5, 9), rfl, by decide, ci_5, wg 305 (by decide +kernel) (by decide +kernel), rfl⟩
theorem flX8_407 : Fl RX8 407 5 8 := ⟨(RX5, TX5, 9), rfl, by decide, ci_5, wg 308 (by decide +kernel) (by decide +kernel), rfl⟩
theorem flX8_413 : Fl RX8 413 1 2 := ⟨(RX1, TX1, 3), rfl, by decide, ci_1, wg 340 (by decide +kernel) (by decide +kernel), rfl⟩
theorem flX8_414 : Fl RX8 414 2 1 := ⟨(RX2, TX2, 2), rfl, by decide, ci_2, wg 140 (by decide +kernel) (by decide +kernel), rfl⟩
theorem flX8_417 : Fl RX8 417 2 0 := ⟨(RX2, TX2, 2), rfl, by decide, ci_2, wg 138 (by decide +kernel) (by decide +kernel), rfl⟩
theorem flX8_43 : Fl RX8 43 8 5 := ⟨(RX8, TX8, 15), rfl, by decide, ci_8, wg 396 (by decide +kernel) (by decide +kernel), rfl⟩
theorem flX8_434 : Fl RX8 434 6 0 := ⟨(RX6, TX6, 2), rfl, by decide, ci_6, wg 121 (by decide +kernel) (by decide +kernel), rfl⟩
theorem flX8_50 : Fl RX8 50 8 6 := ⟨(RX8, TX8, 15), rfl, by decide, ci_8, wg 397 (by decide +kernel) (by decide +kernel), rfl⟩
theorem flX8_57 : Fl RX8 57 8 7 := ⟨(RX8, TX8, 15), rfl, by decide, ci_8, wg 398 (by decide +kernel) (by decide +kernel), rfl⟩
theorem flX8_61 : Fl RX8 61 8 8 := ⟨(RX8, TX8, 15), rfl, by decide, ci_8, wg 399 (by decide +kernel) (by decide +kernel), rfl⟩
theorem flX8_65 : Fl RX8 65 8 9 := ⟨(RX8, TX8, 15), rfl, by decide, ci_8, wg 400 (by decide +kernel) (by decide +kernel), rfl⟩
theorem flX8_68 : Fl RX8 68 8 10 := ⟨(RX8, TX8, 15), rfl, by decide, ci_8, wg 401 (by decide +kernel) (by decide +kernel), rfl⟩
theorem flX8_71 : Fl RX8 71 8 11 := ⟨(RX8, TX8, 15), rfl, by decide, ci_8, wg 402 (by decide +kernel) (by decide +kernel), rfl⟩
theorem flX8_74 : Fl RX8 74 8 12 := ⟨(RX8, TX8, 15), rfl, by decide, ci_8, wg 403 (by decide +kernel) (by decide +kernel), rfl⟩
theorem flX8_77 : Fl RX8 77 8 13 := ⟨(RX8, TX8, 15), rfl, by decide, ci_8, wg 404 (by decide +kernel) (by decide +kernel), rfl⟩
theorem flX8_80 : Fl RX8 80 8 14 := ⟨(RX8, TX8, 15), rfl, by decide, ci_8, wg 405 (by decide +kernel) (by decide +kernel), rfl⟩
theorem flX8_96 : Fl RX8 96 6 1 := ⟨(RX6, TX6, 2), rfl, by decide, ci_6, wg 123 (by decide +kernel) (by decide +kernel), rfl⟩
theorem flX9_100 : Fl RX9 100 9 42 := ⟨(RX9, TX9, 48), rfl, by decide, ci_9, wg 1133 (by decide +kernel) (by decide +kernel), rfl⟩
theorem flX9_104 : Fl RX9 104 9 43 := ⟨(RX9, TX9, 48), rfl, by decide, ci_9, wg 1134 (by decide +kernel) (by decide +kernel), rfl⟩
theorem flX9_107 : Fl RX9 107 9 45 := ⟨(RX9, TX9, 48), rfl, by decide, ci_9, wg 1136 (by decide +kernel) (by decide +kernel), rfl⟩
theorem flX9_11 : Fl RX9 11 9 2 := ⟨(RX9, TX9, 48), rfl, by decide, ci_9, wg 1093 (by decide +kernel) (by decide +kernel), rfl⟩
theorem flX9_110 : Fl RX9 110 9 46 := ⟨(RX9, TX9, 48), rfl, by decide, ci_9, wg 1137 (by decide +kernel) (by decide +kernel), rfl⟩
theorem flX9_113 : Fl RX9 113 9 47 := ⟨(RX9, TX9, 48), rfl, by decide, ci_9, wg 1138 (by decide +kernel) (by decide +kernel), rfl⟩
theorem flX9_116 : Fl RX9 116 9 3 := ⟨(RX9, TX9, 48), rfl, by decide, ci_9, wg 1094 (by decide +kernel) (by decide +kernel), rfl⟩
theorem flX9_141 : Fl RX9 141 9 11 := ⟨(RX9, TX9, 48), rfl, by decide, ci_9, wg 1102 (by decide +kernel) (by decide +kernel), rfl⟩
theorem flX9_144 : Fl RX9 144 9 12 := ⟨(RX9, TX9, 48), rfl, by decide, ci_9, wg 1103 (by decide +kernel) (by decide +kernel), rfl⟩
theorem flX9_147 : Fl RX9 147 9 14 := ⟨(RX9, TX9, 48), rfl, by decide, ci_9, wg 1105 (by decide +kernel) (by decide +kernel), rfl⟩
theorem flX9_15 : Fl RX9 15 9 1 := ⟨(RX9, TX9, 48), rfl, by decide, ci_9, wg 1092 (by decide +kernel) (by decide +kernel), rfl⟩
theorem flX9_156 : Fl RX9 156 9 13 := ⟨(RX9, TX9, 48), rfl, by decide, ci_9, wg 1104 (by decide +kernel) (by decide +kernel), rfl⟩
theorem flX9_183 : Fl RX9 183 9 16 := ⟨(RX9, TX9, 48), rfl, by decide, ci_9, wg 1107 (by decide +kernel) (by decide +kernel), rfl⟩
theorem flX9_196 : Fl RX9 196 9 23 := ⟨(RX9, TX9, 48), rfl, by decide, ci_9, wg 1114 (by decide +kernel) (by decide +kernel), rfl⟩
theorem flX9_199 : Fl RX9 199 9 4 := ⟨(RX9, TX9, 48), rfl, by decide, ci_9, wg 1095 (by decide +kernel) (by decide +kernel), rfl⟩
theorem flX9_222 : Fl RX9 222 9 20 := ⟨(RX9, TX9, 48), rfl, by decide, ci_9, wg 1111 (by decide +kernel) (by decide +kernel), rfl⟩
theorem flX9_24 : Fl RX9 24 9 5 := ⟨(RX9, TX9, 48), rfl, by decide, ci_9, wg 1096 (by decide +kernel) (by decide +kernel), rfl⟩
theorem flX9_247 : Fl RX9 247 9 19 := ⟨(RX9, TX9, 48), rfl, by decide, ci_9, wg 1110 (by decide +kernel) (by decide +kernel), rfl⟩
theorem flX9_27 : Fl RX9 27 9 6 := ⟨(RX9, TX9, 48), rfl, by decide, ci_9, wg 1097 (by decide +kernel) (by decide +kernel), rfl⟩
theorem flX9_297 : Fl RX9 297 9 25 := ⟨(RX9, TX9, 48), rfl, by decide, ci_9, wg 1116 (by decide +kernel) (by decide +kernel), rfl⟩
theorem flX9_3 : Fl RX9 3 9 0 := ⟨(RX9, TX9, 48), rfl, by decide, ci_9, wg 1091 (by decide +kernel) (by decide +kernel), rfl⟩
theorem flX9_300 : Fl RX9 300 9 26 := ⟨(RX9, TX9, 48), rfl, by decide, ci_9, wg 1117 (by decide +kernel) (by decide +kernel), rfl⟩
theorem flX9_31 : Fl RX9 31 9 7 := ⟨(RX9, TX9, 48), rfl, by decide, ci_9, wg 1098 (by decide +kernel) (by decide +kernel), rfl⟩
theorem flX9_34 : Fl RX9 34 9 8 := ⟨(RX9, TX9, 48), rfl, by decide, ci_9, wg 1099 (by decide +kernel) (by decide +kernel), rfl⟩
theorem flX9_348 : Fl RX9 348 9 30 := ⟨(RX9, TX9, 48), rfl, by decide, ci_9, wg 1121 (by decide +kernel) (by decide +kernel), rfl⟩
theorem flX9_37 : Fl RX9 37 9 9 := ⟨(RX9, TX9, 48), rfl, by decide, ci_9, wg 1100 (by decide +kernel) (by decide +kernel), rfl⟩
theorem flX9_381 : Fl RX9 381 9 35 := ⟨(RX9, TX9, 48), rfl, by decide, ci_9, wg 1126 (by decide +kernel) (by decide +kernel), rfl⟩
theorem flX9_40 : Fl RX9 40 9 10 := ⟨(RX9, TX9, 48), rfl, by decide, ci_9, wg 1101 (by decide +kernel) (by decide +kernel), rfl⟩
theorem flX9_417 : Fl RX9 417 9 44 := ⟨(RX9, TX9, 48), rfl, by decide, ci_9, wg 1135 (by decide +kernel) (by decide +kernel), rfl⟩
theorem flX9_43 : Fl RX9 43 9 15 := ⟨(RX9, TX9, 48), rfl, by decide, ci_9, wg 1106 (by decide +kernel) (by decide +kernel), rfl⟩
theorem flX9_46 : Fl RX9 46 9 17 := ⟨(RX9, TX9, 48), rfl, by decide, ci_9, wg 1108 (by decide +kernel) (by decide +kernel), rfl⟩
theorem flX9_49 : Fl RX9 49 9 18 := ⟨(RX9, TX9, 48), rfl, by decide, ci_9, wg 1109 (by decide +kernel) (by decide +kernel), rfl⟩
theorem flX9_52 : Fl RX9 52 9 21 := ⟨(RX9, TX9, 48), rfl, by decide, ci_9, wg 1112 (by decide +kernel) (by decide +kernel), rfl⟩
theorem flX9_55 : Fl RX9 55 9 22 := ⟨(RX9, TX9, 48), rfl, by decide, ci_9, wg 1113 (by decide +kernel) (by decide +kernel), rfl⟩
theorem flX9_58 : Fl RX9 58 9 24 := ⟨(RX9, TX9, 48), rfl, by decide, ci_9, wg 1115 (by decide +kernel) (by decide +kernel), rfl⟩
theorem flX9_61 : Fl RX9 61 9 27 := ⟨(RX9, TX9, 48), rfl, by decide, ci_9, wg 1118 (by decide +kernel) (by decide +kernel), rfl⟩
theorem flX9_64 : Fl RX9 64 9 28 := ⟨(RX9, TX9, 48), rfl, by decide, ci_9, wg 1119 (by decide +kernel) (by decide +kernel), rfl⟩
theorem flX9_67 : Fl RX9 67 9 29 := ⟨(RX9, TX9, 48), rfl, by decide, ci_9, wg 1120 (by decide +kernel) (by decide +kernel), rfl⟩
theorem flX9_70 : Fl RX9 70 9 31 := ⟨(RX9, TX9, 48), rfl, by decide, ci_9, wg 1122 (by decide +kernel) (by decide +kernel), rfl⟩
theorem flX9_73 : Fl RX9 73 9 32 := ⟨(RX9, TX9, 48), rfl, by decide, ci_9, wg 1123 (by decide +kernel) (by decide +kernel), rfl⟩
theorem flX9_76 : Fl RX9 76 9 33 := ⟨(RX9, TX9, 48), rfl, by decide, ci_9, wg 1124 (by decide +kernel) (by decide +kernel), rfl⟩
theorem flX9_79 : Fl RX9 79 9 34 := ⟨(RX9, TX9, 48), rfl, by decide, ci_9, wg 1125 (by decide +kernel) (by decide +kernel), rfl⟩
theorem flX9_82 : Fl RX9 82 9 36 := ⟨(RX9, TX9, 48), rfl, by decide, ci_9, wg 1127 (by decide +kernel) (by decide +kernel), rfl⟩
theorem flX9_85 : Fl RX9 85 9 37 := ⟨(RX9, TX9, 48), rfl, by decide, ci_9, wg 1128 (by decide +kernel) (by decide +kernel), rfl⟩
theorem flX9_88 : Fl RX9 88 9 38 := ⟨(RX9, TX9, 48), rfl, by decide, ci_9, wg 1129 (by decide +kernel) (by decide +kernel), rfl⟩
theorem flX9_91 : Fl RX9 91 9 39 := ⟨(RX9, TX9, 48), rfl, by decide, ci_9, wg 1130 (by decide +kernel) (by decide +kernel), rfl⟩
theorem flX9_94 : Fl RX9 94 9 40 := ⟨(RX9, TX9, 48), rfl, by decide, ci_9, wg 1131 (by decide +kernel) (by decide +kernel), rfl⟩
theorem flX9_97 : Fl RX9 97 9 41 := ⟨(RX9, TX9, 48), rfl, by decide, ci_9, wg 1132 (by decide +kernel) (by decide +kernel), rfl⟩
theorem fpX0_105 : Flp RX0 105 0 6 .int false := ⟨(RX0, TX0, 10), tyX0, rfl, by decide, ci_0, wg 250 (by decide +kernel) (by decide +kernel), rfl, tyX0_ok, rfl, nmX0, rfl⟩
theorem fpX0_146 : Flp RX0 146 5 5 .int false := ⟨(RX5, TX5, 9), tyX5, rfl, by decide, ci_5, wg 300 (by decide +kernel) (by decide +kernel), rfl, tyX5_ok, rfl, nmX5, rfl⟩
theorem fpX0_156 : Flp RX0 156 5 6 .int false := ⟨(RX5, TX5, 9), tyX5, rfl, by decide, ci_5, wg 302 (by decide +kernel) (by decide +kernel), rfl, tyX5_ok, rfl, nmX5, rfl⟩
theorem fpX0_18 : Flp RX0 18 0 2 (.object "BorrowedWeight$Rule") false := ⟨(RX0, TX0, 10), tyX0, rfl, by decide, ci_0, wg 241 (by decide +kernel) (by decide +kernel), rfl, tyX0_ok, rfl, nmX0, rfl⟩
theorem fpX0_22 : Flp RX0 22 0 3 (.object "BorrowedWeight$Rule") false := ⟨(RX0, TX0, 10), tyX0, rfl, by decide, ci_0, wg 244 (by decide +kernel) (by decide +kernel), rfl, tyX0_ok, rfl, nmX0, rfl⟩
theorem fpX0_34 : Flp RX0 34 0 8 .int false := ⟨(RX0, TX0, 10), tyX0, rfl, by decide, ci_0, wg 253 (by decide +kernel) (by decide +kernel), rfl, tyX0_ok, rfl, nmX0, rfl⟩
theorem fpX0_41 : Flp RX0 41 0 1 .int false := ⟨(RX0, TX0, 10), tyX0, rfl, by decide, ci_0, wg 239 (by decide +kernel) (by decide +kernel), rfl, tyX0_ok, rfl, nmX0, rfl⟩
theorem fpX0_74 : Flp RX0 74 5 8 .int false := ⟨(RX5, TX5, 9), tyX5, rfl, by decide, ci_5, wg 307 (by decide +kernel) (by decide +kernel), rfl, tyX5_ok, rfl, nmX5, rfl⟩
theorem fpX1_18 : Flp RX1 18 1 2 .int false := ⟨(RX1, TX1, 3), tyX1, rfl, by decide, ci_1, wg 339 (by decide +kernel) (by decide +kernel), rfl, tyX1_ok, rfl, nmX1, rfl⟩
theorem fpX1_22 : Flp RX1 22 1 1 .int false := ⟨(RX1, TX1, 3), tyX1, rfl, by decide, ci_1, wg 338 (by decide +kernel) (by decide +kernel), rfl, tyX1_ok, rfl, nmX1, rfl⟩
theorem fpX2_15 : Flp RX2 15 2 1 .int false := ⟨(RX2, TX2, 2), tyX2, rfl, by decide, ci_2, wg 139 (by decide +kernel) (by decide +kernel), rfl, tyX2_ok, rfl, nmX2, rfl⟩
theorem fpX3_29 : Flp RX3 29 3 3 .int false := ⟨(RX3, TX3, 9), tyX3, rfl, by decide, ci_3, wg 211 (by decide +kernel) (by decide +kernel), rfl, tyX3_ok, rfl, nmX3, rfl⟩
theorem fpX3_33 : Flp RX3 33 3 4 .int false := ⟨(RX3, TX3, 9), tyX3, rfl, by decide, ci_3, wg 212 (by decide +kernel) (by decide +kernel), rfl, tyX3_ok, rfl, nmX3, rfl⟩
theorem fpX3_36 : Flp RX3 36 3 5 .int false := ⟨(RX3, TX3, 9), tyX3, rfl, by decide, ci_3, wg 213 (by decide +kernel) (by decide +kernel), rfl, tyX3_ok, rfl, nmX3, rfl⟩
theorem fpX3_39 : Flp RX3 39 3 6 .int false := ⟨(RX3, TX3, 9), tyX3, rfl, by decide, ci_3, wg 214 (by decide +kernel) (by decide +kernel), rfl, tyX3_ok, rfl, nmX3, rfl⟩
theorem fpX3_42 : Flp RX3 42 3 7 .int false := ⟨(RX3, TX3, 9), tyX3, rfl, by decide, ci_3, wg 215 (by decide +kernel) (by decide +kernel), rfl, tyX3_ok, rfl, nmX3, rfl⟩
theorem fpX3_45 : Flp RX3 45 3 8 .boolean false := ⟨(RX3, TX3, 9), tyX3, rfl, by decide, ci_3, wg 216 (by decide +kernel) (by decide +kernel), rfl, tyX3_ok, rfl, nmX3, rfl⟩
theorem fpX4_16 : Flp RX4 16 4 1 .int false := ⟨(RX4, TX4, 2), tyX4, rfl, by decide, ci_4, wg 357 (by decide +kernel) (by decide +kernel), rfl, tyX4_ok, rfl, nmX4, rfl⟩
theorem fpX5_24 : Flp RX5 24 5 5 .int false := ⟨(RX5, TX5, 9), tyX5, rfl, by decide, ci_5, wg 298 (by decide +kernel) (by decide +kernel), rfl, tyX5_ok, rfl, nmX5, rfl⟩
theorem fpX5_28 : Flp RX5 28 5 4 .int false := ⟨(RX5, TX5, 9), tyX5, rfl, by decide, ci_5, wg 295 (by decide +kernel) (by decide +kernel), rfl, tyX5_ok, rfl, nmX5, rfl⟩
theorem fpX5_31 : Flp RX5 31 5 6 .int false := ⟨(RX5, TX5, 9), tyX5, rfl, by decide, ci_5, wg 301 (by decide +kernel) (by decide +kernel), rfl, tyX5_ok, rfl, nmX5, rfl⟩
theorem fpX5_34 : Flp RX5 34 5 7 .int false := ⟨(RX5, TX5, 9), tyX5, rfl, by decide, ci_5, wg 304 (by decide +kernel) (by decide +kernel), rfl, tyX5_ok, rfl, nmX5, rfl⟩
theorem fpX5_37 : Flp RX5 37 5 8 .int false := ⟨(RX5, TX5, 9), tyX5, rfl, by decide, ci_5, wg 306 (by decide +kernel) (by decide +kernel), rfl, tyX5_ok, rfl, nmX5, rfl⟩
theorem fpX6_15 : Flp RX6 15 6 1 .int false := ⟨(RX6, TX6, 2), tyX6, rfl, by decide, ci_6, wg 122 (by decide +kernel) (by decide +kernel), rfl, tyX6_ok, rfl, nmX6, rfl⟩
theorem fpX7_26 : Flp RX7 26 7 3 .int false := ⟨(RX7, TX7, 6), tyX7, rfl, by decide, ci_7, wg 374 (by decide +kernel) (by decide +kernel), rfl, tyX7_ok, rfl, nmX7, rfl⟩
theorem fpX7_30 : Flp RX7 30 7 5 .int false := ⟨(RX7, TX7, 6), tyX7, rfl, by decide, ci_7, wg 377 (by decide +kernel) (by decide +kernel), rfl, tyX7_ok, rfl, nmX7, rfl⟩
theorem fpX8_222 : Flp RX8 222 5 5 .int false := ⟨(RX5, TX5, 9), tyX5, rfl, by decide, ci_5, wg 299 (by decide +kernel) (by decide +kernel), rfl, tyX5_ok, rfl, nmX5, rfl⟩
theorem fpX8_334 : Flp RX8 334 7 3 .int false := ⟨(RX7, TX7, 6), tyX7, rfl, by decide, ci_7, wg 375 (by decide +kernel) (by decide +kernel), rfl, tyX7_ok, rfl, nmX7, rfl⟩
theorem fpX9_116 : Flp RX9 116 9 3 .int false := ⟨(RX9, TX9, 48), tyX9, rfl, by decide, ci_9, wg 1094 (by decide +kernel) (by decide +kernel), rfl, tyX9_ok, rfl, nmX9, rfl⟩
theorem fpX9_141 : Flp RX9 141 9 11 .int false := ⟨(RX9, TX9, 48), tyX9, rfl, by decide, ci_9, wg 1102 (by decide +kernel) (by decide +kernel), rfl, tyX9_ok, rfl, nmX9, rfl⟩
theorem fpX9_144 : Flp RX9 144 9 12 .int false := ⟨(RX9, TX9, 48), tyX9, rfl, by decide, ci_9, wg 1103 (by decide +kernel) (by decide +kernel), rfl, tyX9_ok, rfl, nmX9, rfl⟩
theorem fpX9_147 : Flp RX9 147 9 14 .int false := ⟨(RX9, TX9, 48), tyX9, rfl, by decide, ci_9, wg 1105 (by decide +kernel) (by decide +kernel), rfl, tyX9_ok, rfl, nmX9, rfl⟩
theorem fpX9_15 : Flp RX9 15 9 1 .int false := ⟨(RX9, TX9, 48), tyX9, rfl, by decide, ci_9, wg 1092 (by decide +kernel) (by decide +kernel), rfl, tyX9_ok, rfl, nmX9, rfl⟩
theorem fpX9_156 : Flp RX9 156 9 13 .int false := ⟨(RX9, TX9, 48), tyX9, rfl, by decide, ci_9, wg 1104 (by decide +kernel) (by decide +kernel), rfl, tyX9_ok, rfl, nmX9, rfl⟩
theorem fpX9_183 : Flp RX9 183 9 16 .int false := ⟨(RX9, TX9, 48), tyX9, rfl, by decide, ci_9, wg 1107 (by decide +kernel) (by decide +kernel), rfl, tyX9_ok, rfl, nmX9, rfl⟩
theorem fpX9_196 : Flp RX9 196 9 23 .int false := ⟨(RX9, TX9, 48), tyX9, rfl, by decide, ci_9, wg 1114 (by decide +kernel) (by decide +kernel), rfl, tyX9_ok, rfl, nmX9, rfl⟩
theorem fpX9_199 : Flp RX9 199 9 4 .int false := ⟨(RX9, TX9, 48), tyX9, rfl, by decide, ci_9, wg 1095 (by decide +kernel) (by decide +kernel), rfl, tyX9_ok, rfl, nmX9, rfl⟩
theorem fpX9_222 : Flp RX9 222 9 20 .int false := ⟨(RX9, TX9, 48), tyX9, rfl, by decide, ci_9, wg 1111 (by decide +kernel) (by decide +kernel), rfl, tyX9_ok, rfl, nmX9, rfl⟩
theorem fpX9_24 : Flp RX9 24 9 5 .int false := ⟨(RX9, TX9, 48), tyX9, rfl, by decide, ci_9, wg 1096 (by decide +kernel) (by decide +kernel), rfl, tyX9_ok, rfl, nmX9, rfl⟩
theorem fpX9_247 : Flp RX9 247 9 19 .int false := ⟨(RX9, TX9, 48), tyX9, rfl, by decide, ci_9, wg 1110 (by decide +kernel) (by decide +kernel), rfl, tyX9_ok, rfl, nmX9, rfl⟩
theorem fpX9_297 : Flp RX9 297 9 25 .int false := ⟨(RX9, TX9, 48), tyX9, rfl, by decide, ci_9, wg 1116 (by decide +kernel) (by decide +kernel), rfl, tyX9_ok, rfl, nmX9, rfl⟩
theorem fpX9_3 : Flp RX9 3 9 0 .int false := ⟨(RX9, TX9, 48), tyX9, rfl, by decide, ci_9, wg 1091 (by decide +kernel) (by decide +kernel), rfl, tyX9_ok, rfl, nmX9, rfl⟩
theorem fpX9_300 : Flp RX9 300 9 26 .int false := ⟨(RX9, TX9, 48), tyX9, rfl, by decide, ci_9, wg 1117 (by decide +kernel) (by decide +kernel), rfl, tyX9_ok, rfl, nmX9, rfl⟩
theorem fpX9_348 : Flp RX9 348 9 30 .int false := ⟨(RX9, TX9, 48), tyX9, rfl, by decide, ci_9, wg 1121 (by decide +kernel) (by decide +kernel), rfl, tyX9_ok, rfl, nmX9, rfl⟩
theorem fpX9_381 : Flp RX9 381 9 35 .int false := ⟨(RX9, TX9, 48), tyX9, rfl, by decide, ci_9, wg 1126 (by decide +kernel) (by decide +kernel), rfl, tyX9_ok, rfl, nmX9, rfl⟩
theorem fpX9_417 : Flp RX9 417 9 44 .int false := ⟨(RX9, TX9, 48), tyX9, rfl, by decide, ci_9, wg 1135 (by decide +kernel) (by decide +kernel), rfl, tyX9_ok, rfl, nmX9, rfl⟩
theorem mlJ0_1059 : Cond.methodLink RJ0 1059 yJ3_checkIndex_8e157 ∈ lw_good := wg 1366 (by decide +kernel) (by decide +kernel)
theorem mlJ0_335 : Cond.methodLink RJ0 335 yJ0_coder_7d493 ∈ lw_good := wg 1344 (by decide +kernel) (by decide +kernel)
theorem mlJ0_492 : Cond.methodLink RJ0 492 yJ0_isLatin1_aae02 ∈ lw_good := wg 1354 (by decide +kernel) (by decide +kernel)
theorem mlJ0_495 : Cond.methodLink RJ0 495 yJ1_charAt_3b067 ∈ lw_good := wg 1358 (by decide +kernel) (by decide +kernel)
theorem mlJ1_9 : Cond.methodLink RJ1 9 yJ0_checkIndex_df160 ∈ lw_good := wg 1361 (by decide +kernel) (by decide +kernel)
theorem mlX0_101 : Cond.methodLink RX0 101 yX3_valueOf ∈ lw_good := wg 597 (by decide +kernel) (by decide +kernel)
theorem mlX0_108 : Cond.methodLink RX0 108 yX0_present ∈ lw_good := wg 608 (by decide +kernel) (by decide +kernel)
theorem mlX0_112 : Cond.methodLink RX0 112 yX5_bundleOf ∈ lw_good := wg 616 (by decide +kernel) (by decide +kernel)
theorem mlX0_115 : Cond.methodLink RX0 115 yX5_stonesOf ∈ lw_good := wg 624 (by decide +kernel) (by decide +kernel)
theorem mlX0_118 : Cond.methodLink RX0 118 yX0_needOf ∈ lw_good := wg 628 (by decide +kernel) (by decide +kernel)
theorem mlX0_121 : Cond.methodLink RX0 121 yX0_weigh ∈ lw_good := wg 584 (by decide +kernel) (by decide +kernel)
theorem mlX0_125 : Cond.methodLink RX0 125 yX0_part ∈ lw_good := wg 604 (by decide +kernel) (by decide +kernel)
theorem mlX0_129 : Cond.methodLink RX0 129 yX0_excess ∈ lw_good := wg 620 (by decide +kernel) (by decide +kernel)
theorem mlX0_133 : Cond.methodLink RX0 133 yX0_floating ∈ lw_good := wg 580 (by decide +kernel) (by decide +kernel)
theorem mlX0_137 : Cond.methodLink RX0 137 yX0_passHour ∈ lw_good := wg 632 (by decide +kernel) (by decide +kernel)
theorem mlX0_140 : Cond.methodLink RX0 140 yX5_lose ∈ lw_good := wg 636 (by decide +kernel) (by decide +kernel)
theorem mlX0_143 : Cond.methodLink RX0 143 yX0_isThing ∈ lw_good := wg 664 (by decide +kernel) (by decide +kernel)
theorem mlX0_149 : Cond.methodLink RX0 149 yX5_toggle ∈ lw_good := wg 686 (by decide +kernel) (by decide +kernel)
theorem mlX0_153 : Cond.methodLink RX0 153 yX5_stringCount ∈ lw_good := wg 687 (by decide +kernel) (by decide +kernel)
theorem mlX0_44 : Cond.methodLink RX0 44 yX0_everything ∈ lw_good := wg 612 (by decide +kernel) (by decide +kernel)
theorem mlX0_53 : Cond.methodLink RX0 53 yJ9_min_7cf53 ∈ lw_good := wg 541 (by decide +kernel) (by decide +kernel)
theorem mlX0_59 : Cond.methodLink RX0 59 yJ9_max_7cf53 ∈ lw_good := wg 542 (by decide +kernel) (by decide +kernel)
theorem mlX0_67 : Cond.methodLink RX0 67 yX6_digitAt ∈ lw_good := wg 543 (by decide +kernel) (by decide +kernel)
theorem mlX0_71 : Cond.methodLink RX0 71 yJ9_floorMod_7cf53 ∈ lw_good := wg 592 (by decide +kernel) (by decide +kernel)
theorem mlX0_77 : Cond.methodLink RX0 77 yX0_windAt ∈ lw_good := wg 588 (by decide +kernel) (by decide +kernel)
theorem mlX0_80 : Cond.methodLink RX0 80 yX5_isGone ∈ lw_good := wg 595 (by decide +kernel) (by decide +kernel)
theorem mlX0_87 : Cond.methodLink RX0 87 yJ6_bitCount_0f7a4 ∈ lw_good := wg 596 (by decide +kernel) (by decide +kernel)
theorem mlX1_25 : Cond.methodLink RX1 25 yX5_become ∈ lw_good := wg 508 (by decide +kernel) (by decide +kernel)
theorem mlX1_29 : Cond.methodLink RX1 29 yJ9_min_7cf53 ∈ lw_good := wg 528 (by decide +kernel) (by decide +kernel)
theorem mlX1_35 : Cond.methodLink RX1 35 yX1_commit ∈ lw_good := wg 669 (by decide +kernel) (by decide +kernel)
theorem mlX2_19 : Cond.methodLink RX2 19 yX2_clear ∈ lw_good := wg 647 (by decide +kernel) (by decide +kernel)
theorem mlX2_22 : Cond.methodLink RX2 22 yX2_add ∈ lw_good := wg 651 (by decide +kernel) (by decide +kernel)
theorem mlX3_49 : Cond.methodLink RX3 49 yJ9_min_7cf53 ∈ lw_good := wg 165 (by decide +kernel) (by decide +kernel)
theorem mlX3_55 : Cond.methodLink RX3 55 yX3_takeThing ∈ lw_good := wg 168 (by decide +kernel) (by decide +kernel)
theorem mlX3_59 : Cond.methodLink RX3 59 yX3_takeBehind ∈ lw_good := wg 186 (by decide +kernel) (by decide +kernel)
theorem mlX3_62 : Cond.methodLink RX3 62 yX3_release ∈ lw_good := wg 198 (by decide +kernel) (by decide +kernel)
theorem mlX3_66 : Cond.methodLink RX3 66 yX3_hold ∈ lw_good := wg 172 (by decide +kernel) (by decide +kernel)
theorem mlX3_70 : Cond.methodLink RX3 70 yX3_open ∈ lw_good := wg 176 (by decide +kernel) (by decide +kernel)
theorem mlX3_74 : Cond.methodLink RX3 74 yX3_emit ∈ lw_good := wg 180 (by decide +kernel) (by decide +kernel)
theorem mlX3_80 : Cond.methodLink RX3 80 yX3_lengthen ∈ lw_good := wg 190 (by decide +kernel) (by decide +kernel)
theorem mlX3_84 : Cond.methodLink RX3 84 yX3_close ∈ lw_good := wg 194 (by decide +kernel) (by decide +kernel)
theorem mlX3_87 : Cond.methodLink RX3 87 yX3_strengthOf ∈ lw_good := wg 202 (by decide +kernel) (by decide +kernel)
theorem mlX3_91 : Cond.methodLink RX3 91 yJ9_max_7cf53 ∈ lw_good := wg 205 (by decide +kernel) (by decide +kernel)
theorem mlX3_94 : Cond.methodLink RX3 94 yX3_combine ∈ lw_good := wg 601 (by decide +kernel) (by decide +kernel)
theorem mlX4_20 : Cond.methodLink RX4 20 yX5_become ∈ lw_good := wg 984 (by decide +kernel) (by decide +kernel)
theorem mlX5_40 : Cond.methodLink RX5 40 yJ6_bitCount_0f7a4 ∈ lw_good := wg 691 (by decide +kernel) (by decide +kernel)
theorem mlX5_46 : Cond.methodLink RX5 46 yJ9_min_7cf53 ∈ lw_good := wg 640 (by decide +kernel) (by decide +kernel)
theorem mlX5_52 : Cond.methodLink RX5 52 yX5_isTied ∈ lw_good := wg 641 (by decide +kernel) (by decide +kernel)
theorem mlX5_56 : Cond.methodLink RX5 56 yX5_toggle ∈ lw_good := wg 642 (by decide +kernel) (by decide +kernel)
theorem mlX6_19 : Cond.methodLink RX6 19 yX6_at ∈ lw_good := wg 471 (by decide +kernel) (by decide +kernel)
theorem mlX7_33 : Cond.methodLink RX7 33 yX5_become ∈ lw_good := wg 872 (by decide +kernel) (by decide +kernel)
theorem mlX7_48 : Cond.methodLink RX7 48 yX0_floating ∈ lw_good := wg 873 (by decide +kernel) (by decide +kernel)
theorem mlX7_51 : Cond.methodLink RX7 51 yX0_passHour ∈ lw_good := wg 874 (by decide +kernel) (by decide +kernel)
theorem mlX8_100 : Cond.methodLink RX8 100 yX6_digitAt ∈ lw_good := wg 467 (by decide +kernel) (by decide +kernel)
theorem mlX8_103 : Cond.methodLink RX8 103 yX0_addThing ∈ lw_good := wg 472 (by decide +kernel) (by decide +kernel)
theorem mlX8_107 : Cond.methodLink RX8 107 yX1_clear ∈ lw_good := wg 476 (by decide +kernel) (by decide +kernel)
theorem mlX8_110 : Cond.methodLink RX8 110 yX4_clear ∈ lw_good := wg 480 (by decide +kernel) (by decide +kernel)
theorem mlX8_111 : Cond.methodLink RX8 111 yX6_clear ∈ lw_good := wg 484 (by decide +kernel) (by decide +kernel)
theorem mlX8_112 : Cond.methodLink RX8 112 yX8_faultOfStrings ∈ lw_good := wg 492 (by decide +kernel) (by decide +kernel)
theorem mlX8_115 : Cond.methodLink RX8 115 yX1_draw ∈ lw_good := wg 504 (by decide +kernel) (by decide +kernel)
theorem mlX8_119 : Cond.methodLink RX8 119 yX8_tieTold ∈ lw_good := wg 512 (by decide +kernel) (by decide +kernel)
theorem mlX8_122 : Cond.methodLink RX8 122 yX1_commit ∈ lw_good := wg 524 (by decide +kernel) (by decide +kernel)
theorem mlX8_125 : Cond.methodLink RX8 125 yX8_faultOfWinds ∈ lw_good := wg 533 (by decide +kernel) (by decide +kernel)
theorem mlX8_128 : Cond.methodLink RX8 128 yX0_setWinds ∈ lw_good := wg 537 (by decide +kernel) (by decide +kernel)
theorem mlX8_132 : Cond.methodLink RX8 132 yX8_readDraft ∈ lw_good := wg 548 (by decide +kernel) (by decide +kernel)
theorem mlX8_135 : Cond.methodLink RX8 135 yX0_adoptDraft ∈ lw_good := wg 554 (by decide +kernel) (by decide +kernel)
theorem mlX8_138 : Cond.methodLink RX8 138 yX0_isThing ∈ lw_good := wg 496 (by decide +kernel) (by decide +kernel)
theorem mlX8_160 : Cond.methodLink RX8 160 yX5_isGone ∈ lw_good := wg 500 (by decide +kernel) (by decide +kernel)
theorem mlX8_167 : Cond.methodLink RX8 167 yX0_weigh ∈ lw_good := wg 736 (by decide +kernel) (by decide +kernel)
theorem mlX8_177 : Cond.methodLink RX8 177 yX5_bundleOf ∈ lw_good := wg 737 (by decide +kernel) (by decide +kernel)
theorem mlX8_182 : Cond.methodLink RX8 182 yX0_setSizes ∈ lw_good := wg 562 (by decide +kernel) (by decide +kernel)
theorem mlX8_189 : Cond.methodLink RX8 189 yJ6_bitCount_0f7a4 ∈ lw_good := wg 570 (by decide +kernel) (by decide +kernel)
theorem mlX8_194 : Cond.methodLink RX8 194 yX0_passHours ∈ lw_good := wg 576 (by decide +kernel) (by decide +kernel)
theorem mlX8_198 : Cond.methodLink RX8 198 yX2_tell_ ∈ lw_good := wg 643 (by decide +kernel) (by decide +kernel)
theorem mlX8_202 : Cond.methodLink RX8 202 yX0_present ∈ lw_good := wg 655 (by decide +kernel) (by decide +kernel)
theorem mlX8_206 : Cond.methodLink RX8 206 yX0_lend ∈ lw_good := wg 660 (by decide +kernel) (by decide +kernel)
theorem mlX8_210 : Cond.methodLink RX8 210 yX1_settle ∈ lw_good := wg 665 (by decide +kernel) (by decide +kernel)
theorem mlX8_213 : Cond.methodLink RX8 213 yX0_takeBack ∈ lw_good := wg 674 (by decide +kernel) (by decide +kernel)
theorem mlX8_216 : Cond.methodLink RX8 216 yX0_tieOrCut ∈ lw_good := wg 682 (by decide +kernel) (by decide +kernel)
theorem mlX8_219 : Cond.methodLink RX8 219 yX0_takeDebt ∈ lw_good := wg 696 (by decide +kernel) (by decide +kernel)
theorem mlX8_225 : Cond.methodLink RX8 225 yX8_faultOfNight ∈ lw_good := wg 708 (by decide +kernel) (by decide +kernel)
theorem mlX8_228 : Cond.methodLink RX8 228 yX8_act ∈ lw_good := wg 715 (by decide +kernel) (by decide +kernel)
theorem mlX8_231 : Cond.methodLink RX8 231 yX6_at ∈ lw_good := wg 463 (by decide +kernel) (by decide +kernel)
theorem mlX8_235 : Cond.methodLink RX8 235 yX8_digitsBehind ∈ lw_good := wg 712 (by decide +kernel) (by decide +kernel)
theorem mlX8_239 : Cond.methodLink RX8 239 yX1_bringBack ∈ lw_good := wg 723 (by decide +kernel) (by decide +kernel)
theorem mlX8_242 : Cond.methodLink RX8 242 yX0_floating ∈ lw_good := wg 731 (by decide +kernel) (by decide +kernel)
theorem mlX8_252 : Cond.methodLink RX8 252 yX5_stonesOf ∈ lw_good := wg 738 (by decide +kernel) (by decide +kernel)
theorem mlX8_255 : Cond.methodLink RX8 255 yX0_needOf ∈ lw_good := wg 739 (by decide +kernel) (by decide +kernel)
theorem mlX8_258 : Cond.methodLink RX8 258 yX8_foresee ∈ lw_good := wg 744 (by decide +kernel) (by decide +kernel)
theorem mlX8_261 : Cond.methodLink RX8 261 yX2_tell ∈ lw_good := wg 753 (by decide +kernel) (by decide +kernel)
theorem mlX8_264 : Cond.methodLink RX8 264 yX2_clear ∈ lw_good := wg 761 (by decide +kernel) (by decide +kernel)
theorem mlX8_268 : Cond.methodLink RX8 268 yX2_add ∈ lw_good := wg 762 (by decide +kernel) (by decide +kernel)
theorem mlX8_270 : Cond.methodLink RX8 270 yX0_everything ∈ lw_good := wg 767 (by decide +kernel) (by decide +kernel)
theorem mlX8_273 : Cond.methodLink RX8 273 yX0_excess ∈ lw_good := wg 768 (by decide +kernel) (by decide +kernel)
theorem mlX8_276 : Cond.methodLink RX8 276 yX0_part ∈ lw_good := wg 773 (by decide +kernel) (by decide +kernel)
theorem mlX8_279 : Cond.methodLink RX8 279 yX8_clearShares ∈ lw_good := wg 774 (by decide +kernel) (by decide +kernel)
theorem mlX8_282 : Cond.methodLink RX8 282 yX8_shareOut ∈ lw_good := wg 778 (by decide +kernel) (by decide +kernel)
theorem mlX8_286 : Cond.methodLink RX8 286 yX5_become ∈ lw_good := wg 748 (by decide +kernel) (by decide +kernel)
theorem mlX8_289 : Cond.methodLink RX8 289 yX5_stringCount ∈ lw_good := wg 786 (by decide +kernel) (by decide +kernel)
theorem mlX8_292 : Cond.methodLink RX8 292 yX5_isTied ∈ lw_good := wg 516 (by decide +kernel) (by decide +kernel)
theorem mlX8_296 : Cond.methodLink RX8 296 yX8_risesWithout ∈ lw_good := wg 787 (by decide +kernel) (by decide +kernel)
theorem mlX8_300 : Cond.methodLink RX8 300 yX8_floatingWith ∈ lw_good := wg 795 (by decide +kernel) (by decide +kernel)
theorem mlX8_304 : Cond.methodLink RX8 304 yX8_excessOfBundles ∈ lw_good := wg 803 (by decide +kernel) (by decide +kernel)
theorem mlX8_307 : Cond.methodLink RX8 307 yX8_mostGroups ∈ lw_good := wg 807 (by decide +kernel) (by decide +kernel)
theorem mlX8_310 : Cond.methodLink RX8 310 yJ9_min_7cf53 ∈ lw_good := wg 462 (by decide +kernel) (by decide +kernel)
theorem mlX8_315 : Cond.methodLink RX8 315 yX8_markSteps ∈ lw_good := wg 816 (by decide +kernel) (by decide +kernel)
theorem mlX8_318 : Cond.methodLink RX8 318 yX8_nextOnWay ∈ lw_good := wg 820 (by decide +kernel) (by decide +kernel)
theorem mlX8_321 : Cond.methodLink RX8 321 yX8_faultOfRequests ∈ lw_good := wg 828 (by decide +kernel) (by decide +kernel)
theorem mlX8_324 : Cond.methodLink RX8 324 yX8_priceOf ∈ lw_good := wg 836 (by decide +kernel) (by decide +kernel)
theorem mlX8_327 : Cond.methodLink RX8 327 yX8_canServe ∈ lw_good := wg 840 (by decide +kernel) (by decide +kernel)
theorem mlX8_330 : Cond.methodLink RX8 330 yX7_note ∈ lw_good := wg 852 (by decide +kernel) (by decide +kernel)
theorem mlX8_337 : Cond.methodLink RX8 337 yX8_fittingThings ∈ lw_good := wg 864 (by decide +kernel) (by decide +kernel)
theorem mlX8_340 : Cond.methodLink RX8 340 yX7_look ∈ lw_good := wg 868 (by decide +kernel) (by decide +kernel)
theorem mlX8_344 : Cond.methodLink RX8 344 yX7_agrees ∈ lw_good := wg 875 (by decide +kernel) (by decide +kernel)
theorem mlX8_348 : Cond.methodLink RX8 348 yX7_countFloating ∈ lw_good := wg 883 (by decide +kernel) (by decide +kernel)
theorem mlX8_351 : Cond.methodLink RX8 351 yJ9_max_7cf53 ∈ lw_good := wg 811 (by decide +kernel) (by decide +kernel)
theorem mlX8_354 : Cond.methodLink RX8 354 yX8_isFewer ∈ lw_good := wg 891 (by decide +kernel) (by decide +kernel)
theorem mlX8_357 : Cond.methodLink RX8 357 yJ9_abs_0f7a4 ∈ lw_good := wg 902 (by decide +kernel) (by decide +kernel)
theorem mlX8_360 : Cond.methodLink RX8 360 yX8_heaviestOf ∈ lw_good := wg 909 (by decide +kernel) (by decide +kernel)
theorem mlX8_363 : Cond.methodLink RX8 363 yX8_tallyStorm ∈ lw_good := wg 921 (by decide +kernel) (by decide +kernel)
theorem mlX8_366 : Cond.methodLink RX8 366 yX8_power ∈ lw_good := wg 933 (by decide +kernel) (by decide +kernel)
theorem mlX8_370 : Cond.methodLink RX8 370 yX8_commonDivisor ∈ lw_good := wg 936 (by decide +kernel) (by decide +kernel)
theorem mlX8_374 : Cond.methodLink RX8 374 yX8_winningMove ∈ lw_good := wg 943 (by decide +kernel) (by decide +kernel)
theorem mlX8_386 : Cond.methodLink RX8 386 yX8_isBest ∈ lw_good := wg 959 (by decide +kernel) (by decide +kernel)
theorem mlX8_389 : Cond.methodLink RX8 389 yX8_nextLuck ∈ lw_good := wg 969 (by decide +kernel) (by decide +kernel)
theorem mlX8_392 : Cond.methodLink RX8 392 yX8_drawn ∈ lw_good := wg 973 (by decide +kernel) (by decide +kernel)
theorem mlX8_395 : Cond.methodLink RX8 395 yX4_put ∈ lw_good := wg 980 (by decide +kernel) (by decide +kernel)
theorem mlX8_399 : Cond.methodLink RX8 399 yX4_fetch ∈ lw_good := wg 989 (by decide +kernel) (by decide +kernel)
theorem mlX8_410 : Cond.methodLink RX8 410 yX0_windAt ∈ lw_good := wg 997 (by decide +kernel) (by decide +kernel)
theorem mlX8_421 : Cond.methodLink RX8 421 yX8_canStandInRequest ∈ lw_good := wg 832 (by decide +kernel) (by decide +kernel)
theorem mlX8_428 : Cond.methodLink RX8 428 yX3_compile ∈ lw_good := wg 553 (by decide +kernel) (by decide +kernel)
theorem mlX8_437 : Cond.methodLink RX8 437 yX5_toggle ∈ lw_good := wg 520 (by decide +kernel) (by decide +kernel)
theorem mlX8_440 : Cond.methodLink RX8 440 yX8_excessOf ∈ lw_good := wg 913 (by decide +kernel) (by decide +kernel)
theorem mlX8_443 : Cond.methodLink RX8 443 yX8_listStrings ∈ lw_good := wg 925 (by decide +kernel) (by decide +kernel)
theorem mlX8_446 : Cond.methodLink RX8 446 yX5_cutAll ∈ lw_good := wg 929 (by decide +kernel) (by decide +kernel)
theorem mlX8_449 : Cond.methodLink RX8 449 yX8_gainOf ∈ lw_good := wg 962 (by decide +kernel) (by decide +kernel)
theorem mlX8_84 : Cond.methodLink RX8 84 yX6_add ∈ lw_good := wg 442 (by decide +kernel) (by decide +kernel)
theorem mlX8_88 : Cond.methodLink RX8 88 yX6_cut ∈ lw_good := wg 450 (by decide +kernel) (by decide +kernel)
theorem mlX8_92 : Cond.methodLink RX8 92 yX8_faultOfThings ∈ lw_good := wg 458 (by decide +kernel) (by decide +kernel)
theorem mlX9_119 : Cond.methodLink RX9 119 yX9_in ∈ lw_good := wg 1244 (by decide +kernel) (by decide +kernel)
theorem mlX9_123 : Cond.methodLink RX9 123 yX9_isThing ∈ lw_good := wg 1283 (by decide +kernel) (by decide +kernel)
theorem mlX9_127 : Cond.methodLink RX9 127 yX9_has ∈ lw_good := wg 1287 (by decide +kernel) (by decide +kernel)
theorem mlX9_131 : Cond.methodLink RX9 131 yX9_all ∈ lw_good := wg 1467 (by decide +kernel) (by decide +kernel)
theorem mlX9_135 : Cond.methodLink RX9 135 yJ6_bitCount_0f7a4 ∈ lw_good := wg 1412 (by decide +kernel) (by decide +kernel)
theorem mlX9_150 : Cond.methodLink RX9 150 yJ9_min_7cf53 ∈ lw_good := wg 1255 (by decide +kernel) (by decide +kernel)
theorem mlX9_159 : Cond.methodLink RX9 159 yX9_flag ∈ lw_good := wg 1260 (by decide +kernel) (by decide +kernel)
theorem mlX9_167 : Cond.methodLink RX9 167 yJ0_length_8abf5 ∈ lw_good := wg 1340 (by decide +kernel) (by decide +kernel)
theorem mlX9_172 : Cond.methodLink RX9 172 yJ0_charAt_5068e ∈ lw_good := wg 1350 (by decide +kernel) (by decide +kernel)
theorem mlX9_176 : Cond.methodLink RX9 176 yX9_isDigit ∈ lw_good := wg 1305 (by decide +kernel) (by decide +kernel)
theorem mlX9_180 : Cond.methodLink RX9 180 yX9_begins ∈ lw_good := wg 1251 (by decide +kernel) (by decide +kernel)
theorem mlX9_186 : Cond.methodLink RX9 186 yX9_digitIn ∈ lw_good := wg 1256 (by decide +kernel) (by decide +kernel)
theorem mlX9_189 : Cond.methodLink RX9 189 yX9_takes ∈ lw_good := wg 1263 (by decide +kernel) (by decide +kernel)
theorem mlX9_192 : Cond.methodLink RX9 192 yX9_faultOf ∈ lw_good := wg 1267 (by decide +kernel) (by decide +kernel)
theorem mlX9_202 : Cond.methodLink RX9 202 yX9_isHere ∈ lw_good := wg 1279 (by decide +kernel) (by decide +kernel)
theorem mlX9_206 : Cond.methodLink RX9 206 yX9_thingBut ∈ lw_good := wg 1275 (by decide +kernel) (by decide +kernel)
theorem mlX9_209 : Cond.methodLink RX9 209 yX9_putsBy ∈ lw_good := wg 1290 (by decide +kernel) (by decide +kernel)
theorem mlX9_212 : Cond.methodLink RX9 212 yX9_toggles ∈ lw_good := wg 1294 (by decide +kernel) (by decide +kernel)
theorem mlX9_216 : Cond.methodLink RX9 216 yX9_adds ∈ lw_good := wg 1297 (by decide +kernel) (by decide +kernel)
theorem mlX9_219 : Cond.methodLink RX9 219 yX9_number ∈ lw_good := wg 1311 (by decide +kernel) (by decide +kernel)
theorem mlX9_225 : Cond.methodLink RX9 225 yX9_readsThing ∈ lw_good := wg 1327 (by decide +kernel) (by decide +kernel)
theorem mlX9_228 : Cond.methodLink RX9 228 yX9_codes ∈ lw_good := wg 1331 (by decide +kernel) (by decide +kernel)
theorem mlX9_234 : Cond.methodLink RX9 234 yX9_takesOf ∈ lw_good := wg 1336 (by decide +kernel) (by decide +kernel)
theorem mlX9_238 : Cond.methodLink RX9 238 yX9_readsRank ∈ lw_good := wg 1323 (by decide +kernel) (by decide +kernel)
theorem mlX9_250 : Cond.methodLink RX9 250 yX9_readsRule ∈ lw_good := wg 1319 (by decide +kernel) (by decide +kernel)
theorem mlX9_253 : Cond.methodLink RX9 253 yX9_laysCode ∈ lw_good := wg 1391 (by decide +kernel) (by decide +kernel)
theorem mlX9_257 : Cond.methodLink RX9 257 yX9_worked ∈ lw_good := wg 1417 (by decide +kernel) (by decide +kernel)
theorem mlX9_261 : Cond.methodLink RX9 261 yX9_windOn ∈ lw_good := wg 1408 (by decide +kernel) (by decide +kernel)
theorem mlX9_264 : Cond.methodLink RX9 264 yX9_ruled ∈ lw_good := wg 1413 (by decide +kernel) (by decide +kernel)
theorem mlX9_267 : Cond.methodLink RX9 267 yJ9_max_7cf53 ∈ lw_good := wg 1420 (by decide +kernel) (by decide +kernel)
theorem mlX9_270 : Cond.methodLink RX9 270 yX9_need ∈ lw_good := wg 1404 (by decide +kernel) (by decide +kernel)
theorem mlX9_274 : Cond.methodLink RX9 274 yX9_sumOf ∈ lw_good := wg 1455 (by decide +kernel) (by decide +kernel)
theorem mlX9_278 : Cond.methodLink RX9 278 yX9_needOf ∈ lw_good := wg 1459 (by decide +kernel) (by decide +kernel)
theorem mlX9_281 : Cond.methodLink RX9 281 yX9_bundle ∈ lw_good := wg 1421 (by decide +kernel) (by decide +kernel)
theorem mlX9_284 : Cond.methodLink RX9 284 yJ6_numberOfTrailingZeros_0f7a4 ∈ lw_good := wg 1546 (by decide +kernel) (by decide +kernel)
theorem mlX9_287 : Cond.methodLink RX9 287 yX9_above ∈ lw_good := wg 1451 (by decide +kernel) (by decide +kernel)
theorem mlX9_292 : Cond.methodLink RX9 292 yX9_refuse ∈ lw_good := wg 1400 (by decide +kernel) (by decide +kernel)
theorem mlX9_303 : Cond.methodLink RX9 303 yX9_floating ∈ lw_good := wg 1447 (by decide +kernel) (by decide +kernel)
theorem mlX9_307 : Cond.methodLink RX9 307 yX9_here ∈ lw_good := wg 1463 (by decide +kernel) (by decide +kernel)
theorem mlX9_310 : Cond.methodLink RX9 310 yX9_goes ∈ lw_good := wg 1471 (by decide +kernel) (by decide +kernel)
theorem mlX9_313 : Cond.methodLink RX9 313 yX9_hourGoes ∈ lw_good := wg 1443 (by decide +kernel) (by decide +kernel)
theorem mlX9_319 : Cond.methodLink RX9 319 yX9_stringMany ∈ lw_good := wg 1508 (by decide +kernel) (by decide +kernel)
theorem mlX9_324 : Cond.methodLink RX9 324 yX9_goesOn ∈ lw_good := wg 1439 (by decide +kernel) (by decide +kernel)
theorem mlX9_327 : Cond.methodLink RX9 327 yX9_enters ∈ lw_good := wg 1475 (by decide +kernel) (by decide +kernel)
theorem mlX9_331 : Cond.methodLink RX9 331 yX9_lendsTo ∈ lw_good := wg 1483 (by decide +kernel) (by decide +kernel)
theorem mlX9_334 : Cond.methodLink RX9 334 yX9_counted ∈ lw_good := wg 1488 (by decide +kernel) (by decide +kernel)
theorem mlX9_337 : Cond.methodLink RX9 337 yX9_givesBack ∈ lw_good := wg 1496 (by decide +kernel) (by decide +kernel)
theorem mlX9_340 : Cond.methodLink RX9 340 yX9_tiesTwo ∈ lw_good := wg 1504 (by decide +kernel) (by decide +kernel)
theorem mlX9_343 : Cond.methodLink RX9 343 yX9_paysAll ∈ lw_good := wg 1516 (by decide +kernel) (by decide +kernel)
theorem mlX9_353 : Cond.methodLink RX9 353 yX9_readsAct ∈ lw_good := wg 1529 (by decide +kernel) (by decide +kernel)
theorem mlX9_356 : Cond.methodLink RX9 356 yX9_does ∈ lw_good := wg 1534 (by decide +kernel) (by decide +kernel)
theorem mlX9_359 : Cond.methodLink RX9 359 yX9_firstOnes ∈ lw_good := wg 1542 (by decide +kernel) (by decide +kernel)
theorem mlX9_362 : Cond.methodLink RX9 362 yX9_copies ∈ lw_good := wg 1558 (by decide +kernel) (by decide +kernel)
theorem mlX9_367 : Cond.methodLink RX9 367 yX9_spareOf ∈ lw_good := wg 1592 (by decide +kernel) (by decide +kernel)
theorem mlX9_370 : Cond.methodLink RX9 370 yX9_readsRequest ∈ lw_good := wg 1604 (by decide +kernel) (by decide +kernel)
theorem mlX9_373 : Cond.methodLink RX9 373 yX9_priceOf ∈ lw_good := wg 1608 (by decide +kernel) (by decide +kernel)
theorem mlX9_376 : Cond.methodLink RX9 376 yX9_canServe ∈ lw_good := wg 1612 (by decide +kernel) (by decide +kernel)
theorem mlX9_384 : Cond.methodLink RX9 384 yX9_place ∈ lw_good := wg 1641 (by decide +kernel) (by decide +kernel)
theorem mlX9_387 : Cond.methodLink RX9 387 yX9_isAsSeen ∈ lw_good := wg 1637 (by decide +kernel) (by decide +kernel)
theorem mlX9_390 : Cond.methodLink RX9 390 yX9_fitting ∈ lw_good := wg 1633 (by decide +kernel) (by decide +kernel)
theorem mlX9_395 : Cond.methodLink RX9 395 yX9_isFewer ∈ lw_good := wg 1653 (by decide +kernel) (by decide +kernel)
theorem mlX9_398 : Cond.methodLink RX9 398 yJ9_abs_0f7a4 ∈ lw_good := wg 1664 (by decide +kernel) (by decide +kernel)
theorem mlX9_403 : Cond.methodLink RX9 403 yX9_pile ∈ lw_good := wg 1685 (by decide +kernel) (by decide +kernel)
theorem mlX9_406 : Cond.methodLink RX9 406 yX9_isGood ∈ lw_good := wg 1681 (by decide +kernel) (by decide +kernel)
theorem mlX9_410 : Cond.methodLink RX9 410 yX9_gets ∈ lw_good := wg 1699 (by decide +kernel) (by decide +kernel)
theorem mlX9_413 : Cond.methodLink RX9 413 yX9_isRest ∈ lw_good := wg 1696 (by decide +kernel) (by decide +kernel)
theorem mlX9_421 : Cond.methodLink RX9 421 yX9_draws ∈ lw_good := wg 1706 (by decide +kernel) (by decide +kernel)
theorem mlX9_7 : Cond.methodLink RX9 7 yX9_common ∈ lw_good := wg 1674 (by decide +kernel) (by decide +kernel)
theorem cnJ6_264 : Cond.constant RJ6 264 (65536) ∈ lw_good := wg 1549 (by decide +kernel) (by decide +kernel)
theorem cnJ6_265 : Cond.constant RJ6 265 (1431655765) ∈ lw_good := wg 573 (by decide +kernel) (by decide +kernel)
theorem cnJ6_266 : Cond.constant RJ6 266 (858993459) ∈ lw_good := wg 574 (by decide +kernel) (by decide +kernel)
theorem cnJ6_267 : Cond.constant RJ6 267 (252645135) ∈ lw_good := wg 575 (by decide +kernel) (by decide +kernel)
theorem cnX8_452 : Cond.constant RX8 452 (1103515245) ∈ lw_good := wg 972 (by decide +kernel) (by decide +kernel)
theorem cnX9_163 : Cond.constantLong RX9 163 (48) ∈ lw_good := wg 1309 (by decide +kernel) (by decide +kernel)
theorem cnX9_165 : Cond.constantLong RX9 165 (57) ∈ lw_good := wg 1310 (by decide +kernel) (by decide +kernel)
theorem cnX9_290 : Cond.constantLong RX9 290 (7) ∈ lw_good := wg 1399 (by decide +kernel) (by decide +kernel)
theorem cnX9_295 : Cond.constantLong RX9 295 (3) ∈ lw_good := wg 1429 (by decide +kernel) (by decide +kernel)
theorem cnX9_317 : Cond.constantLong RX9 317 (9) ∈ lw_good := wg 1487 (by decide +kernel) (by decide +kernel)
theorem cnX9_322 : Cond.constantLong RX9 322 (60) ∈ lw_good := wg 1438 (by decide +kernel) (by decide +kernel)
theorem cnX9_346 : Cond.constantLong RX9 346 (99) ∈ lw_good := wg 1524 (by decide +kernel) (by decide +kernel)
theorem cnX9_365 : Cond.constant RX9 365 (1000000) ∈ lw_good := wg 1586 (by decide +kernel) (by decide +kernel)
theorem cnX9_366 : Cond.constant RX9 366 (-1000000) ∈ lw_good := wg 1591 (by decide +kernel) (by decide +kernel)
theorem cnX9_379 : Cond.constantLong RX9 379 (20) ∈ lw_good := wg 1624 (by decide +kernel) (by decide +kernel)
theorem cnX9_393 : Cond.constantLong RX9 393 (72) ∈ lw_good := wg 1652 (by decide +kernel) (by decide +kernel)
theorem cnX9_401 : Cond.constantLong RX9 401 (10) ∈ lw_good := wg 1673 (by decide +kernel) (by decide +kernel)
theorem cnX9_420 : Cond.constant RX9 420 (1103515245) ∈ lw_good := wg 1710 (by decide +kernel) (by decide +kernel)
theorem cnX9_424 : Cond.constantLong RX9 424 (2) ∈ lw_good := wg 1715 (by decide +kernel) (by decide +kernel)
def sB0 : List Int32 := [122, 119, 107, 103, 104, 100, 105, 110]
def sB1 : List Int32 := [60, 62, 61]
def sB2 : List Int32 := [43, 45]
def sB3 : List Int32 := [42, 47]
def sB4 : List Int32 := [110, 112, 116, 108, 103]
theorem gzJ0_1053 : Cond.fieldLink RJ0 1053 "jdk/internal/util/Preconditions" "SIOOBE_FORMATTER" "Ljava/util/function/BiFunction;" ∈ lw_good := wg 1364 (by decide +kernel) (by decide +kernel)
theorem gzJ0_15 : Cond.fieldLink RJ0 15 "java/lang/String" "coder" "B" ∈ lw_good := wg 1743 (by decide +kernel) (by decide +kernel)
theorem gzJ0_38 : Cond.fieldLink RJ0 38 "java/lang/String" "COMPACT_STRINGS" "Z" ∈ lw_good := wg 1348 (by decide +kernel) (by decide +kernel)
theorem gzJ0_9 : Cond.fieldLink RJ0 9 "java/lang/String" "value" "[B" ∈ lw_good := wg 1742 (by decide +kernel) (by decide +kernel)
theorem gsX3_77 : Cond.fieldLink RX3 77 (oN 1001).1 (oN 1001).2.1 (oN 1001).2.2 ∈ lw_good := wg 184 (by decide +kernel) (by decide +kernel)
theorem gsX8_377 : Cond.fieldLink RX8 377 (oN 1002).1 (oN 1002).2.1 (oN 1002).2.2 ∈ lw_good := wg 947 (by decide +kernel) (by decide +kernel)
theorem gsX8_380 : Cond.fieldLink RX8 380 (oN 1003).1 (oN 1003).2.1 (oN 1003).2.2 ∈ lw_good := wg 949 (by decide +kernel) (by decide +kernel)
theorem gsX8_424 : Cond.fieldLink RX8 424 (oN 1000).1 (oN 1000).2.1 (oN 1000).2.2 ∈ lw_good := wg 552 (by decide +kernel) (by decide +kernel)
theorem ceJ0_charAt_5068e : Ce yJ0_charAt_5068e cJ0_charAt_5068e 2 (some .char) 1 := ⟨wg 97 (by decide +kernel) (by decide +kernel), wg 1353 (by decide +kernel) (by decide +kernel), by decide +kernel, by decide⟩
theorem cvJ0_charAt_5068e : CeV yJ0_charAt_5068e := ⟨wg 1351 (by decide +kernel) (by decide +kernel), wg 1352 (by decide +kernel) (by decide +kernel)⟩
theorem ceJ0_checkIndex_df160 : Ce yJ0_checkIndex_df160 cJ0_checkIndex_df160 2 none 2 := ⟨wg 97 (by decide +kernel) (by decide +kernel), wg 1363 (by decide +kernel) (by decide +kernel), by decide +kernel, by decide⟩
theorem csJ0_checkIndex_df160 : CeS yJ0_checkIndex_df160 := wg 1362 (by decide +kernel) (by decide +kernel)
theorem ceJ0_coder_7d493 : Ce yJ0_coder_7d493 cJ0_coder_7d493 1 (some .byte) 0 := ⟨wg 97 (by decide +kernel) (by decide +kernel), wg 1347 (by decide +kernel) (by decide +kernel), by decide +kernel, by decide⟩
theorem cvJ0_coder_7d493 : CeV yJ0_coder_7d493 := ⟨wg 1345 (by decide +kernel) (by decide +kernel), wg 1346 (by decide +kernel) (by decide +kernel)⟩
theorem ceJ0_isLatin1_aae02 : Ce yJ0_isLatin1_aae02 cJ0_isLatin1_aae02 1 (some .boolean) 0 := ⟨wg 97 (by decide +kernel) (by decide +kernel), wg 1357 (by decide +kernel) (by decide +kernel), by decide +kernel, by decide⟩
theorem cvJ0_isLatin1_aae02 : CeV yJ0_isLatin1_aae02 := ⟨wg 1355 (by decide +kernel) (by decide +kernel), wg 1356 (by decide +kernel) (by decide +kernel)⟩
theorem ceJ0_length_8abf5 : Ce yJ0_length_8abf5 cJ0_length_8abf5 1 (some .int) 0 := ⟨wg 97 (by decide +kernel) (by decide +kernel), wg 1343 (by decide +kernel) (by decide +kernel), by decide +kernel, by decide⟩
theorem cvJ0_length_8abf5 : CeV yJ0_length_8abf5 := ⟨wg 1341 (by decide +kernel) (by decide +kernel), wg 1342 (by decide +kernel) (by decide +kernel)⟩
theorem ceJ1_charAt_3b067 : Ce yJ1_charAt_3b067 cJ1_charAt_3b067 2 (some .char) 2 := ⟨wg 98 (by decide +kernel) (by decide +kernel), wg 1360 (by decide +kernel) (by decide +kernel), by decide +kernel, by decide⟩
theorem csJ1_charAt_3b067 : CeS yJ1_charAt_3b067 := wg 1359 (by decide +kernel) (by decide +kernel)
theorem ceJ3_checkIndex_8e157 : Ce yJ3_checkIndex_8e157 cJ3_checkIndex_8e157 3 (some .int) 3 := ⟨wg 99 (by decide +kernel) (by decide +kernel), wg 1368 (by decide +kernel) (by decide +kernel), by decide +kernel, by decide⟩
theorem csJ3_checkIndex_8e157 : CeS yJ3_checkIndex_8e157 := wg 1367 (by decide +kernel) (by decide +kernel)
theorem ceJ6_bitCount_0f7a4 : Ce yJ6_bitCount_0f7a4 cJ6_bitCount_0f7a4 1 (some .int) 1 := ⟨wg 105 (by decide +kernel) (by decide +kernel), wg 572 (by decide +kernel) (by decide +kernel), by decide +kernel, by decide⟩
theorem csJ6_bitCount_0f7a4 : CeS yJ6_bitCount_0f7a4 := wg 571 (by decide +kernel) (by decide +kernel)
theorem ceJ6_numberOfTrailingZeros_0f7a4 : Ce yJ6_numberOfTrailingZeros_0f7a4 cJ6_numberOfTrailingZeros_0f7a4 2 (some .int) 1 := ⟨wg 105 (by decide +kernel) (by decide +kernel), wg 1548 (by decide +kernel) (by decide +kernel), by decide +kernel, by decide⟩
theorem csJ6_numberOfTrailingZeros_0f7a4 : CeS yJ6_numberOfTrailingZeros_0f7a4 := wg 1547 (by decide +kernel) (by decide +kernel)
theorem ceJ9_abs_0f7a4 : Ce yJ9_abs_0f7a4 cJ9_abs_0f7a4 1 (some .int) 1 := ⟨wg 91 (by decide +kernel) (by decide +kernel), wg 904 (by decide +kernel) (by decide +kernel), by decide +kernel, by decide⟩
theorem csJ9_abs_0f7a4 : CeS yJ9_abs_0f7a4 := wg 903 (by decide +kernel) (by decide +kernel)
theorem ceJ9_floorMod_7cf53 : Ce yJ9_floorMod_7cf53 cJ9_floorMod_7cf53 3 (some .int) 2 := ⟨wg 91 (by decide +kernel) (by decide +kernel), wg 594 (by decide +kernel) (by decide +kernel), by decide +kernel, by decide⟩
theorem csJ9_floorMod_7cf53 : CeS yJ9_floorMod_7cf53 := wg 593 (by decide +kernel) (by decide +kernel)
theorem ceJ9_max_7cf53 : Ce yJ9_max_7cf53 cJ9_max_7cf53 2 (some .int) 2 := ⟨wg 91 (by decide +kernel) (by decide +kernel), wg 207 (by decide +kernel) (by decide +kernel), by decide +kernel, by decide⟩
theorem csJ9_max_7cf53 : CeS yJ9_max_7cf53 := wg 206 (by decide +kernel) (by decide +kernel)
theorem ceJ9_min_7cf53 : Ce yJ9_min_7cf53 cJ9_min_7cf53 2 (some .int) 2 := ⟨wg 91 (by decide +kernel) (by decide +kernel), wg 167 (by decide +kernel) (by decide +kernel), by decide +kernel, by decide⟩
theorem csJ9_min_7cf53 : CeS yJ9_min_7cf53 := wg 166 (by decide +kernel) (by decide +kernel)
theorem ceX0_addThing : Ce yX0_addThing cX0_addThing 2 none 1 := ⟨wg 89 (by decide +kernel) (by decide +kernel), wg 475 (by decide +kernel) (by decide +kernel), by decide +kernel, by decide⟩
theorem cvX0_addThing : CeV yX0_addThing := ⟨wg 473 (by decide +kernel) (by decide +kernel), wg 474 (by decide +kernel) (by decide +kernel)⟩
theorem ceX0_adoptDraft : Ce yX0_adoptDraft cX0_adoptDraft 2 none 0 := ⟨wg 89 (by decide +kernel) (by decide +kernel), wg 557 (by decide +kernel) (by decide +kernel), by decide +kernel, by decide⟩
theorem cvX0_adoptDraft : CeV yX0_adoptDraft := ⟨wg 555 (by decide +kernel) (by decide +kernel), wg 556 (by decide +kernel) (by decide +kernel)⟩
theorem ceX0_everything : Ce yX0_everything cX0_everything 1 (some .int) 0 := ⟨wg 89 (by decide +kernel) (by decide +kernel), wg 615 (by decide +kernel) (by decide +kernel), by decide +kernel, by decide⟩
theorem cvX0_everything : CeV yX0_everything := ⟨wg 613 (by decide +kernel) (by decide +kernel), wg 614 (by decide +kernel) (by decide +kernel)⟩
theorem ceX0_excess : Ce yX0_excess cX0_excess 3 (some .int) 2 := ⟨wg 89 (by decide +kernel) (by decide +kernel), wg 623 (by decide +kernel) (by decide +kernel), by decide +kernel, by decide⟩
theorem cvX0_excess : CeV yX0_excess := ⟨wg 621 (by decide +kernel) (by decide +kernel), wg 622 (by decide +kernel) (by decide +kernel)⟩
theorem ceX0_floating : Ce yX0_floating cX0_floating 5 (some .int) 2 := ⟨wg 89 (by decide +kernel) (by decide +kernel), wg 583 (by decide +kernel) (by decide +kernel), by decide +kernel, by decide⟩
theorem cvX0_floating : CeV yX0_floating := ⟨wg 581 (by decide +kernel) (by decide +kernel), wg 582 (by decide +kernel) (by decide +kernel)⟩
theorem ceX0_isThing : Ce yX0_isThing cX0_isThing 2 (some .boolean) 1 := ⟨wg 89 (by decide +kernel) (by decide +kernel), wg 499 (by decide +kernel) (by decide +kernel), by decide +kernel, by decide⟩
theorem cvX0_isThing : CeV yX0_isThing := ⟨wg 497 (by decide +kernel) (by decide +kernel), wg 498 (by decide +kernel) (by decide +kernel)⟩
theorem ceX0_lend : Ce yX0_lend cX0_lend 4 (some .int) 3 := ⟨wg 89 (by decide +kernel) (by decide +kernel), wg 663 (by decide +kernel) (by decide +kernel), by decide +kernel, by decide⟩
theorem cvX0_lend : CeV yX0_lend := ⟨wg 661 (by decide +kernel) (by decide +kernel), wg 662 (by decide +kernel) (by decide +kernel)⟩
theorem ceX0_needOf : Ce yX0_needOf cX0_needOf 4 (some .int) 1 := ⟨wg 89 (by decide +kernel) (by decide +kernel), wg 631 (by decide +kernel) (by decide +kernel), by decide +kernel, by decide⟩
theorem cvX0_needOf : CeV yX0_needOf := ⟨wg 629 (by decide +kernel) (by decide +kernel), wg 630 (by decide +kernel) (by decide +kernel)⟩
theorem ceX0_part : Ce yX0_part cX0_part 5 none 1 := ⟨wg 89 (by decide +kernel) (by decide +kernel), wg 607 (by decide +kernel) (by decide +kernel), by decide +kernel, by decide⟩
theorem cvX0_part : CeV yX0_part := ⟨wg 605 (by decide +kernel) (by decide +kernel), wg 606 (by decide +kernel) (by decide +kernel)⟩
theorem ceX0_passHour : Ce yX0_passHour cX0_passHour 5 (some .int) 2 := ⟨wg 89 (by decide +kernel) (by decide +kernel), wg 635 (by decide +kernel) (by decide +kernel), by decide +kernel, by decide⟩
theorem cvX0_passHour : CeV yX0_passHour := ⟨wg 633 (by decide +kernel) (by decide +kernel), wg 634 (by decide +kernel) (by decide +kernel)⟩
theorem ceX0_passHours : Ce yX0_passHours cX0_passHours 5 (some .int) 2 := ⟨wg 89 (by decide +kernel) (by decide +kernel), wg 579 (by decide +kernel) (by decide +kernel), by decide +kernel, by decide⟩
theorem cvX0_passHours : CeV yX0_passHours := ⟨wg 577 (by decide +kernel) (by decide +kernel), wg 578 (by decide +kernel) (by decide +kernel)⟩
theorem ceX0_present : Ce yX0_present cX0_present 2 (some .int) 1 := ⟨wg 89 (by decide +kernel) (by decide +kernel), wg 611 (by decide +kernel) (by decide +kernel), by decide +kernel, by decide⟩
theorem cvX0_present : CeV yX0_present := ⟨wg 609 (by decide +kernel) (by decide +kernel), wg 610 (by decide +kernel) (by decide +kernel)⟩
theorem ceX0_setSizes : Ce yX0_setSizes cX0_setSizes 8 (some .int) 4 := ⟨wg 89 (by decide +kernel) (by decide +kernel), wg 565 (by decide +kernel) (by decide +kernel), by decide +kernel, by decide⟩
theorem cvX0_setSizes : CeV yX0_setSizes := ⟨wg 563 (by decide +kernel) (by decide +kernel), wg 564 (by decide +kernel) (by decide +kernel)⟩
theorem ceX0_setWinds : Ce yX0_setWinds cX0_setWinds 3 none 1 := ⟨wg 89 (by decide +kernel) (by decide +kernel), wg 540 (by decide +kernel) (by decide +kernel), by decide +kernel, by decide⟩
theorem cvX0_setWinds : CeV yX0_setWinds := ⟨wg 538 (by decide +kernel) (by decide +kernel), wg 539 (by decide +kernel) (by decide +kernel)⟩
theorem ceX0_takeBack : Ce yX0_takeBack cX0_takeBack 4 (some .int) 3 := ⟨wg 89 (by decide +kernel) (by decide +kernel), wg 677 (by decide +kernel) (by decide +kernel), by decide +kernel, by decide⟩
theorem cvX0_takeBack : CeV yX0_takeBack := ⟨wg 675 (by decide +kernel) (by decide +kernel), wg 676 (by decide +kernel) (by decide +kernel)⟩
theorem ceX0_takeDebt : Ce yX0_takeDebt cX0_takeDebt 4 (some .int) 2 := ⟨wg 89 (by decide +kernel) (by decide +kernel), wg 699 (by decide +kernel) (by decide +kernel), by decide +kernel, by decide⟩
theorem cvX0_takeDebt : CeV yX0_takeDebt := ⟨wg 697 (by decide +kernel) (by decide +kernel), wg 698 (by decide +kernel) (by decide +kernel)⟩
theorem ceX0_tieOrCut : Ce yX0_tieOrCut cX0_tieOrCut 4 (some .int) 3 := ⟨wg 89 (by decide +kernel) (by decide +kernel), wg 685 (by decide +kernel) (by decide +kernel), by decide +kernel, by decide⟩
theorem cvX0_tieOrCut : CeV yX0_tieOrCut := ⟨wg 683 (by decide +kernel) (by decide +kernel), wg 684 (by decide +kernel) (by decide +kernel)⟩
theorem ceX0_weigh : Ce yX0_weigh cX0_weigh 4 none 2 := ⟨wg 89 (by decide +kernel) (by decide +kernel), wg 587 (by decide +kernel) (by decide +kernel), by decide +kernel, by decide⟩
theorem cvX0_weigh : CeV yX0_weigh := ⟨wg 585 (by decide +kernel) (by decide +kernel), wg 586 (by decide +kernel) (by decide +kernel)⟩
theorem ceX0_windAt : Ce yX0_windAt cX0_windAt 2 (some .int) 1 := ⟨wg 89 (by decide +kernel) (by decide +kernel), wg 591 (by decide +kernel) (by decide +kernel), by decide +kernel, by decide⟩
theorem cvX0_windAt : CeV yX0_windAt := ⟨wg 589 (by decide +kernel) (by decide +kernel), wg 590 (by decide +kernel) (by decide +kernel)⟩
theorem ceX1_bringBack : Ce yX1_bringBack cX1_bringBack 2 (some .int) 1 := ⟨wg 93 (by decide +kernel) (by decide +kernel), wg 726 (by decide +kernel) (by decide +kernel), by decide +kernel, by decide⟩
theorem cvX1_bringBack : CeV yX1_bringBack := ⟨wg 724 (by decide +kernel) (by decide +kernel), wg 725 (by decide +kernel) (by decide +kernel)⟩
theorem ceX1_clear : Ce yX1_clear cX1_clear 1 none 0 := ⟨wg 93 (by decide +kernel) (by decide +kernel), wg 479 (by decide +kernel) (by decide +kernel), by decide +kernel, by decide⟩
theorem cvX1_clear : CeV yX1_clear := ⟨wg 477 (by decide +kernel) (by decide +kernel), wg 478 (by decide +kernel) (by decide +kernel)⟩
theorem ceX1_commit : Ce yX1_commit cX1_commit 1 none 0 := ⟨wg 93 (by decide +kernel) (by decide +kernel), wg 527 (by decide +kernel) (by decide +kernel), by decide +kernel, by decide⟩
theorem cvX1_commit : CeV yX1_commit := ⟨wg 525 (by decide +kernel) (by decide +kernel), wg 526 (by decide +kernel) (by decide +kernel)⟩
theorem ceX1_draw : Ce yX1_draw cX1_draw 2 none 1 := ⟨wg 93 (by decide +kernel) (by decide +kernel), wg 507 (by decide +kernel) (by decide +kernel), by decide +kernel, by decide⟩
theorem cvX1_draw : CeV yX1_draw := ⟨wg 505 (by decide +kernel) (by decide +kernel), wg 506 (by decide +kernel) (by decide +kernel)⟩
theorem ceX1_settle : Ce yX1_settle cX1_settle 2 (some .int) 1 := ⟨wg 93 (by decide +kernel) (by decide +kernel), wg 668 (by decide +kernel) (by decide +kernel), by decide +kernel, by decide⟩
theorem cvX1_settle : CeV yX1_settle := ⟨wg 666 (by decide +kernel) (by decide +kernel), wg 667 (by decide +kernel) (by decide +kernel)⟩
theorem ceX2_add : Ce yX2_add cX2_add 3 none 1 := ⟨wg 88 (by decide +kernel) (by decide +kernel), wg 654 (by decide +kernel) (by decide +kernel), by decide +kernel, by decide⟩
theorem cvX2_add : CeV yX2_add := ⟨wg 652 (by decide +kernel) (by decide +kernel), wg 653 (by decide +kernel) (by decide +kernel)⟩
theorem ceX2_clear : Ce yX2_clear cX2_clear 1 none 0 := ⟨wg 88 (by decide +kernel) (by decide +kernel), wg 650 (by decide +kernel) (by decide +kernel), by decide +kernel, by decide⟩
theorem cvX2_clear : CeV yX2_clear := ⟨wg 648 (by decide +kernel) (by decide +kernel), wg 649 (by decide +kernel) (by decide +kernel)⟩
theorem ceX2_tell : Ce yX2_tell cX2_tell 3 none 1 := ⟨wg 88 (by decide +kernel) (by decide +kernel), wg 756 (by decide +kernel) (by decide +kernel), by decide +kernel, by decide⟩
theorem cvX2_tell : CeV yX2_tell := ⟨wg 754 (by decide +kernel) (by decide +kernel), wg 755 (by decide +kernel) (by decide +kernel)⟩
theorem ceX2_tell_ : Ce yX2_tell_ cX2_tell_ 5 none 2 := ⟨wg 88 (by decide +kernel) (by decide +kernel), wg 646 (by decide +kernel) (by decide +kernel), by decide +kernel, by decide⟩
theorem cvX2_tell_ : CeV yX2_tell_ := ⟨wg 644 (by decide +kernel) (by decide +kernel), wg 645 (by decide +kernel) (by decide +kernel)⟩
theorem ceX3_close : Ce yX3_close cX3_close 1 (some .boolean) 0 := ⟨wg 90 (by decide +kernel) (by decide +kernel), wg 197 (by decide +kernel) (by decide +kernel), by decide +kernel, by decide⟩
theorem cvX3_close : CeV yX3_close := ⟨wg 196 (by decide +kernel) (by decide +kernel), wg 6 (by decide +kernel) (by decide +kernel)⟩
theorem ceX3_combine : Ce yX3_combine cX3_combine 3 (some .int) 3 := ⟨wg 90 (by decide +kernel) (by decide +kernel), wg 603 (by decide +kernel) (by decide +kernel), by decide +kernel, by decide⟩
theorem csX3_combine : CeS yX3_combine := wg 602 (by decide +kernel) (by decide +kernel)
theorem ceX3_compile : Ce yX3_compile cX3_compile 6 (some .int) 2 := ⟨wg 90 (by decide +kernel) (by decide +kernel), wg 164 (by decide +kernel) (by decide +kernel), by decide +kernel, by decide⟩
theorem cvX3_compile : CeV yX3_compile := ⟨wg 162 (by decide +kernel) (by decide +kernel), wg 163 (by decide +kernel) (by decide +kernel)⟩
theorem ceX3_emit : Ce yX3_emit cX3_emit 2 none 1 := ⟨wg 90 (by decide +kernel) (by decide +kernel), wg 183 (by decide +kernel) (by decide +kernel), by decide +kernel, by decide⟩
theorem cvX3_emit : CeV yX3_emit := ⟨wg 182 (by decide +kernel) (by decide +kernel), wg 3 (by decide +kernel) (by decide +kernel)⟩
theorem ceX3_hold : Ce yX3_hold cX3_hold 2 none 1 := ⟨wg 90 (by decide +kernel) (by decide +kernel), wg 175 (by decide +kernel) (by decide +kernel), by decide +kernel, by decide⟩
theorem cvX3_hold : CeV yX3_hold := ⟨wg 174 (by decide +kernel) (by decide +kernel), wg 1 (by decide +kernel) (by decide +kernel)⟩
theorem ceX3_lengthen : Ce yX3_lengthen cX3_lengthen 2 (some .boolean) 1 := ⟨wg 90 (by decide +kernel) (by decide +kernel), wg 193 (by decide +kernel) (by decide +kernel), by decide +kernel, by decide⟩
theorem cvX3_lengthen : CeV yX3_lengthen := ⟨wg 192 (by decide +kernel) (by decide +kernel), wg 5 (by decide +kernel) (by decide +kernel)⟩
theorem ceX3_open : Ce yX3_open cX3_open 1 (some .boolean) 0 := ⟨wg 90 (by decide +kernel) (by decide +kernel), wg 179 (by decide +kernel) (by decide +kernel), by decide +kernel, by decide⟩
theorem cvX3_open : CeV yX3_open := ⟨wg 178 (by decide +kernel) (by decide +kernel), wg 2 (by decide +kernel) (by decide +kernel)⟩
theorem ceX3_release : Ce yX3_release cX3_release 3 none 1 := ⟨wg 90 (by decide +kernel) (by decide +kernel), wg 201 (by decide +kernel) (by decide +kernel), by decide +kernel, by decide⟩
theorem cvX3_release : CeV yX3_release := ⟨wg 200 (by decide +kernel) (by decide +kernel), wg 7 (by decide +kernel) (by decide +kernel)⟩
theorem ceX3_strengthOf : Ce yX3_strengthOf cX3_strengthOf 1 (some .int) 1 := ⟨wg 90 (by decide +kernel) (by decide +kernel), wg 204 (by decide +kernel) (by decide +kernel), by decide +kernel, by decide⟩
theorem csX3_strengthOf : CeS yX3_strengthOf := wg 203 (by decide +kernel) (by decide +kernel)
theorem ceX3_takeBehind : Ce yX3_takeBehind cX3_takeBehind 3 (some .boolean) 1 := ⟨wg 90 (by decide +kernel) (by decide +kernel), wg 189 (by decide +kernel) (by decide +kernel), by decide +kernel, by decide⟩
theorem cvX3_takeBehind : CeV yX3_takeBehind := ⟨wg 188 (by decide +kernel) (by decide +kernel), wg 4 (by decide +kernel) (by decide +kernel)⟩
theorem ceX3_takeThing : Ce yX3_takeThing cX3_takeThing 3 (some .boolean) 1 := ⟨wg 90 (by decide +kernel) (by decide +kernel), wg 171 (by decide +kernel) (by decide +kernel), by decide +kernel, by decide⟩
theorem cvX3_takeThing : CeV yX3_takeThing := ⟨wg 170 (by decide +kernel) (by decide +kernel), wg 0 (by decide +kernel) (by decide +kernel)⟩
theorem ceX3_valueOf : Ce yX3_valueOf cX3_valueOf 5 (some .int) 1 := ⟨wg 90 (by decide +kernel) (by decide +kernel), wg 600 (by decide +kernel) (by decide +kernel), by decide +kernel, by decide⟩
theorem cvX3_valueOf : CeV yX3_valueOf := ⟨wg 598 (by decide +kernel) (by decide +kernel), wg 599 (by decide +kernel) (by decide +kernel)⟩
theorem ceX4_clear : Ce yX4_clear cX4_clear 1 none 0 := ⟨wg 94 (by decide +kernel) (by decide +kernel), wg 483 (by decide +kernel) (by decide +kernel), by decide +kernel, by decide⟩
theorem cvX4_clear : CeV yX4_clear := ⟨wg 481 (by decide +kernel) (by decide +kernel), wg 482 (by decide +kernel) (by decide +kernel)⟩
theorem ceX4_fetch : Ce yX4_fetch cX4_fetch 3 (some .boolean) 2 := ⟨wg 94 (by decide +kernel) (by decide +kernel), wg 992 (by decide +kernel) (by decide +kernel), by decide +kernel, by decide⟩
theorem cvX4_fetch : CeV yX4_fetch := ⟨wg 990 (by decide +kernel) (by decide +kernel), wg 991 (by decide +kernel) (by decide +kernel)⟩
theorem ceX4_put : Ce yX4_put cX4_put 3 (some .boolean) 2 := ⟨wg 94 (by decide +kernel) (by decide +kernel), wg 983 (by decide +kernel) (by decide +kernel), by decide +kernel, by decide⟩
theorem cvX4_put : CeV yX4_put := ⟨wg 981 (by decide +kernel) (by decide +kernel), wg 982 (by decide +kernel) (by decide +kernel)⟩
theorem ceX5_become : Ce yX5_become cX5_become 3 none 1 := ⟨wg 92 (by decide +kernel) (by decide +kernel), wg 511 (by decide +kernel) (by decide +kernel), by decide +kernel, by decide⟩
theorem cvX5_become : CeV yX5_become := ⟨wg 509 (by decide +kernel) (by decide +kernel), wg 510 (by decide +kernel) (by decide +kernel)⟩
theorem ceX5_bundleOf : Ce yX5_bundleOf cX5_bundleOf 7 (some .int) 1 := ⟨wg 92 (by decide +kernel) (by decide +kernel), wg 619 (by decide +kernel) (by decide +kernel), by decide +kernel, by decide⟩
theorem cvX5_bundleOf : CeV yX5_bundleOf := ⟨wg 617 (by decide +kernel) (by decide +kernel), wg 618 (by decide +kernel) (by decide +kernel)⟩
theorem ceX5_cutAll : Ce yX5_cutAll cX5_cutAll 2 none 0 := ⟨wg 92 (by decide +kernel) (by decide +kernel), wg 932 (by decide +kernel) (by decide +kernel), by decide +kernel, by decide⟩
theorem cvX5_cutAll : CeV yX5_cutAll := ⟨wg 930 (by decide +kernel) (by decide +kernel), wg 931 (by decide +kernel) (by decide +kernel)⟩
theorem ceX5_isGone : Ce yX5_isGone cX5_isGone 2 (some .boolean) 1 := ⟨wg 92 (by decide +kernel) (by decide +kernel), wg 503 (by decide +kernel) (by decide +kernel), by decide +kernel, by decide⟩
theorem cvX5_isGone : CeV yX5_isGone := ⟨wg 501 (by decide +kernel) (by decide +kernel), wg 502 (by decide +kernel) (by decide +kernel)⟩
theorem ceX5_isTied : Ce yX5_isTied cX5_isTied 3 (some .boolean) 2 := ⟨wg 92 (by decide +kernel) (by decide +kernel), wg 519 (by decide +kernel) (by decide +kernel), by decide +kernel, by decide⟩
theorem cvX5_isTied : CeV yX5_isTied := ⟨wg 517 (by decide +kernel) (by decide +kernel), wg 518 (by decide +kernel) (by decide +kernel)⟩
theorem ceX5_lose : Ce yX5_lose cX5_lose 4 (some .int) 1 := ⟨wg 92 (by decide +kernel) (by decide +kernel), wg 639 (by decide +kernel) (by decide +kernel), by decide +kernel, by decide⟩
theorem cvX5_lose : CeV yX5_lose := ⟨wg 637 (by decide +kernel) (by decide +kernel), wg 638 (by decide +kernel) (by decide +kernel)⟩
theorem ceX5_stonesOf : Ce yX5_stonesOf cX5_stonesOf 4 (some .int) 1 := ⟨wg 92 (by decide +kernel) (by decide +kernel), wg 627 (by decide +kernel) (by decide +kernel), by decide +kernel, by decide⟩
theorem cvX5_stonesOf : CeV yX5_stonesOf := ⟨wg 625 (by decide +kernel) (by decide +kernel), wg 626 (by decide +kernel) (by decide +kernel)⟩
theorem ceX5_stringCount : Ce yX5_stringCount cX5_stringCount 3 (some .int) 0 := ⟨wg 92 (by decide +kernel) (by decide +kernel), wg 690 (by decide +kernel) (by decide +kernel), by decide +kernel, by decide⟩
theorem cvX5_stringCount : CeV yX5_stringCount := ⟨wg 688 (by decide +kernel) (by decide +kernel), wg 689 (by decide +kernel) (by decide +kernel)⟩
theorem ceX5_toggle : Ce yX5_toggle cX5_toggle 3 none 2 := ⟨wg 92 (by decide +kernel) (by decide +kernel), wg 523 (by decide +kernel) (by decide +kernel), by decide +kernel, by decide⟩
theorem cvX5_toggle : CeV yX5_toggle := ⟨wg 521 (by decide +kernel) (by decide +kernel), wg 522 (by decide +kernel) (by decide +kernel)⟩
theorem ceX6_add : Ce yX6_add cX6_add 3 (some .int) 1 := ⟨wg 87 (by decide +kernel) (by decide +kernel), wg 445 (by decide +kernel) (by decide +kernel), by decide +kernel, by decide⟩
theorem cvX6_add : CeV yX6_add := ⟨wg 443 (by decide +kernel) (by decide +kernel), wg 444 (by decide +kernel) (by decide +kernel)⟩
theorem ceX6_at : Ce yX6_at cX6_at 2 (some .char) 1 := ⟨wg 87 (by decide +kernel) (by decide +kernel), wg 466 (by decide +kernel) (by decide +kernel), by decide +kernel, by decide⟩
theorem cvX6_at : CeV yX6_at := ⟨wg 464 (by decide +kernel) (by decide +kernel), wg 465 (by decide +kernel) (by decide +kernel)⟩
theorem ceX6_clear : Ce yX6_clear cX6_clear 1 none 0 := ⟨wg 87 (by decide +kernel) (by decide +kernel), wg 487 (by decide +kernel) (by decide +kernel), by decide +kernel, by decide⟩
theorem cvX6_clear : CeV yX6_clear := ⟨wg 485 (by decide +kernel) (by decide +kernel), wg 486 (by decide +kernel) (by decide +kernel)⟩
theorem ceX6_cut : Ce yX6_cut cX6_cut 2 (some .boolean) 1 := ⟨wg 87 (by decide +kernel) (by decide +kernel), wg 453 (by decide +kernel) (by decide +kernel), by decide +kernel, by decide⟩
theorem cvX6_cut : CeV yX6_cut := ⟨wg 451 (by decide +kernel) (by decide +kernel), wg 452 (by decide +kernel) (by decide +kernel)⟩
theorem ceX6_digitAt : Ce yX6_digitAt cX6_digitAt 3 (some .int) 1 := ⟨wg 87 (by decide +kernel) (by decide +kernel), wg 470 (by decide +kernel) (by decide +kernel), by decide +kernel, by decide⟩
theorem cvX6_digitAt : CeV yX6_digitAt := ⟨wg 468 (by decide +kernel) (by decide +kernel), wg 469 (by decide +kernel) (by decide +kernel)⟩
theorem ceX7_agrees : Ce yX7_agrees cX7_agrees 3 (some .boolean) 0 := ⟨wg 95 (by decide +kernel) (by decide +kernel), wg 878 (by decide +kernel) (by decide +kernel), by decide +kernel, by decide⟩
theorem cvX7_agrees : CeV yX7_agrees := ⟨wg 876 (by decide +kernel) (by decide +kernel), wg 877 (by decide +kernel) (by decide +kernel)⟩
theorem ceX7_countFloating : Ce yX7_countFloating cX7_countFloating 6 (some .int) 3 := ⟨wg 95 (by decide +kernel) (by decide +kernel), wg 886 (by decide +kernel) (by decide +kernel), by decide +kernel, by decide⟩
theorem cvX7_countFloating : CeV yX7_countFloating := ⟨wg 884 (by decide +kernel) (by decide +kernel), wg 885 (by decide +kernel) (by decide +kernel)⟩
theorem ceX7_look : Ce yX7_look cX7_look 6 none 4 := ⟨wg 95 (by decide +kernel) (by decide +kernel), wg 871 (by decide +kernel) (by decide +kernel), by decide +kernel, by decide⟩
theorem cvX7_look : CeV yX7_look := ⟨wg 869 (by decide +kernel) (by decide +kernel), wg 870 (by decide +kernel) (by decide +kernel)⟩
theorem ceX7_note : Ce yX7_note cX7_note 4 (some .int) 3 := ⟨wg 95 (by decide +kernel) (by decide +kernel), wg 855 (by decide +kernel) (by decide +kernel), by decide +kernel, by decide⟩
theorem cvX7_note : CeV yX7_note := ⟨wg 853 (by decide +kernel) (by decide +kernel), wg 854 (by decide +kernel) (by decide +kernel)⟩
theorem ceX8_act : Ce yX8_act cX8_act 4 (some .int) 1 := ⟨wg 86 (by decide +kernel) (by decide +kernel), wg 718 (by decide +kernel) (by decide +kernel), by decide +kernel, by decide⟩
theorem cvX8_act : CeV yX8_act := ⟨wg 717 (by decide +kernel) (by decide +kernel), wg 14 (by decide +kernel) (by decide +kernel)⟩
theorem ceX8_canServe : Ce yX8_canServe cX8_canServe 8 (some .boolean) 2 := ⟨wg 86 (by decide +kernel) (by decide +kernel), wg 843 (by decide +kernel) (by decide +kernel), by decide +kernel, by decide⟩
theorem cvX8_canServe : CeV yX8_canServe := ⟨wg 842 (by decide +kernel) (by decide +kernel), wg 27 (by decide +kernel) (by decide +kernel)⟩
theorem ceX8_canStandInRequest : Ce yX8_canStandInRequest cX8_canStandInRequest 2 (some .boolean) 1 := ⟨wg 86 (by decide +kernel) (by decide +kernel), wg 835 (by decide +kernel) (by decide +kernel), by decide +kernel, by decide⟩
theorem cvX8_canStandInRequest : CeV yX8_canStandInRequest := ⟨wg 834 (by decide +kernel) (by decide +kernel), wg 25 (by decide +kernel) (by decide +kernel)⟩
theorem ceX8_clearShares : Ce yX8_clearShares cX8_clearShares 2 none 0 := ⟨wg 86 (by decide +kernel) (by decide +kernel), wg 777 (by decide +kernel) (by decide +kernel), by decide +kernel, by decide⟩
theorem cvX8_clearShares : CeV yX8_clearShares := ⟨wg 776 (by decide +kernel) (by decide +kernel), wg 16 (by decide +kernel) (by decide +kernel)⟩
theorem ceX8_commonDivisor : Ce yX8_commonDivisor cX8_commonDivisor 11 (some .long) 2 := ⟨wg 86 (by decide +kernel) (by decide +kernel), wg 938 (by decide +kernel) (by decide +kernel), by decide +kernel, by decide⟩
theorem csX8_commonDivisor : CeS yX8_commonDivisor := wg 937 (by decide +kernel) (by decide +kernel)
theorem ceX8_digitsBehind : Ce yX8_digitsBehind cX8_digitsBehind 1 (some .int) 1 := ⟨wg 86 (by decide +kernel) (by decide +kernel), wg 714 (by decide +kernel) (by decide +kernel), by decide +kernel, by decide⟩
theorem csX8_digitsBehind : CeS yX8_digitsBehind := wg 713 (by decide +kernel) (by decide +kernel)
theorem ceX8_drawn : Ce yX8_drawn cX8_drawn 2 (some .int) 2 := ⟨wg 86 (by decide +kernel) (by decide +kernel), wg 975 (by decide +kernel) (by decide +kernel), by decide +kernel, by decide⟩
theorem csX8_drawn : CeS yX8_drawn := wg 974 (by decide +kernel) (by decide +kernel)
theorem ceX8_excessOf : Ce yX8_excessOf cX8_excessOf 2 (some .int) 1 := ⟨wg 86 (by decide +kernel) (by decide +kernel), wg 916 (by decide +kernel) (by decide +kernel), by decide +kernel, by decide⟩
theorem cvX8_excessOf : CeV yX8_excessOf := ⟨wg 915 (by decide +kernel) (by decide +kernel), wg 30 (by decide +kernel) (by decide +kernel)⟩
theorem ceX8_excessOfBundles : Ce yX8_excessOfBundles cX8_excessOfBundles 4 (some .int) 1 := ⟨wg 86 (by decide +kernel) (by decide +kernel), wg 806 (by decide +kernel) (by decide +kernel), by decide +kernel, by decide⟩
theorem cvX8_excessOfBundles : CeV yX8_excessOfBundles := ⟨wg 805 (by decide +kernel) (by decide +kernel), wg 20 (by decide +kernel) (by decide +kernel)⟩
theorem ceX8_faultOfNight : Ce yX8_faultOfNight cX8_faultOfNight 6 (some .int) 0 := ⟨wg 86 (by decide +kernel) (by decide +kernel), wg 711 (by decide +kernel) (by decide +kernel), by decide +kernel, by decide⟩
theorem cvX8_faultOfNight : CeV yX8_faultOfNight := ⟨wg 710 (by decide +kernel) (by decide +kernel), wg 13 (by decide +kernel) (by decide +kernel)⟩
theorem ceX8_faultOfRequests : Ce yX8_faultOfRequests cX8_faultOfRequests 2 (some .int) 0 := ⟨wg 86 (by decide +kernel) (by decide +kernel), wg 831 (by decide +kernel) (by decide +kernel), by decide +kernel, by decide⟩
theorem cvX8_faultOfRequests : CeV yX8_faultOfRequests := ⟨wg 830 (by decide +kernel) (by decide +kernel), wg 24 (by decide +kernel) (by decide +kernel)⟩
theorem ceX8_faultOfStrings : Ce yX8_faultOfStrings cX8_faultOfStrings 5 (some .int) 0 := ⟨wg 86 (by decide +kernel) (by decide +kernel), wg 495 (by decide +kernel) (by decide +kernel), by decide +kernel, by decide⟩
theorem cvX8_faultOfStrings : CeV yX8_faultOfStrings := ⟨wg 494 (by decide +kernel) (by decide +kernel), wg 9 (by decide +kernel) (by decide +kernel)⟩
theorem ceX8_faultOfThings : Ce yX8_faultOfThings cX8_faultOfThings 4 (some .int) 0 := ⟨wg 86 (by decide +kernel) (by decide +kernel), wg 461 (by decide +kernel) (by decide +kernel), by decide +kernel, by decide⟩
theorem cvX8_faultOfThings : CeV yX8_faultOfThings := ⟨wg 460 (by decide +kernel) (by decide +kernel), wg 8 (by decide +kernel) (by decide +kernel)⟩
theorem ceX8_faultOfWinds : Ce yX8_faultOfWinds cX8_faultOfWinds 3 (some .int) 0 := ⟨wg 86 (by decide +kernel) (by decide +kernel), wg 536 (by decide +kernel) (by decide +kernel), by decide +kernel, by decide⟩
theorem cvX8_faultOfWinds : CeV yX8_faultOfWinds := ⟨wg 535 (by decide +kernel) (by decide +kernel), wg 11 (by decide +kernel) (by decide +kernel)⟩
theorem ceX8_fittingThings : Ce yX8_fittingThings cX8_fittingThings 3 (some .int) 0 := ⟨wg 86 (by decide +kernel) (by decide +kernel), wg 867 (by decide +kernel) (by decide +kernel), by decide +kernel, by decide⟩
theorem cvX8_fittingThings : CeV yX8_fittingThings := ⟨wg 866 (by decide +kernel) (by decide +kernel), wg 28 (by decide +kernel) (by decide +kernel)⟩
theorem ceX8_floatingWith : Ce yX8_floatingWith cX8_floatingWith 4 (some .int) 2 := ⟨wg 86 (by decide +kernel) (by decide +kernel), wg 798 (by decide +kernel) (by decide +kernel), by decide +kernel, by decide⟩
theorem cvX8_floatingWith : CeV yX8_floatingWith := ⟨wg 797 (by decide +kernel) (by decide +kernel), wg 19 (by decide +kernel) (by decide +kernel)⟩
theorem ceX8_foresee : Ce yX8_foresee cX8_foresee 2 none 1 := ⟨wg 86 (by decide +kernel) (by decide +kernel), wg 747 (by decide +kernel) (by decide +kernel), by decide +kernel, by decide⟩
theorem cvX8_foresee : CeV yX8_foresee := ⟨wg 746 (by decide +kernel) (by decide +kernel), wg 15 (by decide +kernel) (by decide +kernel)⟩
theorem ceX8_gainOf : Ce yX8_gainOf cX8_gainOf 3 (some .int) 3 := ⟨wg 86 (by decide +kernel) (by decide +kernel), wg 964 (by decide +kernel) (by decide +kernel), by decide +kernel, by decide⟩
theorem csX8_gainOf : CeS yX8_gainOf := wg 963 (by decide +kernel) (by decide +kernel)
theorem ceX8_heaviestOf : Ce yX8_heaviestOf cX8_heaviestOf 5 (some .int) 1 := ⟨wg 86 (by decide +kernel) (by decide +kernel), wg 912 (by decide +kernel) (by decide +kernel), by decide +kernel, by decide⟩
theorem cvX8_heaviestOf : CeV yX8_heaviestOf := ⟨wg 911 (by decide +kernel) (by decide +kernel), wg 29 (by decide +kernel) (by decide +kernel)⟩
theorem ceX8_isBest : Ce yX8_isBest cX8_isBest 5 (some .boolean) 3 := ⟨wg 86 (by decide +kernel) (by decide +kernel), wg 961 (by decide +kernel) (by decide +kernel), by decide +kernel, by decide⟩
theorem csX8_isBest : CeS yX8_isBest := wg 960 (by decide +kernel) (by decide +kernel)
theorem ceX8_isFewer : Ce yX8_isFewer cX8_isFewer 2 (some .boolean) 2 := ⟨wg 86 (by decide +kernel) (by decide +kernel), wg 893 (by decide +kernel) (by decide +kernel), by decide +kernel, by decide⟩
theorem csX8_isFewer : CeS yX8_isFewer := wg 892 (by decide +kernel) (by decide +kernel)
theorem ceX8_listStrings : Ce yX8_listStrings cX8_listStrings 6 (some .int) 1 := ⟨wg 86 (by decide +kernel) (by decide +kernel), wg 928 (by decide +kernel) (by decide +kernel), by decide +kernel, by decide⟩
theorem cvX8_listStrings : CeV yX8_listStrings := ⟨wg 927 (by decide +kernel) (by decide +kernel), wg 32 (by decide +kernel) (by decide +kernel)⟩
theorem ceX8_markSteps : Ce yX8_markSteps cX8_markSteps 7 none 1 := ⟨wg 86 (by decide +kernel) (by decide +kernel), wg 819 (by decide +kernel) (by decide +kernel), by decide +kernel, by decide⟩
theorem cvX8_markSteps : CeV yX8_markSteps := ⟨wg 818 (by decide +kernel) (by decide +kernel), wg 22 (by decide +kernel) (by decide +kernel)⟩
theorem ceX8_mostGroups : Ce yX8_mostGroups cX8_mostGroups 6 (some .int) 1 := ⟨wg 86 (by decide +kernel) (by decide +kernel), wg 810 (by decide +kernel) (by decide +kernel), by decide +kernel, by decide⟩
theorem cvX8_mostGroups : CeV yX8_mostGroups := ⟨wg 809 (by decide +kernel) (by decide +kernel), wg 21 (by decide +kernel) (by decide +kernel)⟩
theorem ceX8_nextLuck : Ce yX8_nextLuck cX8_nextLuck 1 (some .int) 1 := ⟨wg 86 (by decide +kernel) (by decide +kernel), wg 971 (by decide +kernel) (by decide +kernel), by decide +kernel, by decide⟩
theorem csX8_nextLuck : CeS yX8_nextLuck := wg 970 (by decide +kernel) (by decide +kernel)
theorem ceX8_nextOnWay : Ce yX8_nextOnWay cX8_nextOnWay 4 (some .int) 2 := ⟨wg 86 (by decide +kernel) (by decide +kernel), wg 823 (by decide +kernel) (by decide +kernel), by decide +kernel, by decide⟩
theorem cvX8_nextOnWay : CeV yX8_nextOnWay := ⟨wg 822 (by decide +kernel) (by decide +kernel), wg 23 (by decide +kernel) (by decide +kernel)⟩
theorem ceX8_power : Ce yX8_power cX8_power 5 (some .long) 2 := ⟨wg 86 (by decide +kernel) (by decide +kernel), wg 935 (by decide +kernel) (by decide +kernel), by decide +kernel, by decide⟩
theorem csX8_power : CeS yX8_power := wg 934 (by decide +kernel) (by decide +kernel)
theorem ceX8_priceOf : Ce yX8_priceOf cX8_priceOf 5 (some .int) 2 := ⟨wg 86 (by decide +kernel) (by decide +kernel), wg 839 (by decide +kernel) (by decide +kernel), by decide +kernel, by decide⟩
theorem cvX8_priceOf : CeV yX8_priceOf := ⟨wg 838 (by decide +kernel) (by decide +kernel), wg 26 (by decide +kernel) (by decide +kernel)⟩
theorem ceX8_readDraft : Ce yX8_readDraft cX8_readDraft 2 (some .int) 0 := ⟨wg 86 (by decide +kernel) (by decide +kernel), wg 551 (by decide +kernel) (by decide +kernel), by decide +kernel, by decide⟩
theorem cvX8_readDraft : CeV yX8_readDraft := ⟨wg 550 (by decide +kernel) (by decide +kernel), wg 12 (by decide +kernel) (by decide +kernel)⟩
theorem ceX8_risesWithout : Ce yX8_risesWithout cX8_risesWithout 5 (some .boolean) 3 := ⟨wg 86 (by decide +kernel) (by decide +kernel), wg 790 (by decide +kernel) (by decide +kernel), by decide +kernel, by decide⟩
theorem cvX8_risesWithout : CeV yX8_risesWithout := ⟨wg 789 (by decide +kernel) (by decide +kernel), wg 18 (by decide +kernel) (by decide +kernel)⟩
theorem ceX8_shareOut : Ce yX8_shareOut cX8_shareOut 5 none 2 := ⟨wg 86 (by decide +kernel) (by decide +kernel), wg 781 (by decide +kernel) (by decide +kernel), by decide +kernel, by decide⟩
theorem cvX8_shareOut : CeV yX8_shareOut := ⟨wg 780 (by decide +kernel) (by decide +kernel), wg 17 (by decide +kernel) (by decide +kernel)⟩
theorem ceX8_tallyStorm : Ce yX8_tallyStorm cX8_tallyStorm 5 (some .int) 1 := ⟨wg 86 (by decide +kernel) (by decide +kernel), wg 924 (by decide +kernel) (by decide +kernel), by decide +kernel, by decide⟩
theorem cvX8_tallyStorm : CeV yX8_tallyStorm := ⟨wg 923 (by decide +kernel) (by decide +kernel), wg 31 (by decide +kernel) (by decide +kernel)⟩
theorem ceX8_tieTold : Ce yX8_tieTold cX8_tieTold 5 (some .int) 0 := ⟨wg 86 (by decide +kernel) (by decide +kernel), wg 515 (by decide +kernel) (by decide +kernel), by decide +kernel, by decide⟩
theorem cvX8_tieTold : CeV yX8_tieTold := ⟨wg 514 (by decide +kernel) (by decide +kernel), wg 10 (by decide +kernel) (by decide +kernel)⟩
theorem ceX8_winningMove : Ce yX8_winningMove cX8_winningMove 6 (some .int) 2 := ⟨wg 86 (by decide +kernel) (by decide +kernel), wg 946 (by decide +kernel) (by decide +kernel), by decide +kernel, by decide⟩
theorem cvX8_winningMove : CeV yX8_winningMove := ⟨wg 945 (by decide +kernel) (by decide +kernel), wg 33 (by decide +kernel) (by decide +kernel)⟩
theorem ceX9_above : Ce yX9_above cX9_above 3 (some .int) 2 := ⟨wg 96 (by decide +kernel) (by decide +kernel), wg 1454 (by decide +kernel) (by decide +kernel), by decide +kernel, by decide⟩
theorem cvX9_above : CeV yX9_above := ⟨wg 1453 (by decide +kernel) (by decide +kernel), wg 60 (by decide +kernel) (by decide +kernel)⟩
theorem ceX9_adds : Ce yX9_adds cX9_adds 3 (some .int) 1 := ⟨wg 96 (by decide +kernel) (by decide +kernel), wg 1300 (by decide +kernel) (by decide +kernel), by decide +kernel, by decide⟩
theorem cvX9_adds : CeV yX9_adds := ⟨wg 1299 (by decide +kernel) (by decide +kernel), wg 43 (by decide +kernel) (by decide +kernel)⟩
theorem ceX9_all : Ce yX9_all cX9_all 1 (some .int) 0 := ⟨wg 96 (by decide +kernel) (by decide +kernel), wg 1470 (by decide +kernel) (by decide +kernel), by decide +kernel, by decide⟩
theorem cvX9_all : CeV yX9_all := ⟨wg 1469 (by decide +kernel) (by decide +kernel), wg 64 (by decide +kernel) (by decide +kernel)⟩
theorem ceX9_begins : Ce yX9_begins cX9_begins 3 (some .int) 1 := ⟨wg 96 (by decide +kernel) (by decide +kernel), wg 1254 (by decide +kernel) (by decide +kernel), by decide +kernel, by decide⟩
theorem cvX9_begins : CeV yX9_begins := ⟨wg 1253 (by decide +kernel) (by decide +kernel), wg 35 (by decide +kernel) (by decide +kernel)⟩
theorem ceX9_bundle : Ce yX9_bundle cX9_bundle 6 (some .int) 2 := ⟨wg 96 (by decide +kernel) (by decide +kernel), wg 1424 (by decide +kernel) (by decide +kernel), by decide +kernel, by decide⟩
theorem cvX9_bundle : CeV yX9_bundle := ⟨wg 1423 (by decide +kernel) (by decide +kernel), wg 56 (by decide +kernel) (by decide +kernel)⟩
theorem ceX9_canServe : Ce yX9_canServe cX9_canServe 6 (some .boolean) 1 := ⟨wg 96 (by decide +kernel) (by decide +kernel), wg 1615 (by decide +kernel) (by decide +kernel), by decide +kernel, by decide⟩
theorem cvX9_canServe : CeV yX9_canServe := ⟨wg 1614 (by decide +kernel) (by decide +kernel), wg 80 (by decide +kernel) (by decide +kernel)⟩
theorem ceX9_codes : Ce yX9_codes cX9_codes 2 none 1 := ⟨wg 96 (by decide +kernel) (by decide +kernel), wg 1334 (by decide +kernel) (by decide +kernel), by decide +kernel, by decide⟩
theorem cvX9_codes : CeV yX9_codes := ⟨wg 1333 (by decide +kernel) (by decide +kernel), wg 49 (by decide +kernel) (by decide +kernel)⟩
theorem ceX9_common : Ce yX9_common cX9_common 4 (some .long) 2 := ⟨wg 96 (by decide +kernel) (by decide +kernel), wg 1676 (by decide +kernel) (by decide +kernel), by decide +kernel, by decide⟩
theorem csX9_common : CeS yX9_common := wg 1675 (by decide +kernel) (by decide +kernel)
theorem ceX9_copies : Ce yX9_copies cX9_copies 2 none 0 := ⟨wg 96 (by decide +kernel) (by decide +kernel), wg 1561 (by decide +kernel) (by decide +kernel), by decide +kernel, by decide⟩
theorem cvX9_copies : CeV yX9_copies := ⟨wg 1560 (by decide +kernel) (by decide +kernel), wg 76 (by decide +kernel) (by decide +kernel)⟩
theorem ceX9_counted : Ce yX9_counted cX9_counted 2 (some .int) 1 := ⟨wg 96 (by decide +kernel) (by decide +kernel), wg 1491 (by decide +kernel) (by decide +kernel), by decide +kernel, by decide⟩
theorem cvX9_counted : CeV yX9_counted := ⟨wg 1490 (by decide +kernel) (by decide +kernel), wg 68 (by decide +kernel) (by decide +kernel)⟩
theorem ceX9_digitIn : Ce yX9_digitIn cX9_digitIn 3 (some .int) 2 := ⟨wg 96 (by decide +kernel) (by decide +kernel), wg 1259 (by decide +kernel) (by decide +kernel), by decide +kernel, by decide⟩
theorem cvX9_digitIn : CeV yX9_digitIn := ⟨wg 1258 (by decide +kernel) (by decide +kernel), wg 36 (by decide +kernel) (by decide +kernel)⟩
theorem ceX9_does : Ce yX9_does cX9_does 4 (some .boolean) 1 := ⟨wg 96 (by decide +kernel) (by decide +kernel), wg 1537 (by decide +kernel) (by decide +kernel), by decide +kernel, by decide⟩
theorem cvX9_does : CeV yX9_does := ⟨wg 1536 (by decide +kernel) (by decide +kernel), wg 74 (by decide +kernel) (by decide +kernel)⟩
theorem ceX9_draws : Ce yX9_draws cX9_draws 2 (some .int) 1 := ⟨wg 96 (by decide +kernel) (by decide +kernel), wg 1709 (by decide +kernel) (by decide +kernel), by decide +kernel, by decide⟩
theorem cvX9_draws : CeV yX9_draws := ⟨wg 1708 (by decide +kernel) (by decide +kernel), wg 84 (by decide +kernel) (by decide +kernel)⟩
theorem ceX9_enters : Ce yX9_enters cX9_enters 3 none 1 := ⟨wg 96 (by decide +kernel) (by decide +kernel), wg 1478 (by decide +kernel) (by decide +kernel), by decide +kernel, by decide⟩
theorem cvX9_enters : CeV yX9_enters := ⟨wg 1477 (by decide +kernel) (by decide +kernel), wg 66 (by decide +kernel) (by decide +kernel)⟩
theorem ceX9_faultOf : Ce yX9_faultOf cX9_faultOf 5 (some .int) 3 := ⟨wg 96 (by decide +kernel) (by decide +kernel), wg 1270 (by decide +kernel) (by decide +kernel), by decide +kernel, by decide⟩
theorem cvX9_faultOf : CeV yX9_faultOf := ⟨wg 1269 (by decide +kernel) (by decide +kernel), wg 38 (by decide +kernel) (by decide +kernel)⟩
theorem ceX9_firstOnes : Ce yX9_firstOnes cX9_firstOnes 5 (some .int) 1 := ⟨wg 96 (by decide +kernel) (by decide +kernel), wg 1545 (by decide +kernel) (by decide +kernel), by decide +kernel, by decide⟩
theorem cvX9_firstOnes : CeV yX9_firstOnes := ⟨wg 1544 (by decide +kernel) (by decide +kernel), wg 75 (by decide +kernel) (by decide +kernel)⟩
theorem ceX9_fitting : Ce yX9_fitting cX9_fitting 3 (some .int) 0 := ⟨wg 96 (by decide +kernel) (by decide +kernel), wg 1636 (by decide +kernel) (by decide +kernel), by decide +kernel, by decide⟩
theorem cvX9_fitting : CeV yX9_fitting := ⟨wg 1635 (by decide +kernel) (by decide +kernel), wg 81 (by decide +kernel) (by decide +kernel)⟩
theorem ceX9_flag : Ce yX9_flag cX9_flag 1 (some .int) 1 := ⟨wg 96 (by decide +kernel) (by decide +kernel), wg 1262 (by decide +kernel) (by decide +kernel), by decide +kernel, by decide⟩
theorem csX9_flag : CeS yX9_flag := wg 1261 (by decide +kernel) (by decide +kernel)
theorem ceX9_floating : Ce yX9_floating cX9_floating 5 (some .int) 1 := ⟨wg 96 (by decide +kernel) (by decide +kernel), wg 1450 (by decide +kernel) (by decide +kernel), by decide +kernel, by decide⟩
theorem cvX9_floating : CeV yX9_floating := ⟨wg 1449 (by decide +kernel) (by decide +kernel), wg 59 (by decide +kernel) (by decide +kernel)⟩
theorem ceX9_gets : Ce yX9_gets cX9_gets 3 (some .int) 3 := ⟨wg 96 (by decide +kernel) (by decide +kernel), wg 1701 (by decide +kernel) (by decide +kernel), by decide +kernel, by decide⟩
theorem csX9_gets : CeS yX9_gets := wg 1700 (by decide +kernel) (by decide +kernel)
theorem ceX9_givesBack : Ce yX9_givesBack cX9_givesBack 3 (some .int) 2 := ⟨wg 96 (by decide +kernel) (by decide +kernel), wg 1499 (by decide +kernel) (by decide +kernel), by decide +kernel, by decide⟩
theorem cvX9_givesBack : CeV yX9_givesBack := ⟨wg 1498 (by decide +kernel) (by decide +kernel), wg 69 (by decide +kernel) (by decide +kernel)⟩
theorem ceX9_goes : Ce yX9_goes cX9_goes 4 none 2 := ⟨wg 96 (by decide +kernel) (by decide +kernel), wg 1474 (by decide +kernel) (by decide +kernel), by decide +kernel, by decide⟩
theorem cvX9_goes : CeV yX9_goes := ⟨wg 1473 (by decide +kernel) (by decide +kernel), wg 65 (by decide +kernel) (by decide +kernel)⟩
theorem ceX9_goesOn : Ce yX9_goesOn cX9_goesOn 4 none 2 := ⟨wg 96 (by decide +kernel) (by decide +kernel), wg 1442 (by decide +kernel) (by decide +kernel), by decide +kernel, by decide⟩
theorem cvX9_goesOn : CeV yX9_goesOn := ⟨wg 1441 (by decide +kernel) (by decide +kernel), wg 57 (by decide +kernel) (by decide +kernel)⟩
theorem ceX9_has : Ce yX9_has cX9_has 2 (some .boolean) 2 := ⟨wg 96 (by decide +kernel) (by decide +kernel), wg 1289 (by decide +kernel) (by decide +kernel), by decide +kernel, by decide⟩
theorem csX9_has : CeS yX9_has := wg 1288 (by decide +kernel) (by decide +kernel)
theorem ceX9_here : Ce yX9_here cX9_here 2 (some .int) 1 := ⟨wg 96 (by decide +kernel) (by decide +kernel), wg 1466 (by decide +kernel) (by decide +kernel), by decide +kernel, by decide⟩
theorem cvX9_here : CeV yX9_here := ⟨wg 1465 (by decide +kernel) (by decide +kernel), wg 63 (by decide +kernel) (by decide +kernel)⟩
theorem ceX9_hourGoes : Ce yX9_hourGoes cX9_hourGoes 5 none 1 := ⟨wg 96 (by decide +kernel) (by decide +kernel), wg 1446 (by decide +kernel) (by decide +kernel), by decide +kernel, by decide⟩
theorem cvX9_hourGoes : CeV yX9_hourGoes := ⟨wg 1445 (by decide +kernel) (by decide +kernel), wg 58 (by decide +kernel) (by decide +kernel)⟩
theorem ceX9_in : Ce yX9_in cX9_in 6 (some .boolean) 3 := ⟨wg 96 (by decide +kernel) (by decide +kernel), wg 1246 (by decide +kernel) (by decide +kernel), by decide +kernel, by decide⟩
theorem csX9_in : CeS yX9_in := wg 1245 (by decide +kernel) (by decide +kernel)
theorem ceX9_isAsSeen : Ce yX9_isAsSeen cX9_isAsSeen 4 (some .boolean) 1 := ⟨wg 96 (by decide +kernel) (by decide +kernel), wg 1640 (by decide +kernel) (by decide +kernel), by decide +kernel, by decide⟩
theorem cvX9_isAsSeen : CeV yX9_isAsSeen := ⟨wg 1639 (by decide +kernel) (by decide +kernel), wg 82 (by decide +kernel) (by decide +kernel)⟩
theorem ceX9_isDigit : Ce yX9_isDigit cX9_isDigit 1 (some .boolean) 0 := ⟨wg 96 (by decide +kernel) (by decide +kernel), wg 1308 (by decide +kernel) (by decide +kernel), by decide +kernel, by decide⟩
theorem cvX9_isDigit : CeV yX9_isDigit := ⟨wg 1307 (by decide +kernel) (by decide +kernel), wg 44 (by decide +kernel) (by decide +kernel)⟩
theorem ceX9_isFewer : Ce yX9_isFewer cX9_isFewer 2 (some .boolean) 2 := ⟨wg 96 (by decide +kernel) (by decide +kernel), wg 1655 (by decide +kernel) (by decide +kernel), by decide +kernel, by decide⟩
theorem csX9_isFewer : CeS yX9_isFewer := wg 1654 (by decide +kernel) (by decide +kernel)
theorem ceX9_isGood : Ce yX9_isGood cX9_isGood 5 (some .boolean) 4 := ⟨wg 96 (by decide +kernel) (by decide +kernel), wg 1684 (by decide +kernel) (by decide +kernel), by decide +kernel, by decide⟩
theorem cvX9_isGood : CeV yX9_isGood := ⟨wg 1683 (by decide +kernel) (by decide +kernel), wg 83 (by decide +kernel) (by decide +kernel)⟩
theorem ceX9_isHere : Ce yX9_isHere cX9_isHere 3 (some .boolean) 2 := ⟨wg 96 (by decide +kernel) (by decide +kernel), wg 1282 (by decide +kernel) (by decide +kernel), by decide +kernel, by decide⟩
theorem cvX9_isHere : CeV yX9_isHere := ⟨wg 1281 (by decide +kernel) (by decide +kernel), wg 40 (by decide +kernel) (by decide +kernel)⟩
theorem ceX9_isRest : Ce yX9_isRest cX9_isRest 5 (some .boolean) 3 := ⟨wg 96 (by decide +kernel) (by decide +kernel), wg 1698 (by decide +kernel) (by decide +kernel), by decide +kernel, by decide⟩
theorem csX9_isRest : CeS yX9_isRest := wg 1697 (by decide +kernel) (by decide +kernel)
theorem ceX9_isThing : Ce yX9_isThing cX9_isThing 2 (some .boolean) 1 := ⟨wg 96 (by decide +kernel) (by decide +kernel), wg 1286 (by decide +kernel) (by decide +kernel), by decide +kernel, by decide⟩
theorem cvX9_isThing : CeV yX9_isThing := ⟨wg 1285 (by decide +kernel) (by decide +kernel), wg 41 (by decide +kernel) (by decide +kernel)⟩
theorem ceX9_laysCode : Ce yX9_laysCode cX9_laysCode 4 none 2 := ⟨wg 96 (by decide +kernel) (by decide +kernel), wg 1394 (by decide +kernel) (by decide +kernel), by decide +kernel, by decide⟩
theorem cvX9_laysCode : CeV yX9_laysCode := ⟨wg 1393 (by decide +kernel) (by decide +kernel), wg 51 (by decide +kernel) (by decide +kernel)⟩
theorem ceX9_lendsTo : Ce yX9_lendsTo cX9_lendsTo 4 (some .int) 3 := ⟨wg 96 (by decide +kernel) (by decide +kernel), wg 1486 (by decide +kernel) (by decide +kernel), by decide +kernel, by decide⟩
theorem cvX9_lendsTo : CeV yX9_lendsTo := ⟨wg 1485 (by decide +kernel) (by decide +kernel), wg 67 (by decide +kernel) (by decide +kernel)⟩
theorem ceX9_need : Ce yX9_need cX9_need 3 (some .int) 2 := ⟨wg 96 (by decide +kernel) (by decide +kernel), wg 1407 (by decide +kernel) (by decide +kernel), by decide +kernel, by decide⟩
theorem cvX9_need : CeV yX9_need := ⟨wg 1406 (by decide +kernel) (by decide +kernel), wg 53 (by decide +kernel) (by decide +kernel)⟩
theorem ceX9_needOf : Ce yX9_needOf cX9_needOf 5 (some .int) 2 := ⟨wg 96 (by decide +kernel) (by decide +kernel), wg 1462 (by decide +kernel) (by decide +kernel), by decide +kernel, by decide⟩
theorem cvX9_needOf : CeV yX9_needOf := ⟨wg 1461 (by decide +kernel) (by decide +kernel), wg 62 (by decide +kernel) (by decide +kernel)⟩
theorem ceX9_number : Ce yX9_number cX9_number 4 (some .int) 1 := ⟨wg 96 (by decide +kernel) (by decide +kernel), wg 1314 (by decide +kernel) (by decide +kernel), by decide +kernel, by decide⟩
theorem cvX9_number : CeV yX9_number := ⟨wg 1313 (by decide +kernel) (by decide +kernel), wg 45 (by decide +kernel) (by decide +kernel)⟩
theorem ceX9_paysAll : Ce yX9_paysAll cX9_paysAll 3 (some .int) 1 := ⟨wg 96 (by decide +kernel) (by decide +kernel), wg 1519 (by decide +kernel) (by decide +kernel), by decide +kernel, by decide⟩
theorem cvX9_paysAll : CeV yX9_paysAll := ⟨wg 1518 (by decide +kernel) (by decide +kernel), wg 72 (by decide +kernel) (by decide +kernel)⟩
theorem ceX9_pile : Ce yX9_pile cX9_pile 2 (some .int) 2 := ⟨wg 96 (by decide +kernel) (by decide +kernel), wg 1687 (by decide +kernel) (by decide +kernel), by decide +kernel, by decide⟩
theorem csX9_pile : CeS yX9_pile := wg 1686 (by decide +kernel) (by decide +kernel)
theorem ceX9_place : Ce yX9_place cX9_place 2 (some .int) 2 := ⟨wg 96 (by decide +kernel) (by decide +kernel), wg 1643 (by decide +kernel) (by decide +kernel), by decide +kernel, by decide⟩
theorem csX9_place : CeS yX9_place := wg 1642 (by decide +kernel) (by decide +kernel)
theorem ceX9_priceOf : Ce yX9_priceOf cX9_priceOf 4 (some .int) 1 := ⟨wg 96 (by decide +kernel) (by decide +kernel), wg 1611 (by decide +kernel) (by decide +kernel), by decide +kernel, by decide⟩
theorem cvX9_priceOf : CeV yX9_priceOf := ⟨wg 1610 (by decide +kernel) (by decide +kernel), wg 79 (by decide +kernel) (by decide +kernel)⟩
theorem ceX9_putsBy : Ce yX9_putsBy cX9_putsBy 2 none 0 := ⟨wg 96 (by decide +kernel) (by decide +kernel), wg 1293 (by decide +kernel) (by decide +kernel), by decide +kernel, by decide⟩
theorem cvX9_putsBy : CeV yX9_putsBy := ⟨wg 1292 (by decide +kernel) (by decide +kernel), wg 42 (by decide +kernel) (by decide +kernel)⟩
theorem ceX9_readsAct : Ce yX9_readsAct cX9_readsAct 2 (some .boolean) 0 := ⟨wg 96 (by decide +kernel) (by decide +kernel), wg 1532 (by decide +kernel) (by decide +kernel), by decide +kernel, by decide⟩
theorem cvX9_readsAct : CeV yX9_readsAct := ⟨wg 1531 (by decide +kernel) (by decide +kernel), wg 73 (by decide +kernel) (by decide +kernel)⟩
theorem ceX9_readsRank : Ce yX9_readsRank cX9_readsRank 4 (some .boolean) 1 := ⟨wg 96 (by decide +kernel) (by decide +kernel), wg 1326 (by decide +kernel) (by decide +kernel), by decide +kernel, by decide⟩
theorem cvX9_readsRank : CeV yX9_readsRank := ⟨wg 1325 (by decide +kernel) (by decide +kernel), wg 47 (by decide +kernel) (by decide +kernel)⟩
theorem ceX9_readsRequest : Ce yX9_readsRequest cX9_readsRequest 2 (some .boolean) 0 := ⟨wg 96 (by decide +kernel) (by decide +kernel), wg 1607 (by decide +kernel) (by decide +kernel), by decide +kernel, by decide⟩
theorem cvX9_readsRequest : CeV yX9_readsRequest := ⟨wg 1606 (by decide +kernel) (by decide +kernel), wg 78 (by decide +kernel) (by decide +kernel)⟩
theorem ceX9_readsRule : Ce yX9_readsRule cX9_readsRule 3 (some .int) 0 := ⟨wg 96 (by decide +kernel) (by decide +kernel), wg 1322 (by decide +kernel) (by decide +kernel), by decide +kernel, by decide⟩
theorem cvX9_readsRule : CeV yX9_readsRule := ⟨wg 1321 (by decide +kernel) (by decide +kernel), wg 46 (by decide +kernel) (by decide +kernel)⟩
theorem ceX9_readsThing : Ce yX9_readsThing cX9_readsThing 2 (some .boolean) 0 := ⟨wg 96 (by decide +kernel) (by decide +kernel), wg 1330 (by decide +kernel) (by decide +kernel), by decide +kernel, by decide⟩
theorem cvX9_readsThing : CeV yX9_readsThing := ⟨wg 1329 (by decide +kernel) (by decide +kernel), wg 48 (by decide +kernel) (by decide +kernel)⟩
theorem ceX9_refuse : Ce yX9_refuse cX9_refuse 1 (some .int) 0 := ⟨wg 96 (by decide +kernel) (by decide +kernel), wg 1403 (by decide +kernel) (by decide +kernel), by decide +kernel, by decide⟩
theorem cvX9_refuse : CeV yX9_refuse := ⟨wg 1402 (by decide +kernel) (by decide +kernel), wg 52 (by decide +kernel) (by decide +kernel)⟩
theorem ceX9_ruled : Ce yX9_ruled cX9_ruled 4 (some .int) 0 := ⟨wg 96 (by decide +kernel) (by decide +kernel), wg 1416 (by decide +kernel) (by decide +kernel), by decide +kernel, by decide⟩
theorem cvX9_ruled : CeV yX9_ruled := ⟨wg 1415 (by decide +kernel) (by decide +kernel), wg 55 (by decide +kernel) (by decide +kernel)⟩
theorem ceX9_spareOf : Ce yX9_spareOf cX9_spareOf 4 (some .int) 1 := ⟨wg 96 (by decide +kernel) (by decide +kernel), wg 1595 (by decide +kernel) (by decide +kernel), by decide +kernel, by decide⟩
theorem cvX9_spareOf : CeV yX9_spareOf := ⟨wg 1594 (by decide +kernel) (by decide +kernel), wg 77 (by decide +kernel) (by decide +kernel)⟩
theorem ceX9_stringMany : Ce yX9_stringMany cX9_stringMany 4 (some .int) 1 := ⟨wg 96 (by decide +kernel) (by decide +kernel), wg 1511 (by decide +kernel) (by decide +kernel), by decide +kernel, by decide⟩
theorem cvX9_stringMany : CeV yX9_stringMany := ⟨wg 1510 (by decide +kernel) (by decide +kernel), wg 71 (by decide +kernel) (by decide +kernel)⟩
theorem ceX9_sumOf : Ce yX9_sumOf cX9_sumOf 6 (some .int) 3 := ⟨wg 96 (by decide +kernel) (by decide +kernel), wg 1458 (by decide +kernel) (by decide +kernel), by decide +kernel, by decide⟩
theorem cvX9_sumOf : CeV yX9_sumOf := ⟨wg 1457 (by decide +kernel) (by decide +kernel), wg 61 (by decide +kernel) (by decide +kernel)⟩
theorem ceX9_takes : Ce yX9_takes cX9_takes 3 (some .boolean) 1 := ⟨wg 96 (by decide +kernel) (by decide +kernel), wg 1266 (by decide +kernel) (by decide +kernel), by decide +kernel, by decide⟩
theorem cvX9_takes : CeV yX9_takes := ⟨wg 1265 (by decide +kernel) (by decide +kernel), wg 37 (by decide +kernel) (by decide +kernel)⟩
theorem ceX9_takesOf : Ce yX9_takesOf cX9_takesOf 3 (some .int) 1 := ⟨wg 96 (by decide +kernel) (by decide +kernel), wg 1339 (by decide +kernel) (by decide +kernel), by decide +kernel, by decide⟩
theorem cvX9_takesOf : CeV yX9_takesOf := ⟨wg 1338 (by decide +kernel) (by decide +kernel), wg 50 (by decide +kernel) (by decide +kernel)⟩
theorem ceX9_thingBut : Ce yX9_thingBut cX9_thingBut 3 (some .int) 1 := ⟨wg 96 (by decide +kernel) (by decide +kernel), wg 1278 (by decide +kernel) (by decide +kernel), by decide +kernel, by decide⟩
theorem cvX9_thingBut : CeV yX9_thingBut := ⟨wg 1277 (by decide +kernel) (by decide +kernel), wg 39 (by decide +kernel) (by decide +kernel)⟩
theorem ceX9_tiesTwo : Ce yX9_tiesTwo cX9_tiesTwo 4 (some .int) 3 := ⟨wg 96 (by decide +kernel) (by decide +kernel), wg 1507 (by decide +kernel) (by decide +kernel), by decide +kernel, by decide⟩
theorem cvX9_tiesTwo : CeV yX9_tiesTwo := ⟨wg 1506 (by decide +kernel) (by decide +kernel), wg 70 (by decide +kernel) (by decide +kernel)⟩
theorem ceX9_toggles : Ce yX9_toggles cX9_toggles 3 none 3 := ⟨wg 96 (by decide +kernel) (by decide +kernel), wg 1296 (by decide +kernel) (by decide +kernel), by decide +kernel, by decide⟩
theorem csX9_toggles : CeS yX9_toggles := wg 1295 (by decide +kernel) (by decide +kernel)
theorem ceX9_windOn : Ce yX9_windOn cX9_windOn 2 (some .int) 1 := ⟨wg 96 (by decide +kernel) (by decide +kernel), wg 1411 (by decide +kernel) (by decide +kernel), by decide +kernel, by decide⟩
theorem cvX9_windOn : CeV yX9_windOn := ⟨wg 1410 (by decide +kernel) (by decide +kernel), wg 54 (by decide +kernel) (by decide +kernel)⟩
theorem ceX9_worked : Ce yX9_worked cX9_worked 3 (some .int) 3 := ⟨wg 96 (by decide +kernel) (by decide +kernel), wg 1419 (by decide +kernel) (by decide +kernel), by decide +kernel, by decide⟩
theorem csX9_worked : CeS yX9_worked := wg 1418 (by decide +kernel) (by decide +kernel)
