set_option maxRecDepth 100000 in
theorem cw_0 : lw_tbl[414]? = some (.code (mN 0) (mC 0) (mL 0) (mR 0)) := rfl
theorem pl_0 : plainFor (mN 0) = true := plainFor_of_name (by decide +kernel)
set_option maxRecDepth 100000 in
theorem cw_1 : lw_tbl[1103]? = some (.code (mN 1) (mC 1) (mL 1) (mR 1)) := rfl
theorem pl_1 : plainFor (mN 1) = true := plainFor_of_name (by decide +kernel)
set_option maxRecDepth 100000 in
theorem cw_2 : lw_tbl[1109]? = some (.code (mN 2) (mC 2) (mL 2) (mR 2)) := rfl
theorem pl_2 : plainFor (mN 2) = true := plainFor_of_name (by decide +kernel)
set_option maxRecDepth 100000 in
theorem cw_3 : lw_tbl[1187]? = some (.code (mN 3) (mC 3) (mL 3) (mR 3)) := rfl
theorem pl_3 : plainFor (mN 3) = true := plainFor_of_name (by decide +kernel)
set_option maxRecDepth 100000 in
theorem cw_4 : lw_tbl[1168]? = some (.code (mN 4) (mC 4) (mL 4) (mR 4)) := rfl
theorem pl_4 : plainFor (mN 4) = true := plainFor_of_name (by decide +kernel)
set_option maxRecDepth 100000 in
theorem cw_5 : lw_tbl[1172]? = some (.code (mN 5) (mC 5) (mL 5) (mR 5)) := rfl
theorem pl_5 : plainFor (mN 5) = true := plainFor_of_name (by decide +kernel)
set_option maxRecDepth 100000 in
theorem cw_6 : lw_tbl[1130]? = some (.code (mN 6) (mC 6) (mL 6) (mR 6)) := rfl
theorem pl_6 : plainFor (mN 6) = true := plainFor_of_name (by decide +kernel)
set_option maxRecDepth 100000 in
theorem cw_7 : lw_tbl[1223]? = some (.code (mN 7) (mC 7) (mL 7) (mR 7)) := rfl
theorem pl_7 : plainFor (mN 7) = true := plainFor_of_name (by decide +kernel)
set_option maxRecDepth 100000 in
theorem cw_8 : lw_tbl[540]? = some (.code (mN 8) (mC 8) (mL 8) (mR 8)) := rfl
theorem pl_8 : plainFor (mN 8) = true := plainFor_of_name (by decide +kernel)
set_option maxRecDepth 100000 in
theorem cw_9 : lw_tbl[1326]? = some (.code (mN 9) (mC 9) (mL 9) (mR 9)) := rfl
theorem pl_9 : plainFor (mN 9) = true := plainFor_of_name (by decide +kernel)
set_option maxRecDepth 100000 in
theorem cw_10 : lw_tbl[1331]? = some (.code (mN 10) (mC 10) (mL 10) (mR 10)) := rfl
theorem pl_10 : plainFor (mN 10) = true := plainFor_of_name (by decide +kernel)
set_option maxRecDepth 100000 in
theorem cw_11 : lw_tbl[1339]? = some (.code (mN 11) (mC 11) (mL 11) (mR 11)) := rfl
theorem pl_11 : plainFor (mN 11) = true := plainFor_of_name (by decide +kernel)
set_option maxRecDepth 100000 in
theorem cw_12 : lw_tbl[194]? = some (.code (mN 12) (mC 12) (mL 12) (mR 12)) := rfl
theorem pl_12 : plainFor (mN 12) = true := plainFor_of_name (by decide +kernel)
set_option maxRecDepth 100000 in
theorem cw_13 : lw_tbl[733]? = some (.code (mN 13) (mC 13) (mL 13) (mR 13)) := rfl
theorem pl_13 : plainFor (mN 13) = true := plainFor_of_name (by decide +kernel)
set_option maxRecDepth 100000 in
theorem cw_14 : lw_tbl[872]? = some (.code (mN 14) (mC 14) (mL 14) (mR 14)) := rfl
theorem pl_14 : plainFor (mN 14) = true := plainFor_of_name (by decide +kernel)
set_option maxRecDepth 100000 in
theorem cw_15 : lw_tbl[950]? = some (.code (mN 15) (mC 15) (mL 15) (mR 15)) := rfl
theorem pl_15 : plainFor (mN 15) = true := plainFor_of_name (by decide +kernel)
set_option maxRecDepth 100000 in
theorem cw_16 : lw_tbl[888]? = some (.code (mN 16) (mC 16) (mL 16) (mR 16)) := rfl
theorem pl_16 : plainFor (mN 16) = true := plainFor_of_name (by decide +kernel)
set_option maxRecDepth 100000 in
theorem cw_17 : lw_tbl[306]? = some (.code (mN 17) (mC 17) (mL 17) (mR 17)) := rfl
theorem pl_17 : plainFor (mN 17) = true := plainFor_of_name (by decide +kernel)
set_option maxRecDepth 100000 in
theorem cw_18 : lw_tbl[918]? = some (.code (mN 18) (mC 18) (mL 18) (mR 18)) := rfl
theorem pl_18 : plainFor (mN 18) = true := plainFor_of_name (by decide +kernel)
set_option maxRecDepth 100000 in
theorem cw_19 : lw_tbl[965]? = some (.code (mN 19) (mC 19) (mL 19) (mR 19)) := rfl
theorem pl_19 : plainFor (mN 19) = true := plainFor_of_name (by decide +kernel)
set_option maxRecDepth 100000 in
theorem cw_20 : lw_tbl[973]? = some (.code (mN 20) (mC 20) (mL 20) (mR 20)) := rfl
theorem pl_20 : plainFor (mN 20) = true := plainFor_of_name (by decide +kernel)
set_option maxRecDepth 100000 in
theorem cw_21 : lw_tbl[989]? = some (.code (mN 21) (mC 21) (mL 21) (mR 21)) := rfl
theorem pl_21 : plainFor (mN 21) = true := plainFor_of_name (by decide +kernel)
set_option maxRecDepth 100000 in
theorem cw_22 : lw_tbl[985]? = some (.code (mN 22) (mC 22) (mL 22) (mR 22)) := rfl
theorem pl_22 : plainFor (mN 22) = true := plainFor_of_name (by decide +kernel)
set_option maxRecDepth 100000 in
theorem cw_23 : lw_tbl[1310]? = some (.code (mN 23) (mC 23) (mL 23) (mR 23)) := rfl
theorem pl_23 : plainFor (mN 23) = true := plainFor_of_name (by decide +kernel)
set_option maxRecDepth 100000 in
theorem cw_24 : lw_tbl[997]? = some (.code (mN 24) (mC 24) (mL 24) (mR 24)) := rfl
theorem pl_24 : plainFor (mN 24) = true := plainFor_of_name (by decide +kernel)
set_option maxRecDepth 100000 in
theorem cw_25 : lw_tbl[1052]? = some (.code (mN 25) (mC 25) (mL 25) (mR 25)) := rfl
theorem pl_25 : plainFor (mN 25) = true := plainFor_of_name (by decide +kernel)
set_option maxRecDepth 100000 in
theorem cw_26 : lw_tbl[1072]? = some (.code (mN 26) (mC 26) (mL 26) (mR 26)) := rfl
theorem pl_26 : plainFor (mN 26) = true := plainFor_of_name (by decide +kernel)
set_option maxRecDepth 100000 in
theorem cw_27 : lw_tbl[1068]? = some (.code (mN 27) (mC 27) (mL 27) (mR 27)) := rfl
theorem pl_27 : plainFor (mN 27) = true := plainFor_of_name (by decide +kernel)
set_option maxRecDepth 100000 in
theorem cw_28 : lw_tbl[1084]? = some (.code (mN 28) (mC 28) (mL 28) (mR 28)) := rfl
theorem pl_28 : plainFor (mN 28) = true := plainFor_of_name (by decide +kernel)
set_option maxRecDepth 100000 in
theorem cw_29 : lw_tbl[369]? = some (.code (mN 29) (mC 29) (mL 29) (mR 29)) := rfl
theorem pl_29 : plainFor (mN 29) = true := plainFor_of_name (by decide +kernel)
set_option maxRecDepth 100000 in
theorem cw_30 : lw_tbl[1001]? = some (.code (mN 30) (mC 30) (mL 30) (mR 30)) := rfl
theorem pl_30 : plainFor (mN 30) = true := plainFor_of_name (by decide +kernel)
set_option maxRecDepth 100000 in
theorem cw_31 : lw_tbl[1008]? = some (.code (mN 31) (mC 31) (mL 31) (mR 31)) := rfl
theorem pl_31 : plainFor (mN 31) = true := plainFor_of_name (by decide +kernel)
set_option maxRecDepth 100000 in
theorem cw_32 : lw_tbl[1012]? = some (.code (mN 32) (mC 32) (mL 32) (mR 32)) := rfl
theorem pl_32 : plainFor (mN 32) = true := plainFor_of_name (by decide +kernel)
set_option maxRecDepth 100000 in
theorem cw_33 : lw_tbl[1021]? = some (.code (mN 33) (mC 33) (mL 33) (mR 33)) := rfl
theorem pl_33 : plainFor (mN 33) = true := plainFor_of_name (by decide +kernel)
set_option maxRecDepth 100000 in
theorem cw_34 : lw_tbl[1017]? = some (.code (mN 34) (mC 34) (mL 34) (mR 34)) := rfl
theorem pl_34 : plainFor (mN 34) = true := plainFor_of_name (by decide +kernel)
set_option maxRecDepth 100000 in
theorem cw_35 : lw_tbl[1038]? = some (.code (mN 35) (mC 35) (mL 35) (mR 35)) := rfl
theorem pl_35 : plainFor (mN 35) = true := plainFor_of_name (by decide +kernel)
set_option maxRecDepth 100000 in
theorem cw_36 : lw_tbl[1044]? = some (.code (mN 36) (mC 36) (mL 36) (mR 36)) := rfl
theorem pl_36 : plainFor (mN 36) = true := plainFor_of_name (by decide +kernel)
set_option maxRecDepth 100000 in
theorem cw_37 : lw_tbl[1058]? = some (.code (mN 37) (mC 37) (mL 37) (mR 37)) := rfl
theorem pl_37 : plainFor (mN 37) = true := plainFor_of_name (by decide +kernel)
set_option maxRecDepth 100000 in
theorem cw_38 : lw_tbl[1080]? = some (.code (mN 38) (mC 38) (mL 38) (mR 38)) := rfl
theorem pl_38 : plainFor (mN 38) = true := plainFor_of_name (by decide +kernel)
set_option maxRecDepth 100000 in
theorem cw_39 : lw_tbl[1076]? = some (.code (mN 39) (mC 39) (mL 39) (mR 39)) := rfl
theorem pl_39 : plainFor (mN 39) = true := plainFor_of_name (by decide +kernel)
set_option maxRecDepth 100000 in
theorem cw_40 : lw_tbl[239]? = some (.code (mN 40) (mC 40) (mL 40) (mR 40)) := rfl
theorem pl_40 : plainFor (mN 40) = true := plainFor_of_name (by decide +kernel)
set_option maxRecDepth 100000 in
theorem cw_41 : lw_tbl[740]? = some (.code (mN 41) (mC 41) (mL 41) (mR 41)) := rfl
theorem pl_41 : plainFor (mN 41) = true := plainFor_of_name (by decide +kernel)
set_option maxRecDepth 100000 in
theorem cw_42 : lw_tbl[868]? = some (.code (mN 42) (mC 42) (mL 42) (mR 42)) := rfl
theorem pl_42 : plainFor (mN 42) = true := plainFor_of_name (by decide +kernel)
set_option maxRecDepth 100000 in
theorem cw_43 : lw_tbl[842]? = some (.code (mN 43) (mC 43) (mL 43) (mR 43)) := rfl
theorem pl_43 : plainFor (mN 43) = true := plainFor_of_name (by decide +kernel)
set_option maxRecDepth 100000 in
theorem cw_44 : lw_tbl[845]? = some (.code (mN 44) (mC 44) (mL 44) (mR 44)) := rfl
theorem pl_44 : plainFor (mN 44) = true := plainFor_of_name (by decide +kernel)
set_option maxRecDepth 100000 in
theorem cw_45 : lw_tbl[529]? = some (.code (mN 45) (mC 45) (mL 45) (mR 45)) := rfl
theorem pl_45 : plainFor (mN 45) = true := plainFor_of_name (by decide +kernel)
set_option maxRecDepth 100000 in
theorem cw_46 : lw_tbl[1247]? = some (.code (mN 46) (mC 46) (mL 46) (mR 46)) := rfl
theorem pl_46 : plainFor (mN 46) = true := plainFor_of_name (by decide +kernel)
set_option maxRecDepth 100000 in
theorem cw_47 : lw_tbl[1251]? = some (.code (mN 47) (mC 47) (mL 47) (mR 47)) := rfl
theorem pl_47 : plainFor (mN 47) = true := plainFor_of_name (by decide +kernel)
set_option maxRecDepth 100000 in
theorem cw_48 : lw_tbl[1256]? = some (.code (mN 48) (mC 48) (mL 48) (mR 48)) := rfl
theorem pl_48 : plainFor (mN 48) = true := plainFor_of_name (by decide +kernel)
set_option maxRecDepth 100000 in
theorem cw_49 : lw_tbl[1260]? = some (.code (mN 49) (mC 49) (mL 49) (mR 49)) := rfl
theorem pl_49 : plainFor (mN 49) = true := plainFor_of_name (by decide +kernel)
set_option maxRecDepth 100000 in
theorem cw_50 : lw_tbl[1264]? = some (.code (mN 50) (mC 50) (mL 50) (mR 50)) := rfl
theorem pl_50 : plainFor (mN 50) = true := plainFor_of_name (by decide +kernel)
set_option maxRecDepth 100000 in
theorem cw_51 : lw_tbl[188]? = some (.code (mN 51) (mC 51) (mL 51) (mR 51)) := rfl
theorem pl_51 : plainFor (mN 51) = true := plainFor_of_name (by decide +kernel)
set_option maxRecDepth 100000 in
theorem cw_52 : lw_tbl[717]? = some (.code (mN 52) (mC 52) (mL 52) (mR 52)) := rfl
theorem pl_52 : plainFor (mN 52) = true := plainFor_of_name (by decide +kernel)
set_option maxRecDepth 100000 in
theorem cw_53 : lw_tbl[721]? = some (.code (mN 53) (mC 53) (mL 53) (mR 53)) := rfl
theorem pl_53 : plainFor (mN 53) = true := plainFor_of_name (by decide +kernel)
set_option maxRecDepth 100000 in
theorem cw_54 : lw_tbl[914]? = some (.code (mN 54) (mC 54) (mL 54) (mR 54)) := rfl
theorem pl_54 : plainFor (mN 54) = true := plainFor_of_name (by decide +kernel)
set_option maxRecDepth 100000 in
theorem cw_55 : lw_tbl[729]? = some (.code (mN 55) (mC 55) (mL 55) (mR 55)) := rfl
theorem pl_55 : plainFor (mN 55) = true := plainFor_of_name (by decide +kernel)
set_option maxRecDepth 100000 in
theorem cw_56 : lw_tbl[758]? = some (.code (mN 56) (mC 56) (mL 56) (mR 56)) := rfl
theorem pl_56 : plainFor (mN 56) = true := plainFor_of_name (by decide +kernel)
set_option maxRecDepth 100000 in
theorem cw_57 : lw_tbl[744]? = some (.code (mN 57) (mC 57) (mL 57) (mR 57)) := rfl
theorem pl_57 : plainFor (mN 57) = true := plainFor_of_name (by decide +kernel)
set_option maxRecDepth 100000 in
theorem cw_58 : lw_tbl[754]? = some (.code (mN 58) (mC 58) (mL 58) (mR 58)) := rfl
theorem pl_58 : plainFor (mN 58) = true := plainFor_of_name (by decide +kernel)
set_option maxRecDepth 100000 in
theorem cw_59 : lw_tbl[747]? = some (.code (mN 59) (mC 59) (mL 59) (mR 59)) := rfl
theorem pl_59 : plainFor (mN 59) = true := plainFor_of_name (by decide +kernel)
set_option maxRecDepth 100000 in
theorem cw_60 : lw_tbl[750]? = some (.code (mN 60) (mC 60) (mL 60) (mR 60)) := rfl
theorem pl_60 : plainFor (mN 60) = true := plainFor_of_name (by decide +kernel)
set_option maxRecDepth 100000 in
theorem cw_61 : lw_tbl[761]? = some (.code (mN 61) (mC 61) (mL 61) (mR 61)) := rfl
theorem pl_61 : plainFor (mN 61) = true := plainFor_of_name (by decide +kernel)
set_option maxRecDepth 100000 in
theorem cw_62 : lw_tbl[864]? = some (.code (mN 62) (mC 62) (mL 62) (mR 62)) := rfl
theorem pl_62 : plainFor (mN 62) = true := plainFor_of_name (by decide +kernel)
set_option maxRecDepth 100000 in
theorem cw_63 : lw_tbl[770]? = some (.code (mN 63) (mC 63) (mL 63) (mR 63)) := rfl
theorem pl_63 : plainFor (mN 63) = true := plainFor_of_name (by decide +kernel)
set_option maxRecDepth 100000 in
theorem cw_64 : lw_tbl[830]? = some (.code (mN 64) (mC 64) (mL 64) (mR 64)) := rfl
theorem pl_64 : plainFor (mN 64) = true := plainFor_of_name (by decide +kernel)
set_option maxRecDepth 100000 in
theorem cw_65 : lw_tbl[849]? = some (.code (mN 65) (mC 65) (mL 65) (mR 65)) := rfl
theorem pl_65 : plainFor (mN 65) = true := plainFor_of_name (by decide +kernel)
set_option maxRecDepth 100000 in
theorem cw_66 : lw_tbl[853]? = some (.code (mN 66) (mC 66) (mL 66) (mR 66)) := rfl
theorem pl_66 : plainFor (mN 66) = true := plainFor_of_name (by decide +kernel)
set_option maxRecDepth 100000 in
theorem cw_67 : lw_tbl[860]? = some (.code (mN 67) (mC 67) (mL 67) (mR 67)) := rfl
theorem pl_67 : plainFor (mN 67) = true := plainFor_of_name (by decide +kernel)
set_option maxRecDepth 100000 in
theorem cw_68 : lw_tbl[826]? = some (.code (mN 68) (mC 68) (mL 68) (mR 68)) := rfl
theorem pl_68 : plainFor (mN 68) = true := plainFor_of_name (by decide +kernel)
set_option maxRecDepth 100000 in
theorem cw_69 : lw_tbl[884]? = some (.code (mN 69) (mC 69) (mL 69) (mR 69)) := rfl
theorem pl_69 : plainFor (mN 69) = true := plainFor_of_name (by decide +kernel)
set_option maxRecDepth 100000 in
theorem cw_70 : lw_tbl[765]? = some (.code (mN 70) (mC 70) (mL 70) (mR 70)) := rfl
theorem pl_70 : plainFor (mN 70) = true := plainFor_of_name (by decide +kernel)
set_option maxRecDepth 100000 in
theorem cw_71 : lw_tbl[822]? = some (.code (mN 71) (mC 71) (mL 71) (mR 71)) := rfl
theorem pl_71 : plainFor (mN 71) = true := plainFor_of_name (by decide +kernel)
set_option maxRecDepth 100000 in
theorem cw_72 : lw_tbl[876]? = some (.code (mN 72) (mC 72) (mL 72) (mR 72)) := rfl
theorem pl_72 : plainFor (mN 72) = true := plainFor_of_name (by decide +kernel)
set_option maxRecDepth 100000 in
theorem cw_73 : lw_tbl[880]? = some (.code (mN 73) (mC 73) (mL 73) (mR 73)) := rfl
theorem pl_73 : plainFor (mN 73) = true := plainFor_of_name (by decide +kernel)
set_option maxRecDepth 100000 in
theorem cw_74 : lw_tbl[892]? = some (.code (mN 74) (mC 74) (mL 74) (mR 74)) := rfl
theorem pl_74 : plainFor (mN 74) = true := plainFor_of_name (by decide +kernel)
set_option maxRecDepth 100000 in
theorem cw_75 : lw_tbl[910]? = some (.code (mN 75) (mC 75) (mL 75) (mR 75)) := rfl
theorem pl_75 : plainFor (mN 75) = true := plainFor_of_name (by decide +kernel)
set_option maxRecDepth 100000 in
theorem cw_76 : lw_tbl[896]? = some (.code (mN 76) (mC 76) (mL 76) (mR 76)) := rfl
theorem pl_76 : plainFor (mN 76) = true := plainFor_of_name (by decide +kernel)
set_option maxRecDepth 100000 in
theorem cw_77 : lw_tbl[900]? = some (.code (mN 77) (mC 77) (mL 77) (mR 77)) := rfl
theorem pl_77 : plainFor (mN 77) = true := plainFor_of_name (by decide +kernel)
set_option maxRecDepth 100000 in
theorem cw_78 : lw_tbl[904]? = some (.code (mN 78) (mC 78) (mL 78) (mR 78)) := rfl
theorem pl_78 : plainFor (mN 78) = true := plainFor_of_name (by decide +kernel)
set_option maxRecDepth 100000 in
theorem cw_79 : lw_tbl[394]? = some (.code (mN 79) (mC 79) (mL 79) (mR 79)) := rfl
theorem pl_79 : plainFor (mN 79) = true := plainFor_of_name (by decide +kernel)
set_option maxRecDepth 100000 in
theorem cw_80 : lw_tbl[922]? = some (.code (mN 80) (mC 80) (mL 80) (mR 80)) := rfl
theorem pl_80 : plainFor (mN 80) = true := plainFor_of_name (by decide +kernel)
set_option maxRecDepth 100000 in
theorem cw_81 : lw_tbl[1280]? = some (.code (mN 81) (mC 81) (mL 81) (mR 81)) := rfl
theorem pl_81 : plainFor (mN 81) = true := plainFor_of_name (by decide +kernel)
set_option maxRecDepth 100000 in
theorem cw_82 : lw_tbl[1288]? = some (.code (mN 82) (mC 82) (mL 82) (mR 82)) := rfl
theorem pl_82 : plainFor (mN 82) = true := plainFor_of_name (by decide +kernel)
set_option maxRecDepth 100000 in
theorem cw_83 : lw_tbl[562]? = some (.code (mN 83) (mC 83) (mL 83) (mR 83)) := rfl
theorem pl_83 : plainFor (mN 83) = true := plainFor_of_name (by decide +kernel)
set_option maxRecDepth 100000 in
theorem cw_84 : lw_tbl[680]? = some (.code (mN 84) (mC 84) (mL 84) (mR 84)) := rfl
theorem pl_84 : plainFor (mN 84) = true := plainFor_of_name (by decide +kernel)
set_option maxRecDepth 100000 in
theorem cw_85 : lw_tbl[661]? = some (.code (mN 85) (mC 85) (mL 85) (mR 85)) := rfl
theorem pl_85 : plainFor (mN 85) = true := plainFor_of_name (by decide +kernel)
set_option maxRecDepth 100000 in
theorem cw_86 : lw_tbl[706]? = some (.code (mN 86) (mC 86) (mL 86) (mR 86)) := rfl
theorem pl_86 : plainFor (mN 86) = true := plainFor_of_name (by decide +kernel)
set_option maxRecDepth 100000 in
theorem cw_87 : lw_tbl[697]? = some (.code (mN 87) (mC 87) (mL 87) (mR 87)) := rfl
theorem pl_87 : plainFor (mN 87) = true := plainFor_of_name (by decide +kernel)
set_option maxRecDepth 100000 in
theorem cw_88 : lw_tbl[684]? = some (.code (mN 88) (mC 88) (mL 88) (mR 88)) := rfl
theorem pl_88 : plainFor (mN 88) = true := plainFor_of_name (by decide +kernel)
set_option maxRecDepth 100000 in
theorem cw_89 : lw_tbl[1301]? = some (.code (mN 89) (mC 89) (mL 89) (mR 89)) := rfl
theorem pl_89 : plainFor (mN 89) = true := plainFor_of_name (by decide +kernel)
set_option maxRecDepth 100000 in
theorem cw_90 : lw_tbl[1314]? = some (.code (mN 90) (mC 90) (mL 90) (mR 90)) := rfl
theorem pl_90 : plainFor (mN 90) = true := plainFor_of_name (by decide +kernel)
set_option maxRecDepth 100000 in
theorem cw_91 : lw_tbl[466]? = some (.code (mN 91) (mC 91) (mL 91) (mR 91)) := rfl
theorem pl_91 : plainFor (mN 91) = true := plainFor_of_name (by decide +kernel)
set_option maxRecDepth 100000 in
theorem cw_92 : lw_tbl[1118]? = some (.code (mN 92) (mC 92) (mL 92) (mR 92)) := rfl
theorem pl_92 : plainFor (mN 92) = true := plainFor_of_name (by decide +kernel)
set_option maxRecDepth 100000 in
theorem cw_93 : lw_tbl[1203]? = some (.code (mN 93) (mC 93) (mL 93) (mR 93)) := rfl
theorem pl_93 : plainFor (mN 93) = true := plainFor_of_name (by decide +kernel)
set_option maxRecDepth 100000 in
theorem cw_94 : lw_tbl[1122]? = some (.code (mN 94) (mC 94) (mL 94) (mR 94)) := rfl
theorem pl_94 : plainFor (mN 94) = true := plainFor_of_name (by decide +kernel)
set_option maxRecDepth 100000 in
theorem cw_95 : lw_tbl[1126]? = some (.code (mN 95) (mC 95) (mL 95) (mR 95)) := rfl
theorem pl_95 : plainFor (mN 95) = true := plainFor_of_name (by decide +kernel)
set_option maxRecDepth 100000 in
theorem cw_96 : lw_tbl[1134]? = some (.code (mN 96) (mC 96) (mL 96) (mR 96)) := rfl
theorem pl_96 : plainFor (mN 96) = true := plainFor_of_name (by decide +kernel)
set_option maxRecDepth 100000 in
theorem cw_97 : lw_tbl[1164]? = some (.code (mN 97) (mC 97) (mL 97) (mR 97)) := rfl
theorem pl_97 : plainFor (mN 97) = true := plainFor_of_name (by decide +kernel)
set_option maxRecDepth 100000 in
theorem cw_98 : lw_tbl[1176]? = some (.code (mN 98) (mC 98) (mL 98) (mR 98)) := rfl
theorem pl_98 : plainFor (mN 98) = true := plainFor_of_name (by decide +kernel)
set_option maxRecDepth 100000 in
theorem cw_99 : lw_tbl[1183]? = some (.code (mN 99) (mC 99) (mL 99) (mR 99)) := rfl
theorem pl_99 : plainFor (mN 99) = true := plainFor_of_name (by decide +kernel)
set_option maxRecDepth 100000 in
theorem cw_100 : lw_tbl[1138]? = some (.code (mN 100) (mC 100) (mL 100) (mR 100)) := rfl
theorem pl_100 : plainFor (mN 100) = true := plainFor_of_name (by decide +kernel)
set_option maxRecDepth 100000 in
theorem cw_101 : lw_tbl[1159]? = some (.code (mN 101) (mC 101) (mL 101) (mR 101)) := rfl
theorem pl_101 : plainFor (mN 101) = true := plainFor_of_name (by decide +kernel)
set_option maxRecDepth 100000 in
theorem cw_102 : lw_tbl[1148]? = some (.code (mN 102) (mC 102) (mL 102) (mR 102)) := rfl
theorem pl_102 : plainFor (mN 102) = true := plainFor_of_name (by decide +kernel)
set_option maxRecDepth 100000 in
theorem cw_103 : lw_tbl[1153]? = some (.code (mN 103) (mC 103) (mL 103) (mR 103)) := rfl
theorem pl_103 : plainFor (mN 103) = true := plainFor_of_name (by decide +kernel)
set_option maxRecDepth 100000 in
theorem cw_104 : lw_tbl[1215]? = some (.code (mN 104) (mC 104) (mL 104) (mR 104)) := rfl
theorem pl_104 : plainFor (mN 104) = true := plainFor_of_name (by decide +kernel)
set_option maxRecDepth 100000 in
theorem cw_105 : lw_tbl[1231]? = some (.code (mN 105) (mC 105) (mL 105) (mR 105)) := rfl
theorem pl_105 : plainFor (mN 105) = true := plainFor_of_name (by decide +kernel)
set_option maxRecDepth 100000 in
theorem cw_106 : lw_tbl[1219]? = some (.code (mN 106) (mC 106) (mL 106) (mR 106)) := rfl
theorem pl_106 : plainFor (mN 106) = true := plainFor_of_name (by decide +kernel)
set_option maxRecDepth 100000 in
theorem cw_107 : lw_tbl[1227]? = some (.code (mN 107) (mC 107) (mL 107) (mR 107)) := rfl
theorem pl_107 : plainFor (mN 107) = true := plainFor_of_name (by decide +kernel)
set_option maxRecDepth 100000 in
theorem cw_108 : lw_tbl[178]? = some (.code (mN 108) (mC 108) (mL 108) (mR 108)) := rfl
theorem pl_108 : plainFor (mN 108) = true := plainFor_of_name (by decide +kernel)
set_option maxRecDepth 100000 in
theorem cw_109 : lw_tbl[635]? = some (.code (mN 109) (mC 109) (mL 109) (mR 109)) := rfl
theorem pl_109 : plainFor (mN 109) = true := plainFor_of_name (by decide +kernel)
set_option maxRecDepth 100000 in
theorem cw_110 : lw_tbl[639]? = some (.code (mN 110) (mC 110) (mL 110) (mR 110)) := rfl
theorem pl_110 : plainFor (mN 110) = true := plainFor_of_name (by decide +kernel)
set_option maxRecDepth 100000 in
theorem cw_111 : lw_tbl[643]? = some (.code (mN 111) (mC 111) (mL 111) (mR 111)) := rfl
theorem pl_111 : plainFor (mN 111) = true := plainFor_of_name (by decide +kernel)
set_option maxRecDepth 100000 in
theorem cw_112 : lw_tbl[647]? = some (.code (mN 112) (mC 112) (mL 112) (mR 112)) := rfl
theorem pl_112 : plainFor (mN 112) = true := plainFor_of_name (by decide +kernel)
set_option maxRecDepth 100000 in
theorem cw_113 : lw_tbl[672]? = some (.code (mN 113) (mC 113) (mL 113) (mR 113)) := rfl
theorem pl_113 : plainFor (mN 113) = true := plainFor_of_name (by decide +kernel)
set_option maxRecDepth 100000 in
theorem cw_114 : lw_tbl[689]? = some (.code (mN 114) (mC 114) (mL 114) (mR 114)) := rfl
theorem pl_114 : plainFor (mN 114) = true := plainFor_of_name (by decide +kernel)
set_option maxRecDepth 100000 in
theorem cw_115 : lw_tbl[702]? = some (.code (mN 115) (mC 115) (mL 115) (mR 115)) := rfl
theorem pl_115 : plainFor (mN 115) = true := plainFor_of_name (by decide +kernel)
set_option maxRecDepth 100000 in
theorem cw_116 : lw_tbl[713]? = some (.code (mN 116) (mC 116) (mL 116) (mR 116)) := rfl
theorem pl_116 : plainFor (mN 116) = true := plainFor_of_name (by decide +kernel)
set_option maxRecDepth 100000 in
theorem cw_117 : lw_tbl[725]? = some (.code (mN 117) (mC 117) (mL 117) (mR 117)) := rfl
theorem pl_117 : plainFor (mN 117) = true := plainFor_of_name (by decide +kernel)
set_option maxRecDepth 100000 in
theorem cw_118 : lw_tbl[930]? = some (.code (mN 118) (mC 118) (mL 118) (mR 118)) := rfl
theorem pl_118 : plainFor (mN 118) = true := plainFor_of_name (by decide +kernel)
set_option maxRecDepth 100000 in
theorem cw_119 : lw_tbl[934]? = some (.code (mN 119) (mC 119) (mL 119) (mR 119)) := rfl
theorem pl_119 : plainFor (mN 119) = true := plainFor_of_name (by decide +kernel)
set_option maxRecDepth 100000 in
theorem cw_120 : lw_tbl[938]? = some (.code (mN 120) (mC 120) (mL 120) (mR 120)) := rfl
theorem pl_120 : plainFor (mN 120) = true := plainFor_of_name (by decide +kernel)
set_option maxRecDepth 100000 in
theorem cw_121 : lw_tbl[954]? = some (.code (mN 121) (mC 121) (mL 121) (mR 121)) := rfl
theorem pl_121 : plainFor (mN 121) = true := plainFor_of_name (by decide +kernel)
set_option maxRecDepth 100000 in
theorem cw_122 : lw_tbl[969]? = some (.code (mN 122) (mC 122) (mL 122) (mR 122)) := rfl
theorem pl_122 : plainFor (mN 122) = true := plainFor_of_name (by decide +kernel)
set_option maxRecDepth 100000 in
theorem cw_123 : lw_tbl[977]? = some (.code (mN 123) (mC 123) (mL 123) (mR 123)) := rfl
theorem pl_123 : plainFor (mN 123) = true := plainFor_of_name (by decide +kernel)
set_option maxRecDepth 100000 in
theorem cw_124 : lw_tbl[981]? = some (.code (mN 124) (mC 124) (mL 124) (mR 124)) := rfl
theorem pl_124 : plainFor (mN 124) = true := plainFor_of_name (by decide +kernel)
set_option maxRecDepth 100000 in
theorem cw_125 : lw_tbl[993]? = some (.code (mN 125) (mC 125) (mL 125) (mR 125)) := rfl
theorem pl_125 : plainFor (mN 125) = true := plainFor_of_name (by decide +kernel)
set_option maxRecDepth 100000 in
theorem cw_126 : lw_tbl[1048]? = some (.code (mN 126) (mC 126) (mL 126) (mR 126)) := rfl
theorem pl_126 : plainFor (mN 126) = true := plainFor_of_name (by decide +kernel)
set_option maxRecDepth 100000 in
theorem cw_127 : lw_tbl[1064]? = some (.code (mN 127) (mC 127) (mL 127) (mR 127)) := rfl
theorem pl_127 : plainFor (mN 127) = true := plainFor_of_name (by decide +kernel)
set_option maxRecDepth 100000 in
theorem cw_128 : lw_tbl[1088]? = some (.code (mN 128) (mC 128) (mL 128) (mR 128)) := rfl
theorem pl_128 : plainFor (mN 128) = true := plainFor_of_name (by decide +kernel)
set_option maxRecDepth 100000 in
theorem cw_129 : lw_tbl[1092]? = some (.code (mN 129) (mC 129) (mL 129) (mR 129)) := rfl
theorem pl_129 : plainFor (mN 129) = true := plainFor_of_name (by decide +kernel)
set_option maxRecDepth 100000 in
theorem cw_130 : lw_tbl[1191]? = some (.code (mN 130) (mC 130) (mL 130) (mR 130)) := rfl
theorem pl_130 : plainFor (mN 130) = true := plainFor_of_name (by decide +kernel)
set_option maxRecDepth 100000 in
theorem cw_131 : lw_tbl[1199]? = some (.code (mN 131) (mC 131) (mL 131) (mR 131)) := rfl
theorem pl_131 : plainFor (mN 131) = true := plainFor_of_name (by decide +kernel)
set_option maxRecDepth 100000 in
theorem cw_132 : lw_tbl[1207]? = some (.code (mN 132) (mC 132) (mL 132) (mR 132)) := rfl
theorem pl_132 : plainFor (mN 132) = true := plainFor_of_name (by decide +kernel)
set_option maxRecDepth 100000 in
theorem cw_133 : lw_tbl[1211]? = some (.code (mN 133) (mC 133) (mL 133) (mR 133)) := rfl
theorem pl_133 : plainFor (mN 133) = true := plainFor_of_name (by decide +kernel)
set_option maxRecDepth 100000 in
theorem cw_134 : lw_tbl[1235]? = some (.code (mN 134) (mC 134) (mL 134) (mR 134)) := rfl
theorem pl_134 : plainFor (mN 134) = true := plainFor_of_name (by decide +kernel)
set_option maxRecDepth 100000 in
theorem cw_135 : lw_tbl[1239]? = some (.code (mN 135) (mC 135) (mL 135) (mR 135)) := rfl
theorem pl_135 : plainFor (mN 135) = true := plainFor_of_name (by decide +kernel)
set_option maxRecDepth 100000 in
theorem cw_136 : lw_tbl[1268]? = some (.code (mN 136) (mC 136) (mL 136) (mR 136)) := rfl
theorem pl_136 : plainFor (mN 136) = true := plainFor_of_name (by decide +kernel)
set_option maxRecDepth 100000 in
theorem cw_137 : lw_tbl[1272]? = some (.code (mN 137) (mC 137) (mL 137) (mR 137)) := rfl
theorem pl_137 : plainFor (mN 137) = true := plainFor_of_name (by decide +kernel)
set_option maxRecDepth 100000 in
theorem cw_138 : lw_tbl[1276]? = some (.code (mN 138) (mC 138) (mL 138) (mR 138)) := rfl
theorem pl_138 : plainFor (mN 138) = true := plainFor_of_name (by decide +kernel)
set_option maxRecDepth 100000 in
theorem cw_139 : lw_tbl[1284]? = some (.code (mN 139) (mC 139) (mL 139) (mR 139)) := rfl
theorem pl_139 : plainFor (mN 139) = true := plainFor_of_name (by decide +kernel)
set_option maxRecDepth 100000 in
theorem cw_140 : lw_tbl[1297]? = some (.code (mN 140) (mC 140) (mL 140) (mR 140)) := rfl
theorem pl_140 : plainFor (mN 140) = true := plainFor_of_name (by decide +kernel)
set_option maxRecDepth 100000 in
theorem cw_141 : lw_tbl[1318]? = some (.code (mN 141) (mC 141) (mL 141) (mR 141)) := rfl
theorem pl_141 : plainFor (mN 141) = true := plainFor_of_name (by decide +kernel)
set_option maxRecDepth 100000 in
theorem cw_142 : lw_tbl[1322]? = some (.code (mN 142) (mC 142) (mL 142) (mR 142)) := rfl
theorem pl_142 : plainFor (mN 142) = true := plainFor_of_name (by decide +kernel)
set_option maxRecDepth 100000 in
theorem cw_143 : lw_tbl[1343]? = some (.code (mN 143) (mC 143) (mL 143) (mR 143)) := rfl
theorem pl_143 : plainFor (mN 143) = true := plainFor_of_name (by decide +kernel)
set_option maxRecDepth 100000 in
theorem cw_144 : lw_tbl[926]? = some (.code (mN 144) (mC 144) (mL 144) (mR 144)) := rfl
theorem pl_144 : plainFor (mN 144) = true := plainFor_of_name (by decide +kernel)
set_option maxRecDepth 100000 in
theorem cw_145 : lw_tbl[668]? = some (.code (mN 145) (mC 145) (mL 145) (mR 145)) := rfl
theorem pl_145 : plainFor (mN 145) = true := plainFor_of_name (by decide +kernel)
set_option maxRecDepth 100000 in
theorem cw_146 : lw_tbl[693]? = some (.code (mN 146) (mC 146) (mL 146) (mR 146)) := rfl
theorem pl_146 : plainFor (mN 146) = true := plainFor_of_name (by decide +kernel)
set_option maxRecDepth 100000 in
theorem cw_147 : lw_tbl[657]? = some (.code (mN 147) (mC 147) (mL 147) (mR 147)) := rfl
theorem pl_147 : plainFor (mN 147) = true := plainFor_of_name (by decide +kernel)
set_option maxRecDepth 100000 in
theorem cw_148 : lw_tbl[1025]? = some (.code (mN 148) (mC 148) (mL 148) (mR 148)) := rfl
theorem pl_148 : plainFor (mN 148) = true := plainFor_of_name (by decide +kernel)
set_option maxRecDepth 100000 in
theorem cw_149 : lw_tbl[1031]? = some (.code (mN 149) (mC 149) (mL 149) (mR 149)) := rfl
theorem pl_149 : plainFor (mN 149) = true := plainFor_of_name (by decide +kernel)
set_option maxRecDepth 100000 in
theorem cw_150 : lw_tbl[856]? = some (.code (mN 150) (mC 150) (mL 150) (mR 150)) := rfl
theorem pl_150 : plainFor (mN 150) = true := plainFor_of_name (by decide +kernel)
set_option maxRecDepth 100000 in
theorem cw_151 : lw_tbl[653]? = some (.code (mN 151) (mC 151) (mL 151) (mR 151)) := rfl
theorem pl_151 : plainFor (mN 151) = true := plainFor_of_name (by decide +kernel)
set_option maxRecDepth 100000 in
theorem cw_152 : lw_tbl[650]? = some (.code (mN 152) (mC 152) (mL 152) (mR 152)) := rfl
theorem pl_152 : plainFor (mN 152) = true := plainFor_of_name (by decide +kernel)
set_option maxRecDepth 100000 in
theorem cw_153 : lw_tbl[957]? = some (.code (mN 153) (mC 153) (mL 153) (mR 153)) := rfl
theorem pl_153 : plainFor (mN 153) = true := plainFor_of_name (by decide +kernel)
set_option maxRecDepth 100000 in
theorem cw_154 : lw_tbl[1095]? = some (.code (mN 154) (mC 154) (mL 154) (mR 154)) := rfl
theorem pl_154 : plainFor (mN 154) = true := plainFor_of_name (by decide +kernel)
set_option maxRecDepth 100000 in
theorem cw_155 : lw_tbl[961]? = some (.code (mN 155) (mC 155) (mL 155) (mR 155)) := rfl
theorem pl_155 : plainFor (mN 155) = true := plainFor_of_name (by decide +kernel)
set_option maxRecDepth 100000 in
theorem cw_156 : lw_tbl[942]? = some (.code (mN 156) (mC 156) (mL 156) (mR 156)) := rfl
theorem pl_156 : plainFor (mN 156) = true := plainFor_of_name (by decide +kernel)
set_option maxRecDepth 100000 in
theorem cw_157 : lw_tbl[946]? = some (.code (mN 157) (mC 157) (mL 157) (mR 157)) := rfl
theorem pl_157 : plainFor (mN 157) = true := plainFor_of_name (by decide +kernel)
set_option maxRecDepth 100000 in
theorem cw_158 : lw_tbl[1195]? = some (.code (mN 158) (mC 158) (mL 158) (mR 158)) := rfl
theorem pl_158 : plainFor (mN 158) = true := plainFor_of_name (by decide +kernel)
set_option maxRecDepth 100000 in
theorem cw_159 : lw_tbl[1243]? = some (.code (mN 159) (mC 159) (mL 159) (mR 159)) := rfl
theorem pl_159 : plainFor (mN 159) = true := plainFor_of_name (by decide +kernel)
set_option maxRecDepth 100000 in
theorem cw_160 : lw_tbl[676]? = some (.code (mN 160) (mC 160) (mL 160) (mR 160)) := rfl
theorem pl_160 : plainFor (mN 160) = true := plainFor_of_name (by decide +kernel)
set_option maxRecDepth 100000 in
theorem cw_161 : lw_tbl[1099]? = some (.code (mN 161) (mC 161) (mL 161) (mR 161)) := rfl
theorem pl_161 : plainFor (mN 161) = true := plainFor_of_name (by decide +kernel)
set_option maxRecDepth 100000 in
theorem cw_162 : lw_tbl[1306]? = some (.code (mN 162) (mC 162) (mL 162) (mR 162)) := rfl
theorem pl_162 : plainFor (mN 162) = true := plainFor_of_name (by decide +kernel)
set_option maxRecDepth 100000 in
theorem cw_163 : lw_tbl[1348]? = some (.code (mN 163) (mC 163) (mL 163) (mR 163)) := rfl
theorem pl_163 : plainFor (mN 163) = true := plainFor_of_name (by decide +kernel)
set_option maxRecDepth 100000 in
theorem cw_164 : lw_tbl[1609]? = some (.code (mN 164) (mC 164) (mL 164) (mR 164)) := rfl
theorem pl_164 : plainFor (mN 164) = true := plainFor_of_name (by decide +kernel)
set_option maxRecDepth 100000 in
theorem cw_165 : lw_tbl[1613]? = some (.code (mN 165) (mC 165) (mL 165) (mR 165)) := rfl
theorem pl_165 : plainFor (mN 165) = true := plainFor_of_name (by decide +kernel)
set_option maxRecDepth 100000 in
theorem cw_166 : lw_tbl[1617]? = some (.code (mN 166) (mC 166) (mL 166) (mR 166)) := rfl
theorem pl_166 : plainFor (mN 166) = true := plainFor_of_name (by decide +kernel)
set_option maxRecDepth 100000 in
theorem cw_167 : lw_tbl[1628]? = some (.code (mN 167) (mC 167) (mL 167) (mR 167)) := rfl
theorem pl_167 : plainFor (mN 167) = true := plainFor_of_name (by decide +kernel)
set_option maxRecDepth 100000 in
theorem cw_168 : lw_tbl[1664]? = some (.code (mN 168) (mC 168) (mL 168) (mR 168)) := rfl
theorem pl_168 : plainFor (mN 168) = true := plainFor_of_name (by decide +kernel)
set_option maxRecDepth 100000 in
theorem cw_169 : lw_tbl[1765]? = some (.code (mN 169) (mC 169) (mL 169) (mR 169)) := rfl
theorem pl_169 : plainFor (mN 169) = true := plainFor_of_name (by decide +kernel)
set_option maxRecDepth 100000 in
theorem cw_170 : lw_tbl[1839]? = some (.code (mN 170) (mC 170) (mL 170) (mR 170)) := rfl
theorem pl_170 : plainFor (mN 170) = true := plainFor_of_name (by decide +kernel)
set_option maxRecDepth 100000 in
theorem cw_171 : lw_tbl[1624]? = some (.code (mN 171) (mC 171) (mL 171) (mR 171)) := rfl
theorem pl_171 : plainFor (mN 171) = true := plainFor_of_name (by decide +kernel)
set_option maxRecDepth 100000 in
theorem cw_172 : lw_tbl[1639]? = some (.code (mN 172) (mC 172) (mL 172) (mR 172)) := rfl
theorem pl_172 : plainFor (mN 172) = true := plainFor_of_name (by decide +kernel)
set_option maxRecDepth 100000 in
theorem cw_173 : lw_tbl[1621]? = some (.code (mN 173) (mC 173) (mL 173) (mR 173)) := rfl
theorem pl_173 : plainFor (mN 173) = true := plainFor_of_name (by decide +kernel)
set_option maxRecDepth 100000 in
theorem cw_174 : lw_tbl[1636]? = some (.code (mN 174) (mC 174) (mL 174) (mR 174)) := rfl
theorem pl_174 : plainFor (mN 174) = true := plainFor_of_name (by decide +kernel)
set_option maxRecDepth 100000 in
theorem cw_175 : lw_tbl[1632]? = some (.code (mN 175) (mC 175) (mL 175) (mR 175)) := rfl
theorem pl_175 : plainFor (mN 175) = true := plainFor_of_name (by decide +kernel)
set_option maxRecDepth 100000 in
theorem cw_176 : lw_tbl[1643]? = some (.code (mN 176) (mC 176) (mL 176) (mR 176)) := rfl
theorem pl_176 : plainFor (mN 176) = true := plainFor_of_name (by decide +kernel)
set_option maxRecDepth 100000 in
theorem cw_177 : lw_tbl[1648]? = some (.code (mN 177) (mC 177) (mL 177) (mR 177)) := rfl
theorem pl_177 : plainFor (mN 177) = true := plainFor_of_name (by decide +kernel)
set_option maxRecDepth 100000 in
theorem cw_178 : lw_tbl[1652]? = some (.code (mN 178) (mC 178) (mL 178) (mR 178)) := rfl
theorem pl_178 : plainFor (mN 178) = true := plainFor_of_name (by decide +kernel)
set_option maxRecDepth 100000 in
theorem cw_179 : lw_tbl[1656]? = some (.code (mN 179) (mC 179) (mL 179) (mR 179)) := rfl
theorem pl_179 : plainFor (mN 179) = true := plainFor_of_name (by decide +kernel)
set_option maxRecDepth 100000 in
theorem cw_180 : lw_tbl[1672]? = some (.code (mN 180) (mC 180) (mL 180) (mR 180)) := rfl
theorem pl_180 : plainFor (mN 180) = true := plainFor_of_name (by decide +kernel)
set_option maxRecDepth 100000 in
theorem cw_181 : lw_tbl[1675]? = some (.code (mN 181) (mC 181) (mL 181) (mR 181)) := rfl
theorem pl_181 : plainFor (mN 181) = true := plainFor_of_name (by decide +kernel)
set_option maxRecDepth 100000 in
theorem cw_182 : lw_tbl[1678]? = some (.code (mN 182) (mC 182) (mL 182) (mR 182)) := rfl
theorem pl_182 : plainFor (mN 182) = true := plainFor_of_name (by decide +kernel)
set_option maxRecDepth 100000 in
theorem cw_183 : lw_tbl[1668]? = some (.code (mN 183) (mC 183) (mL 183) (mR 183)) := rfl
theorem pl_183 : plainFor (mN 183) = true := plainFor_of_name (by decide +kernel)
set_option maxRecDepth 100000 in
theorem cw_184 : lw_tbl[1731]? = some (.code (mN 184) (mC 184) (mL 184) (mR 184)) := rfl
theorem pl_184 : plainFor (mN 184) = true := plainFor_of_name (by decide +kernel)
set_option maxRecDepth 100000 in
theorem cw_185 : lw_tbl[1688]? = some (.code (mN 185) (mC 185) (mL 185) (mR 185)) := rfl
theorem pl_185 : plainFor (mN 185) = true := plainFor_of_name (by decide +kernel)
set_option maxRecDepth 100000 in
theorem cw_186 : lw_tbl[1695]? = some (.code (mN 186) (mC 186) (mL 186) (mR 186)) := rfl
theorem pl_186 : plainFor (mN 186) = true := plainFor_of_name (by decide +kernel)
set_option maxRecDepth 100000 in
theorem cw_187 : lw_tbl[1699]? = some (.code (mN 187) (mC 187) (mL 187) (mR 187)) := rfl
theorem pl_187 : plainFor (mN 187) = true := plainFor_of_name (by decide +kernel)
set_option maxRecDepth 100000 in
theorem cw_188 : lw_tbl[1719]? = some (.code (mN 188) (mC 188) (mL 188) (mR 188)) := rfl
theorem pl_188 : plainFor (mN 188) = true := plainFor_of_name (by decide +kernel)
set_option maxRecDepth 100000 in
theorem cw_189 : lw_tbl[1727]? = some (.code (mN 189) (mC 189) (mL 189) (mR 189)) := rfl
theorem pl_189 : plainFor (mN 189) = true := plainFor_of_name (by decide +kernel)
set_option maxRecDepth 100000 in
theorem cw_190 : lw_tbl[1707]? = some (.code (mN 190) (mC 190) (mL 190) (mR 190)) := rfl
theorem pl_190 : plainFor (mN 190) = true := plainFor_of_name (by decide +kernel)
set_option maxRecDepth 100000 in
theorem cw_191 : lw_tbl[1711]? = some (.code (mN 191) (mC 191) (mL 191) (mR 191)) := rfl
theorem pl_191 : plainFor (mN 191) = true := plainFor_of_name (by decide +kernel)
set_option maxRecDepth 100000 in
theorem cw_192 : lw_tbl[1715]? = some (.code (mN 192) (mC 192) (mL 192) (mR 192)) := rfl
theorem pl_192 : plainFor (mN 192) = true := plainFor_of_name (by decide +kernel)
set_option maxRecDepth 100000 in
theorem cw_193 : lw_tbl[1723]? = some (.code (mN 193) (mC 193) (mL 193) (mR 193)) := rfl
theorem pl_193 : plainFor (mN 193) = true := plainFor_of_name (by decide +kernel)
set_option maxRecDepth 100000 in
theorem cw_194 : lw_tbl[1743]? = some (.code (mN 194) (mC 194) (mL 194) (mR 194)) := rfl
theorem pl_194 : plainFor (mN 194) = true := plainFor_of_name (by decide +kernel)
set_option maxRecDepth 100000 in
theorem cw_195 : lw_tbl[1703]? = some (.code (mN 195) (mC 195) (mL 195) (mR 195)) := rfl
theorem pl_195 : plainFor (mN 195) = true := plainFor_of_name (by decide +kernel)
set_option maxRecDepth 100000 in
theorem cw_196 : lw_tbl[1735]? = some (.code (mN 196) (mC 196) (mL 196) (mR 196)) := rfl
theorem pl_196 : plainFor (mN 196) = true := plainFor_of_name (by decide +kernel)
set_option maxRecDepth 100000 in
theorem cw_197 : lw_tbl[1739]? = some (.code (mN 197) (mC 197) (mL 197) (mR 197)) := rfl
theorem pl_197 : plainFor (mN 197) = true := plainFor_of_name (by decide +kernel)
set_option maxRecDepth 100000 in
theorem cw_198 : lw_tbl[1761]? = some (.code (mN 198) (mC 198) (mL 198) (mR 198)) := rfl
theorem pl_198 : plainFor (mN 198) = true := plainFor_of_name (by decide +kernel)
set_option maxRecDepth 100000 in
theorem cw_199 : lw_tbl[1747]? = some (.code (mN 199) (mC 199) (mL 199) (mR 199)) := rfl
theorem pl_199 : plainFor (mN 199) = true := plainFor_of_name (by decide +kernel)
set_option maxRecDepth 100000 in
theorem cw_200 : lw_tbl[1751]? = some (.code (mN 200) (mC 200) (mL 200) (mR 200)) := rfl
theorem pl_200 : plainFor (mN 200) = true := plainFor_of_name (by decide +kernel)
set_option maxRecDepth 100000 in
theorem cw_201 : lw_tbl[1755]? = some (.code (mN 201) (mC 201) (mL 201) (mR 201)) := rfl
theorem pl_201 : plainFor (mN 201) = true := plainFor_of_name (by decide +kernel)
set_option maxRecDepth 100000 in
theorem cw_202 : lw_tbl[1684]? = some (.code (mN 202) (mC 202) (mL 202) (mR 202)) := rfl
theorem pl_202 : plainFor (mN 202) = true := plainFor_of_name (by decide +kernel)
set_option maxRecDepth 100000 in
theorem cw_203 : lw_tbl[1660]? = some (.code (mN 203) (mC 203) (mL 203) (mR 203)) := rfl
theorem pl_203 : plainFor (mN 203) = true := plainFor_of_name (by decide +kernel)
set_option maxRecDepth 100000 in
theorem cw_204 : lw_tbl[1769]? = some (.code (mN 204) (mC 204) (mL 204) (mR 204)) := rfl
theorem pl_204 : plainFor (mN 204) = true := plainFor_of_name (by decide +kernel)
set_option maxRecDepth 100000 in
theorem cw_205 : lw_tbl[1785]? = some (.code (mN 205) (mC 205) (mL 205) (mR 205)) := rfl
theorem pl_205 : plainFor (mN 205) = true := plainFor_of_name (by decide +kernel)
set_option maxRecDepth 100000 in
theorem cw_206 : lw_tbl[1781]? = some (.code (mN 206) (mC 206) (mL 206) (mR 206)) := rfl
theorem pl_206 : plainFor (mN 206) = true := plainFor_of_name (by decide +kernel)
set_option maxRecDepth 100000 in
theorem cw_207 : lw_tbl[1773]? = some (.code (mN 207) (mC 207) (mL 207) (mR 207)) := rfl
theorem pl_207 : plainFor (mN 207) = true := plainFor_of_name (by decide +kernel)
set_option maxRecDepth 100000 in
theorem cw_208 : lw_tbl[1777]? = some (.code (mN 208) (mC 208) (mL 208) (mR 208)) := rfl
theorem pl_208 : plainFor (mN 208) = true := plainFor_of_name (by decide +kernel)
set_option maxRecDepth 100000 in
theorem cw_209 : lw_tbl[1792]? = some (.code (mN 209) (mC 209) (mL 209) (mR 209)) := rfl
theorem pl_209 : plainFor (mN 209) = true := plainFor_of_name (by decide +kernel)
set_option maxRecDepth 100000 in
theorem cw_210 : lw_tbl[1798]? = some (.code (mN 210) (mC 210) (mL 210) (mR 210)) := rfl
theorem pl_210 : plainFor (mN 210) = true := plainFor_of_name (by decide +kernel)
set_option maxRecDepth 100000 in
theorem cw_211 : lw_tbl[1795]? = some (.code (mN 211) (mC 211) (mL 211) (mR 211)) := rfl
theorem pl_211 : plainFor (mN 211) = true := plainFor_of_name (by decide +kernel)
set_option maxRecDepth 100000 in
theorem cw_212 : lw_tbl[1789]? = some (.code (mN 212) (mC 212) (mL 212) (mR 212)) := rfl
theorem pl_212 : plainFor (mN 212) = true := plainFor_of_name (by decide +kernel)
set_option maxRecDepth 100000 in
theorem cw_213 : lw_tbl[1802]? = some (.code (mN 213) (mC 213) (mL 213) (mR 213)) := rfl
theorem pl_213 : plainFor (mN 213) = true := plainFor_of_name (by decide +kernel)
set_option maxRecDepth 100000 in
theorem cw_214 : lw_tbl[1806]? = some (.code (mN 214) (mC 214) (mL 214) (mR 214)) := rfl
theorem pl_214 : plainFor (mN 214) = true := plainFor_of_name (by decide +kernel)
set_option maxRecDepth 100000 in
theorem cw_215 : lw_tbl[1814]? = some (.code (mN 215) (mC 215) (mL 215) (mR 215)) := rfl
theorem pl_215 : plainFor (mN 215) = true := plainFor_of_name (by decide +kernel)
set_option maxRecDepth 100000 in
theorem cw_216 : lw_tbl[1818]? = some (.code (mN 216) (mC 216) (mL 216) (mR 216)) := rfl
theorem pl_216 : plainFor (mN 216) = true := plainFor_of_name (by decide +kernel)
set_option maxRecDepth 100000 in
theorem cw_217 : lw_tbl[1810]? = some (.code (mN 217) (mC 217) (mL 217) (mR 217)) := rfl
theorem pl_217 : plainFor (mN 217) = true := plainFor_of_name (by decide +kernel)
set_option maxRecDepth 100000 in
theorem cw_218 : lw_tbl[1826]? = some (.code (mN 218) (mC 218) (mL 218) (mR 218)) := rfl
theorem pl_218 : plainFor (mN 218) = true := plainFor_of_name (by decide +kernel)
set_option maxRecDepth 100000 in
theorem cw_219 : lw_tbl[1831]? = some (.code (mN 219) (mC 219) (mL 219) (mR 219)) := rfl
theorem pl_219 : plainFor (mN 219) = true := plainFor_of_name (by decide +kernel)
set_option maxRecDepth 100000 in
theorem cw_220 : lw_tbl[1835]? = some (.code (mN 220) (mC 220) (mL 220) (mR 220)) := rfl
theorem pl_220 : plainFor (mN 220) = true := plainFor_of_name (by decide +kernel)
set_option maxRecDepth 100000 in
theorem cw_221 : lw_tbl[1843]? = some (.code (mN 221) (mC 221) (mL 221) (mR 221)) := rfl
theorem pl_221 : plainFor (mN 221) = true := plainFor_of_name (by decide +kernel)
set_option maxRecDepth 100000 in
theorem cw_222 : lw_tbl[1822]? = some (.code (mN 222) (mC 222) (mL 222) (mR 222)) := rfl
theorem pl_222 : plainFor (mN 222) = true := plainFor_of_name (by decide +kernel)
set_option maxRecDepth 100000 in
theorem cw_223 : lw_tbl[1847]? = some (.code (mN 223) (mC 223) (mL 223) (mR 223)) := rfl
theorem pl_223 : plainFor (mN 223) = true := plainFor_of_name (by decide +kernel)
set_option maxRecDepth 100000 in
theorem cw_224 : lw_tbl[1855]? = some (.code (mN 224) (mC 224) (mL 224) (mR 224)) := rfl
theorem pl_224 : plainFor (mN 224) = true := plainFor_of_name (by decide +kernel)
set_option maxRecDepth 100000 in
theorem cw_225 : lw_tbl[1851]? = some (.code (mN 225) (mC 225) (mL 225) (mR 225)) := rfl
theorem pl_225 : plainFor (mN 225) = true := plainFor_of_name (by decide +kernel)
set_option maxRecDepth 100000 in
theorem cw_226 : lw_tbl[1859]? = some (.code (mN 226) (mC 226) (mL 226) (mR 226)) := rfl
theorem pl_226 : plainFor (mN 226) = true := plainFor_of_name (by decide +kernel)
set_option maxRecDepth 100000 in
theorem cw_227 : lw_tbl[1870]? = some (.code (mN 227) (mC 227) (mL 227) (mR 227)) := rfl
theorem pl_227 : plainFor (mN 227) = true := plainFor_of_name (by decide +kernel)
set_option maxRecDepth 100000 in
theorem cw_228 : lw_tbl[1878]? = some (.code (mN 228) (mC 228) (mL 228) (mR 228)) := rfl
theorem pl_228 : plainFor (mN 228) = true := plainFor_of_name (by decide +kernel)
set_option maxRecDepth 100000 in
theorem cw_229 : lw_tbl[1882]? = some (.code (mN 229) (mC 229) (mL 229) (mR 229)) := rfl
theorem pl_229 : plainFor (mN 229) = true := plainFor_of_name (by decide +kernel)
set_option maxRecDepth 100000 in
theorem cw_230 : lw_tbl[1886]? = some (.code (mN 230) (mC 230) (mL 230) (mR 230)) := rfl
theorem pl_230 : plainFor (mN 230) = true := plainFor_of_name (by decide +kernel)
set_option maxRecDepth 100000 in
theorem cw_231 : lw_tbl[1894]? = some (.code (mN 231) (mC 231) (mL 231) (mR 231)) := rfl
theorem pl_231 : plainFor (mN 231) = true := plainFor_of_name (by decide +kernel)
set_option maxRecDepth 100000 in
theorem cw_232 : lw_tbl[1898]? = some (.code (mN 232) (mC 232) (mL 232) (mR 232)) := rfl
theorem pl_232 : plainFor (mN 232) = true := plainFor_of_name (by decide +kernel)
set_option maxRecDepth 100000 in
theorem cw_233 : lw_tbl[1874]? = some (.code (mN 233) (mC 233) (mL 233) (mR 233)) := rfl
theorem pl_233 : plainFor (mN 233) = true := plainFor_of_name (by decide +kernel)
set_option maxRecDepth 100000 in
theorem cw_234 : lw_tbl[1866]? = some (.code (mN 234) (mC 234) (mL 234) (mR 234)) := rfl
theorem pl_234 : plainFor (mN 234) = true := plainFor_of_name (by decide +kernel)
set_option maxRecDepth 100000 in
theorem cw_235 : lw_tbl[1906]? = some (.code (mN 235) (mC 235) (mL 235) (mR 235)) := rfl
theorem pl_235 : plainFor (mN 235) = true := plainFor_of_name (by decide +kernel)
set_option maxRecDepth 100000 in
theorem cw_236 : lw_tbl[1863]? = some (.code (mN 236) (mC 236) (mL 236) (mR 236)) := rfl
theorem pl_236 : plainFor (mN 236) = true := plainFor_of_name (by decide +kernel)
set_option maxRecDepth 100000 in
theorem cw_237 : lw_tbl[1902]? = some (.code (mN 237) (mC 237) (mL 237) (mR 237)) := rfl
theorem pl_237 : plainFor (mN 237) = true := plainFor_of_name (by decide +kernel)
set_option maxRecDepth 100000 in
theorem cw_238 : lw_tbl[1910]? = some (.code (mN 238) (mC 238) (mL 238) (mR 238)) := rfl
theorem pl_238 : plainFor (mN 238) = true := plainFor_of_name (by decide +kernel)
set_option maxRecDepth 100000 in
theorem cw_239 : lw_tbl[1914]? = some (.code (mN 239) (mC 239) (mL 239) (mR 239)) := rfl
theorem pl_239 : plainFor (mN 239) = true := plainFor_of_name (by decide +kernel)
set_option maxRecDepth 100000 in
theorem cw_240 : lw_tbl[1922]? = some (.code (mN 240) (mC 240) (mL 240) (mR 240)) := rfl
theorem pl_240 : plainFor (mN 240) = true := plainFor_of_name (by decide +kernel)
set_option maxRecDepth 100000 in
theorem cw_241 : lw_tbl[1925]? = some (.code (mN 241) (mC 241) (mL 241) (mR 241)) := rfl
theorem pl_241 : plainFor (mN 241) = true := plainFor_of_name (by decide +kernel)
set_option maxRecDepth 100000 in
theorem cw_242 : lw_tbl[1918]? = some (.code (mN 242) (mC 242) (mL 242) (mR 242)) := rfl
theorem pl_242 : plainFor (mN 242) = true := plainFor_of_name (by decide +kernel)
set_option maxRecDepth 100000 in
theorem cw_243 : lw_tbl[1929]? = some (.code (mN 243) (mC 243) (mL 243) (mR 243)) := rfl
theorem pl_243 : plainFor (mN 243) = true := plainFor_of_name (by decide +kernel)
set_option maxRecDepth 100000 in
theorem cw_244 : lw_tbl[1933]? = some (.code (mN 244) (mC 244) (mL 244) (mR 244)) := rfl
theorem pl_244 : plainFor (mN 244) = true := plainFor_of_name (by decide +kernel)
set_option maxRecDepth 100000 in
theorem cw_245 : lw_tbl[1945]? = some (.code (mN 245) (mC 245) (mL 245) (mR 245)) := rfl
theorem pl_245 : plainFor (mN 245) = true := plainFor_of_name (by decide +kernel)
set_option maxRecDepth 100000 in
theorem cw_246 : lw_tbl[1941]? = some (.code (mN 246) (mC 246) (mL 246) (mR 246)) := rfl
theorem pl_246 : plainFor (mN 246) = true := plainFor_of_name (by decide +kernel)
set_option maxRecDepth 100000 in
theorem cw_247 : lw_tbl[1937]? = some (.code (mN 247) (mC 247) (mL 247) (mR 247)) := rfl
theorem pl_247 : plainFor (mN 247) = true := plainFor_of_name (by decide +kernel)
set_option maxRecDepth 100000 in
theorem cw_248 : lw_tbl[1949]? = some (.code (mN 248) (mC 248) (mL 248) (mR 248)) := rfl
theorem pl_248 : plainFor (mN 248) = true := plainFor_of_name (by decide +kernel)
set_option maxRecDepth 100000 in
theorem cw_249 : lw_tbl[1953]? = some (.code (mN 249) (mC 249) (mL 249) (mR 249)) := rfl
theorem pl_249 : plainFor (mN 249) = true := plainFor_of_name (by decide +kernel)
set_option maxRecDepth 100000 in
theorem cw_250 : lw_tbl[1957]? = some (.code (mN 250) (mC 250) (mL 250) (mR 250)) := rfl
theorem pl_250 : plainFor (mN 250) = true := plainFor_of_name (by decide +kernel)
set_option maxRecDepth 100000 in
theorem cw_251 : lw_tbl[1963]? = some (.code (mN 251) (mC 251) (mL 251) (mR 251)) := rfl
theorem pl_251 : plainFor (mN 251) = true := plainFor_of_name (by decide +kernel)
set_option maxRecDepth 100000 in
theorem cw_252 : lw_tbl[1968]? = some (.code (mN 252) (mC 252) (mL 252) (mR 252)) := rfl
theorem pl_252 : plainFor (mN 252) = true := plainFor_of_name (by decide +kernel)
set_option maxRecDepth 100000 in
theorem cw_253 : lw_tbl[1972]? = some (.code (mN 253) (mC 253) (mL 253) (mR 253)) := rfl
theorem pl_253 : plainFor (mN 253) = true := plainFor_of_name (by decide +kernel)
set_option maxRecDepth 100000 in
theorem cw_254 : lw_tbl[1978]? = some (.code (mN 254) (mC 254) (mL 254) (mR 254)) := rfl
theorem pl_254 : plainFor (mN 254) = true := plainFor_of_name (by decide +kernel)
set_option maxRecDepth 100000 in
theorem cw_255 : lw_tbl[1141]? = some (.code (mN 255) (mC 255) (mL 255) (mR 255)) := rfl
theorem pl_255 : plainFor (mN 255) = true := plainFor_of_name (by decide +kernel)
set_option maxRecDepth 100000 in
theorem cw_256 : lw_tbl[1034]? = some (.code (mN 256) (mC 256) (mL 256) (mR 256)) := rfl
theorem pl_256 : plainFor (mN 256) = true := plainFor_of_name (by decide +kernel)
set_option maxRecDepth 100000 in
theorem cw_257 : lw_tbl[1179]? = some (.code (mN 257) (mC 257) (mL 257) (mR 257)) := rfl
theorem pl_257 : plainFor (mN 257) = true := by decide +kernel
set_option maxRecDepth 100000 in
theorem cw_258 : lw_tbl[1889]? = some (.code (mN 258) (mC 258) (mL 258) (mR 258)) := rfl
theorem pl_258 : plainFor (mN 258) = true := by decide +kernel
set_option maxRecDepth 100000 in
theorem cw_259 : lw_tbl[1028]? = some (.code (mN 259) (mC 259) (mL 259) (mR 259)) := rfl
theorem pl_259 : plainFor (mN 259) = true := by decide +kernel
set_option maxRecDepth 100000 in
theorem cw_260 : lw_tbl[1004]? = some (.code (mN 260) (mC 260) (mL 260) (mR 260)) := rfl
theorem pl_260 : plainFor (mN 260) = true := by decide +kernel
set_option maxRecDepth 100000 in
theorem cw_261 : lw_tbl[1113]? = some (.code (mN 261) (mC 261) (mL 261) (mR 261)) := rfl
theorem pl_261 : plainFor (mN 261) = true := by decide +kernel
set_option maxRecDepth 100000 in
theorem cw_262 : lw_tbl[1292]? = some (.code (mN 262) (mC 262) (mL 262) (mR 262)) := rfl
theorem pl_262 : plainFor (mN 262) = true := by decide +kernel
set_option maxRecDepth 100000 in
theorem cw_263 : lw_tbl[774]? = some (.code (mN 263) (mC 263) (mL 263) (mR 263)) := rfl
theorem pl_263 : plainFor (mN 263) = true := plainFor_of_name (by decide +kernel)
set_option maxRecDepth 100000 in
theorem cw_264 : lw_tbl[784]? = some (.code (mN 264) (mC 264) (mL 264) (mR 264)) := rfl
theorem pl_264 : plainFor (mN 264) = true := plainFor_of_name (by decide +kernel)
set_option maxRecDepth 100000 in
theorem cw_265 : lw_tbl[778]? = some (.code (mN 265) (mC 265) (mL 265) (mR 265)) := rfl
theorem pl_265 : plainFor (mN 265) = true := plainFor_of_name (by decide +kernel)
set_option maxRecDepth 100000 in
theorem cw_266 : lw_tbl[788]? = some (.code (mN 266) (mC 266) (mL 266) (mR 266)) := rfl
theorem pl_266 : plainFor (mN 266) = true := plainFor_of_name (by decide +kernel)
set_option maxRecDepth 100000 in
theorem cw_267 : lw_tbl[794]? = some (.code (mN 267) (mC 267) (mL 267) (mR 267)) := rfl
theorem pl_267 : plainFor (mN 267) = true := plainFor_of_name (by decide +kernel)
set_option maxRecDepth 100000 in
theorem cw_268 : lw_tbl[791]? = some (.code (mN 268) (mC 268) (mL 268) (mR 268)) := rfl
theorem pl_268 : plainFor (mN 268) = true := plainFor_of_name (by decide +kernel)
set_option maxRecDepth 100000 in
theorem cw_269 : lw_tbl[812]? = some (.code (mN 269) (mC 269) (mL 269) (mR 269)) := rfl
theorem pl_269 : plainFor (mN 269) = true := plainFor_of_name (by decide +kernel)
set_option maxRecDepth 100000 in
theorem cw_270 : lw_tbl[808]? = some (.code (mN 270) (mC 270) (mL 270) (mR 270)) := rfl
theorem pl_270 : plainFor (mN 270) = true := plainFor_of_name (by decide +kernel)
set_option maxRecDepth 100000 in
theorem cw_271 : lw_tbl[802]? = some (.code (mN 271) (mC 271) (mL 271) (mR 271)) := rfl
theorem pl_271 : plainFor (mN 271) = true := plainFor_of_name (by decide +kernel)
set_option maxRecDepth 100000 in
theorem cw_272 : lw_tbl[805]? = some (.code (mN 272) (mC 272) (mL 272) (mR 272)) := rfl
theorem pl_272 : plainFor (mN 272) = true := plainFor_of_name (by decide +kernel)
set_option maxRecDepth 100000 in
theorem cw_273 : lw_tbl[664]? = some (.code (mN 273) (mC 273) (mL 273) (mR 273)) := rfl
theorem pl_273 : plainFor (mN 273) = true := plainFor_of_name (by decide +kernel)
set_option maxRecDepth 100000 in
theorem cw_274 : lw_tbl[736]? = some (.code (mN 274) (mC 274) (mL 274) (mR 274)) := rfl
theorem pl_274 : plainFor (mN 274) = true := plainFor_of_name (by decide +kernel)
set_option maxRecDepth 100000 in
theorem cw_275 : lw_tbl[799]? = some (.code (mN 275) (mC 275) (mL 275) (mR 275)) := rfl
theorem pl_275 : plainFor (mN 275) = true := plainFor_of_name (by decide +kernel)
