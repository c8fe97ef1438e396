set_option maxRecDepth 100000 in
theorem pk_0 : lw_tbl[(pt_hw 0).getD 0 0]? = some (.code (pt_y 0) (pt_bytes 0) (pt_maxL 0) (pt_retT 0)) := rfl
set_option maxRecDepth 100000 in
theorem pk_1 : lw_tbl[(pt_hw 1).getD 0 0]? = some (.code (pt_y 1) (pt_bytes 1) (pt_maxL 1) (pt_retT 1)) := rfl
set_option maxRecDepth 100000 in
theorem pk_2 : lw_tbl[(pt_hw 2).getD 0 0]? = some (.code (pt_y 2) (pt_bytes 2) (pt_maxL 2) (pt_retT 2)) := rfl
set_option maxRecDepth 100000 in
theorem pk_3 : lw_tbl[(pt_hw 3).getD 0 0]? = some (.code (pt_y 3) (pt_bytes 3) (pt_maxL 3) (pt_retT 3)) := rfl
set_option maxRecDepth 100000 in
theorem pk_4 : lw_tbl[(pt_hw 4).getD 0 0]? = some (.code (pt_y 4) (pt_bytes 4) (pt_maxL 4) (pt_retT 4)) := rfl
set_option maxRecDepth 100000 in
theorem pk_5 : lw_tbl[(pt_hw 5).getD 0 0]? = some (.code (pt_y 5) (pt_bytes 5) (pt_maxL 5) (pt_retT 5)) := rfl
set_option maxRecDepth 100000 in
theorem pk_6 : lw_tbl[(pt_hw 6).getD 0 0]? = some (.code (pt_y 6) (pt_bytes 6) (pt_maxL 6) (pt_retT 6)) := rfl
set_option maxRecDepth 100000 in
theorem pk_7 : lw_tbl[(pt_hw 7).getD 0 0]? = some (.code (pt_y 7) (pt_bytes 7) (pt_maxL 7) (pt_retT 7)) := rfl
set_option maxRecDepth 100000 in
theorem pk_8 : lw_tbl[(pt_hw 8).getD 0 0]? = some (.code (pt_y 8) (pt_bytes 8) (pt_maxL 8) (pt_retT 8)) := rfl
set_option maxRecDepth 100000 in
theorem pk_9 : lw_tbl[(pt_hw 9).getD 0 0]? = some (.code (pt_y 9) (pt_bytes 9) (pt_maxL 9) (pt_retT 9)) := rfl
set_option maxRecDepth 100000 in
theorem pk_10 : lw_tbl[(pt_hw 10).getD 0 0]? = some (.code (pt_y 10) (pt_bytes 10) (pt_maxL 10) (pt_retT 10)) := rfl
set_option maxRecDepth 100000 in
theorem pk_11 : lw_tbl[(pt_hw 11).getD 0 0]? = some (.code (pt_y 11) (pt_bytes 11) (pt_maxL 11) (pt_retT 11)) := rfl
set_option maxRecDepth 100000 in
theorem pk_12 : lw_tbl[(pt_hw 12).getD 0 0]? = some (.code (pt_y 12) (pt_bytes 12) (pt_maxL 12) (pt_retT 12)) := rfl
set_option maxRecDepth 100000 in
theorem pk_13 : lw_tbl[(pt_hw 13).getD 0 0]? = some (.code (pt_y 13) (pt_bytes 13) (pt_maxL 13) (pt_retT 13)) := rfl
set_option maxRecDepth 100000 in
theorem pk_14 : lw_tbl[(pt_hw 14).getD 0 0]? = some (.code (pt_y 14) (pt_bytes 14) (pt_maxL 14) (pt_retT 14)) := rfl
set_option maxRecDepth 100000 in
theorem pk_15 : lw_tbl[(pt_hw 15).getD 0 0]? = some (.code (pt_y 15) (pt_bytes 15) (pt_maxL 15) (pt_retT 15)) := rfl
set_option maxRecDepth 100000 in
theorem pk_16 : lw_tbl[(pt_hw 16).getD 0 0]? = some (.code (pt_y 16) (pt_bytes 16) (pt_maxL 16) (pt_retT 16)) := rfl
set_option maxRecDepth 100000 in
theorem pk_17 : lw_tbl[(pt_hw 17).getD 0 0]? = some (.code (pt_y 17) (pt_bytes 17) (pt_maxL 17) (pt_retT 17)) := rfl
set_option maxRecDepth 100000 in
theorem pk_18 : lw_tbl[(pt_hw 18).getD 0 0]? = some (.code (pt_y 18) (pt_bytes 18) (pt_maxL 18) (pt_retT 18)) := rfl
set_option maxRecDepth 100000 in
theorem pk_19 : lw_tbl[(pt_hw 19).getD 0 0]? = some (.code (pt_y 19) (pt_bytes 19) (pt_maxL 19) (pt_retT 19)) := rfl
set_option maxRecDepth 100000 in
theorem pk_20 : lw_tbl[(pt_hw 20).getD 0 0]? = some (.code (pt_y 20) (pt_bytes 20) (pt_maxL 20) (pt_retT 20)) := rfl
set_option maxRecDepth 100000 in
theorem pk_21 : lw_tbl[(pt_hw 21).getD 0 0]? = some (.code (pt_y 21) (pt_bytes 21) (pt_maxL 21) (pt_retT 21)) := rfl
set_option maxRecDepth 100000 in
theorem pk_22 : lw_tbl[(pt_hw 22).getD 0 0]? = some (.code (pt_y 22) (pt_bytes 22) (pt_maxL 22) (pt_retT 22)) := rfl
set_option maxRecDepth 100000 in
theorem pk_23 : lw_tbl[(pt_hw 23).getD 0 0]? = some (.code (pt_y 23) (pt_bytes 23) (pt_maxL 23) (pt_retT 23)) := rfl
set_option maxRecDepth 100000 in
theorem pk_24 : lw_tbl[(pt_hw 24).getD 0 0]? = some (.code (pt_y 24) (pt_bytes 24) (pt_maxL 24) (pt_retT 24)) := rfl
set_option maxRecDepth 100000 in
theorem pk_25 : lw_tbl[(pt_hw 25).getD 0 0]? = some (.code (pt_y 25) (pt_bytes 25) (pt_maxL 25) (pt_retT 25)) := rfl
set_option maxRecDepth 100000 in
theorem pk_26 : lw_tbl[(pt_hw 26).getD 0 0]? = some (.code (pt_y 26) (pt_bytes 26) (pt_maxL 26) (pt_retT 26)) := rfl
set_option maxRecDepth 100000 in
theorem pk_27 : lw_tbl[(pt_hw 27).getD 0 0]? = some (.code (pt_y 27) (pt_bytes 27) (pt_maxL 27) (pt_retT 27)) := rfl
set_option maxRecDepth 100000 in
theorem pk_28 : lw_tbl[(pt_hw 28).getD 0 0]? = some (.code (pt_y 28) (pt_bytes 28) (pt_maxL 28) (pt_retT 28)) := rfl
set_option maxRecDepth 100000 in
theorem pk_29 : lw_tbl[(pt_hw 29).getD 0 0]? = some (.code (pt_y 29) (pt_bytes 29) (pt_maxL 29) (pt_retT 29)) := rfl
set_option maxRecDepth 100000 in
theorem pk_30 : lw_tbl[(pt_hw 30).getD 0 0]? = some (.code (pt_y 30) (pt_bytes 30) (pt_maxL 30) (pt_retT 30)) := rfl
set_option maxRecDepth 100000 in
theorem pk_31 : lw_tbl[(pt_hw 31).getD 0 0]? = some (.code (pt_y 31) (pt_bytes 31) (pt_maxL 31) (pt_retT 31)) := rfl
set_option maxRecDepth 100000 in
theorem pk_32 : lw_tbl[(pt_hw 32).getD 0 0]? = some (.code (pt_y 32) (pt_bytes 32) (pt_maxL 32) (pt_retT 32)) := rfl
set_option maxRecDepth 100000 in
theorem pk_33 : lw_tbl[(pt_hw 33).getD 0 0]? = some (.code (pt_y 33) (pt_bytes 33) (pt_maxL 33) (pt_retT 33)) := rfl
set_option maxRecDepth 100000 in
theorem pk_34 : lw_tbl[(pt_hw 34).getD 0 0]? = some (.code (pt_y 34) (pt_bytes 34) (pt_maxL 34) (pt_retT 34)) := rfl
set_option maxRecDepth 100000 in
theorem pk_35 : lw_tbl[(pt_hw 35).getD 0 0]? = some (.code (pt_y 35) (pt_bytes 35) (pt_maxL 35) (pt_retT 35)) := rfl
set_option maxRecDepth 100000 in
theorem pk_36 : lw_tbl[(pt_hw 36).getD 0 0]? = some (.code (pt_y 36) (pt_bytes 36) (pt_maxL 36) (pt_retT 36)) := rfl
set_option maxRecDepth 100000 in
theorem pk_37 : lw_tbl[(pt_hw 37).getD 0 0]? = some (.code (pt_y 37) (pt_bytes 37) (pt_maxL 37) (pt_retT 37)) := rfl
set_option maxRecDepth 100000 in
theorem pk_38 : lw_tbl[(pt_hw 38).getD 0 0]? = some (.code (pt_y 38) (pt_bytes 38) (pt_maxL 38) (pt_retT 38)) := rfl
set_option maxRecDepth 100000 in
theorem pk_39 : lw_tbl[(pt_hw 39).getD 0 0]? = some (.code (pt_y 39) (pt_bytes 39) (pt_maxL 39) (pt_retT 39)) := rfl
set_option maxRecDepth 100000 in
theorem pk_40 : lw_tbl[(pt_hw 40).getD 0 0]? = some (.code (pt_y 40) (pt_bytes 40) (pt_maxL 40) (pt_retT 40)) := rfl
set_option maxRecDepth 100000 in
theorem pk_41 : lw_tbl[(pt_hw 41).getD 0 0]? = some (.code (pt_y 41) (pt_bytes 41) (pt_maxL 41) (pt_retT 41)) := rfl
set_option maxRecDepth 100000 in
theorem pk_42 : lw_tbl[(pt_hw 42).getD 0 0]? = some (.code (pt_y 42) (pt_bytes 42) (pt_maxL 42) (pt_retT 42)) := rfl
set_option maxRecDepth 100000 in
theorem pk_43 : lw_tbl[(pt_hw 43).getD 0 0]? = some (.code (pt_y 43) (pt_bytes 43) (pt_maxL 43) (pt_retT 43)) := rfl
set_option maxRecDepth 100000 in
theorem pk_44 : lw_tbl[(pt_hw 44).getD 0 0]? = some (.code (pt_y 44) (pt_bytes 44) (pt_maxL 44) (pt_retT 44)) := rfl
set_option maxRecDepth 100000 in
theorem pk_45 : lw_tbl[(pt_hw 45).getD 0 0]? = some (.code (pt_y 45) (pt_bytes 45) (pt_maxL 45) (pt_retT 45)) := rfl
set_option maxRecDepth 100000 in
theorem pk_46 : lw_tbl[(pt_hw 46).getD 0 0]? = some (.code (pt_y 46) (pt_bytes 46) (pt_maxL 46) (pt_retT 46)) := rfl
set_option maxRecDepth 100000 in
theorem pk_47 : lw_tbl[(pt_hw 47).getD 0 0]? = some (.code (pt_y 47) (pt_bytes 47) (pt_maxL 47) (pt_retT 47)) := rfl
set_option maxRecDepth 100000 in
theorem pk_48 : lw_tbl[(pt_hw 48).getD 0 0]? = some (.code (pt_y 48) (pt_bytes 48) (pt_maxL 48) (pt_retT 48)) := rfl
set_option maxRecDepth 100000 in
theorem pk_49 : lw_tbl[(pt_hw 49).getD 0 0]? = some (.code (pt_y 49) (pt_bytes 49) (pt_maxL 49) (pt_retT 49)) := rfl
set_option maxRecDepth 100000 in
theorem pk_50 : lw_tbl[(pt_hw 50).getD 0 0]? = some (.code (pt_y 50) (pt_bytes 50) (pt_maxL 50) (pt_retT 50)) := rfl
set_option maxRecDepth 100000 in
theorem pk_51 : lw_tbl[(pt_hw 51).getD 0 0]? = some (.code (pt_y 51) (pt_bytes 51) (pt_maxL 51) (pt_retT 51)) := rfl
set_option maxRecDepth 100000 in
theorem pk_52 : lw_tbl[(pt_hw 52).getD 0 0]? = some (.code (pt_y 52) (pt_bytes 52) (pt_maxL 52) (pt_retT 52)) := rfl
set_option maxRecDepth 100000 in
theorem pk_53 : lw_tbl[(pt_hw 53).getD 0 0]? = some (.code (pt_y 53) (pt_bytes 53) (pt_maxL 53) (pt_retT 53)) := rfl
set_option maxRecDepth 100000 in
theorem pk_54 : lw_tbl[(pt_hw 54).getD 0 0]? = some (.code (pt_y 54) (pt_bytes 54) (pt_maxL 54) (pt_retT 54)) := rfl
set_option maxRecDepth 100000 in
theorem pk_55 : lw_tbl[(pt_hw 55).getD 0 0]? = some (.code (pt_y 55) (pt_bytes 55) (pt_maxL 55) (pt_retT 55)) := rfl
set_option maxRecDepth 100000 in
theorem pk_56 : lw_tbl[(pt_hw 56).getD 0 0]? = some (.code (pt_y 56) (pt_bytes 56) (pt_maxL 56) (pt_retT 56)) := rfl
set_option maxRecDepth 100000 in
theorem pk_57 : lw_tbl[(pt_hw 57).getD 0 0]? = some (.code (pt_y 57) (pt_bytes 57) (pt_maxL 57) (pt_retT 57)) := rfl
set_option maxRecDepth 100000 in
theorem pk_58 : lw_tbl[(pt_hw 58).getD 0 0]? = some (.code (pt_y 58) (pt_bytes 58) (pt_maxL 58) (pt_retT 58)) := rfl
set_option maxRecDepth 100000 in
theorem pk_59 : lw_tbl[(pt_hw 59).getD 0 0]? = some (.code (pt_y 59) (pt_bytes 59) (pt_maxL 59) (pt_retT 59)) := rfl
set_option maxRecDepth 100000 in
theorem pk_60 : lw_tbl[(pt_hw 60).getD 0 0]? = some (.code (pt_y 60) (pt_bytes 60) (pt_maxL 60) (pt_retT 60)) := rfl
set_option maxRecDepth 100000 in
theorem pk_61 : lw_tbl[(pt_hw 61).getD 0 0]? = some (.code (pt_y 61) (pt_bytes 61) (pt_maxL 61) (pt_retT 61)) := rfl
set_option maxRecDepth 100000 in
theorem pk_62 : lw_tbl[(pt_hw 62).getD 0 0]? = some (.code (pt_y 62) (pt_bytes 62) (pt_maxL 62) (pt_retT 62)) := rfl
set_option maxRecDepth 100000 in
theorem pk_63 : lw_tbl[(pt_hw 63).getD 0 0]? = some (.code (pt_y 63) (pt_bytes 63) (pt_maxL 63) (pt_retT 63)) := rfl
set_option maxRecDepth 100000 in
theorem pk_64 : lw_tbl[(pt_hw 64).getD 0 0]? = some (.code (pt_y 64) (pt_bytes 64) (pt_maxL 64) (pt_retT 64)) := rfl
set_option maxRecDepth 100000 in
theorem pk_65 : lw_tbl[(pt_hw 65).getD 0 0]? = some (.code (pt_y 65) (pt_bytes 65) (pt_maxL 65) (pt_retT 65)) := rfl
set_option maxRecDepth 100000 in
theorem pk_66 : lw_tbl[(pt_hw 66).getD 0 0]? = some (.code (pt_y 66) (pt_bytes 66) (pt_maxL 66) (pt_retT 66)) := rfl
set_option maxRecDepth 100000 in
theorem pk_67 : lw_tbl[(pt_hw 67).getD 0 0]? = some (.code (pt_y 67) (pt_bytes 67) (pt_maxL 67) (pt_retT 67)) := rfl
set_option maxRecDepth 100000 in
theorem pk_68 : lw_tbl[(pt_hw 68).getD 0 0]? = some (.code (pt_y 68) (pt_bytes 68) (pt_maxL 68) (pt_retT 68)) := rfl
set_option maxRecDepth 100000 in
theorem pk_69 : lw_tbl[(pt_hw 69).getD 0 0]? = some (.code (pt_y 69) (pt_bytes 69) (pt_maxL 69) (pt_retT 69)) := rfl
set_option maxRecDepth 100000 in
theorem pk_70 : lw_tbl[(pt_hw 70).getD 0 0]? = some (.code (pt_y 70) (pt_bytes 70) (pt_maxL 70) (pt_retT 70)) := rfl
set_option maxRecDepth 100000 in
theorem pk_71 : lw_tbl[(pt_hw 71).getD 0 0]? = some (.code (pt_y 71) (pt_bytes 71) (pt_maxL 71) (pt_retT 71)) := rfl
set_option maxRecDepth 100000 in
theorem pk_72 : lw_tbl[(pt_hw 72).getD 0 0]? = some (.code (pt_y 72) (pt_bytes 72) (pt_maxL 72) (pt_retT 72)) := rfl
set_option maxRecDepth 100000 in
theorem pk_73 : lw_tbl[(pt_hw 73).getD 0 0]? = some (.code (pt_y 73) (pt_bytes 73) (pt_maxL 73) (pt_retT 73)) := rfl
set_option maxRecDepth 100000 in
theorem pk_74 : lw_tbl[(pt_hw 74).getD 0 0]? = some (.code (pt_y 74) (pt_bytes 74) (pt_maxL 74) (pt_retT 74)) := rfl
set_option maxRecDepth 100000 in
theorem pk_75 : lw_tbl[(pt_hw 75).getD 0 0]? = some (.code (pt_y 75) (pt_bytes 75) (pt_maxL 75) (pt_retT 75)) := rfl
set_option maxRecDepth 100000 in
theorem pk_76 : lw_tbl[(pt_hw 76).getD 0 0]? = some (.code (pt_y 76) (pt_bytes 76) (pt_maxL 76) (pt_retT 76)) := rfl
set_option maxRecDepth 100000 in
theorem pk_77 : lw_tbl[(pt_hw 77).getD 0 0]? = some (.code (pt_y 77) (pt_bytes 77) (pt_maxL 77) (pt_retT 77)) := rfl
set_option maxRecDepth 100000 in
theorem pk_78 : lw_tbl[(pt_hw 78).getD 0 0]? = some (.code (pt_y 78) (pt_bytes 78) (pt_maxL 78) (pt_retT 78)) := rfl
set_option maxRecDepth 100000 in
theorem pk_79 : lw_tbl[(pt_hw 79).getD 0 0]? = some (.code (pt_y 79) (pt_bytes 79) (pt_maxL 79) (pt_retT 79)) := rfl
set_option maxRecDepth 100000 in
theorem pk_80 : lw_tbl[(pt_hw 80).getD 0 0]? = some (.code (pt_y 80) (pt_bytes 80) (pt_maxL 80) (pt_retT 80)) := rfl
set_option maxRecDepth 100000 in
theorem pk_81 : lw_tbl[(pt_hw 81).getD 0 0]? = some (.code (pt_y 81) (pt_bytes 81) (pt_maxL 81) (pt_retT 81)) := rfl
set_option maxRecDepth 100000 in
theorem pk_82 : lw_tbl[(pt_hw 82).getD 0 0]? = some (.code (pt_y 82) (pt_bytes 82) (pt_maxL 82) (pt_retT 82)) := rfl
set_option maxRecDepth 100000 in
theorem pk_83 : lw_tbl[(pt_hw 83).getD 0 0]? = some (.code (pt_y 83) (pt_bytes 83) (pt_maxL 83) (pt_retT 83)) := rfl
set_option maxRecDepth 100000 in
theorem pk_84 : lw_tbl[(pt_hw 84).getD 0 0]? = some (.code (pt_y 84) (pt_bytes 84) (pt_maxL 84) (pt_retT 84)) := rfl
set_option maxRecDepth 100000 in
theorem pk_85 : lw_tbl[(pt_hw 85).getD 0 0]? = some (.code (pt_y 85) (pt_bytes 85) (pt_maxL 85) (pt_retT 85)) := rfl
set_option maxRecDepth 100000 in
theorem pk_86 : lw_tbl[(pt_hw 86).getD 0 0]? = some (.code (pt_y 86) (pt_bytes 86) (pt_maxL 86) (pt_retT 86)) := rfl
set_option maxRecDepth 100000 in
theorem pk_87 : lw_tbl[(pt_hw 87).getD 0 0]? = some (.code (pt_y 87) (pt_bytes 87) (pt_maxL 87) (pt_retT 87)) := rfl
set_option maxRecDepth 100000 in
theorem pk_88 : lw_tbl[(pt_hw 88).getD 0 0]? = some (.code (pt_y 88) (pt_bytes 88) (pt_maxL 88) (pt_retT 88)) := rfl
set_option maxRecDepth 100000 in
theorem pk_89 : lw_tbl[(pt_hw 89).getD 0 0]? = some (.code (pt_y 89) (pt_bytes 89) (pt_maxL 89) (pt_retT 89)) := rfl
set_option maxRecDepth 100000 in
theorem pk_90 : lw_tbl[(pt_hw 90).getD 0 0]? = some (.code (pt_y 90) (pt_bytes 90) (pt_maxL 90) (pt_retT 90)) := rfl
set_option maxRecDepth 100000 in
theorem pk_91 : lw_tbl[(pt_hw 91).getD 0 0]? = some (.code (pt_y 91) (pt_bytes 91) (pt_maxL 91) (pt_retT 91)) := rfl
set_option maxRecDepth 100000 in
theorem pk_92 : lw_tbl[(pt_hw 92).getD 0 0]? = some (.code (pt_y 92) (pt_bytes 92) (pt_maxL 92) (pt_retT 92)) := rfl
set_option maxRecDepth 100000 in
theorem pk_93 : lw_tbl[(pt_hw 93).getD 0 0]? = some (.code (pt_y 93) (pt_bytes 93) (pt_maxL 93) (pt_retT 93)) := rfl
set_option maxRecDepth 100000 in
theorem pk_94 : lw_tbl[(pt_hw 94).getD 0 0]? = some (.code (pt_y 94) (pt_bytes 94) (pt_maxL 94) (pt_retT 94)) := rfl
set_option maxRecDepth 100000 in
theorem pm_0 : pl_m 0 = true := by decide +kernel
set_option maxRecDepth 100000 in
theorem pm_1 : pl_m 1 = true := by decide +kernel
set_option maxRecDepth 100000 in
theorem pm_2 : pl_m 2 = true := by decide +kernel
set_option maxRecDepth 100000 in
theorem pm_3 : pl_m 3 = true := by decide +kernel
set_option maxRecDepth 100000 in
theorem pm_4 : pl_m 4 = true := by decide +kernel
set_option maxRecDepth 100000 in
theorem pm_5 : pl_m 5 = true := by decide +kernel
set_option maxRecDepth 100000 in
theorem pm_6 : pl_m 6 = true := by decide +kernel
set_option maxRecDepth 100000 in
theorem pm_7 : pl_m 7 = true := by decide +kernel
set_option maxRecDepth 100000 in
theorem pm_8 : pl_m 8 = true := by decide +kernel
set_option maxRecDepth 100000 in
theorem pm_9 : pl_m 9 = true := by decide +kernel
set_option maxRecDepth 100000 in
theorem pm_10 : pl_m 10 = true := by decide +kernel
set_option maxRecDepth 100000 in
theorem pm_11 : pl_m 11 = true := by decide +kernel
set_option maxRecDepth 100000 in
theorem pm_12 : pl_m 12 = true := by decide +kernel
set_option maxRecDepth 100000 in
theorem pm_13 : pl_m 13 = true := by decide +kernel
set_option maxRecDepth 100000 in
theorem pm_14 : pl_m 14 = true := by decide +kernel
set_option maxRecDepth 100000 in
theorem pm_15 : pl_m 15 = true := by decide +kernel
set_option maxRecDepth 100000 in
theorem pm_16 : pl_m 16 = true := by decide +kernel
set_option maxRecDepth 100000 in
theorem pm_17 : pl_m 17 = true := by decide +kernel
set_option maxRecDepth 100000 in
theorem pm_18 : pl_m 18 = true := by decide +kernel
set_option maxRecDepth 100000 in
theorem pm_19 : pl_m 19 = true := by decide +kernel
set_option maxRecDepth 100000 in
theorem pm_20 : pl_m 20 = true := by decide +kernel
set_option maxRecDepth 100000 in
theorem pm_21 : pl_m 21 = true := by decide +kernel
set_option maxRecDepth 100000 in
theorem pm_22 : pl_m 22 = true := by decide +kernel
set_option maxRecDepth 100000 in
theorem pm_23 : pl_m 23 = true := by decide +kernel
set_option maxRecDepth 100000 in
theorem pm_24 : pl_m 24 = true := by decide +kernel
set_option maxRecDepth 100000 in
theorem pm_25 : pl_m 25 = true := by decide +kernel
set_option maxRecDepth 100000 in
theorem pm_26 : pl_m 26 = true := by decide +kernel
set_option maxRecDepth 100000 in
theorem pm_27 : pl_m 27 = true := by decide +kernel
set_option maxRecDepth 100000 in
theorem pm_28 : pl_m 28 = true := by decide +kernel
set_option maxRecDepth 100000 in
theorem pm_29 : pl_m 29 = true := by decide +kernel
set_option maxRecDepth 100000 in
theorem pm_30 : pl_m 30 = true := by decide +kernel
set_option maxRecDepth 100000 in
theorem pm_31 : pl_m 31 = true := by decide +kernel
set_option maxRecDepth 100000 in
theorem pm_32 : pl_m 32 = true := by decide +kernel
set_option maxRecDepth 100000 in
theorem pm_33 : pl_m 33 = true := by decide +kernel
set_option maxRecDepth 100000 in
theorem pm_34 : pl_m 34 = true := by decide +kernel
set_option maxRecDepth 100000 in
theorem pm_35 : pl_m 35 = true := by decide +kernel
set_option maxRecDepth 100000 in
theorem pm_36 : pl_m 36 = true := by decide +kernel
set_option maxRecDepth 100000 in
theorem pm_37 : pl_m 37 = true := by decide +kernel
set_option maxRecDepth 100000 in
theorem pm_38 : pl_m 38 = true := by decide +kernel
set_option maxRecDepth 100000 in
theorem pm_39 : pl_m 39 = true := by decide +kernel
set_option maxRecDepth 100000 in
theorem pm_40 : pl_m 40 = true := by decide +kernel
set_option maxRecDepth 100000 in
theorem pm_41 : pl_m 41 = true := by decide +kernel
set_option maxRecDepth 100000 in
theorem pm_42 : pl_m 42 = true := by decide +kernel
set_option maxRecDepth 100000 in
theorem pm_43 : pl_m 43 = true := by decide +kernel
set_option maxRecDepth 100000 in
theorem pm_44 : pl_m 44 = true := by decide +kernel
set_option maxRecDepth 100000 in
theorem pm_45 : pl_m 45 = true := by decide +kernel
set_option maxRecDepth 100000 in
theorem pm_46 : pl_m 46 = true := by decide +kernel
set_option maxRecDepth 100000 in
theorem pm_47 : pl_m 47 = true := by decide +kernel
set_option maxRecDepth 100000 in
theorem pm_48 : pl_m 48 = true := by decide +kernel
set_option maxRecDepth 100000 in
theorem pm_49 : pl_m 49 = true := by decide +kernel
set_option maxRecDepth 100000 in
theorem pm_50 : pl_m 50 = true := by decide +kernel
set_option maxRecDepth 100000 in
theorem pm_51 : pl_m 51 = true := by decide +kernel
set_option maxRecDepth 100000 in
theorem pm_52 : pl_m 52 = true := by decide +kernel
set_option maxRecDepth 100000 in
theorem pm_53 : pl_m 53 = true := by decide +kernel
set_option maxRecDepth 100000 in
theorem pm_54 : pl_m 54 = true := by decide +kernel
set_option maxRecDepth 100000 in
theorem pm_55 : pl_m 55 = true := by decide +kernel
set_option maxRecDepth 100000 in
theorem pm_56 : pl_m 56 = true := by decide +kernel
set_option maxRecDepth 100000 in
theorem pm_57 : pl_m 57 = true := by decide +kernel
set_option maxRecDepth 100000 in
theorem pm_58 : pl_m 58 = true := by decide +kernel
set_option maxRecDepth 100000 in
theorem pm_59 : pl_m 59 = true := by decide +kernel
set_option maxRecDepth 100000 in
theorem pm_60 : pl_m 60 = true := by decide +kernel
set_option maxRecDepth 100000 in
theorem pm_61 : pl_m 61 = true := by decide +kernel
set_option maxRecDepth 100000 in
theorem pm_62 : pl_m 62 = true := by decide +kernel
set_option maxRecDepth 100000 in
theorem pm_63 : pl_m 63 = true := by decide +kernel
set_option maxRecDepth 100000 in
theorem pm_64 : pl_m 64 = true := by decide +kernel
set_option maxRecDepth 100000 in
theorem pm_65 : pl_m 65 = true := by decide +kernel
set_option maxRecDepth 100000 in
theorem pm_66 : pl_m 66 = true := by decide +kernel
set_option maxRecDepth 100000 in
theorem pm_67 : pl_m 67 = true := by decide +kernel
set_option maxRecDepth 100000 in
theorem pm_68 : pl_m 68 = true := by decide +kernel
set_option maxRecDepth 100000 in
theorem pm_69 : pl_m 69 = true := by decide +kernel
set_option maxRecDepth 100000 in
theorem pm_70 : pl_m 70 = true := by decide +kernel
set_option maxRecDepth 100000 in
theorem pm_71 : pl_m 71 = true := by decide +kernel
set_option maxRecDepth 100000 in
theorem pm_72 : pl_m 72 = true := by decide +kernel
set_option maxRecDepth 100000 in
theorem pm_73 : pl_m 73 = true := by decide +kernel
set_option maxRecDepth 100000 in
theorem pm_74 : pl_m 74 = true := by decide +kernel
set_option maxRecDepth 100000 in
theorem pm_75 : pl_m 75 = true := by decide +kernel
set_option maxRecDepth 100000 in
theorem pm_76 : pl_m 76 = true := by decide +kernel
set_option maxRecDepth 100000 in
theorem pm_77 : pl_m 77 = true := by decide +kernel
set_option maxRecDepth 100000 in
theorem pm_78 : pl_m 78 = true := by decide +kernel
set_option maxRecDepth 100000 in
theorem pm_79 : pl_m 79 = true := by decide +kernel
set_option maxRecDepth 100000 in
theorem pm_80 : pl_m 80 = true := by decide +kernel
set_option maxRecDepth 100000 in
theorem pm_81 : pl_m 81 = true := by decide +kernel
set_option maxRecDepth 100000 in
theorem pm_82 : pl_m 82 = true := by decide +kernel
set_option maxRecDepth 100000 in
theorem pm_83 : pl_m 83 = true := by decide +kernel
set_option maxRecDepth 100000 in
theorem pm_84 : pl_m 84 = true := by decide +kernel
set_option maxRecDepth 100000 in
theorem pm_85 : pl_m 85 = true := by decide +kernel
set_option maxRecDepth 100000 in
theorem pm_86 : pl_m 86 = true := by decide +kernel
set_option maxRecDepth 100000 in
theorem pm_87 : pl_m 87 = true := by decide +kernel
set_option maxRecDepth 100000 in
theorem pm_88 : pl_m 88 = true := by decide +kernel
set_option maxRecDepth 100000 in
theorem pm_89 : pl_m 89 = true := by decide +kernel
set_option maxRecDepth 100000 in
theorem pm_90 : pl_m 90 = true := by decide +kernel
set_option maxRecDepth 100000 in
theorem pm_91 : pl_m 91 = true := by decide +kernel
set_option maxRecDepth 100000 in
theorem pm_92 : pl_m 92 = true := by decide +kernel
set_option maxRecDepth 100000 in
theorem pm_93 : pl_m 93 = true := by decide +kernel
set_option maxRecDepth 100000 in
theorem pm_94 : pl_m 94 = true := by decide +kernel
set_option maxRecDepth 100000 in
theorem po_0 : (pt_code 0).all (pl_ok 0) = true := by decide +kernel
set_option maxRecDepth 100000 in
theorem po_1 : (pt_code 1).all (pl_ok 1) = true := by decide +kernel
set_option maxRecDepth 100000 in
theorem po_2 : (pt_code 2).all (pl_ok 2) = true := by decide +kernel
set_option maxRecDepth 100000 in
theorem po_3 : (pt_code 3).all (pl_ok 3) = true := by decide +kernel
set_option maxRecDepth 100000 in
theorem po_4 : (pt_code 4).all (pl_ok 4) = true := by decide +kernel
set_option maxRecDepth 100000 in
theorem po_5 : (pt_code 5).all (pl_ok 5) = true := by decide +kernel
set_option maxRecDepth 100000 in
theorem po_6 : (pt_code 6).all (pl_ok 6) = true := by decide +kernel
set_option maxRecDepth 100000 in
theorem po_7 : (pt_code 7).all (pl_ok 7) = true := by decide +kernel
set_option maxRecDepth 100000 in
theorem po_8 : (pt_code 8).all (pl_ok 8) = true := by decide +kernel
set_option maxRecDepth 100000 in
theorem po_9 : (pt_code 9).all (pl_ok 9) = true := by decide +kernel
set_option maxRecDepth 100000 in
theorem po_10 : (pt_code 10).all (pl_ok 10) = true := by decide +kernel
set_option maxRecDepth 100000 in
theorem po_11 : (pt_code 11).all (pl_ok 11) = true := by decide +kernel
set_option maxRecDepth 100000 in
theorem po_12 : (pt_code 12).all (pl_ok 12) = true := by decide +kernel
set_option maxRecDepth 100000 in
theorem po_13 : (pt_code 13).all (pl_ok 13) = true := by decide +kernel
set_option maxRecDepth 100000 in
theorem po_14 : (pt_code 14).all (pl_ok 14) = true := by decide +kernel
set_option maxRecDepth 100000 in
theorem po_15 : (pt_code 15).all (pl_ok 15) = true := by decide +kernel
set_option maxRecDepth 100000 in
theorem po_16 : (pt_code 16).all (pl_ok 16) = true := by decide +kernel
set_option maxRecDepth 100000 in
theorem po_17 : (pt_code 17).all (pl_ok 17) = true := by decide +kernel
set_option maxRecDepth 100000 in
theorem po_18 : (pt_code 18).all (pl_ok 18) = true := by decide +kernel
set_option maxRecDepth 100000 in
theorem po_19 : (pt_code 19).all (pl_ok 19) = true := by decide +kernel
set_option maxRecDepth 100000 in
theorem po_20 : (pt_code 20).all (pl_ok 20) = true := by decide +kernel
set_option maxRecDepth 100000 in
theorem po_21 : (pt_code 21).all (pl_ok 21) = true := by decide +kernel
set_option maxRecDepth 100000 in
theorem po_22 : (pt_code 22).all (pl_ok 22) = true := by decide +kernel
set_option maxRecDepth 100000 in
theorem po_23 : (pt_code 23).all (pl_ok 23) = true := by decide +kernel
set_option maxRecDepth 100000 in
theorem po_24 : (pt_code 24).all (pl_ok 24) = true := by decide +kernel
set_option maxRecDepth 100000 in
theorem po_25 : (pt_code 25).all (pl_ok 25) = true := by decide +kernel
set_option maxRecDepth 100000 in
theorem po_26 : (pt_code 26).all (pl_ok 26) = true := by decide +kernel
set_option maxRecDepth 100000 in
theorem po_27 : (pt_code 27).all (pl_ok 27) = true := by decide +kernel
set_option maxRecDepth 100000 in
theorem po_28 : (pt_code 28).all (pl_ok 28) = true := by decide +kernel
set_option maxRecDepth 100000 in
theorem po_29 : (pt_code 29).all (pl_ok 29) = true := by decide +kernel
set_option maxRecDepth 100000 in
theorem po_30 : (pt_code 30).all (pl_ok 30) = true := by decide +kernel
set_option maxRecDepth 100000 in
theorem po_31 : (pt_code 31).all (pl_ok 31) = true := by decide +kernel
set_option maxRecDepth 100000 in
theorem po_32 : (pt_code 32).all (pl_ok 32) = true := by decide +kernel
set_option maxRecDepth 100000 in
theorem po_33 : (pt_code 33).all (pl_ok 33) = true := by decide +kernel
set_option maxRecDepth 100000 in
theorem po_34 : (pt_code 34).all (pl_ok 34) = true := by decide +kernel
set_option maxRecDepth 100000 in
theorem po_35 : (pt_code 35).all (pl_ok 35) = true := by decide +kernel
set_option maxRecDepth 100000 in
theorem po_36 : (pt_code 36).all (pl_ok 36) = true := by decide +kernel
set_option maxRecDepth 100000 in
theorem po_37 : (pt_code 37).all (pl_ok 37) = true := by decide +kernel
set_option maxRecDepth 100000 in
theorem po_38 : (pt_code 38).all (pl_ok 38) = true := by decide +kernel
set_option maxRecDepth 100000 in
theorem po_39 : (pt_code 39).all (pl_ok 39) = true := by decide +kernel
set_option maxRecDepth 100000 in
theorem po_40 : (pt_code 40).all (pl_ok 40) = true := by decide +kernel
set_option maxRecDepth 100000 in
theorem po_41 : (pt_code 41).all (pl_ok 41) = true := by decide +kernel
set_option maxRecDepth 100000 in
theorem po_42 : (pt_code 42).all (pl_ok 42) = true := by decide +kernel
set_option maxRecDepth 100000 in
theorem po_43 : (pt_code 43).all (pl_ok 43) = true := by decide +kernel
set_option maxRecDepth 100000 in
theorem po_44 : (pt_code 44).all (pl_ok 44) = true := by decide +kernel
set_option maxRecDepth 100000 in
theorem po_45 : (pt_code 45).all (pl_ok 45) = true := by decide +kernel
set_option maxRecDepth 100000 in
theorem po_46 : (pt_code 46).all (pl_ok 46) = true := by decide +kernel
set_option maxRecDepth 100000 in
theorem po_47 : (pt_code 47).all (pl_ok 47) = true := by decide +kernel
set_option maxRecDepth 100000 in
theorem po_48 : (pt_code 48).all (pl_ok 48) = true := by decide +kernel
set_option maxRecDepth 100000 in
theorem po_49 : (pt_code 49).all (pl_ok 49) = true := by decide +kernel
set_option maxRecDepth 100000 in
theorem po_50 : (pt_code 50).all (pl_ok 50) = true := by decide +kernel
set_option maxRecDepth 100000 in
theorem po_51 : (pt_code 51).all (pl_ok 51) = true := by decide +kernel
set_option maxRecDepth 100000 in
theorem po_52 : (pt_code 52).all (pl_ok 52) = true := by decide +kernel
set_option maxRecDepth 100000 in
theorem po_53 : (pt_code 53).all (pl_ok 53) = true := by decide +kernel
set_option maxRecDepth 100000 in
theorem po_54 : (pt_code 54).all (pl_ok 54) = true := by decide +kernel
set_option maxRecDepth 100000 in
theorem po_55 : (pt_code 55).all (pl_ok 55) = true := by decide +kernel
set_option maxRecDepth 100000 in
theorem po_56 : (pt_code 56).all (pl_ok 56) = true := by decide +kernel
set_option maxRecDepth 100000 in
theorem po_57 : (pt_code 57).all (pl_ok 57) = true := by decide +kernel
set_option maxRecDepth 100000 in
theorem po_58 : (pt_code 58).all (pl_ok 58) = true := by decide +kernel
set_option maxRecDepth 100000 in
theorem po_59 : (pt_code 59).all (pl_ok 59) = true := by decide +kernel
set_option maxRecDepth 100000 in
theorem po_60 : (pt_code 60).all (pl_ok 60) = true := by decide +kernel
set_option maxRecDepth 100000 in
theorem po_61 : (pt_code 61).all (pl_ok 61) = true := by decide +kernel
set_option maxRecDepth 100000 in
theorem po_62 : (pt_code 62).all (pl_ok 62) = true := by decide +kernel
set_option maxRecDepth 100000 in
theorem po_63 : (pt_code 63).all (pl_ok 63) = true := by decide +kernel
set_option maxRecDepth 100000 in
theorem po_64 : (pt_code 64).all (pl_ok 64) = true := by decide +kernel
set_option maxRecDepth 100000 in
theorem po_65 : (pt_code 65).all (pl_ok 65) = true := by decide +kernel
set_option maxRecDepth 100000 in
theorem po_66 : (pt_code 66).all (pl_ok 66) = true := by decide +kernel
set_option maxRecDepth 100000 in
theorem po_67 : (pt_code 67).all (pl_ok 67) = true := by decide +kernel
set_option maxRecDepth 100000 in
theorem po_68 : (pt_code 68).all (pl_ok 68) = true := by decide +kernel
set_option maxRecDepth 100000 in
theorem po_69 : (pt_code 69).all (pl_ok 69) = true := by decide +kernel
set_option maxRecDepth 100000 in
theorem po_70 : (pt_code 70).all (pl_ok 70) = true := by decide +kernel
set_option maxRecDepth 100000 in
theorem po_71 : (pt_code 71).all (pl_ok 71) = true := by decide +kernel
set_option maxRecDepth 100000 in
theorem po_72 : (pt_code 72).all (pl_ok 72) = true := by decide +kernel
set_option maxRecDepth 100000 in
theorem po_73 : (pt_code 73).all (pl_ok 73) = true := by decide +kernel
set_option maxRecDepth 100000 in
theorem po_74 : (pt_code 74).all (pl_ok 74) = true := by decide +kernel
set_option maxRecDepth 100000 in
theorem po_75 : (pt_code 75).all (pl_ok 75) = true := by decide +kernel
set_option maxRecDepth 100000 in
theorem po_76 : (pt_code 76).all (pl_ok 76) = true := by decide +kernel
set_option maxRecDepth 100000 in
theorem po_77 : (pt_code 77).all (pl_ok 77) = true := by decide +kernel
set_option maxRecDepth 100000 in
theorem po_78 : (pt_code 78).all (pl_ok 78) = true := by decide +kernel
set_option maxRecDepth 100000 in
theorem po_79 : (pt_code 79).all (pl_ok 79) = true := by decide +kernel
set_option maxRecDepth 100000 in
theorem po_80 : (pt_code 80).all (pl_ok 80) = true := by decide +kernel
set_option maxRecDepth 100000 in
theorem po_81 : (pt_code 81).all (pl_ok 81) = true := by decide +kernel
set_option maxRecDepth 100000 in
theorem po_82 : (pt_code 82).all (pl_ok 82) = true := by decide +kernel
set_option maxRecDepth 100000 in
theorem po_83 : (pt_code 83).all (pl_ok 83) = true := by decide +kernel
set_option maxRecDepth 100000 in
theorem po_84 : (pt_code 84).all (pl_ok 84) = true := by decide +kernel
set_option maxRecDepth 100000 in
theorem po_85 : (pt_code 85).all (pl_ok 85) = true := by decide +kernel
set_option maxRecDepth 100000 in
theorem po_86 : (pt_code 86).all (pl_ok 86) = true := by decide +kernel
set_option maxRecDepth 100000 in
theorem po_87 : (pt_code 87).all (pl_ok 87) = true := by decide +kernel
set_option maxRecDepth 100000 in
theorem po_88 : (pt_code 88).all (pl_ok 88) = true := by decide +kernel
set_option maxRecDepth 100000 in
theorem po_89 : (pt_code 89).all (pl_ok 89) = true := by decide +kernel
set_option maxRecDepth 100000 in
theorem po_90 : (pt_code 90).all (pl_ok 90) = true := by decide +kernel
set_option maxRecDepth 100000 in
theorem po_91 : (pt_code 91).all (pl_ok 91) = true := by decide +kernel
set_option maxRecDepth 100000 in
theorem po_92 : (pt_code 92).all (pl_ok 92) = true := by decide +kernel
set_option maxRecDepth 100000 in
theorem po_93 : (pt_code 93).all (pl_ok 93) = true := by decide +kernel
set_option maxRecDepth 100000 in
theorem po_94 : (pt_code 94).all (pl_ok 94) = true := by decide +kernel
