def df_X10 : List Value := [.null, .null, .null, .null, .null, .null, .null, .null, .null]
theorem dv_X10 : ∀ j, j < 9 → defaultValue (tyX10 j) = vp_V df_X10 j := by decide +kernel
theorem pn_L_8 : pN RL 8 10 df_X10 := ⟨RX10, TX10, 9, rfl, g_in 117 (by decide +kernel) rfl, g_in 118 (by decide +kernel) rfl, g_in 94 (by decide +kernel) rfl, rfl, tyX10, tyX10_ok, dv_X10⟩
theorem py_X10_init : pY yX10_init cX10_init 2 none 0 := ⟨g_in 121 (by decide +kernel) rfl, g_in 94 (by decide +kernel) rfl, by decide, by decide, by decide +kernel⟩
theorem pm_X10_init : Cond.instanceMethod yX10_init ∈ g_tbl := g_in 120 (by decide +kernel) rfl
theorem pl_L_18 : pL RL 18 yX10_init := Or.inl (g_in 119 (by decide +kernel) rfl)
def df_X11 : List Value := [.int 0, .null, .null, .null, .null, .int 0, .int 0, .int 0, .int 0, .int 0, .int 0, .int 0, .long 0, .int 0, .int 0, .int 0, .null, .null, .null, .int 0, .null, .null, .null, .null, .null, .null, .int 0, .null, .null, .int 0, .null, .null, .int 0, .null, .null, .int 0, .null]
theorem dv_X11 : ∀ j, j < 37 → defaultValue (tyX11 j) = vp_V df_X11 j := by decide +kernel
theorem pn_L_19 : pN RL 19 11 df_X11 := ⟨RX11, TX11, 37, rfl, g_in 1139 (by decide +kernel) rfl, g_in 1140 (by decide +kernel) rfl, g_in 104 (by decide +kernel) rfl, rfl, tyX11, tyX11_ok, dv_X11⟩
theorem py_X11_init : pY yX11_init cX11_init 1 none 0 := ⟨g_in 1143 (by decide +kernel) rfl, g_in 104 (by decide +kernel) rfl, by decide, by decide, by decide +kernel⟩
theorem pm_X11_init : Cond.instanceMethod yX11_init ∈ g_tbl := g_in 1142 (by decide +kernel) rfl
theorem pl_L_21 : pL RL 21 yX11_init := Or.inl (g_in 1141 (by decide +kernel) rfl)
theorem qa_long : Cond.arrayClass .long ∈ g_tbl := g_in 1613 (by decide +kernel) rfl
theorem cl_L_22 : Cond.constantLong RL 22 (4294967295) ∈ g_tbl := g_in 1612 (by decide +kernel) rfl
theorem py_X10_type : pY yX10_type cX10_type 3 (some .int) 1 := ⟨g_in 433 (by decide +kernel) rfl, g_in 94 (by decide +kernel) rfl, by decide, by decide, by decide +kernel⟩
theorem pi_X10_type : pI yX10_type 10 := ⟨g_in 431 (by decide +kernel) rfl, g_in 432 (by decide +kernel) rfl, (RX10, TX10, 9), rfl, rfl⟩
theorem pl_L_24 : pL RL 24 yX10_type := Or.inl (g_in 430 (by decide +kernel) rfl)
theorem py_X11_type : pY yX11_type cX11_type 5 (some .int) 1 := ⟨g_in 1264 (by decide +kernel) rfl, g_in 104 (by decide +kernel) rfl, by decide, by decide, by decide +kernel⟩
theorem pi_X11_type : pI yX11_type 11 := ⟨g_in 1262 (by decide +kernel) rfl, g_in 1263 (by decide +kernel) rfl, (RX11, TX11, 37), rfl, rfl⟩
theorem pl_L_28 : pL RL 28 yX11_type := Or.inl (g_in 1261 (by decide +kernel) rfl)
theorem py_X10_read : pY yX10_read cX10_read 2 (some .int) 0 := ⟨g_in 444 (by decide +kernel) rfl, g_in 94 (by decide +kernel) rfl, by decide, by decide, by decide +kernel⟩
theorem pi_X10_read : pI yX10_read 10 := ⟨g_in 442 (by decide +kernel) rfl, g_in 443 (by decide +kernel) rfl, (RX10, TX10, 9), rfl, rfl⟩
theorem pl_L_29 : pL RL 29 yX10_read := Or.inl (g_in 441 (by decide +kernel) rfl)
theorem py_X11_read : pY yX11_read cX11_read 3 (some .int) 0 := ⟨g_in 1269 (by decide +kernel) rfl, g_in 104 (by decide +kernel) rfl, by decide, by decide, by decide +kernel⟩
theorem pi_X11_read : pI yX11_read 11 := ⟨g_in 1267 (by decide +kernel) rfl, g_in 1268 (by decide +kernel) rfl, (RX11, TX11, 37), rfl, rfl⟩
theorem pl_L_33 : pL RL 33 yX11_read := Or.inl (g_in 1266 (by decide +kernel) rfl)
theorem py_X10_fault : pY yX10_fault cX10_fault 2 (some .int) 1 := ⟨g_in 673 (by decide +kernel) rfl, g_in 94 (by decide +kernel) rfl, by decide, by decide, by decide +kernel⟩
theorem pi_X10_fault : pI yX10_fault 10 := ⟨g_in 671 (by decide +kernel) rfl, g_in 672 (by decide +kernel) rfl, (RX10, TX10, 9), rfl, rfl⟩
theorem pl_L_34 : pL RL 34 yX10_fault := Or.inl (g_in 670 (by decide +kernel) rfl)
theorem py_X11_fault : pY yX11_fault cX11_fault 2 (some .int) 1 := ⟨g_in 1339 (by decide +kernel) rfl, g_in 104 (by decide +kernel) rfl, by decide, by decide, by decide +kernel⟩
theorem pi_X11_fault : pI yX11_fault 11 := ⟨g_in 1337 (by decide +kernel) rfl, g_in 1338 (by decide +kernel) rfl, (RX11, TX11, 37), rfl, rfl⟩
theorem pl_L_38 : pL RL 38 yX11_fault := Or.inl (g_in 1336 (by decide +kernel) rfl)
theorem py_X10_enter : pY yX10_enter cX10_enter 1 (some .int) 0 := ⟨g_in 677 (by decide +kernel) rfl, g_in 94 (by decide +kernel) rfl, by decide, by decide, by decide +kernel⟩
theorem pi_X10_enter : pI yX10_enter 10 := ⟨g_in 675 (by decide +kernel) rfl, g_in 676 (by decide +kernel) rfl, (RX10, TX10, 9), rfl, rfl⟩
theorem pl_L_39 : pL RL 39 yX10_enter := Or.inl (g_in 674 (by decide +kernel) rfl)
theorem py_X11_enter : pY yX11_enter cX11_enter 1 (some .int) 0 := ⟨g_in 1343 (by decide +kernel) rfl, g_in 104 (by decide +kernel) rfl, by decide, by decide, by decide +kernel⟩
theorem pi_X11_enter : pI yX11_enter 11 := ⟨g_in 1341 (by decide +kernel) rfl, g_in 1342 (by decide +kernel) rfl, (RX11, TX11, 37), rfl, rfl⟩
theorem pl_L_42 : pL RL 42 yX11_enter := Or.inl (g_in 1340 (by decide +kernel) rfl)
theorem py_X10_leave : pY yX10_leave cX10_leave 1 (some .int) 0 := ⟨g_in 704 (by decide +kernel) rfl, g_in 94 (by decide +kernel) rfl, by decide, by decide, by decide +kernel⟩
theorem pi_X10_leave : pI yX10_leave 10 := ⟨g_in 702 (by decide +kernel) rfl, g_in 703 (by decide +kernel) rfl, (RX10, TX10, 9), rfl, rfl⟩
theorem pl_L_43 : pL RL 43 yX10_leave := Or.inl (g_in 701 (by decide +kernel) rfl)
theorem py_X11_leave : pY yX11_leave cX11_leave 3 (some .int) 0 := ⟨g_in 1351 (by decide +kernel) rfl, g_in 104 (by decide +kernel) rfl, by decide, by decide, by decide +kernel⟩
theorem pi_X11_leave : pI yX11_leave 11 := ⟨g_in 1349 (by decide +kernel) rfl, g_in 1350 (by decide +kernel) rfl, (RX11, TX11, 37), rfl, rfl⟩
theorem pl_L_46 : pL RL 46 yX11_leave := Or.inl (g_in 1348 (by decide +kernel) rfl)
theorem py_X10_stand : pY yX10_stand cX10_stand 4 (some .boolean) 2 := ⟨g_in 732 (by decide +kernel) rfl, g_in 94 (by decide +kernel) rfl, by decide, by decide, by decide +kernel⟩
theorem pi_X10_stand : pI yX10_stand 10 := ⟨g_in 730 (by decide +kernel) rfl, g_in 731 (by decide +kernel) rfl, (RX10, TX10, 9), rfl, rfl⟩
theorem pl_L_47 : pL RL 47 yX10_stand := Or.inl (g_in 729 (by decide +kernel) rfl)
theorem py_X11_stand : pY yX11_stand cX11_stand 5 (some .boolean) 2 := ⟨g_in 1375 (by decide +kernel) rfl, g_in 104 (by decide +kernel) rfl, by decide, by decide, by decide +kernel⟩
theorem pi_X11_stand : pI yX11_stand 11 := ⟨g_in 1373 (by decide +kernel) rfl, g_in 1374 (by decide +kernel) rfl, (RX11, TX11, 37), rfl, rfl⟩
theorem pl_L_51 : pL RL 51 yX11_stand := Or.inl (g_in 1372 (by decide +kernel) rfl)
theorem py_X10_ask : pY yX10_ask cX10_ask 2 (some .int) 1 := ⟨g_in 745 (by decide +kernel) rfl, g_in 94 (by decide +kernel) rfl, by decide, by decide, by decide +kernel⟩
theorem pi_X10_ask : pI yX10_ask 10 := ⟨g_in 743 (by decide +kernel) rfl, g_in 744 (by decide +kernel) rfl, (RX10, TX10, 9), rfl, rfl⟩
theorem pl_L_52 : pL RL 52 yX10_ask := Or.inl (g_in 742 (by decide +kernel) rfl)
theorem py_X11_ask : pY yX11_ask cX11_ask 2 (some .int) 1 := ⟨g_in 1383 (by decide +kernel) rfl, g_in 104 (by decide +kernel) rfl, by decide, by decide, by decide +kernel⟩
theorem pi_X11_ask : pI yX11_ask 11 := ⟨g_in 1381 (by decide +kernel) rfl, g_in 1382 (by decide +kernel) rfl, (RX11, TX11, 37), rfl, rfl⟩
theorem pl_L_56 : pL RL 56 yX11_ask := Or.inl (g_in 1380 (by decide +kernel) rfl)
theorem py_X10_value : pY yX10_value cX10_value 2 (some .int) 1 := ⟨g_in 815 (by decide +kernel) rfl, g_in 94 (by decide +kernel) rfl, by decide, by decide, by decide +kernel⟩
theorem pi_X10_value : pI yX10_value 10 := ⟨g_in 813 (by decide +kernel) rfl, g_in 814 (by decide +kernel) rfl, (RX10, TX10, 9), rfl, rfl⟩
theorem pl_L_57 : pL RL 57 yX10_value := Or.inl (g_in 812 (by decide +kernel) rfl)
theorem py_X11_value : pY yX11_value cX11_value 2 (some .int) 1 := ⟨g_in 1423 (by decide +kernel) rfl, g_in 104 (by decide +kernel) rfl, by decide, by decide, by decide +kernel⟩
theorem pi_X11_value : pI yX11_value 11 := ⟨g_in 1421 (by decide +kernel) rfl, g_in 1422 (by decide +kernel) rfl, (RX11, TX11, 37), rfl, rfl⟩
theorem pl_L_60 : pL RL 60 yX11_value := Or.inl (g_in 1420 (by decide +kernel) rfl)
theorem py_X10_undo : pY yX10_undo cX10_undo 1 (some .int) 0 := ⟨g_in 858 (by decide +kernel) rfl, g_in 94 (by decide +kernel) rfl, by decide, by decide, by decide +kernel⟩
theorem pi_X10_undo : pI yX10_undo 10 := ⟨g_in 856 (by decide +kernel) rfl, g_in 857 (by decide +kernel) rfl, (RX10, TX10, 9), rfl, rfl⟩
theorem pl_L_61 : pL RL 61 yX10_undo := Or.inl (g_in 855 (by decide +kernel) rfl)
theorem py_X11_undo : pY yX11_undo cX11_undo 2 (some .int) 0 := ⟨g_in 1451 (by decide +kernel) rfl, g_in 104 (by decide +kernel) rfl, by decide, by decide, by decide +kernel⟩
theorem pi_X11_undo : pI yX11_undo 11 := ⟨g_in 1449 (by decide +kernel) rfl, g_in 1450 (by decide +kernel) rfl, (RX11, TX11, 37), rfl, rfl⟩
theorem pl_L_64 : pL RL 64 yX11_undo := Or.inl (g_in 1448 (by decide +kernel) rfl)
theorem py_X10_count : pY yX10_count cX10_count 2 (some .int) 1 := ⟨g_in 866 (by decide +kernel) rfl, g_in 94 (by decide +kernel) rfl, by decide, by decide, by decide +kernel⟩
theorem pi_X10_count : pI yX10_count 10 := ⟨g_in 864 (by decide +kernel) rfl, g_in 865 (by decide +kernel) rfl, (RX10, TX10, 9), rfl, rfl⟩
theorem pl_L_65 : pL RL 65 yX10_count := Or.inl (g_in 863 (by decide +kernel) rfl)
theorem py_X11_count : pY yX11_count cX11_count 2 (some .int) 1 := ⟨g_in 1455 (by decide +kernel) rfl, g_in 104 (by decide +kernel) rfl, by decide, by decide, by decide +kernel⟩
theorem pi_X11_count : pI yX11_count 11 := ⟨g_in 1453 (by decide +kernel) rfl, g_in 1454 (by decide +kernel) rfl, (RX11, TX11, 37), rfl, rfl⟩
theorem pl_L_68 : pL RL 68 yX11_count := Or.inl (g_in 1452 (by decide +kernel) rfl)
theorem pw_L_part : Cond.methodLink RL 69 yL_part ∈ g_tbl ∧ Cond.codeWith yL_part cL_part 5 (some .int) xH ∈ g_tbl ∧ Cond.initialized RL ∈ g_tbl ∧ Cond.static yL_part ∈ g_tbl := ⟨g_in 1047 (by decide +kernel) rfl, g_in 1049 (by decide +kernel) rfl, g_in 93 (by decide +kernel) rfl, g_in 1048 (by decide +kernel) rfl⟩
theorem py_X11_part : pY yX11_part cX11_part 3 (some .int) 2 := ⟨g_in 1471 (by decide +kernel) rfl, g_in 104 (by decide +kernel) rfl, by decide, by decide, by decide +kernel⟩
theorem pi_X11_part : pI yX11_part 11 := ⟨g_in 1469 (by decide +kernel) rfl, g_in 1470 (by decide +kernel) rfl, (RX11, TX11, 37), rfl, rfl⟩
theorem pl_L_74 : pL RL 74 yX11_part := Or.inl (g_in 1468 (by decide +kernel) rfl)
theorem py_X11_thrown : pY yX11_thrown cX11_thrown 1 (some .int) 0 := ⟨g_in 1260 (by decide +kernel) rfl, g_in 104 (by decide +kernel) rfl, by decide, by decide, by decide +kernel⟩
theorem pi_X11_thrown : pI yX11_thrown 11 := ⟨g_in 1258 (by decide +kernel) rfl, g_in 1259 (by decide +kernel) rfl, (RX11, TX11, 37), rfl, rfl⟩
theorem pl_L_75 : pL RL 75 yX11_thrown := Or.inl (g_in 1257 (by decide +kernel) rfl)
theorem py_X10_need : pY yX10_need cX10_need 3 (some .int) 2 := ⟨g_in 886 (by decide +kernel) rfl, g_in 94 (by decide +kernel) rfl, by decide, by decide, by decide +kernel⟩
theorem pi_X10_need : pI yX10_need 10 := ⟨g_in 884 (by decide +kernel) rfl, g_in 885 (by decide +kernel) rfl, (RX10, TX10, 9), rfl, rfl⟩
theorem pl_L_78 : pL RL 78 yX10_need := Or.inl (g_in 883 (by decide +kernel) rfl)
theorem py_X11_need : pY yX11_need cX11_need 3 (some .int) 2 := ⟨g_in 1479 (by decide +kernel) rfl, g_in 104 (by decide +kernel) rfl, by decide, by decide, by decide +kernel⟩
theorem pi_X11_need : pI yX11_need 11 := ⟨g_in 1477 (by decide +kernel) rfl, g_in 1478 (by decide +kernel) rfl, (RX11, TX11, 37), rfl, rfl⟩
theorem pl_L_81 : pL RL 81 yX11_need := Or.inl (g_in 1476 (by decide +kernel) rfl)
theorem pw_L_thing : Cond.methodLink RL 82 yL_thing ∈ g_tbl ∧ Cond.codeWith yL_thing cL_thing 5 (some .int) xH ∈ g_tbl ∧ Cond.initialized RL ∈ g_tbl ∧ Cond.static yL_thing ∈ g_tbl := ⟨g_in 1125 (by decide +kernel) rfl, g_in 1127 (by decide +kernel) rfl, g_in 93 (by decide +kernel) rfl, g_in 1126 (by decide +kernel) rfl⟩
theorem py_X11_thing : pY yX11_thing cX11_thing 3 (some .int) 2 := ⟨g_in 1483 (by decide +kernel) rfl, g_in 104 (by decide +kernel) rfl, by decide, by decide, by decide +kernel⟩
theorem pi_X11_thing : pI yX11_thing 11 := ⟨g_in 1481 (by decide +kernel) rfl, g_in 1482 (by decide +kernel) rfl, (RX11, TX11, 37), rfl, rfl⟩
theorem pl_L_84 : pL RL 84 yX11_thing := Or.inl (g_in 1480 (by decide +kernel) rfl)
theorem py_X10_has : pY yX10_has cX10_has 3 (some .int) 2 := ⟨g_in 891 (by decide +kernel) rfl, g_in 94 (by decide +kernel) rfl, by decide, by decide, by decide +kernel⟩
theorem pi_X10_has : pI yX10_has 10 := ⟨g_in 889 (by decide +kernel) rfl, g_in 890 (by decide +kernel) rfl, (RX10, TX10, 9), rfl, rfl⟩
theorem pl_L_85 : pL RL 85 yX10_has := Or.inl (g_in 888 (by decide +kernel) rfl)
theorem py_X11_has : pY yX11_has cX11_has 3 (some .int) 2 := ⟨g_in 1491 (by decide +kernel) rfl, g_in 104 (by decide +kernel) rfl, by decide, by decide, by decide +kernel⟩
theorem pi_X11_has : pI yX11_has 11 := ⟨g_in 1489 (by decide +kernel) rfl, g_in 1490 (by decide +kernel) rfl, (RX11, TX11, 37), rfl, rfl⟩
theorem pl_L_88 : pL RL 88 yX11_has := Or.inl (g_in 1488 (by decide +kernel) rfl)
theorem py_X10_stands : pY yX10_stands cX10_stands 3 (some .int) 2 := ⟨g_in 896 (by decide +kernel) rfl, g_in 94 (by decide +kernel) rfl, by decide, by decide, by decide +kernel⟩
theorem pi_X10_stands : pI yX10_stands 10 := ⟨g_in 894 (by decide +kernel) rfl, g_in 895 (by decide +kernel) rfl, (RX10, TX10, 9), rfl, rfl⟩
theorem pl_L_89 : pL RL 89 yX10_stands := Or.inl (g_in 893 (by decide +kernel) rfl)
theorem py_X11_stands : pY yX11_stands cX11_stands 3 (some .int) 2 := ⟨g_in 1495 (by decide +kernel) rfl, g_in 104 (by decide +kernel) rfl, by decide, by decide, by decide +kernel⟩
theorem pi_X11_stands : pI yX11_stands 11 := ⟨g_in 1493 (by decide +kernel) rfl, g_in 1494 (by decide +kernel) rfl, (RX11, TX11, 37), rfl, rfl⟩
theorem pl_L_92 : pL RL 92 yX11_stands := Or.inl (g_in 1492 (by decide +kernel) rfl)
theorem py_X10_why : pY yX10_why cX10_why 2 (some .int) 1 := ⟨g_in 901 (by decide +kernel) rfl, g_in 94 (by decide +kernel) rfl, by decide, by decide, by decide +kernel⟩
theorem pi_X10_why : pI yX10_why 10 := ⟨g_in 899 (by decide +kernel) rfl, g_in 900 (by decide +kernel) rfl, (RX10, TX10, 9), rfl, rfl⟩
theorem pl_L_93 : pL RL 93 yX10_why := Or.inl (g_in 898 (by decide +kernel) rfl)
theorem py_X11_why : pY yX11_why cX11_why 2 (some .int) 1 := ⟨g_in 1499 (by decide +kernel) rfl, g_in 104 (by decide +kernel) rfl, by decide, by decide, by decide +kernel⟩
theorem pi_X11_why : pI yX11_why 11 := ⟨g_in 1497 (by decide +kernel) rfl, g_in 1498 (by decide +kernel) rfl, (RX11, TX11, 37), rfl, rfl⟩
theorem pl_L_96 : pL RL 96 yX11_why := Or.inl (g_in 1496 (by decide +kernel) rfl)
theorem py_X10_ended : pY yX10_ended cX10_ended 3 (some .int) 2 := ⟨g_in 909 (by decide +kernel) rfl, g_in 94 (by decide +kernel) rfl, by decide, by decide, by decide +kernel⟩
theorem pi_X10_ended : pI yX10_ended 10 := ⟨g_in 907 (by decide +kernel) rfl, g_in 908 (by decide +kernel) rfl, (RX10, TX10, 9), rfl, rfl⟩
theorem pl_L_97 : pL RL 97 yX10_ended := Or.inl (g_in 906 (by decide +kernel) rfl)
theorem py_X11_ended : pY yX11_ended cX11_ended 3 (some .int) 2 := ⟨g_in 1503 (by decide +kernel) rfl, g_in 104 (by decide +kernel) rfl, by decide, by decide, by decide +kernel⟩
theorem pi_X11_ended : pI yX11_ended 11 := ⟨g_in 1501 (by decide +kernel) rfl, g_in 1502 (by decide +kernel) rfl, (RX11, TX11, 37), rfl, rfl⟩
theorem pl_L_101 : pL RL 101 yX11_ended := Or.inl (g_in 1500 (by decide +kernel) rfl)
theorem py_X10_start : pY yX10_start cX10_start 2 (some .int) 1 := ⟨g_in 921 (by decide +kernel) rfl, g_in 94 (by decide +kernel) rfl, by decide, by decide, by decide +kernel⟩
theorem pi_X10_start : pI yX10_start 10 := ⟨g_in 919 (by decide +kernel) rfl, g_in 920 (by decide +kernel) rfl, (RX10, TX10, 9), rfl, rfl⟩
theorem pl_L_102 : pL RL 102 yX10_start := Or.inl (g_in 918 (by decide +kernel) rfl)
theorem py_X11_start : pY yX11_start cX11_start 2 (some .int) 1 := ⟨g_in 1507 (by decide +kernel) rfl, g_in 104 (by decide +kernel) rfl, by decide, by decide, by decide +kernel⟩
theorem pi_X11_start : pI yX11_start 11 := ⟨g_in 1505 (by decide +kernel) rfl, g_in 1506 (by decide +kernel) rfl, (RX11, TX11, 37), rfl, rfl⟩
theorem pl_L_105 : pL RL 105 yX11_start := Or.inl (g_in 1504 (by decide +kernel) rfl)
theorem py_X10_loop : pY yX10_loop cX10_loop 2 (some .int) 1 := ⟨g_in 976 (by decide +kernel) rfl, g_in 94 (by decide +kernel) rfl, by decide, by decide, by decide +kernel⟩
theorem pi_X10_loop : pI yX10_loop 10 := ⟨g_in 974 (by decide +kernel) rfl, g_in 975 (by decide +kernel) rfl, (RX10, TX10, 9), rfl, rfl⟩
theorem pl_L_106 : pL RL 106 yX10_loop := Or.inl (g_in 973 (by decide +kernel) rfl)
theorem py_X11_loop : pY yX11_loop cX11_loop 2 (some .int) 1 := ⟨g_in 1523 (by decide +kernel) rfl, g_in 104 (by decide +kernel) rfl, by decide, by decide, by decide +kernel⟩
theorem pi_X11_loop : pI yX11_loop 11 := ⟨g_in 1521 (by decide +kernel) rfl, g_in 1522 (by decide +kernel) rfl, (RX11, TX11, 37), rfl, rfl⟩
theorem pl_L_109 : pL RL 109 yX11_loop := Or.inl (g_in 1520 (by decide +kernel) rfl)
theorem py_X10_needs : pY yX10_needs cX10_needs 3 (some .int) 2 := ⟨g_in 980 (by decide +kernel) rfl, g_in 94 (by decide +kernel) rfl, by decide, by decide, by decide +kernel⟩
theorem pi_X10_needs : pI yX10_needs 10 := ⟨g_in 978 (by decide +kernel) rfl, g_in 979 (by decide +kernel) rfl, (RX10, TX10, 9), rfl, rfl⟩
theorem pl_L_110 : pL RL 110 yX10_needs := Or.inl (g_in 977 (by decide +kernel) rfl)
theorem py_X11_needs : pY yX11_needs cX11_needs 3 (some .int) 2 := ⟨g_in 1535 (by decide +kernel) rfl, g_in 104 (by decide +kernel) rfl, by decide, by decide, by decide +kernel⟩
theorem pi_X11_needs : pI yX11_needs 11 := ⟨g_in 1533 (by decide +kernel) rfl, g_in 1534 (by decide +kernel) rfl, (RX11, TX11, 37), rfl, rfl⟩
theorem pl_L_113 : pL RL 113 yX11_needs := Or.inl (g_in 1532 (by decide +kernel) rfl)
theorem py_X10_would : pY yX10_would cX10_would 4 (some .int) 2 := ⟨g_in 988 (by decide +kernel) rfl, g_in 94 (by decide +kernel) rfl, by decide, by decide, by decide +kernel⟩
theorem pi_X10_would : pI yX10_would 10 := ⟨g_in 986 (by decide +kernel) rfl, g_in 987 (by decide +kernel) rfl, (RX10, TX10, 9), rfl, rfl⟩
theorem pl_L_114 : pL RL 114 yX10_would := Or.inl (g_in 985 (by decide +kernel) rfl)
theorem py_X11_would : pY yX11_would cX11_would 6 (some .int) 2 := ⟨g_in 1591 (by decide +kernel) rfl, g_in 104 (by decide +kernel) rfl, by decide, by decide, by decide +kernel⟩
theorem pi_X11_would : pI yX11_would 11 := ⟨g_in 1589 (by decide +kernel) rfl, g_in 1590 (by decide +kernel) rfl, (RX11, TX11, 37), rfl, rfl⟩
theorem pl_L_117 : pL RL 117 yX11_would := Or.inl (g_in 1588 (by decide +kernel) rfl)
theorem py_X10_worth : pY yX10_worth cX10_worth 3 (some .int) 1 := ⟨g_in 993 (by decide +kernel) rfl, g_in 94 (by decide +kernel) rfl, by decide, by decide, by decide +kernel⟩
theorem pi_X10_worth : pI yX10_worth 10 := ⟨g_in 991 (by decide +kernel) rfl, g_in 992 (by decide +kernel) rfl, (RX10, TX10, 9), rfl, rfl⟩
theorem pl_L_118 : pL RL 118 yX10_worth := Or.inl (g_in 990 (by decide +kernel) rfl)
theorem py_X11_worth : pY yX11_worth cX11_worth 4 (some .int) 1 := ⟨g_in 1599 (by decide +kernel) rfl, g_in 104 (by decide +kernel) rfl, by decide, by decide, by decide +kernel⟩
theorem pi_X11_worth : pI yX11_worth 11 := ⟨g_in 1597 (by decide +kernel) rfl, g_in 1598 (by decide +kernel) rfl, (RX11, TX11, 37), rfl, rfl⟩
theorem pl_L_121 : pL RL 121 yX11_worth := Or.inl (g_in 1596 (by decide +kernel) rfl)
theorem py_X10_deep : pY yX10_deep cX10_deep 1 (some .int) 0 := ⟨g_in 997 (by decide +kernel) rfl, g_in 94 (by decide +kernel) rfl, by decide, by decide, by decide +kernel⟩
theorem pi_X10_deep : pI yX10_deep 10 := ⟨g_in 995 (by decide +kernel) rfl, g_in 996 (by decide +kernel) rfl, (RX10, TX10, 9), rfl, rfl⟩
theorem pl_L_122 : pL RL 122 yX10_deep := Or.inl (g_in 994 (by decide +kernel) rfl)
theorem py_X11_deep : pY yX11_deep cX11_deep 3 (some .int) 0 := ⟨g_in 1551 (by decide +kernel) rfl, g_in 104 (by decide +kernel) rfl, by decide, by decide, by decide +kernel⟩
theorem pi_X11_deep : pI yX11_deep 11 := ⟨g_in 1549 (by decide +kernel) rfl, g_in 1550 (by decide +kernel) rfl, (RX11, TX11, 37), rfl, rfl⟩
theorem pl_L_125 : pL RL 125 yX11_deep := Or.inl (g_in 1548 (by decide +kernel) rfl)
theorem py_X10_wave : pY yX10_wave cX10_wave 2 (some .int) 1 := ⟨g_in 1005 (by decide +kernel) rfl, g_in 94 (by decide +kernel) rfl, by decide, by decide, by decide +kernel⟩
theorem pi_X10_wave : pI yX10_wave 10 := ⟨g_in 1003 (by decide +kernel) rfl, g_in 1004 (by decide +kernel) rfl, (RX10, TX10, 9), rfl, rfl⟩
theorem pl_L_126 : pL RL 126 yX10_wave := Or.inl (g_in 1002 (by decide +kernel) rfl)
theorem py_X11_wave : pY yX11_wave cX11_wave 2 (some .int) 1 := ⟨g_in 1555 (by decide +kernel) rfl, g_in 104 (by decide +kernel) rfl, by decide, by decide, by decide +kernel⟩
theorem pi_X11_wave : pI yX11_wave 11 := ⟨g_in 1553 (by decide +kernel) rfl, g_in 1554 (by decide +kernel) rfl, (RX11, TX11, 37), rfl, rfl⟩
theorem pl_L_129 : pL RL 129 yX11_wave := Or.inl (g_in 1552 (by decide +kernel) rfl)
theorem py_X10_lost : pY yX10_lost cX10_lost 2 (some .int) 1 := ⟨g_in 1009 (by decide +kernel) rfl, g_in 94 (by decide +kernel) rfl, by decide, by decide, by decide +kernel⟩
theorem pi_X10_lost : pI yX10_lost 10 := ⟨g_in 1007 (by decide +kernel) rfl, g_in 1008 (by decide +kernel) rfl, (RX10, TX10, 9), rfl, rfl⟩
theorem pl_L_130 : pL RL 130 yX10_lost := Or.inl (g_in 1006 (by decide +kernel) rfl)
theorem py_X11_lost : pY yX11_lost cX11_lost 4 (some .int) 1 := ⟨g_in 1559 (by decide +kernel) rfl, g_in 104 (by decide +kernel) rfl, by decide, by decide, by decide +kernel⟩
theorem pi_X11_lost : pI yX11_lost 11 := ⟨g_in 1557 (by decide +kernel) rfl, g_in 1558 (by decide +kernel) rfl, (RX11, TX11, 37), rfl, rfl⟩
theorem pl_L_133 : pL RL 133 yX11_lost := Or.inl (g_in 1556 (by decide +kernel) rfl)
theorem py_X10_looser : pY yX10_looser cX10_looser 2 (some .int) 1 := ⟨g_in 1017 (by decide +kernel) rfl, g_in 94 (by decide +kernel) rfl, by decide, by decide, by decide +kernel⟩
theorem pi_X10_looser : pI yX10_looser 10 := ⟨g_in 1015 (by decide +kernel) rfl, g_in 1016 (by decide +kernel) rfl, (RX10, TX10, 9), rfl, rfl⟩
theorem pl_L_134 : pL RL 134 yX10_looser := Or.inl (g_in 1014 (by decide +kernel) rfl)
theorem py_X11_looser : pY yX11_looser cX11_looser 3 (some .int) 1 := ⟨g_in 1563 (by decide +kernel) rfl, g_in 104 (by decide +kernel) rfl, by decide, by decide, by decide +kernel⟩
theorem pi_X11_looser : pI yX11_looser 11 := ⟨g_in 1561 (by decide +kernel) rfl, g_in 1562 (by decide +kernel) rfl, (RX11, TX11, 37), rfl, rfl⟩
theorem pl_L_137 : pL RL 137 yX11_looser := Or.inl (g_in 1560 (by decide +kernel) rfl)
theorem py_X10_image : pY yX10_image cX10_image 2 (some .boolean) 1 := ⟨g_in 1037 (by decide +kernel) rfl, g_in 94 (by decide +kernel) rfl, by decide, by decide, by decide +kernel⟩
theorem pi_X10_image : pI yX10_image 10 := ⟨g_in 1035 (by decide +kernel) rfl, g_in 1036 (by decide +kernel) rfl, (RX10, TX10, 9), rfl, rfl⟩
theorem pl_L_138 : pL RL 138 yX10_image := Or.inl (g_in 1034 (by decide +kernel) rfl)
theorem py_X11_image : pY yX11_image cX11_image 2 (some .boolean) 1 := ⟨g_in 1603 (by decide +kernel) rfl, g_in 104 (by decide +kernel) rfl, by decide, by decide, by decide +kernel⟩
theorem pi_X11_image : pI yX11_image 11 := ⟨g_in 1601 (by decide +kernel) rfl, g_in 1602 (by decide +kernel) rfl, (RX11, TX11, 37), rfl, rfl⟩
theorem pl_L_142 : pL RL 142 yX11_image := Or.inl (g_in 1600 (by decide +kernel) rfl)
theorem py_X10_again : pY yX10_again cX10_again 2 (some .boolean) 1 := ⟨g_in 1046 (by decide +kernel) rfl, g_in 94 (by decide +kernel) rfl, by decide, by decide, by decide +kernel⟩
theorem pi_X10_again : pI yX10_again 10 := ⟨g_in 1044 (by decide +kernel) rfl, g_in 1045 (by decide +kernel) rfl, (RX10, TX10, 9), rfl, rfl⟩
theorem pl_L_143 : pL RL 143 yX10_again := Or.inl (g_in 1043 (by decide +kernel) rfl)
theorem py_X11_again : pY yX11_again cX11_again 2 (some .boolean) 1 := ⟨g_in 1611 (by decide +kernel) rfl, g_in 104 (by decide +kernel) rfl, by decide, by decide, by decide +kernel⟩
theorem pi_X11_again : pI yX11_again 11 := ⟨g_in 1609 (by decide +kernel) rfl, g_in 1610 (by decide +kernel) rfl, (RX11, TX11, 37), rfl, rfl⟩
theorem pl_L_146 : pL RL 146 yX11_again := Or.inl (g_in 1608 (by decide +kernel) rfl)
theorem d_L_law_0 : dec 3 cL_law 0 (.new 8) 3 := ⟨by decide +kernel, rfl⟩
theorem d_L_law_3 : dec 1 cL_law 3 .dup 4 := ⟨by decide +kernel, rfl⟩
theorem d_L_law_4 : dec 3 cL_law 4 (.invokespecial 18) 7 := ⟨by decide +kernel, rfl⟩
theorem d_L_law_7 : decAS cL_law 7 1 8 := Or.inr ⟨1, rfl, by decide +kernel, rfl⟩
theorem d_L_law_8 : dec 3 cL_law 8 (.new 19) 11 := ⟨by decide +kernel, rfl⟩
theorem d_L_law_11 : dec 1 cL_law 11 .dup 12 := ⟨by decide +kernel, rfl⟩
theorem d_L_law_12 : dec 3 cL_law 12 (.invokespecial 21) 15 := ⟨by decide +kernel, rfl⟩
theorem d_L_law_15 : decAS cL_law 15 2 16 := Or.inr ⟨2, rfl, by decide +kernel, rfl⟩
theorem d_L_law_16 : dec 1 cL_law 16 (.iconst 1) 17 := ⟨by decide +kernel, rfl⟩
theorem d_L_law_17 : dec 2 cL_law 17 (.newarray .long) 19 := ⟨by decide +kernel, rfl⟩
theorem d_L_law_19 : decAS cL_law 19 3 20 := Or.inr ⟨3, rfl, by decide +kernel, rfl⟩
theorem d_L_law_20 : dec 1 cL_law 20 (.iconst 0) 21 := ⟨by decide +kernel, rfl⟩
theorem d_L_law_21 : decIS cL_law 21 4 23 := Or.inl ⟨by decide +kernel, rfl⟩
theorem d_L_law_23 : decIL cL_law 23 4 25 := Or.inl ⟨by decide +kernel, rfl⟩
theorem d_L_law_25 : decAL cL_law 25 0 26 := Or.inr ⟨0, rfl, by decide +kernel, rfl⟩
theorem d_L_law_26 : dec 1 cL_law 26 .arraylength 27 := ⟨by decide +kernel, rfl⟩
theorem d_L_law_27 : dec 1 cL_law 27 (.iconst 3) 28 := ⟨by decide +kernel, rfl⟩
theorem d_L_law_28 : dec 1 cL_law 28 .isub 29 := ⟨by decide +kernel, rfl⟩
theorem d_L_law_29 : decB cL_law 29 (.if_icmp .gt 1031) (1031) 32 1060 := ⟨by decide +kernel, rfl, by decide⟩
theorem d_L_law_32 : decAL cL_law 32 0 33 := Or.inr ⟨0, rfl, by decide +kernel, rfl⟩
theorem d_L_law_33 : decIL cL_law 33 4 35 := Or.inl ⟨by decide +kernel, rfl⟩
theorem d_L_law_35 : dec 1 cL_law 35 .iaload 36 := ⟨by decide +kernel, rfl⟩
theorem d_L_law_36 : dec 2 cL_law 36 (.bipush 31) 38 := ⟨by decide +kernel, rfl⟩
theorem d_L_law_38 : dec 1 cL_law 38 .iand 39 := ⟨by decide +kernel, rfl⟩
theorem d_L_law_39 : decode cL_law 39 = .ok (.tableswitch 1015 0 27 #[125, 182, 195, 236, 249, 262, 299, 324, 349, 362, 387, 455, 492, 560, 597, 634, 659, 712, 737, 762, 815, 852, 877, 890, 915, 940, 965, 990], 125) := by decide +kernel
theorem d_L_law_164 : decAL cL_law 164 1 165 := Or.inr ⟨1, rfl, by decide +kernel, rfl⟩
theorem d_L_law_165 : decAL cL_law 165 0 166 := Or.inr ⟨0, rfl, by decide +kernel, rfl⟩
theorem d_L_law_166 : decIL cL_law 166 4 168 := Or.inl ⟨by decide +kernel, rfl⟩
theorem d_L_law_168 : dec 1 cL_law 168 (.iconst 1) 169 := ⟨by decide +kernel, rfl⟩
theorem d_L_law_169 : dec 1 cL_law 169 .iadd 170 := ⟨by decide +kernel, rfl⟩
theorem d_L_law_170 : dec 1 cL_law 170 .iaload 171 := ⟨by decide +kernel, rfl⟩
theorem d_L_law_171 : dec 1 cL_law 171 .i2l 172 := ⟨by decide +kernel, rfl⟩
theorem d_L_law_172 : dec 2 cL_law 172 (.bipush 32) 174 := ⟨by decide +kernel, rfl⟩
theorem d_L_law_174 : dec 1 cL_law 174 .lshl 175 := ⟨by decide +kernel, rfl⟩
theorem d_L_law_175 : decAL cL_law 175 0 176 := Or.inr ⟨0, rfl, by decide +kernel, rfl⟩
theorem d_L_law_176 : decIL cL_law 176 4 178 := Or.inl ⟨by decide +kernel, rfl⟩
theorem d_L_law_178 : dec 1 cL_law 178 (.iconst 2) 179 := ⟨by decide +kernel, rfl⟩
theorem d_L_law_179 : dec 1 cL_law 179 .iadd 180 := ⟨by decide +kernel, rfl⟩
theorem d_L_law_180 : dec 1 cL_law 180 .iaload 181 := ⟨by decide +kernel, rfl⟩
theorem d_L_law_181 : dec 1 cL_law 181 .i2l 182 := ⟨by decide +kernel, rfl⟩
theorem d_L_law_182 : dec 3 cL_law 182 (.ldc2_w 22) 185 := ⟨by decide +kernel, rfl⟩
theorem d_L_law_185 : dec 1 cL_law 185 .land 186 := ⟨by decide +kernel, rfl⟩
theorem d_L_law_186 : dec 1 cL_law 186 .lor 187 := ⟨by decide +kernel, rfl⟩
theorem d_L_law_187 : dec 3 cL_law 187 (.invokevirtual 24) 190 := ⟨by decide +kernel, rfl⟩
theorem d_L_law_190 : decAL cL_law 190 2 191 := Or.inr ⟨2, rfl, by decide +kernel, rfl⟩
theorem d_L_law_191 : decAL cL_law 191 0 192 := Or.inr ⟨0, rfl, by decide +kernel, rfl⟩
theorem d_L_law_192 : decIL cL_law 192 4 194 := Or.inl ⟨by decide +kernel, rfl⟩
theorem d_L_law_194 : dec 1 cL_law 194 (.iconst 1) 195 := ⟨by decide +kernel, rfl⟩
theorem d_L_law_195 : dec 1 cL_law 195 .iadd 196 := ⟨by decide +kernel, rfl⟩
theorem d_L_law_196 : dec 1 cL_law 196 .iaload 197 := ⟨by decide +kernel, rfl⟩
theorem d_L_law_197 : dec 1 cL_law 197 .i2l 198 := ⟨by decide +kernel, rfl⟩
theorem d_L_law_198 : dec 2 cL_law 198 (.bipush 32) 200 := ⟨by decide +kernel, rfl⟩
theorem d_L_law_200 : dec 1 cL_law 200 .lshl 201 := ⟨by decide +kernel, rfl⟩
theorem d_L_law_201 : decAL cL_law 201 0 202 := Or.inr ⟨0, rfl, by decide +kernel, rfl⟩
theorem d_L_law_202 : decIL cL_law 202 4 204 := Or.inl ⟨by decide +kernel, rfl⟩
theorem d_L_law_204 : dec 1 cL_law 204 (.iconst 2) 205 := ⟨by decide +kernel, rfl⟩
theorem d_L_law_205 : dec 1 cL_law 205 .iadd 206 := ⟨by decide +kernel, rfl⟩
theorem d_L_law_206 : dec 1 cL_law 206 .iaload 207 := ⟨by decide +kernel, rfl⟩
theorem d_L_law_207 : dec 1 cL_law 207 .i2l 208 := ⟨by decide +kernel, rfl⟩
theorem d_L_law_208 : dec 3 cL_law 208 (.ldc2_w 22) 211 := ⟨by decide +kernel, rfl⟩
theorem d_L_law_211 : dec 1 cL_law 211 .land 212 := ⟨by decide +kernel, rfl⟩
theorem d_L_law_212 : dec 1 cL_law 212 .lor 213 := ⟨by decide +kernel, rfl⟩
theorem d_L_law_213 : dec 3 cL_law 213 (.invokevirtual 28) 216 := ⟨by decide +kernel, rfl⟩
theorem d_L_law_216 : decB cL_law 216 (.if_icmp .eq 838) (838) 219 1054 := ⟨by decide +kernel, rfl, by decide⟩
theorem d_L_law_219 : dec 1 cL_law 219 (.iconst 0) 220 := ⟨by decide +kernel, rfl⟩
theorem d_L_law_220 : dec 1 cL_law 220 .ireturn 221 := ⟨by decide +kernel, rfl⟩
theorem d_L_law_221 : decAL cL_law 221 1 222 := Or.inr ⟨1, rfl, by decide +kernel, rfl⟩
theorem d_L_law_222 : dec 3 cL_law 222 (.invokevirtual 29) 225 := ⟨by decide +kernel, rfl⟩
theorem d_L_law_225 : decAL cL_law 225 2 226 := Or.inr ⟨2, rfl, by decide +kernel, rfl⟩
theorem d_L_law_226 : dec 3 cL_law 226 (.invokevirtual 33) 229 := ⟨by decide +kernel, rfl⟩
theorem d_L_law_229 : decB cL_law 229 (.if_icmp .eq 825) (825) 232 1054 := ⟨by decide +kernel, rfl, by decide⟩
theorem d_L_law_232 : dec 1 cL_law 232 (.iconst 0) 233 := ⟨by decide +kernel, rfl⟩
theorem d_L_law_233 : dec 1 cL_law 233 .ireturn 234 := ⟨by decide +kernel, rfl⟩
theorem d_L_law_234 : decAL cL_law 234 1 235 := Or.inr ⟨1, rfl, by decide +kernel, rfl⟩
theorem d_L_law_235 : decAL cL_law 235 0 236 := Or.inr ⟨0, rfl, by decide +kernel, rfl⟩
theorem d_L_law_236 : decIL cL_law 236 4 238 := Or.inl ⟨by decide +kernel, rfl⟩
theorem d_L_law_238 : dec 1 cL_law 238 (.iconst 1) 239 := ⟨by decide +kernel, rfl⟩
theorem d_L_law_239 : dec 1 cL_law 239 .iadd 240 := ⟨by decide +kernel, rfl⟩
theorem d_L_law_240 : dec 1 cL_law 240 .iaload 241 := ⟨by decide +kernel, rfl⟩
theorem d_L_law_241 : decB cL_law 241 (.ifCond .eq 7) (7) 244 248 := ⟨by decide +kernel, rfl, by decide⟩
theorem d_L_law_244 : dec 1 cL_law 244 (.iconst 1) 245 := ⟨by decide +kernel, rfl⟩
theorem d_L_law_245 : decB cL_law 245 (.goto 4) (4) 248 249 := ⟨by decide +kernel, rfl, by decide⟩
theorem d_L_law_248 : dec 1 cL_law 248 (.iconst 0) 249 := ⟨by decide +kernel, rfl⟩
theorem d_L_law_249 : dec 3 cL_law 249 (.invokevirtual 34) 252 := ⟨by decide +kernel, rfl⟩
theorem d_L_law_252 : decAL cL_law 252 2 253 := Or.inr ⟨2, rfl, by decide +kernel, rfl⟩
theorem d_L_law_253 : decAL cL_law 253 0 254 := Or.inr ⟨0, rfl, by decide +kernel, rfl⟩
theorem d_L_law_254 : decIL cL_law 254 4 256 := Or.inl ⟨by decide +kernel, rfl⟩
theorem d_L_law_256 : dec 1 cL_law 256 (.iconst 1) 257 := ⟨by decide +kernel, rfl⟩
theorem d_L_law_257 : dec 1 cL_law 257 .iadd 258 := ⟨by decide +kernel, rfl⟩
theorem d_L_law_258 : dec 1 cL_law 258 .iaload 259 := ⟨by decide +kernel, rfl⟩
theorem d_L_law_259 : decB cL_law 259 (.ifCond .eq 7) (7) 262 266 := ⟨by decide +kernel, rfl, by decide⟩
theorem d_L_law_262 : dec 1 cL_law 262 (.iconst 1) 263 := ⟨by decide +kernel, rfl⟩
theorem d_L_law_263 : decB cL_law 263 (.goto 4) (4) 266 267 := ⟨by decide +kernel, rfl, by decide⟩
theorem d_L_law_266 : dec 1 cL_law 266 (.iconst 0) 267 := ⟨by decide +kernel, rfl⟩
theorem d_L_law_267 : dec 3 cL_law 267 (.invokevirtual 38) 270 := ⟨by decide +kernel, rfl⟩
theorem d_L_law_270 : decB cL_law 270 (.if_icmp .eq 784) (784) 273 1054 := ⟨by decide +kernel, rfl, by decide⟩
theorem d_L_law_273 : dec 1 cL_law 273 (.iconst 0) 274 := ⟨by decide +kernel, rfl⟩
theorem d_L_law_274 : dec 1 cL_law 274 .ireturn 275 := ⟨by decide +kernel, rfl⟩
theorem d_L_law_275 : decAL cL_law 275 1 276 := Or.inr ⟨1, rfl, by decide +kernel, rfl⟩
theorem d_L_law_276 : dec 3 cL_law 276 (.invokevirtual 39) 279 := ⟨by decide +kernel, rfl⟩
theorem d_L_law_279 : decAL cL_law 279 2 280 := Or.inr ⟨2, rfl, by decide +kernel, rfl⟩
theorem d_L_law_280 : dec 3 cL_law 280 (.invokevirtual 42) 283 := ⟨by decide +kernel, rfl⟩
theorem d_L_law_283 : decB cL_law 283 (.if_icmp .eq 771) (771) 286 1054 := ⟨by decide +kernel, rfl, by decide⟩
theorem d_L_law_286 : dec 1 cL_law 286 (.iconst 0) 287 := ⟨by decide +kernel, rfl⟩
theorem d_L_law_287 : dec 1 cL_law 287 .ireturn 288 := ⟨by decide +kernel, rfl⟩
theorem d_L_law_288 : decAL cL_law 288 1 289 := Or.inr ⟨1, rfl, by decide +kernel, rfl⟩
theorem d_L_law_289 : dec 3 cL_law 289 (.invokevirtual 43) 292 := ⟨by decide +kernel, rfl⟩
theorem d_L_law_292 : decAL cL_law 292 2 293 := Or.inr ⟨2, rfl, by decide +kernel, rfl⟩
theorem d_L_law_293 : dec 3 cL_law 293 (.invokevirtual 46) 296 := ⟨by decide +kernel, rfl⟩
theorem d_L_law_296 : decB cL_law 296 (.if_icmp .eq 758) (758) 299 1054 := ⟨by decide +kernel, rfl, by decide⟩
theorem d_L_law_299 : dec 1 cL_law 299 (.iconst 0) 300 := ⟨by decide +kernel, rfl⟩
theorem d_L_law_300 : dec 1 cL_law 300 .ireturn 301 := ⟨by decide +kernel, rfl⟩
theorem d_L_law_301 : decAL cL_law 301 1 302 := Or.inr ⟨1, rfl, by decide +kernel, rfl⟩
theorem d_L_law_302 : decAL cL_law 302 0 303 := Or.inr ⟨0, rfl, by decide +kernel, rfl⟩
theorem d_L_law_303 : decIL cL_law 303 4 305 := Or.inl ⟨by decide +kernel, rfl⟩
theorem d_L_law_305 : dec 1 cL_law 305 (.iconst 1) 306 := ⟨by decide +kernel, rfl⟩
theorem d_L_law_306 : dec 1 cL_law 306 .iadd 307 := ⟨by decide +kernel, rfl⟩
theorem d_L_law_307 : dec 1 cL_law 307 .iaload 308 := ⟨by decide +kernel, rfl⟩
theorem d_L_law_308 : decAL cL_law 308 0 309 := Or.inr ⟨0, rfl, by decide +kernel, rfl⟩
theorem d_L_law_309 : decIL cL_law 309 4 311 := Or.inl ⟨by decide +kernel, rfl⟩
theorem d_L_law_311 : dec 1 cL_law 311 (.iconst 2) 312 := ⟨by decide +kernel, rfl⟩
theorem d_L_law_312 : dec 1 cL_law 312 .iadd 313 := ⟨by decide +kernel, rfl⟩
theorem d_L_law_313 : dec 1 cL_law 313 .iaload 314 := ⟨by decide +kernel, rfl⟩
theorem d_L_law_314 : dec 3 cL_law 314 (.invokevirtual 47) 317 := ⟨by decide +kernel, rfl⟩
theorem d_L_law_317 : decAL cL_law 317 2 318 := Or.inr ⟨2, rfl, by decide +kernel, rfl⟩
theorem d_L_law_318 : decAL cL_law 318 0 319 := Or.inr ⟨0, rfl, by decide +kernel, rfl⟩
theorem d_L_law_319 : decIL cL_law 319 4 321 := Or.inl ⟨by decide +kernel, rfl⟩
theorem d_L_law_321 : dec 1 cL_law 321 (.iconst 1) 322 := ⟨by decide +kernel, rfl⟩
theorem d_L_law_322 : dec 1 cL_law 322 .iadd 323 := ⟨by decide +kernel, rfl⟩
theorem d_L_law_323 : dec 1 cL_law 323 .iaload 324 := ⟨by decide +kernel, rfl⟩
theorem d_L_law_324 : decAL cL_law 324 0 325 := Or.inr ⟨0, rfl, by decide +kernel, rfl⟩
theorem d_L_law_325 : decIL cL_law 325 4 327 := Or.inl ⟨by decide +kernel, rfl⟩
theorem d_L_law_327 : dec 1 cL_law 327 (.iconst 2) 328 := ⟨by decide +kernel, rfl⟩
theorem d_L_law_328 : dec 1 cL_law 328 .iadd 329 := ⟨by decide +kernel, rfl⟩
theorem d_L_law_329 : dec 1 cL_law 329 .iaload 330 := ⟨by decide +kernel, rfl⟩
theorem d_L_law_330 : dec 3 cL_law 330 (.invokevirtual 51) 333 := ⟨by decide +kernel, rfl⟩
theorem d_L_law_333 : decB cL_law 333 (.if_icmp .eq 721) (721) 336 1054 := ⟨by decide +kernel, rfl, by decide⟩
theorem d_L_law_336 : dec 1 cL_law 336 (.iconst 0) 337 := ⟨by decide +kernel, rfl⟩
theorem d_L_law_337 : dec 1 cL_law 337 .ireturn 338 := ⟨by decide +kernel, rfl⟩
theorem d_L_law_338 : decAL cL_law 338 1 339 := Or.inr ⟨1, rfl, by decide +kernel, rfl⟩
theorem d_L_law_339 : decAL cL_law 339 0 340 := Or.inr ⟨0, rfl, by decide +kernel, rfl⟩
theorem d_L_law_340 : decIL cL_law 340 4 342 := Or.inl ⟨by decide +kernel, rfl⟩
theorem d_L_law_342 : dec 1 cL_law 342 (.iconst 1) 343 := ⟨by decide +kernel, rfl⟩
theorem d_L_law_343 : dec 1 cL_law 343 .iadd 344 := ⟨by decide +kernel, rfl⟩
theorem d_L_law_344 : dec 1 cL_law 344 .iaload 345 := ⟨by decide +kernel, rfl⟩
theorem d_L_law_345 : dec 3 cL_law 345 (.invokevirtual 52) 348 := ⟨by decide +kernel, rfl⟩
theorem d_L_law_348 : decAL cL_law 348 2 349 := Or.inr ⟨2, rfl, by decide +kernel, rfl⟩
theorem d_L_law_349 : decAL cL_law 349 0 350 := Or.inr ⟨0, rfl, by decide +kernel, rfl⟩
theorem d_L_law_350 : decIL cL_law 350 4 352 := Or.inl ⟨by decide +kernel, rfl⟩
theorem d_L_law_352 : dec 1 cL_law 352 (.iconst 1) 353 := ⟨by decide +kernel, rfl⟩
theorem d_L_law_353 : dec 1 cL_law 353 .iadd 354 := ⟨by decide +kernel, rfl⟩
theorem d_L_law_354 : dec 1 cL_law 354 .iaload 355 := ⟨by decide +kernel, rfl⟩
theorem d_L_law_355 : dec 3 cL_law 355 (.invokevirtual 56) 358 := ⟨by decide +kernel, rfl⟩
theorem d_L_law_358 : decB cL_law 358 (.if_icmp .eq 696) (696) 361 1054 := ⟨by decide +kernel, rfl, by decide⟩
theorem d_L_law_361 : dec 1 cL_law 361 (.iconst 0) 362 := ⟨by decide +kernel, rfl⟩
theorem d_L_law_362 : dec 1 cL_law 362 .ireturn 363 := ⟨by decide +kernel, rfl⟩
theorem d_L_law_363 : decAL cL_law 363 1 364 := Or.inr ⟨1, rfl, by decide +kernel, rfl⟩
theorem d_L_law_364 : decAL cL_law 364 0 365 := Or.inr ⟨0, rfl, by decide +kernel, rfl⟩
theorem d_L_law_365 : decIL cL_law 365 4 367 := Or.inl ⟨by decide +kernel, rfl⟩
theorem d_L_law_367 : dec 1 cL_law 367 (.iconst 1) 368 := ⟨by decide +kernel, rfl⟩
theorem d_L_law_368 : dec 1 cL_law 368 .iadd 369 := ⟨by decide +kernel, rfl⟩
theorem d_L_law_369 : dec 1 cL_law 369 .iaload 370 := ⟨by decide +kernel, rfl⟩
theorem d_L_law_370 : dec 3 cL_law 370 (.invokevirtual 57) 373 := ⟨by decide +kernel, rfl⟩
theorem d_L_law_373 : decAL cL_law 373 2 374 := Or.inr ⟨2, rfl, by decide +kernel, rfl⟩
theorem d_L_law_374 : decAL cL_law 374 0 375 := Or.inr ⟨0, rfl, by decide +kernel, rfl⟩
theorem d_L_law_375 : decIL cL_law 375 4 377 := Or.inl ⟨by decide +kernel, rfl⟩
theorem d_L_law_377 : dec 1 cL_law 377 (.iconst 1) 378 := ⟨by decide +kernel, rfl⟩
theorem d_L_law_378 : dec 1 cL_law 378 .iadd 379 := ⟨by decide +kernel, rfl⟩
theorem d_L_law_379 : dec 1 cL_law 379 .iaload 380 := ⟨by decide +kernel, rfl⟩
theorem d_L_law_380 : dec 3 cL_law 380 (.invokevirtual 60) 383 := ⟨by decide +kernel, rfl⟩
theorem d_L_law_383 : decB cL_law 383 (.if_icmp .eq 671) (671) 386 1054 := ⟨by decide +kernel, rfl, by decide⟩
theorem d_L_law_386 : dec 1 cL_law 386 (.iconst 0) 387 := ⟨by decide +kernel, rfl⟩
theorem d_L_law_387 : dec 1 cL_law 387 .ireturn 388 := ⟨by decide +kernel, rfl⟩
theorem d_L_law_388 : decAL cL_law 388 1 389 := Or.inr ⟨1, rfl, by decide +kernel, rfl⟩
theorem d_L_law_389 : dec 3 cL_law 389 (.invokevirtual 61) 392 := ⟨by decide +kernel, rfl⟩
theorem d_L_law_392 : decAL cL_law 392 2 393 := Or.inr ⟨2, rfl, by decide +kernel, rfl⟩
theorem d_L_law_393 : dec 3 cL_law 393 (.invokevirtual 64) 396 := ⟨by decide +kernel, rfl⟩
theorem d_L_law_396 : decB cL_law 396 (.if_icmp .eq 658) (658) 399 1054 := ⟨by decide +kernel, rfl, by decide⟩
theorem d_L_law_399 : dec 1 cL_law 399 (.iconst 0) 400 := ⟨by decide +kernel, rfl⟩
theorem d_L_law_400 : dec 1 cL_law 400 .ireturn 401 := ⟨by decide +kernel, rfl⟩
theorem d_L_law_401 : decAL cL_law 401 1 402 := Or.inr ⟨1, rfl, by decide +kernel, rfl⟩
theorem d_L_law_402 : decAL cL_law 402 0 403 := Or.inr ⟨0, rfl, by decide +kernel, rfl⟩
theorem d_L_law_403 : decIL cL_law 403 4 405 := Or.inl ⟨by decide +kernel, rfl⟩
theorem d_L_law_405 : dec 1 cL_law 405 (.iconst 1) 406 := ⟨by decide +kernel, rfl⟩
theorem d_L_law_406 : dec 1 cL_law 406 .iadd 407 := ⟨by decide +kernel, rfl⟩
theorem d_L_law_407 : dec 1 cL_law 407 .iaload 408 := ⟨by decide +kernel, rfl⟩
theorem d_L_law_408 : dec 3 cL_law 408 (.invokevirtual 65) 411 := ⟨by decide +kernel, rfl⟩
theorem d_L_law_411 : decAL cL_law 411 2 412 := Or.inr ⟨2, rfl, by decide +kernel, rfl⟩
theorem d_L_law_412 : decAL cL_law 412 0 413 := Or.inr ⟨0, rfl, by decide +kernel, rfl⟩
theorem d_L_law_413 : decIL cL_law 413 4 415 := Or.inl ⟨by decide +kernel, rfl⟩
theorem d_L_law_415 : dec 1 cL_law 415 (.iconst 1) 416 := ⟨by decide +kernel, rfl⟩
theorem d_L_law_416 : dec 1 cL_law 416 .iadd 417 := ⟨by decide +kernel, rfl⟩
theorem d_L_law_417 : dec 1 cL_law 417 .iaload 418 := ⟨by decide +kernel, rfl⟩
theorem d_L_law_418 : dec 3 cL_law 418 (.invokevirtual 68) 421 := ⟨by decide +kernel, rfl⟩
theorem d_L_law_421 : decB cL_law 421 (.if_icmp .eq 633) (633) 424 1054 := ⟨by decide +kernel, rfl, by decide⟩
theorem d_L_law_424 : dec 1 cL_law 424 (.iconst 0) 425 := ⟨by decide +kernel, rfl⟩
theorem d_L_law_425 : dec 1 cL_law 425 .ireturn 426 := ⟨by decide +kernel, rfl⟩
theorem d_L_law_426 : decAL cL_law 426 1 427 := Or.inr ⟨1, rfl, by decide +kernel, rfl⟩
theorem d_L_law_427 : decAL cL_law 427 0 428 := Or.inr ⟨0, rfl, by decide +kernel, rfl⟩
theorem d_L_law_428 : decIL cL_law 428 4 430 := Or.inl ⟨by decide +kernel, rfl⟩
theorem d_L_law_430 : dec 1 cL_law 430 (.iconst 1) 431 := ⟨by decide +kernel, rfl⟩
theorem d_L_law_431 : dec 1 cL_law 431 .iadd 432 := ⟨by decide +kernel, rfl⟩
theorem d_L_law_432 : dec 1 cL_law 432 .iaload 433 := ⟨by decide +kernel, rfl⟩
theorem d_L_law_433 : decAL cL_law 433 0 434 := Or.inr ⟨0, rfl, by decide +kernel, rfl⟩
theorem d_L_law_434 : decIL cL_law 434 4 436 := Or.inl ⟨by decide +kernel, rfl⟩
theorem d_L_law_436 : dec 1 cL_law 436 (.iconst 2) 437 := ⟨by decide +kernel, rfl⟩
theorem d_L_law_437 : dec 1 cL_law 437 .iadd 438 := ⟨by decide +kernel, rfl⟩
theorem d_L_law_438 : dec 1 cL_law 438 .iaload 439 := ⟨by decide +kernel, rfl⟩
theorem d_L_law_439 : decAL cL_law 439 3 440 := Or.inr ⟨3, rfl, by decide +kernel, rfl⟩
theorem d_L_law_440 : dec 3 cL_law 440 (.invokestatic 69) 443 := ⟨by decide +kernel, rfl⟩
theorem d_L_law_443 : decIS cL_law 443 5 445 := Or.inl ⟨by decide +kernel, rfl⟩
theorem d_L_law_445 : decAL cL_law 445 2 446 := Or.inr ⟨2, rfl, by decide +kernel, rfl⟩
theorem d_L_law_446 : decAL cL_law 446 0 447 := Or.inr ⟨0, rfl, by decide +kernel, rfl⟩
theorem d_L_law_447 : decIL cL_law 447 4 449 := Or.inl ⟨by decide +kernel, rfl⟩
theorem d_L_law_449 : dec 1 cL_law 449 (.iconst 1) 450 := ⟨by decide +kernel, rfl⟩
theorem d_L_law_450 : dec 1 cL_law 450 .iadd 451 := ⟨by decide +kernel, rfl⟩
theorem d_L_law_451 : dec 1 cL_law 451 .iaload 452 := ⟨by decide +kernel, rfl⟩
theorem d_L_law_452 : decAL cL_law 452 0 453 := Or.inr ⟨0, rfl, by decide +kernel, rfl⟩
theorem d_L_law_453 : decIL cL_law 453 4 455 := Or.inl ⟨by decide +kernel, rfl⟩
theorem d_L_law_455 : dec 1 cL_law 455 (.iconst 2) 456 := ⟨by decide +kernel, rfl⟩
theorem d_L_law_456 : dec 1 cL_law 456 .iadd 457 := ⟨by decide +kernel, rfl⟩
theorem d_L_law_457 : dec 1 cL_law 457 .iaload 458 := ⟨by decide +kernel, rfl⟩
theorem d_L_law_458 : dec 3 cL_law 458 (.invokevirtual 74) 461 := ⟨by decide +kernel, rfl⟩
theorem d_L_law_461 : decIS cL_law 461 6 463 := Or.inl ⟨by decide +kernel, rfl⟩
theorem d_L_law_463 : decAL cL_law 463 2 464 := Or.inr ⟨2, rfl, by decide +kernel, rfl⟩
theorem d_L_law_464 : dec 3 cL_law 464 (.invokevirtual 75) 467 := ⟨by decide +kernel, rfl⟩
theorem d_L_law_467 : decIL cL_law 467 5 469 := Or.inl ⟨by decide +kernel, rfl⟩
theorem d_L_law_469 : decB cL_law 469 (.if_icmp .eq 5) (5) 472 474 := ⟨by decide +kernel, rfl, by decide⟩
theorem d_L_law_472 : dec 1 cL_law 472 (.iconst 0) 473 := ⟨by decide +kernel, rfl⟩
theorem d_L_law_473 : dec 1 cL_law 473 .ireturn 474 := ⟨by decide +kernel, rfl⟩
theorem d_L_law_474 : decIL cL_law 474 5 476 := Or.inl ⟨by decide +kernel, rfl⟩
theorem d_L_law_476 : decB cL_law 476 (.ifCond .ne 15) (15) 479 491 := ⟨by decide +kernel, rfl, by decide⟩
theorem d_L_law_479 : decAL cL_law 479 3 480 := Or.inr ⟨3, rfl, by decide +kernel, rfl⟩
theorem d_L_law_480 : dec 1 cL_law 480 (.iconst 0) 481 := ⟨by decide +kernel, rfl⟩
theorem d_L_law_481 : dec 1 cL_law 481 .laload 482 := ⟨by decide +kernel, rfl⟩
theorem d_L_law_482 : decIL cL_law 482 6 484 := Or.inl ⟨by decide +kernel, rfl⟩
theorem d_L_law_484 : dec 1 cL_law 484 .i2l 485 := ⟨by decide +kernel, rfl⟩
theorem d_L_law_485 : dec 1 cL_law 485 .lcmp 486 := ⟨by decide +kernel, rfl⟩
theorem d_L_law_486 : decB cL_law 486 (.ifCond .eq 5) (5) 489 491 := ⟨by decide +kernel, rfl, by decide⟩
theorem d_L_law_489 : dec 1 cL_law 489 (.iconst 0) 490 := ⟨by decide +kernel, rfl⟩
theorem d_L_law_490 : dec 1 cL_law 490 .ireturn 491 := ⟨by decide +kernel, rfl⟩
theorem d_L_law_491 : decB cL_law 491 (.goto 563) (563) 494 1054 := ⟨by decide +kernel, rfl, by decide⟩
theorem d_L_law_494 : decAL cL_law 494 1 495 := Or.inr ⟨1, rfl, by decide +kernel, rfl⟩
theorem d_L_law_495 : decAL cL_law 495 0 496 := Or.inr ⟨0, rfl, by decide +kernel, rfl⟩
theorem d_L_law_496 : decIL cL_law 496 4 498 := Or.inl ⟨by decide +kernel, rfl⟩
theorem d_L_law_498 : dec 1 cL_law 498 (.iconst 1) 499 := ⟨by decide +kernel, rfl⟩
theorem d_L_law_499 : dec 1 cL_law 499 .iadd 500 := ⟨by decide +kernel, rfl⟩
theorem d_L_law_500 : dec 1 cL_law 500 .iaload 501 := ⟨by decide +kernel, rfl⟩
theorem d_L_law_501 : decAL cL_law 501 0 502 := Or.inr ⟨0, rfl, by decide +kernel, rfl⟩
theorem d_L_law_502 : decIL cL_law 502 4 504 := Or.inl ⟨by decide +kernel, rfl⟩
theorem d_L_law_504 : dec 1 cL_law 504 (.iconst 2) 505 := ⟨by decide +kernel, rfl⟩
theorem d_L_law_505 : dec 1 cL_law 505 .iadd 506 := ⟨by decide +kernel, rfl⟩
theorem d_L_law_506 : dec 1 cL_law 506 .iaload 507 := ⟨by decide +kernel, rfl⟩
theorem d_L_law_507 : dec 3 cL_law 507 (.invokevirtual 78) 510 := ⟨by decide +kernel, rfl⟩
theorem d_L_law_510 : decAL cL_law 510 2 511 := Or.inr ⟨2, rfl, by decide +kernel, rfl⟩
theorem d_L_law_511 : decAL cL_law 511 0 512 := Or.inr ⟨0, rfl, by decide +kernel, rfl⟩
theorem d_L_law_512 : decIL cL_law 512 4 514 := Or.inl ⟨by decide +kernel, rfl⟩
theorem d_L_law_514 : dec 1 cL_law 514 (.iconst 1) 515 := ⟨by decide +kernel, rfl⟩
theorem d_L_law_515 : dec 1 cL_law 515 .iadd 516 := ⟨by decide +kernel, rfl⟩
theorem d_L_law_516 : dec 1 cL_law 516 .iaload 517 := ⟨by decide +kernel, rfl⟩
theorem d_L_law_517 : decAL cL_law 517 0 518 := Or.inr ⟨0, rfl, by decide +kernel, rfl⟩
theorem d_L_law_518 : decIL cL_law 518 4 520 := Or.inl ⟨by decide +kernel, rfl⟩
theorem d_L_law_520 : dec 1 cL_law 520 (.iconst 2) 521 := ⟨by decide +kernel, rfl⟩
theorem d_L_law_521 : dec 1 cL_law 521 .iadd 522 := ⟨by decide +kernel, rfl⟩
theorem d_L_law_522 : dec 1 cL_law 522 .iaload 523 := ⟨by decide +kernel, rfl⟩
theorem d_L_law_523 : dec 3 cL_law 523 (.invokevirtual 81) 526 := ⟨by decide +kernel, rfl⟩
theorem d_L_law_526 : decB cL_law 526 (.if_icmp .eq 528) (528) 529 1054 := ⟨by decide +kernel, rfl, by decide⟩
theorem d_L_law_529 : dec 1 cL_law 529 (.iconst 0) 530 := ⟨by decide +kernel, rfl⟩
theorem d_L_law_530 : dec 1 cL_law 530 .ireturn 531 := ⟨by decide +kernel, rfl⟩
theorem d_L_law_531 : decAL cL_law 531 1 532 := Or.inr ⟨1, rfl, by decide +kernel, rfl⟩
theorem d_L_law_532 : decAL cL_law 532 0 533 := Or.inr ⟨0, rfl, by decide +kernel, rfl⟩
theorem d_L_law_533 : decIL cL_law 533 4 535 := Or.inl ⟨by decide +kernel, rfl⟩
theorem d_L_law_535 : dec 1 cL_law 535 (.iconst 1) 536 := ⟨by decide +kernel, rfl⟩
theorem d_L_law_536 : dec 1 cL_law 536 .iadd 537 := ⟨by decide +kernel, rfl⟩
theorem d_L_law_537 : dec 1 cL_law 537 .iaload 538 := ⟨by decide +kernel, rfl⟩
theorem d_L_law_538 : decAL cL_law 538 0 539 := Or.inr ⟨0, rfl, by decide +kernel, rfl⟩
theorem d_L_law_539 : decIL cL_law 539 4 541 := Or.inl ⟨by decide +kernel, rfl⟩
theorem d_L_law_541 : dec 1 cL_law 541 (.iconst 2) 542 := ⟨by decide +kernel, rfl⟩
theorem d_L_law_542 : dec 1 cL_law 542 .iadd 543 := ⟨by decide +kernel, rfl⟩
theorem d_L_law_543 : dec 1 cL_law 543 .iaload 544 := ⟨by decide +kernel, rfl⟩
theorem d_L_law_544 : decAL cL_law 544 3 545 := Or.inr ⟨3, rfl, by decide +kernel, rfl⟩
theorem d_L_law_545 : dec 3 cL_law 545 (.invokestatic 82) 548 := ⟨by decide +kernel, rfl⟩
theorem d_L_law_548 : decIS cL_law 548 5 550 := Or.inl ⟨by decide +kernel, rfl⟩
theorem d_L_law_550 : decAL cL_law 550 2 551 := Or.inr ⟨2, rfl, by decide +kernel, rfl⟩
theorem d_L_law_551 : decAL cL_law 551 0 552 := Or.inr ⟨0, rfl, by decide +kernel, rfl⟩
theorem d_L_law_552 : decIL cL_law 552 4 554 := Or.inl ⟨by decide +kernel, rfl⟩
theorem d_L_law_554 : dec 1 cL_law 554 (.iconst 1) 555 := ⟨by decide +kernel, rfl⟩
theorem d_L_law_555 : dec 1 cL_law 555 .iadd 556 := ⟨by decide +kernel, rfl⟩
theorem d_L_law_556 : dec 1 cL_law 556 .iaload 557 := ⟨by decide +kernel, rfl⟩
theorem d_L_law_557 : decAL cL_law 557 0 558 := Or.inr ⟨0, rfl, by decide +kernel, rfl⟩
theorem d_L_law_558 : decIL cL_law 558 4 560 := Or.inl ⟨by decide +kernel, rfl⟩
theorem d_L_law_560 : dec 1 cL_law 560 (.iconst 2) 561 := ⟨by decide +kernel, rfl⟩
theorem d_L_law_561 : dec 1 cL_law 561 .iadd 562 := ⟨by decide +kernel, rfl⟩
theorem d_L_law_562 : dec 1 cL_law 562 .iaload 563 := ⟨by decide +kernel, rfl⟩
theorem d_L_law_563 : dec 3 cL_law 563 (.invokevirtual 84) 566 := ⟨by decide +kernel, rfl⟩
theorem d_L_law_566 : decIS cL_law 566 6 568 := Or.inl ⟨by decide +kernel, rfl⟩
theorem d_L_law_568 : decAL cL_law 568 2 569 := Or.inr ⟨2, rfl, by decide +kernel, rfl⟩
theorem d_L_law_569 : dec 3 cL_law 569 (.invokevirtual 75) 572 := ⟨by decide +kernel, rfl⟩
theorem d_L_law_572 : decIL cL_law 572 5 574 := Or.inl ⟨by decide +kernel, rfl⟩
theorem d_L_law_574 : decB cL_law 574 (.if_icmp .eq 5) (5) 577 579 := ⟨by decide +kernel, rfl, by decide⟩
theorem d_L_law_577 : dec 1 cL_law 577 (.iconst 0) 578 := ⟨by decide +kernel, rfl⟩
theorem d_L_law_578 : dec 1 cL_law 578 .ireturn 579 := ⟨by decide +kernel, rfl⟩
theorem d_L_law_579 : decIL cL_law 579 5 581 := Or.inl ⟨by decide +kernel, rfl⟩
theorem d_L_law_581 : decB cL_law 581 (.ifCond .ne 15) (15) 584 596 := ⟨by decide +kernel, rfl, by decide⟩
theorem d_L_law_584 : decAL cL_law 584 3 585 := Or.inr ⟨3, rfl, by decide +kernel, rfl⟩
theorem d_L_law_585 : dec 1 cL_law 585 (.iconst 0) 586 := ⟨by decide +kernel, rfl⟩
theorem d_L_law_586 : dec 1 cL_law 586 .laload 587 := ⟨by decide +kernel, rfl⟩
theorem d_L_law_587 : decIL cL_law 587 6 589 := Or.inl ⟨by decide +kernel, rfl⟩
theorem d_L_law_589 : dec 1 cL_law 589 .i2l 590 := ⟨by decide +kernel, rfl⟩
theorem d_L_law_590 : dec 1 cL_law 590 .lcmp 591 := ⟨by decide +kernel, rfl⟩
theorem d_L_law_591 : decB cL_law 591 (.ifCond .eq 5) (5) 594 596 := ⟨by decide +kernel, rfl, by decide⟩
theorem d_L_law_594 : dec 1 cL_law 594 (.iconst 0) 595 := ⟨by decide +kernel, rfl⟩
theorem d_L_law_595 : dec 1 cL_law 595 .ireturn 596 := ⟨by decide +kernel, rfl⟩
theorem d_L_law_596 : decB cL_law 596 (.goto 458) (458) 599 1054 := ⟨by decide +kernel, rfl, by decide⟩
theorem d_L_law_599 : decAL cL_law 599 1 600 := Or.inr ⟨1, rfl, by decide +kernel, rfl⟩
theorem d_L_law_600 : decAL cL_law 600 0 601 := Or.inr ⟨0, rfl, by decide +kernel, rfl⟩
theorem d_L_law_601 : decIL cL_law 601 4 603 := Or.inl ⟨by decide +kernel, rfl⟩
theorem d_L_law_603 : dec 1 cL_law 603 (.iconst 1) 604 := ⟨by decide +kernel, rfl⟩
theorem d_L_law_604 : dec 1 cL_law 604 .iadd 605 := ⟨by decide +kernel, rfl⟩
theorem d_L_law_605 : dec 1 cL_law 605 .iaload 606 := ⟨by decide +kernel, rfl⟩
theorem d_L_law_606 : decAL cL_law 606 0 607 := Or.inr ⟨0, rfl, by decide +kernel, rfl⟩
theorem d_L_law_607 : decIL cL_law 607 4 609 := Or.inl ⟨by decide +kernel, rfl⟩
theorem d_L_law_609 : dec 1 cL_law 609 (.iconst 2) 610 := ⟨by decide +kernel, rfl⟩
theorem d_L_law_610 : dec 1 cL_law 610 .iadd 611 := ⟨by decide +kernel, rfl⟩
theorem d_L_law_611 : dec 1 cL_law 611 .iaload 612 := ⟨by decide +kernel, rfl⟩
theorem d_L_law_612 : dec 3 cL_law 612 (.invokevirtual 85) 615 := ⟨by decide +kernel, rfl⟩
theorem d_L_law_615 : decAL cL_law 615 2 616 := Or.inr ⟨2, rfl, by decide +kernel, rfl⟩
theorem d_L_law_616 : decAL cL_law 616 0 617 := Or.inr ⟨0, rfl, by decide +kernel, rfl⟩
theorem d_L_law_617 : decIL cL_law 617 4 619 := Or.inl ⟨by decide +kernel, rfl⟩
theorem d_L_law_619 : dec 1 cL_law 619 (.iconst 1) 620 := ⟨by decide +kernel, rfl⟩
theorem d_L_law_620 : dec 1 cL_law 620 .iadd 621 := ⟨by decide +kernel, rfl⟩
theorem d_L_law_621 : dec 1 cL_law 621 .iaload 622 := ⟨by decide +kernel, rfl⟩
theorem d_L_law_622 : decAL cL_law 622 0 623 := Or.inr ⟨0, rfl, by decide +kernel, rfl⟩
theorem d_L_law_623 : decIL cL_law 623 4 625 := Or.inl ⟨by decide +kernel, rfl⟩
theorem d_L_law_625 : dec 1 cL_law 625 (.iconst 2) 626 := ⟨by decide +kernel, rfl⟩
theorem d_L_law_626 : dec 1 cL_law 626 .iadd 627 := ⟨by decide +kernel, rfl⟩
theorem d_L_law_627 : dec 1 cL_law 627 .iaload 628 := ⟨by decide +kernel, rfl⟩
theorem d_L_law_628 : dec 3 cL_law 628 (.invokevirtual 88) 631 := ⟨by decide +kernel, rfl⟩
theorem d_L_law_631 : decB cL_law 631 (.if_icmp .eq 423) (423) 634 1054 := ⟨by decide +kernel, rfl, by decide⟩
theorem d_L_law_634 : dec 1 cL_law 634 (.iconst 0) 635 := ⟨by decide +kernel, rfl⟩
theorem d_L_law_635 : dec 1 cL_law 635 .ireturn 636 := ⟨by decide +kernel, rfl⟩
theorem d_L_law_636 : decAL cL_law 636 1 637 := Or.inr ⟨1, rfl, by decide +kernel, rfl⟩
theorem d_L_law_637 : decAL cL_law 637 0 638 := Or.inr ⟨0, rfl, by decide +kernel, rfl⟩
theorem d_L_law_638 : decIL cL_law 638 4 640 := Or.inl ⟨by decide +kernel, rfl⟩
theorem d_L_law_640 : dec 1 cL_law 640 (.iconst 1) 641 := ⟨by decide +kernel, rfl⟩
theorem d_L_law_641 : dec 1 cL_law 641 .iadd 642 := ⟨by decide +kernel, rfl⟩
theorem d_L_law_642 : dec 1 cL_law 642 .iaload 643 := ⟨by decide +kernel, rfl⟩
theorem d_L_law_643 : decAL cL_law 643 0 644 := Or.inr ⟨0, rfl, by decide +kernel, rfl⟩
theorem d_L_law_644 : decIL cL_law 644 4 646 := Or.inl ⟨by decide +kernel, rfl⟩
theorem d_L_law_646 : dec 1 cL_law 646 (.iconst 2) 647 := ⟨by decide +kernel, rfl⟩
theorem d_L_law_647 : dec 1 cL_law 647 .iadd 648 := ⟨by decide +kernel, rfl⟩
theorem d_L_law_648 : dec 1 cL_law 648 .iaload 649 := ⟨by decide +kernel, rfl⟩
theorem d_L_law_649 : dec 3 cL_law 649 (.invokevirtual 89) 652 := ⟨by decide +kernel, rfl⟩
theorem d_L_law_652 : decAL cL_law 652 2 653 := Or.inr ⟨2, rfl, by decide +kernel, rfl⟩
theorem d_L_law_653 : decAL cL_law 653 0 654 := Or.inr ⟨0, rfl, by decide +kernel, rfl⟩
theorem d_L_law_654 : decIL cL_law 654 4 656 := Or.inl ⟨by decide +kernel, rfl⟩
theorem d_L_law_656 : dec 1 cL_law 656 (.iconst 1) 657 := ⟨by decide +kernel, rfl⟩
theorem d_L_law_657 : dec 1 cL_law 657 .iadd 658 := ⟨by decide +kernel, rfl⟩
theorem d_L_law_658 : dec 1 cL_law 658 .iaload 659 := ⟨by decide +kernel, rfl⟩
theorem d_L_law_659 : decAL cL_law 659 0 660 := Or.inr ⟨0, rfl, by decide +kernel, rfl⟩
theorem d_L_law_660 : decIL cL_law 660 4 662 := Or.inl ⟨by decide +kernel, rfl⟩
theorem d_L_law_662 : dec 1 cL_law 662 (.iconst 2) 663 := ⟨by decide +kernel, rfl⟩
theorem d_L_law_663 : dec 1 cL_law 663 .iadd 664 := ⟨by decide +kernel, rfl⟩
theorem d_L_law_664 : dec 1 cL_law 664 .iaload 665 := ⟨by decide +kernel, rfl⟩
theorem d_L_law_665 : dec 3 cL_law 665 (.invokevirtual 92) 668 := ⟨by decide +kernel, rfl⟩
theorem d_L_law_668 : decB cL_law 668 (.if_icmp .eq 386) (386) 671 1054 := ⟨by decide +kernel, rfl, by decide⟩
theorem d_L_law_671 : dec 1 cL_law 671 (.iconst 0) 672 := ⟨by decide +kernel, rfl⟩
theorem d_L_law_672 : dec 1 cL_law 672 .ireturn 673 := ⟨by decide +kernel, rfl⟩
theorem d_L_law_673 : decAL cL_law 673 1 674 := Or.inr ⟨1, rfl, by decide +kernel, rfl⟩
theorem d_L_law_674 : decAL cL_law 674 0 675 := Or.inr ⟨0, rfl, by decide +kernel, rfl⟩
theorem d_L_law_675 : decIL cL_law 675 4 677 := Or.inl ⟨by decide +kernel, rfl⟩
theorem d_L_law_677 : dec 1 cL_law 677 (.iconst 1) 678 := ⟨by decide +kernel, rfl⟩
theorem d_L_law_678 : dec 1 cL_law 678 .iadd 679 := ⟨by decide +kernel, rfl⟩
theorem d_L_law_679 : dec 1 cL_law 679 .iaload 680 := ⟨by decide +kernel, rfl⟩
theorem d_L_law_680 : dec 3 cL_law 680 (.invokevirtual 93) 683 := ⟨by decide +kernel, rfl⟩
theorem d_L_law_683 : decAL cL_law 683 2 684 := Or.inr ⟨2, rfl, by decide +kernel, rfl⟩
theorem d_L_law_684 : decAL cL_law 684 0 685 := Or.inr ⟨0, rfl, by decide +kernel, rfl⟩
theorem d_L_law_685 : decIL cL_law 685 4 687 := Or.inl ⟨by decide +kernel, rfl⟩
theorem d_L_law_687 : dec 1 cL_law 687 (.iconst 1) 688 := ⟨by decide +kernel, rfl⟩
theorem d_L_law_688 : dec 1 cL_law 688 .iadd 689 := ⟨by decide +kernel, rfl⟩
theorem d_L_law_689 : dec 1 cL_law 689 .iaload 690 := ⟨by decide +kernel, rfl⟩
theorem d_L_law_690 : dec 3 cL_law 690 (.invokevirtual 96) 693 := ⟨by decide +kernel, rfl⟩
theorem d_L_law_693 : decB cL_law 693 (.if_icmp .eq 361) (361) 696 1054 := ⟨by decide +kernel, rfl, by decide⟩
theorem d_L_law_696 : dec 1 cL_law 696 (.iconst 0) 697 := ⟨by decide +kernel, rfl⟩
theorem d_L_law_697 : dec 1 cL_law 697 .ireturn 698 := ⟨by decide +kernel, rfl⟩
theorem d_L_law_698 : decAL cL_law 698 1 699 := Or.inr ⟨1, rfl, by decide +kernel, rfl⟩
theorem d_L_law_699 : decAL cL_law 699 0 700 := Or.inr ⟨0, rfl, by decide +kernel, rfl⟩
theorem d_L_law_700 : decIL cL_law 700 4 702 := Or.inl ⟨by decide +kernel, rfl⟩
theorem d_L_law_702 : dec 1 cL_law 702 (.iconst 1) 703 := ⟨by decide +kernel, rfl⟩
theorem d_L_law_703 : dec 1 cL_law 703 .iadd 704 := ⟨by decide +kernel, rfl⟩
theorem d_L_law_704 : dec 1 cL_law 704 .iaload 705 := ⟨by decide +kernel, rfl⟩
theorem d_L_law_705 : decAL cL_law 705 0 706 := Or.inr ⟨0, rfl, by decide +kernel, rfl⟩
theorem d_L_law_706 : decIL cL_law 706 4 708 := Or.inl ⟨by decide +kernel, rfl⟩
theorem d_L_law_708 : dec 1 cL_law 708 (.iconst 2) 709 := ⟨by decide +kernel, rfl⟩
theorem d_L_law_709 : dec 1 cL_law 709 .iadd 710 := ⟨by decide +kernel, rfl⟩
theorem d_L_law_710 : dec 1 cL_law 710 .iaload 711 := ⟨by decide +kernel, rfl⟩
theorem d_L_law_711 : decB cL_law 711 (.ifCond .eq 7) (7) 714 718 := ⟨by decide +kernel, rfl, by decide⟩
theorem d_L_law_714 : dec 1 cL_law 714 (.iconst 1) 715 := ⟨by decide +kernel, rfl⟩
theorem d_L_law_715 : decB cL_law 715 (.goto 4) (4) 718 719 := ⟨by decide +kernel, rfl, by decide⟩
theorem d_L_law_718 : dec 1 cL_law 718 (.iconst 0) 719 := ⟨by decide +kernel, rfl⟩
theorem d_L_law_719 : dec 3 cL_law 719 (.invokevirtual 97) 722 := ⟨by decide +kernel, rfl⟩
theorem d_L_law_722 : decAL cL_law 722 2 723 := Or.inr ⟨2, rfl, by decide +kernel, rfl⟩
theorem d_L_law_723 : decAL cL_law 723 0 724 := Or.inr ⟨0, rfl, by decide +kernel, rfl⟩
theorem d_L_law_724 : decIL cL_law 724 4 726 := Or.inl ⟨by decide +kernel, rfl⟩
theorem d_L_law_726 : dec 1 cL_law 726 (.iconst 1) 727 := ⟨by decide +kernel, rfl⟩
theorem d_L_law_727 : dec 1 cL_law 727 .iadd 728 := ⟨by decide +kernel, rfl⟩
theorem d_L_law_728 : dec 1 cL_law 728 .iaload 729 := ⟨by decide +kernel, rfl⟩
theorem d_L_law_729 : decAL cL_law 729 0 730 := Or.inr ⟨0, rfl, by decide +kernel, rfl⟩
theorem d_L_law_730 : decIL cL_law 730 4 732 := Or.inl ⟨by decide +kernel, rfl⟩
theorem d_L_law_732 : dec 1 cL_law 732 (.iconst 2) 733 := ⟨by decide +kernel, rfl⟩
theorem d_L_law_733 : dec 1 cL_law 733 .iadd 734 := ⟨by decide +kernel, rfl⟩
theorem d_L_law_734 : dec 1 cL_law 734 .iaload 735 := ⟨by decide +kernel, rfl⟩
theorem d_L_law_735 : decB cL_law 735 (.ifCond .eq 7) (7) 738 742 := ⟨by decide +kernel, rfl, by decide⟩
theorem d_L_law_738 : dec 1 cL_law 738 (.iconst 1) 739 := ⟨by decide +kernel, rfl⟩
theorem d_L_law_739 : decB cL_law 739 (.goto 4) (4) 742 743 := ⟨by decide +kernel, rfl, by decide⟩
theorem d_L_law_742 : dec 1 cL_law 742 (.iconst 0) 743 := ⟨by decide +kernel, rfl⟩
theorem d_L_law_743 : dec 3 cL_law 743 (.invokevirtual 101) 746 := ⟨by decide +kernel, rfl⟩
theorem d_L_law_746 : decB cL_law 746 (.if_icmp .eq 308) (308) 749 1054 := ⟨by decide +kernel, rfl, by decide⟩
theorem d_L_law_749 : dec 1 cL_law 749 (.iconst 0) 750 := ⟨by decide +kernel, rfl⟩
theorem d_L_law_750 : dec 1 cL_law 750 .ireturn 751 := ⟨by decide +kernel, rfl⟩
theorem d_L_law_751 : decAL cL_law 751 1 752 := Or.inr ⟨1, rfl, by decide +kernel, rfl⟩
theorem d_L_law_752 : decAL cL_law 752 0 753 := Or.inr ⟨0, rfl, by decide +kernel, rfl⟩
theorem d_L_law_753 : decIL cL_law 753 4 755 := Or.inl ⟨by decide +kernel, rfl⟩
theorem d_L_law_755 : dec 1 cL_law 755 (.iconst 1) 756 := ⟨by decide +kernel, rfl⟩
theorem d_L_law_756 : dec 1 cL_law 756 .iadd 757 := ⟨by decide +kernel, rfl⟩
theorem d_L_law_757 : dec 1 cL_law 757 .iaload 758 := ⟨by decide +kernel, rfl⟩
theorem d_L_law_758 : dec 3 cL_law 758 (.invokevirtual 102) 761 := ⟨by decide +kernel, rfl⟩
theorem d_L_law_761 : decAL cL_law 761 2 762 := Or.inr ⟨2, rfl, by decide +kernel, rfl⟩
theorem d_L_law_762 : decAL cL_law 762 0 763 := Or.inr ⟨0, rfl, by decide +kernel, rfl⟩
theorem d_L_law_763 : decIL cL_law 763 4 765 := Or.inl ⟨by decide +kernel, rfl⟩
theorem d_L_law_765 : dec 1 cL_law 765 (.iconst 1) 766 := ⟨by decide +kernel, rfl⟩
theorem d_L_law_766 : dec 1 cL_law 766 .iadd 767 := ⟨by decide +kernel, rfl⟩
theorem d_L_law_767 : dec 1 cL_law 767 .iaload 768 := ⟨by decide +kernel, rfl⟩
theorem d_L_law_768 : dec 3 cL_law 768 (.invokevirtual 105) 771 := ⟨by decide +kernel, rfl⟩
theorem d_L_law_771 : decB cL_law 771 (.if_icmp .eq 283) (283) 774 1054 := ⟨by decide +kernel, rfl, by decide⟩
theorem d_L_law_774 : dec 1 cL_law 774 (.iconst 0) 775 := ⟨by decide +kernel, rfl⟩
theorem d_L_law_775 : dec 1 cL_law 775 .ireturn 776 := ⟨by decide +kernel, rfl⟩
theorem d_L_law_776 : decAL cL_law 776 1 777 := Or.inr ⟨1, rfl, by decide +kernel, rfl⟩
theorem d_L_law_777 : decAL cL_law 777 0 778 := Or.inr ⟨0, rfl, by decide +kernel, rfl⟩
theorem d_L_law_778 : decIL cL_law 778 4 780 := Or.inl ⟨by decide +kernel, rfl⟩
theorem d_L_law_780 : dec 1 cL_law 780 (.iconst 1) 781 := ⟨by decide +kernel, rfl⟩
theorem d_L_law_781 : dec 1 cL_law 781 .iadd 782 := ⟨by decide +kernel, rfl⟩
theorem d_L_law_782 : dec 1 cL_law 782 .iaload 783 := ⟨by decide +kernel, rfl⟩
theorem d_L_law_783 : dec 3 cL_law 783 (.invokevirtual 106) 786 := ⟨by decide +kernel, rfl⟩
theorem d_L_law_786 : decAL cL_law 786 2 787 := Or.inr ⟨2, rfl, by decide +kernel, rfl⟩
theorem d_L_law_787 : decAL cL_law 787 0 788 := Or.inr ⟨0, rfl, by decide +kernel, rfl⟩
theorem d_L_law_788 : decIL cL_law 788 4 790 := Or.inl ⟨by decide +kernel, rfl⟩
theorem d_L_law_790 : dec 1 cL_law 790 (.iconst 1) 791 := ⟨by decide +kernel, rfl⟩
theorem d_L_law_791 : dec 1 cL_law 791 .iadd 792 := ⟨by decide +kernel, rfl⟩
theorem d_L_law_792 : dec 1 cL_law 792 .iaload 793 := ⟨by decide +kernel, rfl⟩
theorem d_L_law_793 : dec 3 cL_law 793 (.invokevirtual 109) 796 := ⟨by decide +kernel, rfl⟩
theorem d_L_law_796 : decB cL_law 796 (.if_icmp .eq 258) (258) 799 1054 := ⟨by decide +kernel, rfl, by decide⟩
theorem d_L_law_799 : dec 1 cL_law 799 (.iconst 0) 800 := ⟨by decide +kernel, rfl⟩
theorem d_L_law_800 : dec 1 cL_law 800 .ireturn 801 := ⟨by decide +kernel, rfl⟩
theorem d_L_law_801 : decAL cL_law 801 1 802 := Or.inr ⟨1, rfl, by decide +kernel, rfl⟩
theorem d_L_law_802 : decAL cL_law 802 0 803 := Or.inr ⟨0, rfl, by decide +kernel, rfl⟩
theorem d_L_law_803 : decIL cL_law 803 4 805 := Or.inl ⟨by decide +kernel, rfl⟩
theorem d_L_law_805 : dec 1 cL_law 805 (.iconst 1) 806 := ⟨by decide +kernel, rfl⟩
theorem d_L_law_806 : dec 1 cL_law 806 .iadd 807 := ⟨by decide +kernel, rfl⟩
theorem d_L_law_807 : dec 1 cL_law 807 .iaload 808 := ⟨by decide +kernel, rfl⟩
theorem d_L_law_808 : decAL cL_law 808 0 809 := Or.inr ⟨0, rfl, by decide +kernel, rfl⟩
theorem d_L_law_809 : decIL cL_law 809 4 811 := Or.inl ⟨by decide +kernel, rfl⟩
theorem d_L_law_811 : dec 1 cL_law 811 (.iconst 2) 812 := ⟨by decide +kernel, rfl⟩
theorem d_L_law_812 : dec 1 cL_law 812 .iadd 813 := ⟨by decide +kernel, rfl⟩
theorem d_L_law_813 : dec 1 cL_law 813 .iaload 814 := ⟨by decide +kernel, rfl⟩
theorem d_L_law_814 : decB cL_law 814 (.ifCond .eq 7) (7) 817 821 := ⟨by decide +kernel, rfl, by decide⟩
theorem d_L_law_817 : dec 1 cL_law 817 (.iconst 1) 818 := ⟨by decide +kernel, rfl⟩
theorem d_L_law_818 : decB cL_law 818 (.goto 4) (4) 821 822 := ⟨by decide +kernel, rfl, by decide⟩
theorem d_L_law_821 : dec 1 cL_law 821 (.iconst 0) 822 := ⟨by decide +kernel, rfl⟩
theorem d_L_law_822 : dec 3 cL_law 822 (.invokevirtual 110) 825 := ⟨by decide +kernel, rfl⟩
theorem d_L_law_825 : decAL cL_law 825 2 826 := Or.inr ⟨2, rfl, by decide +kernel, rfl⟩
theorem d_L_law_826 : decAL cL_law 826 0 827 := Or.inr ⟨0, rfl, by decide +kernel, rfl⟩
theorem d_L_law_827 : decIL cL_law 827 4 829 := Or.inl ⟨by decide +kernel, rfl⟩
theorem d_L_law_829 : dec 1 cL_law 829 (.iconst 1) 830 := ⟨by decide +kernel, rfl⟩
theorem d_L_law_830 : dec 1 cL_law 830 .iadd 831 := ⟨by decide +kernel, rfl⟩
theorem d_L_law_831 : dec 1 cL_law 831 .iaload 832 := ⟨by decide +kernel, rfl⟩
theorem d_L_law_832 : decAL cL_law 832 0 833 := Or.inr ⟨0, rfl, by decide +kernel, rfl⟩
theorem d_L_law_833 : decIL cL_law 833 4 835 := Or.inl ⟨by decide +kernel, rfl⟩
theorem d_L_law_835 : dec 1 cL_law 835 (.iconst 2) 836 := ⟨by decide +kernel, rfl⟩
theorem d_L_law_836 : dec 1 cL_law 836 .iadd 837 := ⟨by decide +kernel, rfl⟩
theorem d_L_law_837 : dec 1 cL_law 837 .iaload 838 := ⟨by decide +kernel, rfl⟩
theorem d_L_law_838 : decB cL_law 838 (.ifCond .eq 7) (7) 841 845 := ⟨by decide +kernel, rfl, by decide⟩
theorem d_L_law_841 : dec 1 cL_law 841 (.iconst 1) 842 := ⟨by decide +kernel, rfl⟩
theorem d_L_law_842 : decB cL_law 842 (.goto 4) (4) 845 846 := ⟨by decide +kernel, rfl, by decide⟩
theorem d_L_law_845 : dec 1 cL_law 845 (.iconst 0) 846 := ⟨by decide +kernel, rfl⟩
theorem d_L_law_846 : dec 3 cL_law 846 (.invokevirtual 113) 849 := ⟨by decide +kernel, rfl⟩
theorem d_L_law_849 : decB cL_law 849 (.if_icmp .eq 205) (205) 852 1054 := ⟨by decide +kernel, rfl, by decide⟩
theorem d_L_law_852 : dec 1 cL_law 852 (.iconst 0) 853 := ⟨by decide +kernel, rfl⟩
theorem d_L_law_853 : dec 1 cL_law 853 .ireturn 854 := ⟨by decide +kernel, rfl⟩
theorem d_L_law_854 : decAL cL_law 854 1 855 := Or.inr ⟨1, rfl, by decide +kernel, rfl⟩
theorem d_L_law_855 : decAL cL_law 855 0 856 := Or.inr ⟨0, rfl, by decide +kernel, rfl⟩
theorem d_L_law_856 : decIL cL_law 856 4 858 := Or.inl ⟨by decide +kernel, rfl⟩
theorem d_L_law_858 : dec 1 cL_law 858 (.iconst 1) 859 := ⟨by decide +kernel, rfl⟩
theorem d_L_law_859 : dec 1 cL_law 859 .iadd 860 := ⟨by decide +kernel, rfl⟩
theorem d_L_law_860 : dec 1 cL_law 860 .iaload 861 := ⟨by decide +kernel, rfl⟩
theorem d_L_law_861 : decAL cL_law 861 0 862 := Or.inr ⟨0, rfl, by decide +kernel, rfl⟩
theorem d_L_law_862 : decIL cL_law 862 4 864 := Or.inl ⟨by decide +kernel, rfl⟩
theorem d_L_law_864 : dec 1 cL_law 864 (.iconst 2) 865 := ⟨by decide +kernel, rfl⟩
theorem d_L_law_865 : dec 1 cL_law 865 .iadd 866 := ⟨by decide +kernel, rfl⟩
theorem d_L_law_866 : dec 1 cL_law 866 .iaload 867 := ⟨by decide +kernel, rfl⟩
theorem d_L_law_867 : dec 3 cL_law 867 (.invokevirtual 114) 870 := ⟨by decide +kernel, rfl⟩
theorem d_L_law_870 : decAL cL_law 870 2 871 := Or.inr ⟨2, rfl, by decide +kernel, rfl⟩
theorem d_L_law_871 : decAL cL_law 871 0 872 := Or.inr ⟨0, rfl, by decide +kernel, rfl⟩
theorem d_L_law_872 : decIL cL_law 872 4 874 := Or.inl ⟨by decide +kernel, rfl⟩
theorem d_L_law_874 : dec 1 cL_law 874 (.iconst 1) 875 := ⟨by decide +kernel, rfl⟩
theorem d_L_law_875 : dec 1 cL_law 875 .iadd 876 := ⟨by decide +kernel, rfl⟩
theorem d_L_law_876 : dec 1 cL_law 876 .iaload 877 := ⟨by decide +kernel, rfl⟩
theorem d_L_law_877 : decAL cL_law 877 0 878 := Or.inr ⟨0, rfl, by decide +kernel, rfl⟩
theorem d_L_law_878 : decIL cL_law 878 4 880 := Or.inl ⟨by decide +kernel, rfl⟩
theorem d_L_law_880 : dec 1 cL_law 880 (.iconst 2) 881 := ⟨by decide +kernel, rfl⟩
theorem d_L_law_881 : dec 1 cL_law 881 .iadd 882 := ⟨by decide +kernel, rfl⟩
theorem d_L_law_882 : dec 1 cL_law 882 .iaload 883 := ⟨by decide +kernel, rfl⟩
theorem d_L_law_883 : dec 3 cL_law 883 (.invokevirtual 117) 886 := ⟨by decide +kernel, rfl⟩
theorem d_L_law_886 : decB cL_law 886 (.if_icmp .eq 168) (168) 889 1054 := ⟨by decide +kernel, rfl, by decide⟩
theorem d_L_law_889 : dec 1 cL_law 889 (.iconst 0) 890 := ⟨by decide +kernel, rfl⟩
theorem d_L_law_890 : dec 1 cL_law 890 .ireturn 891 := ⟨by decide +kernel, rfl⟩
theorem d_L_law_891 : decAL cL_law 891 1 892 := Or.inr ⟨1, rfl, by decide +kernel, rfl⟩
theorem d_L_law_892 : decAL cL_law 892 0 893 := Or.inr ⟨0, rfl, by decide +kernel, rfl⟩
theorem d_L_law_893 : decIL cL_law 893 4 895 := Or.inl ⟨by decide +kernel, rfl⟩
theorem d_L_law_895 : dec 1 cL_law 895 (.iconst 1) 896 := ⟨by decide +kernel, rfl⟩
theorem d_L_law_896 : dec 1 cL_law 896 .iadd 897 := ⟨by decide +kernel, rfl⟩
theorem d_L_law_897 : dec 1 cL_law 897 .iaload 898 := ⟨by decide +kernel, rfl⟩
theorem d_L_law_898 : dec 3 cL_law 898 (.invokevirtual 118) 901 := ⟨by decide +kernel, rfl⟩
theorem d_L_law_901 : decAL cL_law 901 2 902 := Or.inr ⟨2, rfl, by decide +kernel, rfl⟩
theorem d_L_law_902 : decAL cL_law 902 0 903 := Or.inr ⟨0, rfl, by decide +kernel, rfl⟩
theorem d_L_law_903 : decIL cL_law 903 4 905 := Or.inl ⟨by decide +kernel, rfl⟩
theorem d_L_law_905 : dec 1 cL_law 905 (.iconst 1) 906 := ⟨by decide +kernel, rfl⟩
theorem d_L_law_906 : dec 1 cL_law 906 .iadd 907 := ⟨by decide +kernel, rfl⟩
theorem d_L_law_907 : dec 1 cL_law 907 .iaload 908 := ⟨by decide +kernel, rfl⟩
theorem d_L_law_908 : dec 3 cL_law 908 (.invokevirtual 121) 911 := ⟨by decide +kernel, rfl⟩
theorem d_L_law_911 : decB cL_law 911 (.if_icmp .eq 143) (143) 914 1054 := ⟨by decide +kernel, rfl, by decide⟩
theorem d_L_law_914 : dec 1 cL_law 914 (.iconst 0) 915 := ⟨by decide +kernel, rfl⟩
theorem d_L_law_915 : dec 1 cL_law 915 .ireturn 916 := ⟨by decide +kernel, rfl⟩
theorem d_L_law_916 : decAL cL_law 916 1 917 := Or.inr ⟨1, rfl, by decide +kernel, rfl⟩
theorem d_L_law_917 : dec 3 cL_law 917 (.invokevirtual 122) 920 := ⟨by decide +kernel, rfl⟩
theorem d_L_law_920 : decAL cL_law 920 2 921 := Or.inr ⟨2, rfl, by decide +kernel, rfl⟩
theorem d_L_law_921 : dec 3 cL_law 921 (.invokevirtual 125) 924 := ⟨by decide +kernel, rfl⟩
theorem d_L_law_924 : decB cL_law 924 (.if_icmp .eq 130) (130) 927 1054 := ⟨by decide +kernel, rfl, by decide⟩
theorem d_L_law_927 : dec 1 cL_law 927 (.iconst 0) 928 := ⟨by decide +kernel, rfl⟩
theorem d_L_law_928 : dec 1 cL_law 928 .ireturn 929 := ⟨by decide +kernel, rfl⟩
theorem d_L_law_929 : decAL cL_law 929 1 930 := Or.inr ⟨1, rfl, by decide +kernel, rfl⟩
theorem d_L_law_930 : decAL cL_law 930 0 931 := Or.inr ⟨0, rfl, by decide +kernel, rfl⟩
theorem d_L_law_931 : decIL cL_law 931 4 933 := Or.inl ⟨by decide +kernel, rfl⟩
theorem d_L_law_933 : dec 1 cL_law 933 (.iconst 1) 934 := ⟨by decide +kernel, rfl⟩
theorem d_L_law_934 : dec 1 cL_law 934 .iadd 935 := ⟨by decide +kernel, rfl⟩
theorem d_L_law_935 : dec 1 cL_law 935 .iaload 936 := ⟨by decide +kernel, rfl⟩
theorem d_L_law_936 : dec 3 cL_law 936 (.invokevirtual 126) 939 := ⟨by decide +kernel, rfl⟩
theorem d_L_law_939 : decAL cL_law 939 2 940 := Or.inr ⟨2, rfl, by decide +kernel, rfl⟩
theorem d_L_law_940 : decAL cL_law 940 0 941 := Or.inr ⟨0, rfl, by decide +kernel, rfl⟩
theorem d_L_law_941 : decIL cL_law 941 4 943 := Or.inl ⟨by decide +kernel, rfl⟩
theorem d_L_law_943 : dec 1 cL_law 943 (.iconst 1) 944 := ⟨by decide +kernel, rfl⟩
theorem d_L_law_944 : dec 1 cL_law 944 .iadd 945 := ⟨by decide +kernel, rfl⟩
theorem d_L_law_945 : dec 1 cL_law 945 .iaload 946 := ⟨by decide +kernel, rfl⟩
theorem d_L_law_946 : dec 3 cL_law 946 (.invokevirtual 129) 949 := ⟨by decide +kernel, rfl⟩
theorem d_L_law_949 : decB cL_law 949 (.if_icmp .eq 105) (105) 952 1054 := ⟨by decide +kernel, rfl, by decide⟩
theorem d_L_law_952 : dec 1 cL_law 952 (.iconst 0) 953 := ⟨by decide +kernel, rfl⟩
theorem d_L_law_953 : dec 1 cL_law 953 .ireturn 954 := ⟨by decide +kernel, rfl⟩
theorem d_L_law_954 : decAL cL_law 954 1 955 := Or.inr ⟨1, rfl, by decide +kernel, rfl⟩
theorem d_L_law_955 : decAL cL_law 955 0 956 := Or.inr ⟨0, rfl, by decide +kernel, rfl⟩
theorem d_L_law_956 : decIL cL_law 956 4 958 := Or.inl ⟨by decide +kernel, rfl⟩
theorem d_L_law_958 : dec 1 cL_law 958 (.iconst 1) 959 := ⟨by decide +kernel, rfl⟩
theorem d_L_law_959 : dec 1 cL_law 959 .iadd 960 := ⟨by decide +kernel, rfl⟩
theorem d_L_law_960 : dec 1 cL_law 960 .iaload 961 := ⟨by decide +kernel, rfl⟩
theorem d_L_law_961 : dec 3 cL_law 961 (.invokevirtual 130) 964 := ⟨by decide +kernel, rfl⟩
theorem d_L_law_964 : decAL cL_law 964 2 965 := Or.inr ⟨2, rfl, by decide +kernel, rfl⟩
theorem d_L_law_965 : decAL cL_law 965 0 966 := Or.inr ⟨0, rfl, by decide +kernel, rfl⟩
theorem d_L_law_966 : decIL cL_law 966 4 968 := Or.inl ⟨by decide +kernel, rfl⟩
theorem d_L_law_968 : dec 1 cL_law 968 (.iconst 1) 969 := ⟨by decide +kernel, rfl⟩
theorem d_L_law_969 : dec 1 cL_law 969 .iadd 970 := ⟨by decide +kernel, rfl⟩
theorem d_L_law_970 : dec 1 cL_law 970 .iaload 971 := ⟨by decide +kernel, rfl⟩
theorem d_L_law_971 : dec 3 cL_law 971 (.invokevirtual 133) 974 := ⟨by decide +kernel, rfl⟩
theorem d_L_law_974 : decB cL_law 974 (.if_icmp .eq 80) (80) 977 1054 := ⟨by decide +kernel, rfl, by decide⟩
theorem d_L_law_977 : dec 1 cL_law 977 (.iconst 0) 978 := ⟨by decide +kernel, rfl⟩
theorem d_L_law_978 : dec 1 cL_law 978 .ireturn 979 := ⟨by decide +kernel, rfl⟩
theorem d_L_law_979 : decAL cL_law 979 1 980 := Or.inr ⟨1, rfl, by decide +kernel, rfl⟩
theorem d_L_law_980 : decAL cL_law 980 0 981 := Or.inr ⟨0, rfl, by decide +kernel, rfl⟩
theorem d_L_law_981 : decIL cL_law 981 4 983 := Or.inl ⟨by decide +kernel, rfl⟩
theorem d_L_law_983 : dec 1 cL_law 983 (.iconst 1) 984 := ⟨by decide +kernel, rfl⟩
theorem d_L_law_984 : dec 1 cL_law 984 .iadd 985 := ⟨by decide +kernel, rfl⟩
theorem d_L_law_985 : dec 1 cL_law 985 .iaload 986 := ⟨by decide +kernel, rfl⟩
theorem d_L_law_986 : dec 3 cL_law 986 (.invokevirtual 134) 989 := ⟨by decide +kernel, rfl⟩
theorem d_L_law_989 : decAL cL_law 989 2 990 := Or.inr ⟨2, rfl, by decide +kernel, rfl⟩
theorem d_L_law_990 : decAL cL_law 990 0 991 := Or.inr ⟨0, rfl, by decide +kernel, rfl⟩
theorem d_L_law_991 : decIL cL_law 991 4 993 := Or.inl ⟨by decide +kernel, rfl⟩
theorem d_L_law_993 : dec 1 cL_law 993 (.iconst 1) 994 := ⟨by decide +kernel, rfl⟩
theorem d_L_law_994 : dec 1 cL_law 994 .iadd 995 := ⟨by decide +kernel, rfl⟩
theorem d_L_law_995 : dec 1 cL_law 995 .iaload 996 := ⟨by decide +kernel, rfl⟩
theorem d_L_law_996 : dec 3 cL_law 996 (.invokevirtual 137) 999 := ⟨by decide +kernel, rfl⟩
theorem d_L_law_999 : decB cL_law 999 (.if_icmp .eq 55) (55) 1002 1054 := ⟨by decide +kernel, rfl, by decide⟩
theorem d_L_law_1002 : dec 1 cL_law 1002 (.iconst 0) 1003 := ⟨by decide +kernel, rfl⟩
theorem d_L_law_1003 : dec 1 cL_law 1003 .ireturn 1004 := ⟨by decide +kernel, rfl⟩
theorem d_L_law_1004 : decAL cL_law 1004 1 1005 := Or.inr ⟨1, rfl, by decide +kernel, rfl⟩
theorem d_L_law_1005 : decAL cL_law 1005 0 1006 := Or.inr ⟨0, rfl, by decide +kernel, rfl⟩
theorem d_L_law_1006 : decIL cL_law 1006 4 1008 := Or.inl ⟨by decide +kernel, rfl⟩
theorem d_L_law_1008 : dec 1 cL_law 1008 (.iconst 1) 1009 := ⟨by decide +kernel, rfl⟩
theorem d_L_law_1009 : dec 1 cL_law 1009 .iadd 1010 := ⟨by decide +kernel, rfl⟩
theorem d_L_law_1010 : dec 1 cL_law 1010 .iaload 1011 := ⟨by decide +kernel, rfl⟩
theorem d_L_law_1011 : dec 3 cL_law 1011 (.invokevirtual 138) 1014 := ⟨by decide +kernel, rfl⟩
theorem d_L_law_1014 : decAL cL_law 1014 2 1015 := Or.inr ⟨2, rfl, by decide +kernel, rfl⟩
theorem d_L_law_1015 : decAL cL_law 1015 0 1016 := Or.inr ⟨0, rfl, by decide +kernel, rfl⟩
theorem d_L_law_1016 : decIL cL_law 1016 4 1018 := Or.inl ⟨by decide +kernel, rfl⟩
theorem d_L_law_1018 : dec 1 cL_law 1018 (.iconst 1) 1019 := ⟨by decide +kernel, rfl⟩
theorem d_L_law_1019 : dec 1 cL_law 1019 .iadd 1020 := ⟨by decide +kernel, rfl⟩
theorem d_L_law_1020 : dec 1 cL_law 1020 .iaload 1021 := ⟨by decide +kernel, rfl⟩
theorem d_L_law_1021 : dec 3 cL_law 1021 (.invokevirtual 142) 1024 := ⟨by decide +kernel, rfl⟩
theorem d_L_law_1024 : decB cL_law 1024 (.if_icmp .eq 30) (30) 1027 1054 := ⟨by decide +kernel, rfl, by decide⟩
theorem d_L_law_1027 : dec 1 cL_law 1027 (.iconst 0) 1028 := ⟨by decide +kernel, rfl⟩
theorem d_L_law_1028 : dec 1 cL_law 1028 .ireturn 1029 := ⟨by decide +kernel, rfl⟩
theorem d_L_law_1029 : decAL cL_law 1029 1 1030 := Or.inr ⟨1, rfl, by decide +kernel, rfl⟩
theorem d_L_law_1030 : decAL cL_law 1030 0 1031 := Or.inr ⟨0, rfl, by decide +kernel, rfl⟩
theorem d_L_law_1031 : decIL cL_law 1031 4 1033 := Or.inl ⟨by decide +kernel, rfl⟩
theorem d_L_law_1033 : dec 1 cL_law 1033 (.iconst 1) 1034 := ⟨by decide +kernel, rfl⟩
theorem d_L_law_1034 : dec 1 cL_law 1034 .iadd 1035 := ⟨by decide +kernel, rfl⟩
theorem d_L_law_1035 : dec 1 cL_law 1035 .iaload 1036 := ⟨by decide +kernel, rfl⟩
theorem d_L_law_1036 : dec 3 cL_law 1036 (.invokevirtual 143) 1039 := ⟨by decide +kernel, rfl⟩
theorem d_L_law_1039 : decAL cL_law 1039 2 1040 := Or.inr ⟨2, rfl, by decide +kernel, rfl⟩
theorem d_L_law_1040 : decAL cL_law 1040 0 1041 := Or.inr ⟨0, rfl, by decide +kernel, rfl⟩
theorem d_L_law_1041 : decIL cL_law 1041 4 1043 := Or.inl ⟨by decide +kernel, rfl⟩
theorem d_L_law_1043 : dec 1 cL_law 1043 (.iconst 1) 1044 := ⟨by decide +kernel, rfl⟩
theorem d_L_law_1044 : dec 1 cL_law 1044 .iadd 1045 := ⟨by decide +kernel, rfl⟩
theorem d_L_law_1045 : dec 1 cL_law 1045 .iaload 1046 := ⟨by decide +kernel, rfl⟩
theorem d_L_law_1046 : dec 3 cL_law 1046 (.invokevirtual 146) 1049 := ⟨by decide +kernel, rfl⟩
theorem d_L_law_1049 : decB cL_law 1049 (.if_icmp .eq 5) (5) 1052 1054 := ⟨by decide +kernel, rfl, by decide⟩
theorem d_L_law_1052 : dec 1 cL_law 1052 (.iconst 0) 1053 := ⟨by decide +kernel, rfl⟩
theorem d_L_law_1053 : dec 1 cL_law 1053 .ireturn 1054 := ⟨by decide +kernel, rfl⟩
theorem d_L_law_1054 : dec 3 cL_law 1054 (.iinc 4 3) 1057 := ⟨by decide +kernel, rfl⟩
theorem d_L_law_1057 : decB cL_law 1057 (.goto (-1034)) (-1034) 1060 23 := ⟨by decide +kernel, rfl, by decide⟩
theorem d_L_law_1060 : dec 1 cL_law 1060 (.iconst 1) 1061 := ⟨by decide +kernel, rfl⟩
theorem d_L_law_1061 : dec 1 cL_law 1061 .ireturn 1062 := ⟨by decide +kernel, rfl⟩
def k_L_law_164 (F L : Nat) (xs : Nat → Int32) (rec23 : Int32 → Nat → GH → Option (Int32 × Nat × GH)) (v1 : Nat) (v2 : Nat) (v3 : Nat) (v4 : Int32) (n : Nat) (G : GH) : Option (Int32 × Nat × GH) :=
  Option.bind (scI L xs (v4 + (1 : Int32))) (fun (x6 : Int32) =>
  Option.bind (scI L xs (v4 + (2 : Int32))) (fun (x7 : Int32) =>
  cvI G v1 10 (f_X10_type F v1 (((Int32.toInt64 x6) <<< ((Int32.toInt64 (32 : Int32)) &&& 63)) ||| ((Int32.toInt64 x7) &&& (4294967295 : Int64))) n G) (fun (x10 : Int32) (n8 : Nat) (G9 : GH) =>
  Option.bind (scI L xs (v4 + (1 : Int32))) (fun (x11 : Int32) =>
  Option.bind (scI L xs (v4 + (2 : Int32))) (fun (x12 : Int32) =>
  cvI G9 v2 11 (f_X11_type F v2 (((Int32.toInt64 x11) <<< ((Int32.toInt64 (32 : Int32)) &&& 63)) ||| ((Int32.toInt64 x12) &&& (4294967295 : Int64))) n8 G9) (fun (x15 : Int32) (n13 : Nat) (G14 : GH) =>
  if x10 = x15 then
  (rec23 (v4 + 3) n13 G14)
  else (rN .boolean (0 : Int32) n13 G14)))))))
def k_L_law_221 (F L : Nat) (xs : Nat → Int32) (rec23 : Int32 → Nat → GH → Option (Int32 × Nat × GH)) (v1 : Nat) (v2 : Nat) (v3 : Nat) (v4 : Int32) (n : Nat) (G : GH) : Option (Int32 × Nat × GH) :=
  cvI G v1 10 (f_X10_read F v1 n G) (fun (x18 : Int32) (n16 : Nat) (G17 : GH) =>
  cvI G17 v2 11 (f_X11_read F v2 n16 G17) (fun (x21 : Int32) (n19 : Nat) (G20 : GH) =>
  if x18 = x21 then
  (rec23 (v4 + 3) n19 G20)
  else (rN .boolean (0 : Int32) n19 G20)))
def k_L_law_234 (F L : Nat) (xs : Nat → Int32) (rec23 : Int32 → Nat → GH → Option (Int32 × Nat × GH)) (v1 : Nat) (v2 : Nat) (v3 : Nat) (v4 : Int32) (n : Nat) (G : GH) : Option (Int32 × Nat × GH) :=
  Option.bind (scI L xs (v4 + (1 : Int32))) (fun (x22 : Int32) =>
  if x22 = 0 then
  (cvP G v1 10 (f_X10_fault F v1 (0 : Int32) G) (fun (x23 : Int32) =>
  Option.bind (scI L xs (v4 + (1 : Int32))) (fun (x24 : Int32) =>
  if x24 = 0 then
  (cvI G v2 11 (f_X11_fault F v2 (0 : Int32) n G) (fun (x27 : Int32) (n25 : Nat) (G26 : GH) =>
  if x23 = x27 then
  (rec23 (v4 + 3) n25 G26)
  else (rN .boolean (0 : Int32) n25 G26)))
  else (cvI G v2 11 (f_X11_fault F v2 (1 : Int32) n G) (fun (x30 : Int32) (n28 : Nat) (G29 : GH) =>
  if x23 = x30 then
  (rec23 (v4 + 3) n28 G29)
  else (rN .boolean (0 : Int32) n28 G29))))))
  else (cvP G v1 10 (f_X10_fault F v1 (1 : Int32) G) (fun (x31 : Int32) =>
  Option.bind (scI L xs (v4 + (1 : Int32))) (fun (x32 : Int32) =>
  if x32 = 0 then
  (cvI G v2 11 (f_X11_fault F v2 (0 : Int32) n G) (fun (x35 : Int32) (n33 : Nat) (G34 : GH) =>
  if x31 = x35 then
  (rec23 (v4 + 3) n33 G34)
  else (rN .boolean (0 : Int32) n33 G34)))
  else (cvI G v2 11 (f_X11_fault F v2 (1 : Int32) n G) (fun (x38 : Int32) (n36 : Nat) (G37 : GH) =>
  if x31 = x38 then
  (rec23 (v4 + 3) n36 G37)
  else (rN .boolean (0 : Int32) n36 G37)))))))
def k_L_law_275 (F L : Nat) (xs : Nat → Int32) (rec23 : Int32 → Nat → GH → Option (Int32 × Nat × GH)) (v1 : Nat) (v2 : Nat) (v3 : Nat) (v4 : Int32) (n : Nat) (G : GH) : Option (Int32 × Nat × GH) :=
  cvI G v1 10 (f_X10_enter F v1 n G) (fun (x41 : Int32) (n39 : Nat) (G40 : GH) =>
  cvI G40 v2 11 (f_X11_enter F v2 n39 G40) (fun (x44 : Int32) (n42 : Nat) (G43 : GH) =>
  if x41 = x44 then
  (rec23 (v4 + 3) n42 G43)
  else (rN .boolean (0 : Int32) n42 G43)))
def k_L_law_288 (F L : Nat) (xs : Nat → Int32) (rec23 : Int32 → Nat → GH → Option (Int32 × Nat × GH)) (v1 : Nat) (v2 : Nat) (v3 : Nat) (v4 : Int32) (n : Nat) (G : GH) : Option (Int32 × Nat × GH) :=
  cvI G v1 10 (f_X10_leave F v1 n G) (fun (x47 : Int32) (n45 : Nat) (G46 : GH) =>
  cvI G46 v2 11 (f_X11_leave F v2 n45 G46) (fun (x50 : Int32) (n48 : Nat) (G49 : GH) =>
  if x47 = x50 then
  (rec23 (v4 + 3) n48 G49)
  else (rN .boolean (0 : Int32) n48 G49)))
def k_L_law_301 (F L : Nat) (xs : Nat → Int32) (rec23 : Int32 → Nat → GH → Option (Int32 × Nat × GH)) (v1 : Nat) (v2 : Nat) (v3 : Nat) (v4 : Int32) (n : Nat) (G : GH) : Option (Int32 × Nat × GH) :=
  Option.bind (scI L xs (v4 + (1 : Int32))) (fun (x51 : Int32) =>
  Option.bind (scI L xs (v4 + (2 : Int32))) (fun (x52 : Int32) =>
  cvI G v1 10 (f_X10_stand F v1 x51 x52 n G) (fun (x55 : Int32) (n53 : Nat) (G54 : GH) =>
  Option.bind (scI L xs (v4 + (1 : Int32))) (fun (x56 : Int32) =>
  Option.bind (scI L xs (v4 + (2 : Int32))) (fun (x57 : Int32) =>
  cvI G54 v2 11 (f_X11_stand F v2 x56 x57 n53 G54) (fun (x60 : Int32) (n58 : Nat) (G59 : GH) =>
  if x55 = x60 then
  (rec23 (v4 + 3) n58 G59)
  else (rN .boolean (0 : Int32) n58 G59)))))))
def k_L_law_338 (F L : Nat) (xs : Nat → Int32) (rec23 : Int32 → Nat → GH → Option (Int32 × Nat × GH)) (v1 : Nat) (v2 : Nat) (v3 : Nat) (v4 : Int32) (n : Nat) (G : GH) : Option (Int32 × Nat × GH) :=
  Option.bind (scI L xs (v4 + (1 : Int32))) (fun (x61 : Int32) =>
  cvI G v1 10 (f_X10_ask F v1 x61 n G) (fun (x64 : Int32) (n62 : Nat) (G63 : GH) =>
  Option.bind (scI L xs (v4 + (1 : Int32))) (fun (x65 : Int32) =>
  cvI G63 v2 11 (f_X11_ask F v2 x65 n62 G63) (fun (x68 : Int32) (n66 : Nat) (G67 : GH) =>
  if x64 = x68 then
  (rec23 (v4 + 3) n66 G67)
  else (rN .boolean (0 : Int32) n66 G67)))))
def k_L_law_363 (F L : Nat) (xs : Nat → Int32) (rec23 : Int32 → Nat → GH → Option (Int32 × Nat × GH)) (v1 : Nat) (v2 : Nat) (v3 : Nat) (v4 : Int32) (n : Nat) (G : GH) : Option (Int32 × Nat × GH) :=
  Option.bind (scI L xs (v4 + (1 : Int32))) (fun (x69 : Int32) =>
  cvI G v1 10 (f_X10_value F v1 x69 n G) (fun (x72 : Int32) (n70 : Nat) (G71 : GH) =>
  Option.bind (scI L xs (v4 + (1 : Int32))) (fun (x73 : Int32) =>
  cvI G71 v2 11 (f_X11_value F v2 x73 n70 G71) (fun (x76 : Int32) (n74 : Nat) (G75 : GH) =>
  if x72 = x76 then
  (rec23 (v4 + 3) n74 G75)
  else (rN .boolean (0 : Int32) n74 G75)))))
def k_L_law_388 (F L : Nat) (xs : Nat → Int32) (rec23 : Int32 → Nat → GH → Option (Int32 × Nat × GH)) (v1 : Nat) (v2 : Nat) (v3 : Nat) (v4 : Int32) (n : Nat) (G : GH) : Option (Int32 × Nat × GH) :=
  cvI G v1 10 (f_X10_undo F v1 n G) (fun (x79 : Int32) (n77 : Nat) (G78 : GH) =>
  cvI G78 v2 11 (f_X11_undo F v2 n77 G78) (fun (x82 : Int32) (n80 : Nat) (G81 : GH) =>
  if x79 = x82 then
  (rec23 (v4 + 3) n80 G81)
  else (rN .boolean (0 : Int32) n80 G81)))
def k_L_law_401 (F L : Nat) (xs : Nat → Int32) (rec23 : Int32 → Nat → GH → Option (Int32 × Nat × GH)) (v1 : Nat) (v2 : Nat) (v3 : Nat) (v4 : Int32) (n : Nat) (G : GH) : Option (Int32 × Nat × GH) :=
  Option.bind (scI L xs (v4 + (1 : Int32))) (fun (x83 : Int32) =>
  cvP G v1 10 (f_X10_count F v1 x83 G) (fun (x84 : Int32) =>
  Option.bind (scI L xs (v4 + (1 : Int32))) (fun (x85 : Int32) =>
  cvI G v2 11 (f_X11_count F v2 x85 n G) (fun (x88 : Int32) (n86 : Nat) (G87 : GH) =>
  if x84 = x88 then
  (rec23 (v4 + 3) n86 G87)
  else (rN .boolean (0 : Int32) n86 G87)))))
def k_L_law_426 (F L : Nat) (xs : Nat → Int32) (rec23 : Int32 → Nat → GH → Option (Int32 × Nat × GH)) (v1 : Nat) (v2 : Nat) (v3 : Nat) (v4 : Int32) (n : Nat) (G : GH) : Option (Int32 × Nat × GH) :=
  Option.bind (scI L xs (v4 + (1 : Int32))) (fun (x89 : Int32) =>
  Option.bind (scI L xs (v4 + (2 : Int32))) (fun (x90 : Int32) =>
  csI (f_L_part F v1 x89 x90 v3 n G) (fun (x93 : Int32) (n91 : Nat) (G92 : GH) =>
  Option.bind (scI L xs (v4 + (1 : Int32))) (fun (x94 : Int32) =>
  Option.bind (scI L xs (v4 + (2 : Int32))) (fun (x95 : Int32) =>
  cvI G92 v2 11 (f_X11_part F v2 x94 x95 n91 G92) (fun (x98 : Int32) (n96 : Nat) (G97 : GH) =>
  cvP G97 v2 11 (f_X11_thrown F v2 G97) (fun (x99 : Int32) =>
  if x99 = x93 then
  (if x93 = 0 then
  (Option.bind (aJ G97 v3 (0 : Int32)) (fun (x100 : Int64) =>
  if (lg_cmp x100 (Int32.toInt64 x98)) = 0 then
  (rec23 (v4 + 3) n96 G97)
  else (rN .boolean (0 : Int32) n96 G97)))
  else (rec23 (v4 + 3) n96 G97))
  else (rN .boolean (0 : Int32) n96 G97))))))))
def k_L_law_494 (F L : Nat) (xs : Nat → Int32) (rec23 : Int32 → Nat → GH → Option (Int32 × Nat × GH)) (v1 : Nat) (v2 : Nat) (v3 : Nat) (v4 : Int32) (n : Nat) (G : GH) : Option (Int32 × Nat × GH) :=
  Option.bind (scI L xs (v4 + (1 : Int32))) (fun (x101 : Int32) =>
  Option.bind (scI L xs (v4 + (2 : Int32))) (fun (x102 : Int32) =>
  cvP G v1 10 (f_X10_need F v1 x101 x102 G) (fun (x103 : Int32) =>
  Option.bind (scI L xs (v4 + (1 : Int32))) (fun (x104 : Int32) =>
  Option.bind (scI L xs (v4 + (2 : Int32))) (fun (x105 : Int32) =>
  cvI G v2 11 (f_X11_need F v2 x104 x105 n G) (fun (x108 : Int32) (n106 : Nat) (G107 : GH) =>
  if x103 = x108 then
  (rec23 (v4 + 3) n106 G107)
  else (rN .boolean (0 : Int32) n106 G107)))))))
def k_L_law_531 (F L : Nat) (xs : Nat → Int32) (rec23 : Int32 → Nat → GH → Option (Int32 × Nat × GH)) (v1 : Nat) (v2 : Nat) (v3 : Nat) (v4 : Int32) (n : Nat) (G : GH) : Option (Int32 × Nat × GH) :=
  Option.bind (scI L xs (v4 + (1 : Int32))) (fun (x109 : Int32) =>
  Option.bind (scI L xs (v4 + (2 : Int32))) (fun (x110 : Int32) =>
  csI (f_L_thing F v1 x109 x110 v3 n G) (fun (x113 : Int32) (n111 : Nat) (G112 : GH) =>
  Option.bind (scI L xs (v4 + (1 : Int32))) (fun (x114 : Int32) =>
  Option.bind (scI L xs (v4 + (2 : Int32))) (fun (x115 : Int32) =>
  cvI G112 v2 11 (f_X11_thing F v2 x114 x115 n111 G112) (fun (x118 : Int32) (n116 : Nat) (G117 : GH) =>
  cvP G117 v2 11 (f_X11_thrown F v2 G117) (fun (x119 : Int32) =>
  if x119 = x113 then
  (if x113 = 0 then
  (Option.bind (aJ G117 v3 (0 : Int32)) (fun (x120 : Int64) =>
  if (lg_cmp x120 (Int32.toInt64 x118)) = 0 then
  (rec23 (v4 + 3) n116 G117)
  else (rN .boolean (0 : Int32) n116 G117)))
  else (rec23 (v4 + 3) n116 G117))
  else (rN .boolean (0 : Int32) n116 G117))))))))
def k_L_law_599 (F L : Nat) (xs : Nat → Int32) (rec23 : Int32 → Nat → GH → Option (Int32 × Nat × GH)) (v1 : Nat) (v2 : Nat) (v3 : Nat) (v4 : Int32) (n : Nat) (G : GH) : Option (Int32 × Nat × GH) :=
  Option.bind (scI L xs (v4 + (1 : Int32))) (fun (x121 : Int32) =>
  Option.bind (scI L xs (v4 + (2 : Int32))) (fun (x122 : Int32) =>
  cvP G v1 10 (f_X10_has F v1 x121 x122 G) (fun (x123 : Int32) =>
  Option.bind (scI L xs (v4 + (1 : Int32))) (fun (x124 : Int32) =>
  Option.bind (scI L xs (v4 + (2 : Int32))) (fun (x125 : Int32) =>
  cvI G v2 11 (f_X11_has F v2 x124 x125 n G) (fun (x128 : Int32) (n126 : Nat) (G127 : GH) =>
  if x123 = x128 then
  (rec23 (v4 + 3) n126 G127)
  else (rN .boolean (0 : Int32) n126 G127)))))))
def k_L_law_636 (F L : Nat) (xs : Nat → Int32) (rec23 : Int32 → Nat → GH → Option (Int32 × Nat × GH)) (v1 : Nat) (v2 : Nat) (v3 : Nat) (v4 : Int32) (n : Nat) (G : GH) : Option (Int32 × Nat × GH) :=
  Option.bind (scI L xs (v4 + (1 : Int32))) (fun (x129 : Int32) =>
  Option.bind (scI L xs (v4 + (2 : Int32))) (fun (x130 : Int32) =>
  cvP G v1 10 (f_X10_stands F v1 x129 x130 G) (fun (x131 : Int32) =>
  Option.bind (scI L xs (v4 + (1 : Int32))) (fun (x132 : Int32) =>
  Option.bind (scI L xs (v4 + (2 : Int32))) (fun (x133 : Int32) =>
  cvI G v2 11 (f_X11_stands F v2 x132 x133 n G) (fun (x136 : Int32) (n134 : Nat) (G135 : GH) =>
  if x131 = x136 then
  (rec23 (v4 + 3) n134 G135)
  else (rN .boolean (0 : Int32) n134 G135)))))))
def k_L_law_673 (F L : Nat) (xs : Nat → Int32) (rec23 : Int32 → Nat → GH → Option (Int32 × Nat × GH)) (v1 : Nat) (v2 : Nat) (v3 : Nat) (v4 : Int32) (n : Nat) (G : GH) : Option (Int32 × Nat × GH) :=
  Option.bind (scI L xs (v4 + (1 : Int32))) (fun (x137 : Int32) =>
  cvP G v1 10 (f_X10_why F v1 x137 G) (fun (x138 : Int32) =>
  Option.bind (scI L xs (v4 + (1 : Int32))) (fun (x139 : Int32) =>
  cvI G v2 11 (f_X11_why F v2 x139 n G) (fun (x142 : Int32) (n140 : Nat) (G141 : GH) =>
  if x138 = x142 then
  (rec23 (v4 + 3) n140 G141)
  else (rN .boolean (0 : Int32) n140 G141)))))
def k_L_law_698 (F L : Nat) (xs : Nat → Int32) (rec23 : Int32 → Nat → GH → Option (Int32 × Nat × GH)) (v1 : Nat) (v2 : Nat) (v3 : Nat) (v4 : Int32) (n : Nat) (G : GH) : Option (Int32 × Nat × GH) :=
  Option.bind (scI L xs (v4 + (1 : Int32))) (fun (x143 : Int32) =>
  Option.bind (scI L xs (v4 + (2 : Int32))) (fun (x144 : Int32) =>
  if x144 = 0 then
  (cvP G v1 10 (f_X10_ended F v1 x143 (0 : Int32) G) (fun (x145 : Int32) =>
  Option.bind (scI L xs (v4 + (1 : Int32))) (fun (x146 : Int32) =>
  Option.bind (scI L xs (v4 + (2 : Int32))) (fun (x147 : Int32) =>
  if x147 = 0 then
  (cvI G v2 11 (f_X11_ended F v2 x146 (0 : Int32) n G) (fun (x150 : Int32) (n148 : Nat) (G149 : GH) =>
  if x145 = x150 then
  (rec23 (v4 + 3) n148 G149)
  else (rN .boolean (0 : Int32) n148 G149)))
  else (cvI G v2 11 (f_X11_ended F v2 x146 (1 : Int32) n G) (fun (x153 : Int32) (n151 : Nat) (G152 : GH) =>
  if x145 = x153 then
  (rec23 (v4 + 3) n151 G152)
  else (rN .boolean (0 : Int32) n151 G152)))))))
  else (cvP G v1 10 (f_X10_ended F v1 x143 (1 : Int32) G) (fun (x154 : Int32) =>
  Option.bind (scI L xs (v4 + (1 : Int32))) (fun (x155 : Int32) =>
  Option.bind (scI L xs (v4 + (2 : Int32))) (fun (x156 : Int32) =>
  if x156 = 0 then
  (cvI G v2 11 (f_X11_ended F v2 x155 (0 : Int32) n G) (fun (x159 : Int32) (n157 : Nat) (G158 : GH) =>
  if x154 = x159 then
  (rec23 (v4 + 3) n157 G158)
  else (rN .boolean (0 : Int32) n157 G158)))
  else (cvI G v2 11 (f_X11_ended F v2 x155 (1 : Int32) n G) (fun (x162 : Int32) (n160 : Nat) (G161 : GH) =>
  if x154 = x162 then
  (rec23 (v4 + 3) n160 G161)
  else (rN .boolean (0 : Int32) n160 G161)))))))))
def k_L_law_751 (F L : Nat) (xs : Nat → Int32) (rec23 : Int32 → Nat → GH → Option (Int32 × Nat × GH)) (v1 : Nat) (v2 : Nat) (v3 : Nat) (v4 : Int32) (n : Nat) (G : GH) : Option (Int32 × Nat × GH) :=
  Option.bind (scI L xs (v4 + (1 : Int32))) (fun (x163 : Int32) =>
  cvI G v1 10 (f_X10_start F v1 x163 n G) (fun (x166 : Int32) (n164 : Nat) (G165 : GH) =>
  Option.bind (scI L xs (v4 + (1 : Int32))) (fun (x167 : Int32) =>
  cvI G165 v2 11 (f_X11_start F v2 x167 n164 G165) (fun (x170 : Int32) (n168 : Nat) (G169 : GH) =>
  if x166 = x170 then
  (rec23 (v4 + 3) n168 G169)
  else (rN .boolean (0 : Int32) n168 G169)))))
def k_L_law_776 (F L : Nat) (xs : Nat → Int32) (rec23 : Int32 → Nat → GH → Option (Int32 × Nat × GH)) (v1 : Nat) (v2 : Nat) (v3 : Nat) (v4 : Int32) (n : Nat) (G : GH) : Option (Int32 × Nat × GH) :=
  Option.bind (scI L xs (v4 + (1 : Int32))) (fun (x171 : Int32) =>
  cvI G v1 10 (f_X10_loop F v1 x171 n G) (fun (x174 : Int32) (n172 : Nat) (G173 : GH) =>
  Option.bind (scI L xs (v4 + (1 : Int32))) (fun (x175 : Int32) =>
  cvI G173 v2 11 (f_X11_loop F v2 x175 n172 G173) (fun (x178 : Int32) (n176 : Nat) (G177 : GH) =>
  if x174 = x178 then
  (rec23 (v4 + 3) n176 G177)
  else (rN .boolean (0 : Int32) n176 G177)))))
def k_L_law_801 (F L : Nat) (xs : Nat → Int32) (rec23 : Int32 → Nat → GH → Option (Int32 × Nat × GH)) (v1 : Nat) (v2 : Nat) (v3 : Nat) (v4 : Int32) (n : Nat) (G : GH) : Option (Int32 × Nat × GH) :=
  Option.bind (scI L xs (v4 + (1 : Int32))) (fun (x179 : Int32) =>
  Option.bind (scI L xs (v4 + (2 : Int32))) (fun (x180 : Int32) =>
  if x180 = 0 then
  (cvI G v1 10 (f_X10_needs F v1 x179 (0 : Int32) n G) (fun (x183 : Int32) (n181 : Nat) (G182 : GH) =>
  Option.bind (scI L xs (v4 + (1 : Int32))) (fun (x184 : Int32) =>
  Option.bind (scI L xs (v4 + (2 : Int32))) (fun (x185 : Int32) =>
  if x185 = 0 then
  (cvI G182 v2 11 (f_X11_needs F v2 x184 (0 : Int32) n181 G182) (fun (x188 : Int32) (n186 : Nat) (G187 : GH) =>
  if x183 = x188 then
  (rec23 (v4 + 3) n186 G187)
  else (rN .boolean (0 : Int32) n186 G187)))
  else (cvI G182 v2 11 (f_X11_needs F v2 x184 (1 : Int32) n181 G182) (fun (x191 : Int32) (n189 : Nat) (G190 : GH) =>
  if x183 = x191 then
  (rec23 (v4 + 3) n189 G190)
  else (rN .boolean (0 : Int32) n189 G190)))))))
  else (cvI G v1 10 (f_X10_needs F v1 x179 (1 : Int32) n G) (fun (x194 : Int32) (n192 : Nat) (G193 : GH) =>
  Option.bind (scI L xs (v4 + (1 : Int32))) (fun (x195 : Int32) =>
  Option.bind (scI L xs (v4 + (2 : Int32))) (fun (x196 : Int32) =>
  if x196 = 0 then
  (cvI G193 v2 11 (f_X11_needs F v2 x195 (0 : Int32) n192 G193) (fun (x199 : Int32) (n197 : Nat) (G198 : GH) =>
  if x194 = x199 then
  (rec23 (v4 + 3) n197 G198)
  else (rN .boolean (0 : Int32) n197 G198)))
  else (cvI G193 v2 11 (f_X11_needs F v2 x195 (1 : Int32) n192 G193) (fun (x202 : Int32) (n200 : Nat) (G201 : GH) =>
  if x194 = x202 then
  (rec23 (v4 + 3) n200 G201)
  else (rN .boolean (0 : Int32) n200 G201)))))))))
def k_L_law_854 (F L : Nat) (xs : Nat → Int32) (rec23 : Int32 → Nat → GH → Option (Int32 × Nat × GH)) (v1 : Nat) (v2 : Nat) (v3 : Nat) (v4 : Int32) (n : Nat) (G : GH) : Option (Int32 × Nat × GH) :=
  Option.bind (scI L xs (v4 + (1 : Int32))) (fun (x203 : Int32) =>
  Option.bind (scI L xs (v4 + (2 : Int32))) (fun (x204 : Int32) =>
  cvI G v1 10 (f_X10_would F v1 x203 x204 n G) (fun (x207 : Int32) (n205 : Nat) (G206 : GH) =>
  Option.bind (scI L xs (v4 + (1 : Int32))) (fun (x208 : Int32) =>
  Option.bind (scI L xs (v4 + (2 : Int32))) (fun (x209 : Int32) =>
  cvI G206 v2 11 (f_X11_would F v2 x208 x209 n205 G206) (fun (x212 : Int32) (n210 : Nat) (G211 : GH) =>
  if x207 = x212 then
  (rec23 (v4 + 3) n210 G211)
  else (rN .boolean (0 : Int32) n210 G211)))))))
def k_L_law_891 (F L : Nat) (xs : Nat → Int32) (rec23 : Int32 → Nat → GH → Option (Int32 × Nat × GH)) (v1 : Nat) (v2 : Nat) (v3 : Nat) (v4 : Int32) (n : Nat) (G : GH) : Option (Int32 × Nat × GH) :=
  Option.bind (scI L xs (v4 + (1 : Int32))) (fun (x213 : Int32) =>
  cvI G v1 10 (f_X10_worth F v1 x213 n G) (fun (x216 : Int32) (n214 : Nat) (G215 : GH) =>
  Option.bind (scI L xs (v4 + (1 : Int32))) (fun (x217 : Int32) =>
  cvI G215 v2 11 (f_X11_worth F v2 x217 n214 G215) (fun (x220 : Int32) (n218 : Nat) (G219 : GH) =>
  if x216 = x220 then
  (rec23 (v4 + 3) n218 G219)
  else (rN .boolean (0 : Int32) n218 G219)))))
def k_L_law_916 (F L : Nat) (xs : Nat → Int32) (rec23 : Int32 → Nat → GH → Option (Int32 × Nat × GH)) (v1 : Nat) (v2 : Nat) (v3 : Nat) (v4 : Int32) (n : Nat) (G : GH) : Option (Int32 × Nat × GH) :=
  cvI G v1 10 (f_X10_deep F v1 n G) (fun (x223 : Int32) (n221 : Nat) (G222 : GH) =>
  cvI G222 v2 11 (f_X11_deep F v2 n221 G222) (fun (x226 : Int32) (n224 : Nat) (G225 : GH) =>
  if x223 = x226 then
  (rec23 (v4 + 3) n224 G225)
  else (rN .boolean (0 : Int32) n224 G225)))
def k_L_law_929 (F L : Nat) (xs : Nat → Int32) (rec23 : Int32 → Nat → GH → Option (Int32 × Nat × GH)) (v1 : Nat) (v2 : Nat) (v3 : Nat) (v4 : Int32) (n : Nat) (G : GH) : Option (Int32 × Nat × GH) :=
  Option.bind (scI L xs (v4 + (1 : Int32))) (fun (x227 : Int32) =>
  cvI G v1 10 (f_X10_wave F v1 x227 n G) (fun (x230 : Int32) (n228 : Nat) (G229 : GH) =>
  Option.bind (scI L xs (v4 + (1 : Int32))) (fun (x231 : Int32) =>
  cvI G229 v2 11 (f_X11_wave F v2 x231 n228 G229) (fun (x234 : Int32) (n232 : Nat) (G233 : GH) =>
  if x230 = x234 then
  (rec23 (v4 + 3) n232 G233)
  else (rN .boolean (0 : Int32) n232 G233)))))
def k_L_law_954 (F L : Nat) (xs : Nat → Int32) (rec23 : Int32 → Nat → GH → Option (Int32 × Nat × GH)) (v1 : Nat) (v2 : Nat) (v3 : Nat) (v4 : Int32) (n : Nat) (G : GH) : Option (Int32 × Nat × GH) :=
  Option.bind (scI L xs (v4 + (1 : Int32))) (fun (x235 : Int32) =>
  cvI G v1 10 (f_X10_lost F v1 x235 n G) (fun (x238 : Int32) (n236 : Nat) (G237 : GH) =>
  Option.bind (scI L xs (v4 + (1 : Int32))) (fun (x239 : Int32) =>
  cvI G237 v2 11 (f_X11_lost F v2 x239 n236 G237) (fun (x242 : Int32) (n240 : Nat) (G241 : GH) =>
  if x238 = x242 then
  (rec23 (v4 + 3) n240 G241)
  else (rN .boolean (0 : Int32) n240 G241)))))
def k_L_law_979 (F L : Nat) (xs : Nat → Int32) (rec23 : Int32 → Nat → GH → Option (Int32 × Nat × GH)) (v1 : Nat) (v2 : Nat) (v3 : Nat) (v4 : Int32) (n : Nat) (G : GH) : Option (Int32 × Nat × GH) :=
  Option.bind (scI L xs (v4 + (1 : Int32))) (fun (x243 : Int32) =>
  cvI G v1 10 (f_X10_looser F v1 x243 n G) (fun (x246 : Int32) (n244 : Nat) (G245 : GH) =>
  Option.bind (scI L xs (v4 + (1 : Int32))) (fun (x247 : Int32) =>
  cvI G245 v2 11 (f_X11_looser F v2 x247 n244 G245) (fun (x250 : Int32) (n248 : Nat) (G249 : GH) =>
  if x246 = x250 then
  (rec23 (v4 + 3) n248 G249)
  else (rN .boolean (0 : Int32) n248 G249)))))
def k_L_law_1004 (F L : Nat) (xs : Nat → Int32) (rec23 : Int32 → Nat → GH → Option (Int32 × Nat × GH)) (v1 : Nat) (v2 : Nat) (v3 : Nat) (v4 : Int32) (n : Nat) (G : GH) : Option (Int32 × Nat × GH) :=
  Option.bind (scI L xs (v4 + (1 : Int32))) (fun (x251 : Int32) =>
  cvI G v1 10 (f_X10_image F v1 x251 n G) (fun (x254 : Int32) (n252 : Nat) (G253 : GH) =>
  Option.bind (scI L xs (v4 + (1 : Int32))) (fun (x255 : Int32) =>
  cvI G253 v2 11 (f_X11_image F v2 x255 n252 G253) (fun (x258 : Int32) (n256 : Nat) (G257 : GH) =>
  if x254 = x258 then
  (rec23 (v4 + 3) n256 G257)
  else (rN .boolean (0 : Int32) n256 G257)))))
def k_L_law_1029 (F L : Nat) (xs : Nat → Int32) (rec23 : Int32 → Nat → GH → Option (Int32 × Nat × GH)) (v1 : Nat) (v2 : Nat) (v3 : Nat) (v4 : Int32) (n : Nat) (G : GH) : Option (Int32 × Nat × GH) :=
  Option.bind (scI L xs (v4 + (1 : Int32))) (fun (x259 : Int32) =>
  cvI G v1 10 (f_X10_again F v1 x259 n G) (fun (x262 : Int32) (n260 : Nat) (G261 : GH) =>
  Option.bind (scI L xs (v4 + (1 : Int32))) (fun (x263 : Int32) =>
  cvI G261 v2 11 (f_X11_again F v2 x263 n260 G261) (fun (x266 : Int32) (n264 : Nat) (G265 : GH) =>
  if x262 = x266 then
  (rec23 (v4 + 3) n264 G265)
  else (rN .boolean (0 : Int32) n264 G265)))))
def b_L_law_23 (F L : Nat) (xs : Nat → Int32) (v1 : Nat) (v2 : Nat) (v3 : Nat) (rec23 : Int32 → Nat → GH → Option (Int32 × Nat × GH)) : Int32 → Nat → GH → Option (Int32 × Nat × GH) := fun v4 n G =>
  if ((Int32.ofNat L) - (3 : Int32)) < v4 then
  (rN .boolean (1 : Int32) n G)
  else (Option.bind (scI L xs v4) (fun (x5 : Int32) =>
  g_sw (x5 &&& (31 : Int32)) [k_L_law_164 F L xs rec23 v1 v2 v3 v4 n G,
  k_L_law_221 F L xs rec23 v1 v2 v3 v4 n G,
  k_L_law_234 F L xs rec23 v1 v2 v3 v4 n G,
  k_L_law_275 F L xs rec23 v1 v2 v3 v4 n G,
  k_L_law_288 F L xs rec23 v1 v2 v3 v4 n G,
  k_L_law_301 F L xs rec23 v1 v2 v3 v4 n G,
  k_L_law_338 F L xs rec23 v1 v2 v3 v4 n G,
  k_L_law_363 F L xs rec23 v1 v2 v3 v4 n G,
  k_L_law_388 F L xs rec23 v1 v2 v3 v4 n G,
  k_L_law_401 F L xs rec23 v1 v2 v3 v4 n G,
  k_L_law_426 F L xs rec23 v1 v2 v3 v4 n G,
  k_L_law_494 F L xs rec23 v1 v2 v3 v4 n G,
  k_L_law_531 F L xs rec23 v1 v2 v3 v4 n G,
  k_L_law_599 F L xs rec23 v1 v2 v3 v4 n G,
  k_L_law_636 F L xs rec23 v1 v2 v3 v4 n G,
  k_L_law_673 F L xs rec23 v1 v2 v3 v4 n G,
  k_L_law_698 F L xs rec23 v1 v2 v3 v4 n G,
  k_L_law_751 F L xs rec23 v1 v2 v3 v4 n G,
  k_L_law_776 F L xs rec23 v1 v2 v3 v4 n G,
  k_L_law_801 F L xs rec23 v1 v2 v3 v4 n G,
  k_L_law_854 F L xs rec23 v1 v2 v3 v4 n G,
  k_L_law_891 F L xs rec23 v1 v2 v3 v4 n G,
  k_L_law_916 F L xs rec23 v1 v2 v3 v4 n G,
  k_L_law_929 F L xs rec23 v1 v2 v3 v4 n G,
  k_L_law_954 F L xs rec23 v1 v2 v3 v4 n G,
  k_L_law_979 F L xs rec23 v1 v2 v3 v4 n G,
  k_L_law_1004 F L xs rec23 v1 v2 v3 v4 n G,
  k_L_law_1029 F L xs rec23 v1 v2 v3 v4 n G] (rec23 (v4 + 3) n G) 0))
def f_L_law (F L : Nat) (xs : Nat → Int32) (n : Nat) (G : GH) : Option (Int32 × Nat × GH) :=
  csU (f_X10_init F n (n + 1) (gset G n (.inr (10, df_X10)))) (fun (n1 : Nat) (G2 : GH) =>
  csU (f_X11_init F n1 (n1 + 1) (gset G2 n1 (.inr (11, df_X11)))) (fun (n3 : Nat) (G4 : GH) =>
  fixN (fun _ _ _ => none) (b_L_law_23 F L xs n n1 n3) 520 (0 : Int32) (n3 + 1) (gset G4 n3 (.inl (3, 1, .inr (.inl (fun _ => 0)))))))
set_option maxRecDepth 100000 in
set_option maxHeartbeats 4000000 in
theorem c_L_law_164 {E : GE} {F bS L : Nat} {xs : Nat → Int32} {rec23 : Int32 → Nat → GH → Option (Int32 × Nat × GH)} {v1 : Nat} {v2 : Nat} {v3 : Nat} {v4 : Int32} {n : Nat} {G : GH} {z : Int32 × Nat × GH} {Kk rc rs : Nat} (hX : ∀ U, E.2.2.2.2.2 U → x_Z E U) (hS : ∀ U, E.2.2.2.2.2 U → va_X bS L xs U (g_H E)) (hrc : 20 * (Kk + 1) ≤ rc) (hrs : 2000 * (Kk + 1) ≤ rs) (hrec23 : ∀ (rc rs : Nat), 20 * Kk ≤ rc → 2000 * Kk ≤ rs → ∀ (w4 : Int32) (n : Nat) (G : GH) (z : Int32 × Nat × GH), rec23 w4 n G = some z → WG E RL "law" cL_law 7 (some .boolean) 2048 84000 rc rs 23 [(0, .ref bS), (1, .ref v1), (2, .ref v2), (3, .ref v3), (4, .int w4)] [] n G (g_O E (some (.int z.1), z.2.1, z.2.2))) (h : k_L_law_164 F L xs rec23 v1 v2 v3 v4 n G = some z) : WG E RL "law" cL_law 7 (some .boolean) 2048 84000 rc rs 164 [(0, .ref bS), (1, .ref v1), (2, .ref v2), (3, .ref v3), (4, .int v4)] [] n G (g_O E (some (.int z.1), z.2.1, z.2.2)) := by
  unfold k_L_law_164 at h
  refine r_aload d_L_law_164 rfl ?_
  refine r_aload d_L_law_165 rfl ?_
  refine r_iload d_L_law_166 rfl ?_
  refine r_iconst d_L_law_168 ic_1 ?_
  refine r_iadd d_L_law_169 ?_
  refine r_scrI hS h d_L_law_170 (fun x6 h => ?_)
  refine r_i2l d_L_law_171 ?_
  refine r_bipush d_L_law_172 bp_32 ?_
  refine r_lshl d_L_law_174 ?_
  refine r_aload d_L_law_175 rfl ?_
  refine r_iload d_L_law_176 rfl ?_
  refine r_iconst d_L_law_178 ic_2 ?_
  refine r_iadd d_L_law_179 ?_
  refine r_scrI hS h d_L_law_180 (fun x7 h => ?_)
  refine r_i2l d_L_law_181 ?_
  refine r_ldc2 d_L_law_182 cl_L_22 ?_
  refine r_land d_L_law_185 ?_
  refine r_lor d_L_law_186 ?_
  refine r_invI [_] h (fun _ hq => s_X10_type hq) d_L_law_187 pl_L_24 py_X10_type pi_X10_type rfl rfl (g_room_of ⟨by omega, by omega, by omega, by omega⟩) (fun x10 n8 G9 h => ?_)
  refine r_aload d_L_law_190 rfl ?_
  refine r_aload d_L_law_191 rfl ?_
  refine r_iload d_L_law_192 rfl ?_
  refine r_iconst d_L_law_194 ic_1 ?_
  refine r_iadd d_L_law_195 ?_
  refine r_scrI hS h d_L_law_196 (fun x11 h => ?_)
  refine r_i2l d_L_law_197 ?_
  refine r_bipush d_L_law_198 bp_32 ?_
  refine r_lshl d_L_law_200 ?_
  refine r_aload d_L_law_201 rfl ?_
  refine r_iload d_L_law_202 rfl ?_
  refine r_iconst d_L_law_204 ic_2 ?_
  refine r_iadd d_L_law_205 ?_
  refine r_scrI hS h d_L_law_206 (fun x12 h => ?_)
  refine r_i2l d_L_law_207 ?_
  refine r_ldc2 d_L_law_208 cl_L_22 ?_
  refine r_land d_L_law_211 ?_
  refine r_lor d_L_law_212 ?_
  refine r_invI [_] h (fun _ hq => s_X11_type hq) d_L_law_213 pl_L_28 py_X11_type pi_X11_type rfl rfl (g_room_of ⟨by omega, by omega, by omega, by omega⟩) (fun x15 n13 G14 h => ?_)
  refine r_icmp_eq h d_L_law_216 (fun h => ?_) (fun h => ?_)
  · refine r_iinc d_L_law_1054 rfl (ii_3 _) rfl rfl ?_
    refine r_goto d_L_law_1057 ?_
    refine r_lv [(0, .ref bS), (1, .ref v1), (2, .ref v2), (3, .ref v3), (4, .int (v4 + 3))] (g_allc rfl (g_allc rfl (g_allc rfl (g_allc rfl (g_allc rfl g_alln))))) ?_
    exact hrec23 _ _ (by omega) (by omega) _ _ _ _ h
  · refine r_iconst d_L_law_219 ic_0 ?_
    exact r_zret h d_L_law_220
set_option maxRecDepth 100000 in
set_option maxHeartbeats 4000000 in
theorem c_L_law_221 {E : GE} {F bS L : Nat} {xs : Nat → Int32} {rec23 : Int32 → Nat → GH → Option (Int32 × Nat × GH)} {v1 : Nat} {v2 : Nat} {v3 : Nat} {v4 : Int32} {n : Nat} {G : GH} {z : Int32 × Nat × GH} {Kk rc rs : Nat} (hX : ∀ U, E.2.2.2.2.2 U → x_Z E U) (hS : ∀ U, E.2.2.2.2.2 U → va_X bS L xs U (g_H E)) (hrc : 20 * (Kk + 1) ≤ rc) (hrs : 2000 * (Kk + 1) ≤ rs) (hrec23 : ∀ (rc rs : Nat), 20 * Kk ≤ rc → 2000 * Kk ≤ rs → ∀ (w4 : Int32) (n : Nat) (G : GH) (z : Int32 × Nat × GH), rec23 w4 n G = some z → WG E RL "law" cL_law 7 (some .boolean) 2048 84000 rc rs 23 [(0, .ref bS), (1, .ref v1), (2, .ref v2), (3, .ref v3), (4, .int w4)] [] n G (g_O E (some (.int z.1), z.2.1, z.2.2))) (h : k_L_law_221 F L xs rec23 v1 v2 v3 v4 n G = some z) : WG E RL "law" cL_law 7 (some .boolean) 2048 84000 rc rs 221 [(0, .ref bS), (1, .ref v1), (2, .ref v2), (3, .ref v3), (4, .int v4)] [] n G (g_O E (some (.int z.1), z.2.1, z.2.2)) := by
  unfold k_L_law_221 at h
  refine r_aload d_L_law_221 rfl ?_
  refine r_invI [] h (fun _ hq => s_X10_read hq) d_L_law_222 pl_L_29 py_X10_read pi_X10_read rfl rfl (g_room_of ⟨by omega, by omega, by omega, by omega⟩) (fun x18 n16 G17 h => ?_)
  refine r_aload d_L_law_225 rfl ?_
  refine r_invI [] h (fun _ hq => s_X11_read hq) d_L_law_226 pl_L_33 py_X11_read pi_X11_read rfl rfl (g_room_of ⟨by omega, by omega, by omega, by omega⟩) (fun x21 n19 G20 h => ?_)
  refine r_icmp_eq h d_L_law_229 (fun h => ?_) (fun h => ?_)
  · refine r_iinc d_L_law_1054 rfl (ii_3 _) rfl rfl ?_
    refine r_goto d_L_law_1057 ?_
    refine r_lv [(0, .ref bS), (1, .ref v1), (2, .ref v2), (3, .ref v3), (4, .int (v4 + 3))] (g_allc rfl (g_allc rfl (g_allc rfl (g_allc rfl (g_allc rfl g_alln))))) ?_
    exact hrec23 _ _ (by omega) (by omega) _ _ _ _ h
  · refine r_iconst d_L_law_232 ic_0 ?_
    exact r_zret h d_L_law_233
set_option maxRecDepth 100000 in
set_option maxHeartbeats 4000000 in
theorem c_L_law_234 {E : GE} {F bS L : Nat} {xs : Nat → Int32} {rec23 : Int32 → Nat → GH → Option (Int32 × Nat × GH)} {v1 : Nat} {v2 : Nat} {v3 : Nat} {v4 : Int32} {n : Nat} {G : GH} {z : Int32 × Nat × GH} {Kk rc rs : Nat} (hX : ∀ U, E.2.2.2.2.2 U → x_Z E U) (hS : ∀ U, E.2.2.2.2.2 U → va_X bS L xs U (g_H E)) (hrc : 20 * (Kk + 1) ≤ rc) (hrs : 2000 * (Kk + 1) ≤ rs) (hrec23 : ∀ (rc rs : Nat), 20 * Kk ≤ rc → 2000 * Kk ≤ rs → ∀ (w4 : Int32) (n : Nat) (G : GH) (z : Int32 × Nat × GH), rec23 w4 n G = some z → WG E RL "law" cL_law 7 (some .boolean) 2048 84000 rc rs 23 [(0, .ref bS), (1, .ref v1), (2, .ref v2), (3, .ref v3), (4, .int w4)] [] n G (g_O E (some (.int z.1), z.2.1, z.2.2))) (h : k_L_law_234 F L xs rec23 v1 v2 v3 v4 n G = some z) : WG E RL "law" cL_law 7 (some .boolean) 2048 84000 rc rs 234 [(0, .ref bS), (1, .ref v1), (2, .ref v2), (3, .ref v3), (4, .int v4)] [] n G (g_O E (some (.int z.1), z.2.1, z.2.2)) := by
  unfold k_L_law_234 at h
  refine r_aload d_L_law_234 rfl ?_
  refine r_aload d_L_law_235 rfl ?_
  refine r_iload d_L_law_236 rfl ?_
  refine r_iconst d_L_law_238 ic_1 ?_
  refine r_iadd d_L_law_239 ?_
  refine r_scrI hS h d_L_law_240 (fun x22 h => ?_)
  refine r_if_eq h d_L_law_241 (fun h => ?_) (fun h => ?_)
  · refine r_iconst d_L_law_248 ic_0 ?_
    refine r_invP [_] h (fun _ hq => s_X10_fault hq) d_L_law_249 pl_L_34 py_X10_fault pi_X10_fault rfl rfl (g_room_of ⟨by omega, by omega, by omega, by omega⟩) (fun x23 h => ?_)
    refine r_aload d_L_law_252 rfl ?_
    refine r_aload d_L_law_253 rfl ?_
    refine r_iload d_L_law_254 rfl ?_
    refine r_iconst d_L_law_256 ic_1 ?_
    refine r_iadd d_L_law_257 ?_
    refine r_scrI hS h d_L_law_258 (fun x24 h => ?_)
    refine r_if_eq h d_L_law_259 (fun h => ?_) (fun h => ?_)
    · refine r_iconst d_L_law_266 ic_0 ?_
      refine r_invI [_] h (fun _ hq => s_X11_fault hq) d_L_law_267 pl_L_38 py_X11_fault pi_X11_fault rfl rfl (g_room_of ⟨by omega, by omega, by omega, by omega⟩) (fun x27 n25 G26 h => ?_)
      refine r_icmp_eq h d_L_law_270 (fun h => ?_) (fun h => ?_)
      · refine r_iinc d_L_law_1054 rfl (ii_3 _) rfl rfl ?_
        refine r_goto d_L_law_1057 ?_
        refine r_lv [(0, .ref bS), (1, .ref v1), (2, .ref v2), (3, .ref v3), (4, .int (v4 + 3))] (g_allc rfl (g_allc rfl (g_allc rfl (g_allc rfl (g_allc rfl g_alln))))) ?_
        exact hrec23 _ _ (by omega) (by omega) _ _ _ _ h
      · refine r_iconst d_L_law_273 ic_0 ?_
        exact r_zret h d_L_law_274
    · refine r_iconst d_L_law_262 ic_1 ?_
      refine r_goto d_L_law_263 ?_
      refine r_invI [_] h (fun _ hq => s_X11_fault hq) d_L_law_267 pl_L_38 py_X11_fault pi_X11_fault rfl rfl (g_room_of ⟨by omega, by omega, by omega, by omega⟩) (fun x30 n28 G29 h => ?_)
      refine r_icmp_eq h d_L_law_270 (fun h => ?_) (fun h => ?_)
      · refine r_iinc d_L_law_1054 rfl (ii_3 _) rfl rfl ?_
        refine r_goto d_L_law_1057 ?_
        refine r_lv [(0, .ref bS), (1, .ref v1), (2, .ref v2), (3, .ref v3), (4, .int (v4 + 3))] (g_allc rfl (g_allc rfl (g_allc rfl (g_allc rfl (g_allc rfl g_alln))))) ?_
        exact hrec23 _ _ (by omega) (by omega) _ _ _ _ h
      · refine r_iconst d_L_law_273 ic_0 ?_
        exact r_zret h d_L_law_274
  · refine r_iconst d_L_law_244 ic_1 ?_
    refine r_goto d_L_law_245 ?_
    refine r_invP [_] h (fun _ hq => s_X10_fault hq) d_L_law_249 pl_L_34 py_X10_fault pi_X10_fault rfl rfl (g_room_of ⟨by omega, by omega, by omega, by omega⟩) (fun x31 h => ?_)
    refine r_aload d_L_law_252 rfl ?_
    refine r_aload d_L_law_253 rfl ?_
    refine r_iload d_L_law_254 rfl ?_
    refine r_iconst d_L_law_256 ic_1 ?_
    refine r_iadd d_L_law_257 ?_
    refine r_scrI hS h d_L_law_258 (fun x32 h => ?_)
    refine r_if_eq h d_L_law_259 (fun h => ?_) (fun h => ?_)
    · refine r_iconst d_L_law_266 ic_0 ?_
      refine r_invI [_] h (fun _ hq => s_X11_fault hq) d_L_law_267 pl_L_38 py_X11_fault pi_X11_fault rfl rfl (g_room_of ⟨by omega, by omega, by omega, by omega⟩) (fun x35 n33 G34 h => ?_)
      refine r_icmp_eq h d_L_law_270 (fun h => ?_) (fun h => ?_)
      · refine r_iinc d_L_law_1054 rfl (ii_3 _) rfl rfl ?_
        refine r_goto d_L_law_1057 ?_
        refine r_lv [(0, .ref bS), (1, .ref v1), (2, .ref v2), (3, .ref v3), (4, .int (v4 + 3))] (g_allc rfl (g_allc rfl (g_allc rfl (g_allc rfl (g_allc rfl g_alln))))) ?_
        exact hrec23 _ _ (by omega) (by omega) _ _ _ _ h
      · refine r_iconst d_L_law_273 ic_0 ?_
        exact r_zret h d_L_law_274
    · refine r_iconst d_L_law_262 ic_1 ?_
      refine r_goto d_L_law_263 ?_
      refine r_invI [_] h (fun _ hq => s_X11_fault hq) d_L_law_267 pl_L_38 py_X11_fault pi_X11_fault rfl rfl (g_room_of ⟨by omega, by omega, by omega, by omega⟩) (fun x38 n36 G37 h => ?_)
      refine r_icmp_eq h d_L_law_270 (fun h => ?_) (fun h => ?_)
      · refine r_iinc d_L_law_1054 rfl (ii_3 _) rfl rfl ?_
        refine r_goto d_L_law_1057 ?_
        refine r_lv [(0, .ref bS), (1, .ref v1), (2, .ref v2), (3, .ref v3), (4, .int (v4 + 3))] (g_allc rfl (g_allc rfl (g_allc rfl (g_allc rfl (g_allc rfl g_alln))))) ?_
        exact hrec23 _ _ (by omega) (by omega) _ _ _ _ h
      · refine r_iconst d_L_law_273 ic_0 ?_
        exact r_zret h d_L_law_274
set_option maxRecDepth 100000 in
set_option maxHeartbeats 4000000 in
theorem c_L_law_275 {E : GE} {F bS L : Nat} {xs : Nat → Int32} {rec23 : Int32 → Nat → GH → Option (Int32 × Nat × GH)} {v1 : Nat} {v2 : Nat} {v3 : Nat} {v4 : Int32} {n : Nat} {G : GH} {z : Int32 × Nat × GH} {Kk rc rs : Nat} (hX : ∀ U, E.2.2.2.2.2 U → x_Z E U) (hS : ∀ U, E.2.2.2.2.2 U → va_X bS L xs U (g_H E)) (hrc : 20 * (Kk + 1) ≤ rc) (hrs : 2000 * (Kk + 1) ≤ rs) (hrec23 : ∀ (rc rs : Nat), 20 * Kk ≤ rc → 2000 * Kk ≤ rs → ∀ (w4 : Int32) (n : Nat) (G : GH) (z : Int32 × Nat × GH), rec23 w4 n G = some z → WG E RL "law" cL_law 7 (some .boolean) 2048 84000 rc rs 23 [(0, .ref bS), (1, .ref v1), (2, .ref v2), (3, .ref v3), (4, .int w4)] [] n G (g_O E (some (.int z.1), z.2.1, z.2.2))) (h : k_L_law_275 F L xs rec23 v1 v2 v3 v4 n G = some z) : WG E RL "law" cL_law 7 (some .boolean) 2048 84000 rc rs 275 [(0, .ref bS), (1, .ref v1), (2, .ref v2), (3, .ref v3), (4, .int v4)] [] n G (g_O E (some (.int z.1), z.2.1, z.2.2)) := by
  unfold k_L_law_275 at h
  refine r_aload d_L_law_275 rfl ?_
  refine r_invI [] h (fun _ hq => s_X10_enter hq) d_L_law_276 pl_L_39 py_X10_enter pi_X10_enter rfl rfl (g_room_of ⟨by omega, by omega, by omega, by omega⟩) (fun x41 n39 G40 h => ?_)
  refine r_aload d_L_law_279 rfl ?_
  refine r_invI [] h (fun _ hq => s_X11_enter hq) d_L_law_280 pl_L_42 py_X11_enter pi_X11_enter rfl rfl (g_room_of ⟨by omega, by omega, by omega, by omega⟩) (fun x44 n42 G43 h => ?_)
  refine r_icmp_eq h d_L_law_283 (fun h => ?_) (fun h => ?_)
  · refine r_iinc d_L_law_1054 rfl (ii_3 _) rfl rfl ?_
    refine r_goto d_L_law_1057 ?_
    refine r_lv [(0, .ref bS), (1, .ref v1), (2, .ref v2), (3, .ref v3), (4, .int (v4 + 3))] (g_allc rfl (g_allc rfl (g_allc rfl (g_allc rfl (g_allc rfl g_alln))))) ?_
    exact hrec23 _ _ (by omega) (by omega) _ _ _ _ h
  · refine r_iconst d_L_law_286 ic_0 ?_
    exact r_zret h d_L_law_287
set_option maxRecDepth 100000 in
set_option maxHeartbeats 4000000 in
theorem c_L_law_288 {E : GE} {F bS L : Nat} {xs : Nat → Int32} {rec23 : Int32 → Nat → GH → Option (Int32 × Nat × GH)} {v1 : Nat} {v2 : Nat} {v3 : Nat} {v4 : Int32} {n : Nat} {G : GH} {z : Int32 × Nat × GH} {Kk rc rs : Nat} (hX : ∀ U, E.2.2.2.2.2 U → x_Z E U) (hS : ∀ U, E.2.2.2.2.2 U → va_X bS L xs U (g_H E)) (hrc : 20 * (Kk + 1) ≤ rc) (hrs : 2000 * (Kk + 1) ≤ rs) (hrec23 : ∀ (rc rs : Nat), 20 * Kk ≤ rc → 2000 * Kk ≤ rs → ∀ (w4 : Int32) (n : Nat) (G : GH) (z : Int32 × Nat × GH), rec23 w4 n G = some z → WG E RL "law" cL_law 7 (some .boolean) 2048 84000 rc rs 23 [(0, .ref bS), (1, .ref v1), (2, .ref v2), (3, .ref v3), (4, .int w4)] [] n G (g_O E (some (.int z.1), z.2.1, z.2.2))) (h : k_L_law_288 F L xs rec23 v1 v2 v3 v4 n G = some z) : WG E RL "law" cL_law 7 (some .boolean) 2048 84000 rc rs 288 [(0, .ref bS), (1, .ref v1), (2, .ref v2), (3, .ref v3), (4, .int v4)] [] n G (g_O E (some (.int z.1), z.2.1, z.2.2)) := by
  unfold k_L_law_288 at h
  refine r_aload d_L_law_288 rfl ?_
  refine r_invI [] h (fun _ hq => s_X10_leave hq) d_L_law_289 pl_L_43 py_X10_leave pi_X10_leave rfl rfl (g_room_of ⟨by omega, by omega, by omega, by omega⟩) (fun x47 n45 G46 h => ?_)
  refine r_aload d_L_law_292 rfl ?_
  refine r_invI [] h (fun _ hq => s_X11_leave hq) d_L_law_293 pl_L_46 py_X11_leave pi_X11_leave rfl rfl (g_room_of ⟨by omega, by omega, by omega, by omega⟩) (fun x50 n48 G49 h => ?_)
  refine r_icmp_eq h d_L_law_296 (fun h => ?_) (fun h => ?_)
  · refine r_iinc d_L_law_1054 rfl (ii_3 _) rfl rfl ?_
    refine r_goto d_L_law_1057 ?_
    refine r_lv [(0, .ref bS), (1, .ref v1), (2, .ref v2), (3, .ref v3), (4, .int (v4 + 3))] (g_allc rfl (g_allc rfl (g_allc rfl (g_allc rfl (g_allc rfl g_alln))))) ?_
    exact hrec23 _ _ (by omega) (by omega) _ _ _ _ h
  · refine r_iconst d_L_law_299 ic_0 ?_
    exact r_zret h d_L_law_300
set_option maxRecDepth 100000 in
set_option maxHeartbeats 4000000 in
theorem c_L_law_301 {E : GE} {F bS L : Nat} {xs : Nat → Int32} {rec23 : Int32 → Nat → GH → Option (Int32 × Nat × GH)} {v1 : Nat} {v2 : Nat} {v3 : Nat} {v4 : Int32} {n : Nat} {G : GH} {z : Int32 × Nat × GH} {Kk rc rs : Nat} (hX : ∀ U, E.2.2.2.2.2 U → x_Z E U) (hS : ∀ U, E.2.2.2.2.2 U → va_X bS L xs U (g_H E)) (hrc : 20 * (Kk + 1) ≤ rc) (hrs : 2000 * (Kk + 1) ≤ rs) (hrec23 : ∀ (rc rs : Nat), 20 * Kk ≤ rc → 2000 * Kk ≤ rs → ∀ (w4 : Int32) (n : Nat) (G : GH) (z : Int32 × Nat × GH), rec23 w4 n G = some z → WG E RL "law" cL_law 7 (some .boolean) 2048 84000 rc rs 23 [(0, .ref bS), (1, .ref v1), (2, .ref v2), (3, .ref v3), (4, .int w4)] [] n G (g_O E (some (.int z.1), z.2.1, z.2.2))) (h : k_L_law_301 F L xs rec23 v1 v2 v3 v4 n G = some z) : WG E RL "law" cL_law 7 (some .boolean) 2048 84000 rc rs 301 [(0, .ref bS), (1, .ref v1), (2, .ref v2), (3, .ref v3), (4, .int v4)] [] n G (g_O E (some (.int z.1), z.2.1, z.2.2)) := by
  unfold k_L_law_301 at h
  refine r_aload d_L_law_301 rfl ?_
  refine r_aload d_L_law_302 rfl ?_
  refine r_iload d_L_law_303 rfl ?_
  refine r_iconst d_L_law_305 ic_1 ?_
  refine r_iadd d_L_law_306 ?_
  refine r_scrI hS h d_L_law_307 (fun x51 h => ?_)
  refine r_aload d_L_law_308 rfl ?_
  refine r_iload d_L_law_309 rfl ?_
  refine r_iconst d_L_law_311 ic_2 ?_
  refine r_iadd d_L_law_312 ?_
  refine r_scrI hS h d_L_law_313 (fun x52 h => ?_)
  refine r_invI [_, _] h (fun _ hq => s_X10_stand hq) d_L_law_314 pl_L_47 py_X10_stand pi_X10_stand rfl rfl (g_room_of ⟨by omega, by omega, by omega, by omega⟩) (fun x55 n53 G54 h => ?_)
  refine r_aload d_L_law_317 rfl ?_
  refine r_aload d_L_law_318 rfl ?_
  refine r_iload d_L_law_319 rfl ?_
  refine r_iconst d_L_law_321 ic_1 ?_
  refine r_iadd d_L_law_322 ?_
  refine r_scrI hS h d_L_law_323 (fun x56 h => ?_)
  refine r_aload d_L_law_324 rfl ?_
  refine r_iload d_L_law_325 rfl ?_
  refine r_iconst d_L_law_327 ic_2 ?_
  refine r_iadd d_L_law_328 ?_
  refine r_scrI hS h d_L_law_329 (fun x57 h => ?_)
  refine r_invI [_, _] h (fun _ hq => s_X11_stand hq) d_L_law_330 pl_L_51 py_X11_stand pi_X11_stand rfl rfl (g_room_of ⟨by omega, by omega, by omega, by omega⟩) (fun x60 n58 G59 h => ?_)
  refine r_icmp_eq h d_L_law_333 (fun h => ?_) (fun h => ?_)
  · refine r_iinc d_L_law_1054 rfl (ii_3 _) rfl rfl ?_
    refine r_goto d_L_law_1057 ?_
    refine r_lv [(0, .ref bS), (1, .ref v1), (2, .ref v2), (3, .ref v3), (4, .int (v4 + 3))] (g_allc rfl (g_allc rfl (g_allc rfl (g_allc rfl (g_allc rfl g_alln))))) ?_
    exact hrec23 _ _ (by omega) (by omega) _ _ _ _ h
  · refine r_iconst d_L_law_336 ic_0 ?_
    exact r_zret h d_L_law_337
set_option maxRecDepth 100000 in
set_option maxHeartbeats 4000000 in
theorem c_L_law_338 {E : GE} {F bS L : Nat} {xs : Nat → Int32} {rec23 : Int32 → Nat → GH → Option (Int32 × Nat × GH)} {v1 : Nat} {v2 : Nat} {v3 : Nat} {v4 : Int32} {n : Nat} {G : GH} {z : Int32 × Nat × GH} {Kk rc rs : Nat} (hX : ∀ U, E.2.2.2.2.2 U → x_Z E U) (hS : ∀ U, E.2.2.2.2.2 U → va_X bS L xs U (g_H E)) (hrc : 20 * (Kk + 1) ≤ rc) (hrs : 2000 * (Kk + 1) ≤ rs) (hrec23 : ∀ (rc rs : Nat), 20 * Kk ≤ rc → 2000 * Kk ≤ rs → ∀ (w4 : Int32) (n : Nat) (G : GH) (z : Int32 × Nat × GH), rec23 w4 n G = some z → WG E RL "law" cL_law 7 (some .boolean) 2048 84000 rc rs 23 [(0, .ref bS), (1, .ref v1), (2, .ref v2), (3, .ref v3), (4, .int w4)] [] n G (g_O E (some (.int z.1), z.2.1, z.2.2))) (h : k_L_law_338 F L xs rec23 v1 v2 v3 v4 n G = some z) : WG E RL "law" cL_law 7 (some .boolean) 2048 84000 rc rs 338 [(0, .ref bS), (1, .ref v1), (2, .ref v2), (3, .ref v3), (4, .int v4)] [] n G (g_O E (some (.int z.1), z.2.1, z.2.2)) := by
  unfold k_L_law_338 at h
  refine r_aload d_L_law_338 rfl ?_
  refine r_aload d_L_law_339 rfl ?_
  refine r_iload d_L_law_340 rfl ?_
  refine r_iconst d_L_law_342 ic_1 ?_
  refine r_iadd d_L_law_343 ?_
  refine r_scrI hS h d_L_law_344 (fun x61 h => ?_)
  refine r_invI [_] h (fun _ hq => s_X10_ask hq) d_L_law_345 pl_L_52 py_X10_ask pi_X10_ask rfl rfl (g_room_of ⟨by omega, by omega, by omega, by omega⟩) (fun x64 n62 G63 h => ?_)
  refine r_aload d_L_law_348 rfl ?_
  refine r_aload d_L_law_349 rfl ?_
  refine r_iload d_L_law_350 rfl ?_
  refine r_iconst d_L_law_352 ic_1 ?_
  refine r_iadd d_L_law_353 ?_
  refine r_scrI hS h d_L_law_354 (fun x65 h => ?_)
  refine r_invI [_] h (fun _ hq => s_X11_ask hq) d_L_law_355 pl_L_56 py_X11_ask pi_X11_ask rfl rfl (g_room_of ⟨by omega, by omega, by omega, by omega⟩) (fun x68 n66 G67 h => ?_)
  refine r_icmp_eq h d_L_law_358 (fun h => ?_) (fun h => ?_)
  · refine r_iinc d_L_law_1054 rfl (ii_3 _) rfl rfl ?_
    refine r_goto d_L_law_1057 ?_
    refine r_lv [(0, .ref bS), (1, .ref v1), (2, .ref v2), (3, .ref v3), (4, .int (v4 + 3))] (g_allc rfl (g_allc rfl (g_allc rfl (g_allc rfl (g_allc rfl g_alln))))) ?_
    exact hrec23 _ _ (by omega) (by omega) _ _ _ _ h
  · refine r_iconst d_L_law_361 ic_0 ?_
    exact r_zret h d_L_law_362
set_option maxRecDepth 100000 in
set_option maxHeartbeats 4000000 in
theorem c_L_law_363 {E : GE} {F bS L : Nat} {xs : Nat → Int32} {rec23 : Int32 → Nat → GH → Option (Int32 × Nat × GH)} {v1 : Nat} {v2 : Nat} {v3 : Nat} {v4 : Int32} {n : Nat} {G : GH} {z : Int32 × Nat × GH} {Kk rc rs : Nat} (hX : ∀ U, E.2.2.2.2.2 U → x_Z E U) (hS : ∀ U, E.2.2.2.2.2 U → va_X bS L xs U (g_H E)) (hrc : 20 * (Kk + 1) ≤ rc) (hrs : 2000 * (Kk + 1) ≤ rs) (hrec23 : ∀ (rc rs : Nat), 20 * Kk ≤ rc → 2000 * Kk ≤ rs → ∀ (w4 : Int32) (n : Nat) (G : GH) (z : Int32 × Nat × GH), rec23 w4 n G = some z → WG E RL "law" cL_law 7 (some .boolean) 2048 84000 rc rs 23 [(0, .ref bS), (1, .ref v1), (2, .ref v2), (3, .ref v3), (4, .int w4)] [] n G (g_O E (some (.int z.1), z.2.1, z.2.2))) (h : k_L_law_363 F L xs rec23 v1 v2 v3 v4 n G = some z) : WG E RL "law" cL_law 7 (some .boolean) 2048 84000 rc rs 363 [(0, .ref bS), (1, .ref v1), (2, .ref v2), (3, .ref v3), (4, .int v4)] [] n G (g_O E (some (.int z.1), z.2.1, z.2.2)) := by
  unfold k_L_law_363 at h
  refine r_aload d_L_law_363 rfl ?_
  refine r_aload d_L_law_364 rfl ?_
  refine r_iload d_L_law_365 rfl ?_
  refine r_iconst d_L_law_367 ic_1 ?_
  refine r_iadd d_L_law_368 ?_
  refine r_scrI hS h d_L_law_369 (fun x69 h => ?_)
  refine r_invI [_] h (fun _ hq => s_X10_value hq) d_L_law_370 pl_L_57 py_X10_value pi_X10_value rfl rfl (g_room_of ⟨by omega, by omega, by omega, by omega⟩) (fun x72 n70 G71 h => ?_)
  refine r_aload d_L_law_373 rfl ?_
  refine r_aload d_L_law_374 rfl ?_
  refine r_iload d_L_law_375 rfl ?_
  refine r_iconst d_L_law_377 ic_1 ?_
  refine r_iadd d_L_law_378 ?_
  refine r_scrI hS h d_L_law_379 (fun x73 h => ?_)
  refine r_invI [_] h (fun _ hq => s_X11_value hq) d_L_law_380 pl_L_60 py_X11_value pi_X11_value rfl rfl (g_room_of ⟨by omega, by omega, by omega, by omega⟩) (fun x76 n74 G75 h => ?_)
  refine r_icmp_eq h d_L_law_383 (fun h => ?_) (fun h => ?_)
  · refine r_iinc d_L_law_1054 rfl (ii_3 _) rfl rfl ?_
    refine r_goto d_L_law_1057 ?_
    refine r_lv [(0, .ref bS), (1, .ref v1), (2, .ref v2), (3, .ref v3), (4, .int (v4 + 3))] (g_allc rfl (g_allc rfl (g_allc rfl (g_allc rfl (g_allc rfl g_alln))))) ?_
    exact hrec23 _ _ (by omega) (by omega) _ _ _ _ h
  · refine r_iconst d_L_law_386 ic_0 ?_
    exact r_zret h d_L_law_387
set_option maxRecDepth 100000 in
set_option maxHeartbeats 4000000 in
theorem c_L_law_388 {E : GE} {F bS L : Nat} {xs : Nat → Int32} {rec23 : Int32 → Nat → GH → Option (Int32 × Nat × GH)} {v1 : Nat} {v2 : Nat} {v3 : Nat} {v4 : Int32} {n : Nat} {G : GH} {z : Int32 × Nat × GH} {Kk rc rs : Nat} (hX : ∀ U, E.2.2.2.2.2 U → x_Z E U) (hS : ∀ U, E.2.2.2.2.2 U → va_X bS L xs U (g_H E)) (hrc : 20 * (Kk + 1) ≤ rc) (hrs : 2000 * (Kk + 1) ≤ rs) (hrec23 : ∀ (rc rs : Nat), 20 * Kk ≤ rc → 2000 * Kk ≤ rs → ∀ (w4 : Int32) (n : Nat) (G : GH) (z : Int32 × Nat × GH), rec23 w4 n G = some z → WG E RL "law" cL_law 7 (some .boolean) 2048 84000 rc rs 23 [(0, .ref bS), (1, .ref v1), (2, .ref v2), (3, .ref v3), (4, .int w4)] [] n G (g_O E (some (.int z.1), z.2.1, z.2.2))) (h : k_L_law_388 F L xs rec23 v1 v2 v3 v4 n G = some z) : WG E RL "law" cL_law 7 (some .boolean) 2048 84000 rc rs 388 [(0, .ref bS), (1, .ref v1), (2, .ref v2), (3, .ref v3), (4, .int v4)] [] n G (g_O E (some (.int z.1), z.2.1, z.2.2)) := by
  unfold k_L_law_388 at h
  refine r_aload d_L_law_388 rfl ?_
  refine r_invI [] h (fun _ hq => s_X10_undo hq) d_L_law_389 pl_L_61 py_X10_undo pi_X10_undo rfl rfl (g_room_of ⟨by omega, by omega, by omega, by omega⟩) (fun x79 n77 G78 h => ?_)
  refine r_aload d_L_law_392 rfl ?_
  refine r_invI [] h (fun _ hq => s_X11_undo hq) d_L_law_393 pl_L_64 py_X11_undo pi_X11_undo rfl rfl (g_room_of ⟨by omega, by omega, by omega, by omega⟩) (fun x82 n80 G81 h => ?_)
  refine r_icmp_eq h d_L_law_396 (fun h => ?_) (fun h => ?_)
  · refine r_iinc d_L_law_1054 rfl (ii_3 _) rfl rfl ?_
    refine r_goto d_L_law_1057 ?_
    refine r_lv [(0, .ref bS), (1, .ref v1), (2, .ref v2), (3, .ref v3), (4, .int (v4 + 3))] (g_allc rfl (g_allc rfl (g_allc rfl (g_allc rfl (g_allc rfl g_alln))))) ?_
    exact hrec23 _ _ (by omega) (by omega) _ _ _ _ h
  · refine r_iconst d_L_law_399 ic_0 ?_
    exact r_zret h d_L_law_400
set_option maxRecDepth 100000 in
set_option maxHeartbeats 4000000 in
theorem c_L_law_401 {E : GE} {F bS L : Nat} {xs : Nat → Int32} {rec23 : Int32 → Nat → GH → Option (Int32 × Nat × GH)} {v1 : Nat} {v2 : Nat} {v3 : Nat} {v4 : Int32} {n : Nat} {G : GH} {z : Int32 × Nat × GH} {Kk rc rs : Nat} (hX : ∀ U, E.2.2.2.2.2 U → x_Z E U) (hS : ∀ U, E.2.2.2.2.2 U → va_X bS L xs U (g_H E)) (hrc : 20 * (Kk + 1) ≤ rc) (hrs : 2000 * (Kk + 1) ≤ rs) (hrec23 : ∀ (rc rs : Nat), 20 * Kk ≤ rc → 2000 * Kk ≤ rs → ∀ (w4 : Int32) (n : Nat) (G : GH) (z : Int32 × Nat × GH), rec23 w4 n G = some z → WG E RL "law" cL_law 7 (some .boolean) 2048 84000 rc rs 23 [(0, .ref bS), (1, .ref v1), (2, .ref v2), (3, .ref v3), (4, .int w4)] [] n G (g_O E (some (.int z.1), z.2.1, z.2.2))) (h : k_L_law_401 F L xs rec23 v1 v2 v3 v4 n G = some z) : WG E RL "law" cL_law 7 (some .boolean) 2048 84000 rc rs 401 [(0, .ref bS), (1, .ref v1), (2, .ref v2), (3, .ref v3), (4, .int v4)] [] n G (g_O E (some (.int z.1), z.2.1, z.2.2)) := by
  unfold k_L_law_401 at h
  refine r_aload d_L_law_401 rfl ?_
  refine r_aload d_L_law_402 rfl ?_
  refine r_iload d_L_law_403 rfl ?_
  refine r_iconst d_L_law_405 ic_1 ?_
  refine r_iadd d_L_law_406 ?_
  refine r_scrI hS h d_L_law_407 (fun x83 h => ?_)
  refine r_invP [_] h (fun _ hq => s_X10_count hq) d_L_law_408 pl_L_65 py_X10_count pi_X10_count rfl rfl (g_room_of ⟨by omega, by omega, by omega, by omega⟩) (fun x84 h => ?_)
  refine r_aload d_L_law_411 rfl ?_
  refine r_aload d_L_law_412 rfl ?_
  refine r_iload d_L_law_413 rfl ?_
  refine r_iconst d_L_law_415 ic_1 ?_
  refine r_iadd d_L_law_416 ?_
  refine r_scrI hS h d_L_law_417 (fun x85 h => ?_)
  refine r_invI [_] h (fun _ hq => s_X11_count hq) d_L_law_418 pl_L_68 py_X11_count pi_X11_count rfl rfl (g_room_of ⟨by omega, by omega, by omega, by omega⟩) (fun x88 n86 G87 h => ?_)
  refine r_icmp_eq h d_L_law_421 (fun h => ?_) (fun h => ?_)
  · refine r_iinc d_L_law_1054 rfl (ii_3 _) rfl rfl ?_
    refine r_goto d_L_law_1057 ?_
    refine r_lv [(0, .ref bS), (1, .ref v1), (2, .ref v2), (3, .ref v3), (4, .int (v4 + 3))] (g_allc rfl (g_allc rfl (g_allc rfl (g_allc rfl (g_allc rfl g_alln))))) ?_
    exact hrec23 _ _ (by omega) (by omega) _ _ _ _ h
  · refine r_iconst d_L_law_424 ic_0 ?_
    exact r_zret h d_L_law_425
set_option maxRecDepth 100000 in
set_option maxHeartbeats 4000000 in
theorem c_L_law_426 {E : GE} {F bS L : Nat} {xs : Nat → Int32} {rec23 : Int32 → Nat → GH → Option (Int32 × Nat × GH)} {v1 : Nat} {v2 : Nat} {v3 : Nat} {v4 : Int32} {n : Nat} {G : GH} {z : Int32 × Nat × GH} {Kk rc rs : Nat} (hX : ∀ U, E.2.2.2.2.2 U → x_Z E U) (hS : ∀ U, E.2.2.2.2.2 U → va_X bS L xs U (g_H E)) (hrc : 20 * (Kk + 1) ≤ rc) (hrs : 2000 * (Kk + 1) ≤ rs) (hrec23 : ∀ (rc rs : Nat), 20 * Kk ≤ rc → 2000 * Kk ≤ rs → ∀ (w4 : Int32) (n : Nat) (G : GH) (z : Int32 × Nat × GH), rec23 w4 n G = some z → WG E RL "law" cL_law 7 (some .boolean) 2048 84000 rc rs 23 [(0, .ref bS), (1, .ref v1), (2, .ref v2), (3, .ref v3), (4, .int w4)] [] n G (g_O E (some (.int z.1), z.2.1, z.2.2))) (h : k_L_law_426 F L xs rec23 v1 v2 v3 v4 n G = some z) : WG E RL "law" cL_law 7 (some .boolean) 2048 84000 rc rs 426 [(0, .ref bS), (1, .ref v1), (2, .ref v2), (3, .ref v3), (4, .int v4)] [] n G (g_O E (some (.int z.1), z.2.1, z.2.2)) := by
  unfold k_L_law_426 at h
  refine r_aload d_L_law_426 rfl ?_
  refine r_aload d_L_law_427 rfl ?_
  refine r_iload d_L_law_428 rfl ?_
  refine r_iconst d_L_law_430 ic_1 ?_
  refine r_iadd d_L_law_431 ?_
  refine r_scrI hS h d_L_law_432 (fun x89 h => ?_)
  refine r_aload d_L_law_433 rfl ?_
  refine r_iload d_L_law_434 rfl ?_
  refine r_iconst d_L_law_436 ic_2 ?_
  refine r_iadd d_L_law_437 ?_
  refine r_scrI hS h d_L_law_438 (fun x90 h => ?_)
  refine r_aload d_L_law_439 rfl ?_
  refine r_invSWI [_, _, _, _] h (fun _ hq => s_L_part hX hq) d_L_law_440 pw_L_part.1 pw_L_part.2.1 pw_L_part.2.2.1 ⟨by decide, by decide⟩ (show _ = some 4 by decide +kernel) pw_L_part.2.2.2 rfl rfl (g_room_of ⟨by omega, by omega, by omega, by omega⟩) (fun x93 n91 G92 h => ?_)
  refine r_istore d_L_law_443 rfl rfl ?_
  refine r_aload d_L_law_445 rfl ?_
  refine r_aload d_L_law_446 rfl ?_
  refine r_iload d_L_law_447 rfl ?_
  refine r_iconst d_L_law_449 ic_1 ?_
  refine r_iadd d_L_law_450 ?_
  refine r_scrI hS h d_L_law_451 (fun x94 h => ?_)
  refine r_aload d_L_law_452 rfl ?_
  refine r_iload d_L_law_453 rfl ?_
  refine r_iconst d_L_law_455 ic_2 ?_
  refine r_iadd d_L_law_456 ?_
  refine r_scrI hS h d_L_law_457 (fun x95 h => ?_)
  refine r_invI [_, _] h (fun _ hq => s_X11_part hq) d_L_law_458 pl_L_74 py_X11_part pi_X11_part rfl rfl (g_room_of ⟨by omega, by omega, by omega, by omega⟩) (fun x98 n96 G97 h => ?_)
  refine r_istore d_L_law_461 rfl rfl ?_
  refine r_aload d_L_law_463 rfl ?_
  refine r_invP [] h (fun _ hq => s_X11_thrown hq) d_L_law_464 pl_L_75 py_X11_thrown pi_X11_thrown rfl rfl (g_room_of ⟨by omega, by omega, by omega, by omega⟩) (fun x99 h => ?_)
  refine r_iload d_L_law_467 rfl ?_
  refine r_icmp_eq h d_L_law_469 (fun h => ?_) (fun h => ?_)
  · refine r_iload d_L_law_474 rfl ?_
    refine r_if_ne h d_L_law_476 (fun h => ?_) (fun h => ?_)
    · refine r_goto d_L_law_491 ?_
      refine r_iinc d_L_law_1054 rfl (ii_3 _) rfl rfl ?_
      refine r_goto d_L_law_1057 ?_
      refine r_lv [(0, .ref bS), (1, .ref v1), (2, .ref v2), (3, .ref v3), (4, .int (v4 + 3))] (g_allc rfl (g_allc rfl (g_allc rfl (g_allc rfl (g_allc rfl g_alln))))) ?_
      exact hrec23 _ _ (by omega) (by omega) _ _ _ _ h
    · refine r_aload d_L_law_479 rfl ?_
      refine r_iconst d_L_law_480 ic_0 ?_
      refine r_lald h d_L_law_481 (fun x100 h => ?_)
      refine r_iload d_L_law_482 rfl ?_
      refine r_i2l d_L_law_484 ?_
      refine r_lcmp d_L_law_485 ?_
      refine r_if_eq h d_L_law_486 (fun h => ?_) (fun h => ?_)
      · refine r_goto d_L_law_491 ?_
        refine r_iinc d_L_law_1054 rfl (ii_3 _) rfl rfl ?_
        refine r_goto d_L_law_1057 ?_
        refine r_lv [(0, .ref bS), (1, .ref v1), (2, .ref v2), (3, .ref v3), (4, .int (v4 + 3))] (g_allc rfl (g_allc rfl (g_allc rfl (g_allc rfl (g_allc rfl g_alln))))) ?_
        exact hrec23 _ _ (by omega) (by omega) _ _ _ _ h
      · refine r_iconst d_L_law_489 ic_0 ?_
        exact r_zret h d_L_law_490
  · refine r_iconst d_L_law_472 ic_0 ?_
    exact r_zret h d_L_law_473
set_option maxRecDepth 100000 in
set_option maxHeartbeats 4000000 in
theorem c_L_law_494 {E : GE} {F bS L : Nat} {xs : Nat → Int32} {rec23 : Int32 → Nat → GH → Option (Int32 × Nat × GH)} {v1 : Nat} {v2 : Nat} {v3 : Nat} {v4 : Int32} {n : Nat} {G : GH} {z : Int32 × Nat × GH} {Kk rc rs : Nat} (hX : ∀ U, E.2.2.2.2.2 U → x_Z E U) (hS : ∀ U, E.2.2.2.2.2 U → va_X bS L xs U (g_H E)) (hrc : 20 * (Kk + 1) ≤ rc) (hrs : 2000 * (Kk + 1) ≤ rs) (hrec23 : ∀ (rc rs : Nat), 20 * Kk ≤ rc → 2000 * Kk ≤ rs → ∀ (w4 : Int32) (n : Nat) (G : GH) (z : Int32 × Nat × GH), rec23 w4 n G = some z → WG E RL "law" cL_law 7 (some .boolean) 2048 84000 rc rs 23 [(0, .ref bS), (1, .ref v1), (2, .ref v2), (3, .ref v3), (4, .int w4)] [] n G (g_O E (some (.int z.1), z.2.1, z.2.2))) (h : k_L_law_494 F L xs rec23 v1 v2 v3 v4 n G = some z) : WG E RL "law" cL_law 7 (some .boolean) 2048 84000 rc rs 494 [(0, .ref bS), (1, .ref v1), (2, .ref v2), (3, .ref v3), (4, .int v4)] [] n G (g_O E (some (.int z.1), z.2.1, z.2.2)) := by
  unfold k_L_law_494 at h
  refine r_aload d_L_law_494 rfl ?_
  refine r_aload d_L_law_495 rfl ?_
  refine r_iload d_L_law_496 rfl ?_
  refine r_iconst d_L_law_498 ic_1 ?_
  refine r_iadd d_L_law_499 ?_
  refine r_scrI hS h d_L_law_500 (fun x101 h => ?_)
  refine r_aload d_L_law_501 rfl ?_
  refine r_iload d_L_law_502 rfl ?_
  refine r_iconst d_L_law_504 ic_2 ?_
  refine r_iadd d_L_law_505 ?_
  refine r_scrI hS h d_L_law_506 (fun x102 h => ?_)
  refine r_invP [_, _] h (fun _ hq => s_X10_need hq) d_L_law_507 pl_L_78 py_X10_need pi_X10_need rfl rfl (g_room_of ⟨by omega, by omega, by omega, by omega⟩) (fun x103 h => ?_)
  refine r_aload d_L_law_510 rfl ?_
  refine r_aload d_L_law_511 rfl ?_
  refine r_iload d_L_law_512 rfl ?_
  refine r_iconst d_L_law_514 ic_1 ?_
  refine r_iadd d_L_law_515 ?_
  refine r_scrI hS h d_L_law_516 (fun x104 h => ?_)
  refine r_aload d_L_law_517 rfl ?_
  refine r_iload d_L_law_518 rfl ?_
  refine r_iconst d_L_law_520 ic_2 ?_
  refine r_iadd d_L_law_521 ?_
  refine r_scrI hS h d_L_law_522 (fun x105 h => ?_)
  refine r_invI [_, _] h (fun _ hq => s_X11_need hq) d_L_law_523 pl_L_81 py_X11_need pi_X11_need rfl rfl (g_room_of ⟨by omega, by omega, by omega, by omega⟩) (fun x108 n106 G107 h => ?_)
  refine r_icmp_eq h d_L_law_526 (fun h => ?_) (fun h => ?_)
  · refine r_iinc d_L_law_1054 rfl (ii_3 _) rfl rfl ?_
    refine r_goto d_L_law_1057 ?_
    refine r_lv [(0, .ref bS), (1, .ref v1), (2, .ref v2), (3, .ref v3), (4, .int (v4 + 3))] (g_allc rfl (g_allc rfl (g_allc rfl (g_allc rfl (g_allc rfl g_alln))))) ?_
    exact hrec23 _ _ (by omega) (by omega) _ _ _ _ h
  · refine r_iconst d_L_law_529 ic_0 ?_
    exact r_zret h d_L_law_530
set_option maxRecDepth 100000 in
set_option maxHeartbeats 4000000 in
theorem c_L_law_531 {E : GE} {F bS L : Nat} {xs : Nat → Int32} {rec23 : Int32 → Nat → GH → Option (Int32 × Nat × GH)} {v1 : Nat} {v2 : Nat} {v3 : Nat} {v4 : Int32} {n : Nat} {G : GH} {z : Int32 × Nat × GH} {Kk rc rs : Nat} (hX : ∀ U, E.2.2.2.2.2 U → x_Z E U) (hS : ∀ U, E.2.2.2.2.2 U → va_X bS L xs U (g_H E)) (hrc : 20 * (Kk + 1) ≤ rc) (hrs : 2000 * (Kk + 1) ≤ rs) (hrec23 : ∀ (rc rs : Nat), 20 * Kk ≤ rc → 2000 * Kk ≤ rs → ∀ (w4 : Int32) (n : Nat) (G : GH) (z : Int32 × Nat × GH), rec23 w4 n G = some z → WG E RL "law" cL_law 7 (some .boolean) 2048 84000 rc rs 23 [(0, .ref bS), (1, .ref v1), (2, .ref v2), (3, .ref v3), (4, .int w4)] [] n G (g_O E (some (.int z.1), z.2.1, z.2.2))) (h : k_L_law_531 F L xs rec23 v1 v2 v3 v4 n G = some z) : WG E RL "law" cL_law 7 (some .boolean) 2048 84000 rc rs 531 [(0, .ref bS), (1, .ref v1), (2, .ref v2), (3, .ref v3), (4, .int v4)] [] n G (g_O E (some (.int z.1), z.2.1, z.2.2)) := by
  unfold k_L_law_531 at h
  refine r_aload d_L_law_531 rfl ?_
  refine r_aload d_L_law_532 rfl ?_
  refine r_iload d_L_law_533 rfl ?_
  refine r_iconst d_L_law_535 ic_1 ?_
  refine r_iadd d_L_law_536 ?_
  refine r_scrI hS h d_L_law_537 (fun x109 h => ?_)
  refine r_aload d_L_law_538 rfl ?_
  refine r_iload d_L_law_539 rfl ?_
  refine r_iconst d_L_law_541 ic_2 ?_
  refine r_iadd d_L_law_542 ?_
  refine r_scrI hS h d_L_law_543 (fun x110 h => ?_)
  refine r_aload d_L_law_544 rfl ?_
  refine r_invSWI [_, _, _, _] h (fun _ hq => s_L_thing hX hq) d_L_law_545 pw_L_thing.1 pw_L_thing.2.1 pw_L_thing.2.2.1 ⟨by decide, by decide⟩ (show _ = some 4 by decide +kernel) pw_L_thing.2.2.2 rfl rfl (g_room_of ⟨by omega, by omega, by omega, by omega⟩) (fun x113 n111 G112 h => ?_)
  refine r_istore d_L_law_548 rfl rfl ?_
  refine r_aload d_L_law_550 rfl ?_
  refine r_aload d_L_law_551 rfl ?_
  refine r_iload d_L_law_552 rfl ?_
  refine r_iconst d_L_law_554 ic_1 ?_
  refine r_iadd d_L_law_555 ?_
  refine r_scrI hS h d_L_law_556 (fun x114 h => ?_)
  refine r_aload d_L_law_557 rfl ?_
  refine r_iload d_L_law_558 rfl ?_
  refine r_iconst d_L_law_560 ic_2 ?_
  refine r_iadd d_L_law_561 ?_
  refine r_scrI hS h d_L_law_562 (fun x115 h => ?_)
  refine r_invI [_, _] h (fun _ hq => s_X11_thing hq) d_L_law_563 pl_L_84 py_X11_thing pi_X11_thing rfl rfl (g_room_of ⟨by omega, by omega, by omega, by omega⟩) (fun x118 n116 G117 h => ?_)
  refine r_istore d_L_law_566 rfl rfl ?_
  refine r_aload d_L_law_568 rfl ?_
  refine r_invP [] h (fun _ hq => s_X11_thrown hq) d_L_law_569 pl_L_75 py_X11_thrown pi_X11_thrown rfl rfl (g_room_of ⟨by omega, by omega, by omega, by omega⟩) (fun x119 h => ?_)
  refine r_iload d_L_law_572 rfl ?_
  refine r_icmp_eq h d_L_law_574 (fun h => ?_) (fun h => ?_)
  · refine r_iload d_L_law_579 rfl ?_
    refine r_if_ne h d_L_law_581 (fun h => ?_) (fun h => ?_)
    · refine r_goto d_L_law_596 ?_
      refine r_iinc d_L_law_1054 rfl (ii_3 _) rfl rfl ?_
      refine r_goto d_L_law_1057 ?_
      refine r_lv [(0, .ref bS), (1, .ref v1), (2, .ref v2), (3, .ref v3), (4, .int (v4 + 3))] (g_allc rfl (g_allc rfl (g_allc rfl (g_allc rfl (g_allc rfl g_alln))))) ?_
      exact hrec23 _ _ (by omega) (by omega) _ _ _ _ h
    · refine r_aload d_L_law_584 rfl ?_
      refine r_iconst d_L_law_585 ic_0 ?_
      refine r_lald h d_L_law_586 (fun x120 h => ?_)
      refine r_iload d_L_law_587 rfl ?_
      refine r_i2l d_L_law_589 ?_
      refine r_lcmp d_L_law_590 ?_
      refine r_if_eq h d_L_law_591 (fun h => ?_) (fun h => ?_)
      · refine r_goto d_L_law_596 ?_
        refine r_iinc d_L_law_1054 rfl (ii_3 _) rfl rfl ?_
        refine r_goto d_L_law_1057 ?_
        refine r_lv [(0, .ref bS), (1, .ref v1), (2, .ref v2), (3, .ref v3), (4, .int (v4 + 3))] (g_allc rfl (g_allc rfl (g_allc rfl (g_allc rfl (g_allc rfl g_alln))))) ?_
        exact hrec23 _ _ (by omega) (by omega) _ _ _ _ h
      · refine r_iconst d_L_law_594 ic_0 ?_
        exact r_zret h d_L_law_595
  · refine r_iconst d_L_law_577 ic_0 ?_
    exact r_zret h d_L_law_578
set_option maxRecDepth 100000 in
set_option maxHeartbeats 4000000 in
theorem c_L_law_599 {E : GE} {F bS L : Nat} {xs : Nat → Int32} {rec23 : Int32 → Nat → GH → Option (Int32 × Nat × GH)} {v1 : Nat} {v2 : Nat} {v3 : Nat} {v4 : Int32} {n : Nat} {G : GH} {z : Int32 × Nat × GH} {Kk rc rs : Nat} (hX : ∀ U, E.2.2.2.2.2 U → x_Z E U) (hS : ∀ U, E.2.2.2.2.2 U → va_X bS L xs U (g_H E)) (hrc : 20 * (Kk + 1) ≤ rc) (hrs : 2000 * (Kk + 1) ≤ rs) (hrec23 : ∀ (rc rs : Nat), 20 * Kk ≤ rc → 2000 * Kk ≤ rs → ∀ (w4 : Int32) (n : Nat) (G : GH) (z : Int32 × Nat × GH), rec23 w4 n G = some z → WG E RL "law" cL_law 7 (some .boolean) 2048 84000 rc rs 23 [(0, .ref bS), (1, .ref v1), (2, .ref v2), (3, .ref v3), (4, .int w4)] [] n G (g_O E (some (.int z.1), z.2.1, z.2.2))) (h : k_L_law_599 F L xs rec23 v1 v2 v3 v4 n G = some z) : WG E RL "law" cL_law 7 (some .boolean) 2048 84000 rc rs 599 [(0, .ref bS), (1, .ref v1), (2, .ref v2), (3, .ref v3), (4, .int v4)] [] n G (g_O E (some (.int z.1), z.2.1, z.2.2)) := by
  unfold k_L_law_599 at h
  refine r_aload d_L_law_599 rfl ?_
  refine r_aload d_L_law_600 rfl ?_
  refine r_iload d_L_law_601 rfl ?_
  refine r_iconst d_L_law_603 ic_1 ?_
  refine r_iadd d_L_law_604 ?_
  refine r_scrI hS h d_L_law_605 (fun x121 h => ?_)
  refine r_aload d_L_law_606 rfl ?_
  refine r_iload d_L_law_607 rfl ?_
  refine r_iconst d_L_law_609 ic_2 ?_
  refine r_iadd d_L_law_610 ?_
  refine r_scrI hS h d_L_law_611 (fun x122 h => ?_)
  refine r_invP [_, _] h (fun _ hq => s_X10_has hq) d_L_law_612 pl_L_85 py_X10_has pi_X10_has rfl rfl (g_room_of ⟨by omega, by omega, by omega, by omega⟩) (fun x123 h => ?_)
  refine r_aload d_L_law_615 rfl ?_
  refine r_aload d_L_law_616 rfl ?_
  refine r_iload d_L_law_617 rfl ?_
  refine r_iconst d_L_law_619 ic_1 ?_
  refine r_iadd d_L_law_620 ?_
  refine r_scrI hS h d_L_law_621 (fun x124 h => ?_)
  refine r_aload d_L_law_622 rfl ?_
  refine r_iload d_L_law_623 rfl ?_
  refine r_iconst d_L_law_625 ic_2 ?_
  refine r_iadd d_L_law_626 ?_
  refine r_scrI hS h d_L_law_627 (fun x125 h => ?_)
  refine r_invI [_, _] h (fun _ hq => s_X11_has hq) d_L_law_628 pl_L_88 py_X11_has pi_X11_has rfl rfl (g_room_of ⟨by omega, by omega, by omega, by omega⟩) (fun x128 n126 G127 h => ?_)
  refine r_icmp_eq h d_L_law_631 (fun h => ?_) (fun h => ?_)
  · refine r_iinc d_L_law_1054 rfl (ii_3 _) rfl rfl ?_
    refine r_goto d_L_law_1057 ?_
    refine r_lv [(0, .ref bS), (1, .ref v1), (2, .ref v2), (3, .ref v3), (4, .int (v4 + 3))] (g_allc rfl (g_allc rfl (g_allc rfl (g_allc rfl (g_allc rfl g_alln))))) ?_
    exact hrec23 _ _ (by omega) (by omega) _ _ _ _ h
  · refine r_iconst d_L_law_634 ic_0 ?_
    exact r_zret h d_L_law_635
set_option maxRecDepth 100000 in
set_option maxHeartbeats 4000000 in
theorem c_L_law_636 {E : GE} {F bS L : Nat} {xs : Nat → Int32} {rec23 : Int32 → Nat → GH → Option (Int32 × Nat × GH)} {v1 : Nat} {v2 : Nat} {v3 : Nat} {v4 : Int32} {n : Nat} {G : GH} {z : Int32 × Nat × GH} {Kk rc rs : Nat} (hX : ∀ U, E.2.2.2.2.2 U → x_Z E U) (hS : ∀ U, E.2.2.2.2.2 U → va_X bS L xs U (g_H E)) (hrc : 20 * (Kk + 1) ≤ rc) (hrs : 2000 * (Kk + 1) ≤ rs) (hrec23 : ∀ (rc rs : Nat), 20 * Kk ≤ rc → 2000 * Kk ≤ rs → ∀ (w4 : Int32) (n : Nat) (G : GH) (z : Int32 × Nat × GH), rec23 w4 n G = some z → WG E RL "law" cL_law 7 (some .boolean) 2048 84000 rc rs 23 [(0, .ref bS), (1, .ref v1), (2, .ref v2), (3, .ref v3), (4, .int w4)] [] n G (g_O E (some (.int z.1), z.2.1, z.2.2))) (h : k_L_law_636 F L xs rec23 v1 v2 v3 v4 n G = some z) : WG E RL "law" cL_law 7 (some .boolean) 2048 84000 rc rs 636 [(0, .ref bS), (1, .ref v1), (2, .ref v2), (3, .ref v3), (4, .int v4)] [] n G (g_O E (some (.int z.1), z.2.1, z.2.2)) := by
  unfold k_L_law_636 at h
  refine r_aload d_L_law_636 rfl ?_
  refine r_aload d_L_law_637 rfl ?_
  refine r_iload d_L_law_638 rfl ?_
  refine r_iconst d_L_law_640 ic_1 ?_
  refine r_iadd d_L_law_641 ?_
  refine r_scrI hS h d_L_law_642 (fun x129 h => ?_)
  refine r_aload d_L_law_643 rfl ?_
  refine r_iload d_L_law_644 rfl ?_
  refine r_iconst d_L_law_646 ic_2 ?_
  refine r_iadd d_L_law_647 ?_
  refine r_scrI hS h d_L_law_648 (fun x130 h => ?_)
  refine r_invP [_, _] h (fun _ hq => s_X10_stands hq) d_L_law_649 pl_L_89 py_X10_stands pi_X10_stands rfl rfl (g_room_of ⟨by omega, by omega, by omega, by omega⟩) (fun x131 h => ?_)
  refine r_aload d_L_law_652 rfl ?_
  refine r_aload d_L_law_653 rfl ?_
  refine r_iload d_L_law_654 rfl ?_
  refine r_iconst d_L_law_656 ic_1 ?_
  refine r_iadd d_L_law_657 ?_
  refine r_scrI hS h d_L_law_658 (fun x132 h => ?_)
  refine r_aload d_L_law_659 rfl ?_
  refine r_iload d_L_law_660 rfl ?_
  refine r_iconst d_L_law_662 ic_2 ?_
  refine r_iadd d_L_law_663 ?_
  refine r_scrI hS h d_L_law_664 (fun x133 h => ?_)
  refine r_invI [_, _] h (fun _ hq => s_X11_stands hq) d_L_law_665 pl_L_92 py_X11_stands pi_X11_stands rfl rfl (g_room_of ⟨by omega, by omega, by omega, by omega⟩) (fun x136 n134 G135 h => ?_)
  refine r_icmp_eq h d_L_law_668 (fun h => ?_) (fun h => ?_)
  · refine r_iinc d_L_law_1054 rfl (ii_3 _) rfl rfl ?_
    refine r_goto d_L_law_1057 ?_
    refine r_lv [(0, .ref bS), (1, .ref v1), (2, .ref v2), (3, .ref v3), (4, .int (v4 + 3))] (g_allc rfl (g_allc rfl (g_allc rfl (g_allc rfl (g_allc rfl g_alln))))) ?_
    exact hrec23 _ _ (by omega) (by omega) _ _ _ _ h
  · refine r_iconst d_L_law_671 ic_0 ?_
    exact r_zret h d_L_law_672
set_option maxRecDepth 100000 in
set_option maxHeartbeats 4000000 in
theorem c_L_law_673 {E : GE} {F bS L : Nat} {xs : Nat → Int32} {rec23 : Int32 → Nat → GH → Option (Int32 × Nat × GH)} {v1 : Nat} {v2 : Nat} {v3 : Nat} {v4 : Int32} {n : Nat} {G : GH} {z : Int32 × Nat × GH} {Kk rc rs : Nat} (hX : ∀ U, E.2.2.2.2.2 U → x_Z E U) (hS : ∀ U, E.2.2.2.2.2 U → va_X bS L xs U (g_H E)) (hrc : 20 * (Kk + 1) ≤ rc) (hrs : 2000 * (Kk + 1) ≤ rs) (hrec23 : ∀ (rc rs : Nat), 20 * Kk ≤ rc → 2000 * Kk ≤ rs → ∀ (w4 : Int32) (n : Nat) (G : GH) (z : Int32 × Nat × GH), rec23 w4 n G = some z → WG E RL "law" cL_law 7 (some .boolean) 2048 84000 rc rs 23 [(0, .ref bS), (1, .ref v1), (2, .ref v2), (3, .ref v3), (4, .int w4)] [] n G (g_O E (some (.int z.1), z.2.1, z.2.2))) (h : k_L_law_673 F L xs rec23 v1 v2 v3 v4 n G = some z) : WG E RL "law" cL_law 7 (some .boolean) 2048 84000 rc rs 673 [(0, .ref bS), (1, .ref v1), (2, .ref v2), (3, .ref v3), (4, .int v4)] [] n G (g_O E (some (.int z.1), z.2.1, z.2.2)) := by
  unfold k_L_law_673 at h
  refine r_aload d_L_law_673 rfl ?_
  refine r_aload d_L_law_674 rfl ?_
  refine r_iload d_L_law_675 rfl ?_
  refine r_iconst d_L_law_677 ic_1 ?_
  refine r_iadd d_L_law_678 ?_
  refine r_scrI hS h d_L_law_679 (fun x137 h => ?_)
  refine r_invP [_] h (fun _ hq => s_X10_why hq) d_L_law_680 pl_L_93 py_X10_why pi_X10_why rfl rfl (g_room_of ⟨by omega, by omega, by omega, by omega⟩) (fun x138 h => ?_)
  refine r_aload d_L_law_683 rfl ?_
  refine r_aload d_L_law_684 rfl ?_
  refine r_iload d_L_law_685 rfl ?_
  refine r_iconst d_L_law_687 ic_1 ?_
  refine r_iadd d_L_law_688 ?_
  refine r_scrI hS h d_L_law_689 (fun x139 h => ?_)
  refine r_invI [_] h (fun _ hq => s_X11_why hq) d_L_law_690 pl_L_96 py_X11_why pi_X11_why rfl rfl (g_room_of ⟨by omega, by omega, by omega, by omega⟩) (fun x142 n140 G141 h => ?_)
  refine r_icmp_eq h d_L_law_693 (fun h => ?_) (fun h => ?_)
  · refine r_iinc d_L_law_1054 rfl (ii_3 _) rfl rfl ?_
    refine r_goto d_L_law_1057 ?_
    refine r_lv [(0, .ref bS), (1, .ref v1), (2, .ref v2), (3, .ref v3), (4, .int (v4 + 3))] (g_allc rfl (g_allc rfl (g_allc rfl (g_allc rfl (g_allc rfl g_alln))))) ?_
    exact hrec23 _ _ (by omega) (by omega) _ _ _ _ h
  · refine r_iconst d_L_law_696 ic_0 ?_
    exact r_zret h d_L_law_697
set_option maxRecDepth 100000 in
set_option maxHeartbeats 4000000 in
theorem c_L_law_698 {E : GE} {F bS L : Nat} {xs : Nat → Int32} {rec23 : Int32 → Nat → GH → Option (Int32 × Nat × GH)} {v1 : Nat} {v2 : Nat} {v3 : Nat} {v4 : Int32} {n : Nat} {G : GH} {z : Int32 × Nat × GH} {Kk rc rs : Nat} (hX : ∀ U, E.2.2.2.2.2 U → x_Z E U) (hS : ∀ U, E.2.2.2.2.2 U → va_X bS L xs U (g_H E)) (hrc : 20 * (Kk + 1) ≤ rc) (hrs : 2000 * (Kk + 1) ≤ rs) (hrec23 : ∀ (rc rs : Nat), 20 * Kk ≤ rc → 2000 * Kk ≤ rs → ∀ (w4 : Int32) (n : Nat) (G : GH) (z : Int32 × Nat × GH), rec23 w4 n G = some z → WG E RL "law" cL_law 7 (some .boolean) 2048 84000 rc rs 23 [(0, .ref bS), (1, .ref v1), (2, .ref v2), (3, .ref v3), (4, .int w4)] [] n G (g_O E (some (.int z.1), z.2.1, z.2.2))) (h : k_L_law_698 F L xs rec23 v1 v2 v3 v4 n G = some z) : WG E RL "law" cL_law 7 (some .boolean) 2048 84000 rc rs 698 [(0, .ref bS), (1, .ref v1), (2, .ref v2), (3, .ref v3), (4, .int v4)] [] n G (g_O E (some (.int z.1), z.2.1, z.2.2)) := by
  unfold k_L_law_698 at h
  refine r_aload d_L_law_698 rfl ?_
  refine r_aload d_L_law_699 rfl ?_
  refine r_iload d_L_law_700 rfl ?_
  refine r_iconst d_L_law_702 ic_1 ?_
  refine r_iadd d_L_law_703 ?_
  refine r_scrI hS h d_L_law_704 (fun x143 h => ?_)
  refine r_aload d_L_law_705 rfl ?_
  refine r_iload d_L_law_706 rfl ?_
  refine r_iconst d_L_law_708 ic_2 ?_
  refine r_iadd d_L_law_709 ?_
  refine r_scrI hS h d_L_law_710 (fun x144 h => ?_)
  refine r_if_eq h d_L_law_711 (fun h => ?_) (fun h => ?_)
  · refine r_iconst d_L_law_718 ic_0 ?_
    refine r_invP [_, _] h (fun _ hq => s_X10_ended hq) d_L_law_719 pl_L_97 py_X10_ended pi_X10_ended rfl rfl (g_room_of ⟨by omega, by omega, by omega, by omega⟩) (fun x145 h => ?_)
    refine r_aload d_L_law_722 rfl ?_
    refine r_aload d_L_law_723 rfl ?_
    refine r_iload d_L_law_724 rfl ?_
    refine r_iconst d_L_law_726 ic_1 ?_
    refine r_iadd d_L_law_727 ?_
    refine r_scrI hS h d_L_law_728 (fun x146 h => ?_)
    refine r_aload d_L_law_729 rfl ?_
    refine r_iload d_L_law_730 rfl ?_
    refine r_iconst d_L_law_732 ic_2 ?_
    refine r_iadd d_L_law_733 ?_
    refine r_scrI hS h d_L_law_734 (fun x147 h => ?_)
    refine r_if_eq h d_L_law_735 (fun h => ?_) (fun h => ?_)
    · refine r_iconst d_L_law_742 ic_0 ?_
      refine r_invI [_, _] h (fun _ hq => s_X11_ended hq) d_L_law_743 pl_L_101 py_X11_ended pi_X11_ended rfl rfl (g_room_of ⟨by omega, by omega, by omega, by omega⟩) (fun x150 n148 G149 h => ?_)
      refine r_icmp_eq h d_L_law_746 (fun h => ?_) (fun h => ?_)
      · refine r_iinc d_L_law_1054 rfl (ii_3 _) rfl rfl ?_
        refine r_goto d_L_law_1057 ?_
        refine r_lv [(0, .ref bS), (1, .ref v1), (2, .ref v2), (3, .ref v3), (4, .int (v4 + 3))] (g_allc rfl (g_allc rfl (g_allc rfl (g_allc rfl (g_allc rfl g_alln))))) ?_
        exact hrec23 _ _ (by omega) (by omega) _ _ _ _ h
      · refine r_iconst d_L_law_749 ic_0 ?_
        exact r_zret h d_L_law_750
    · refine r_iconst d_L_law_738 ic_1 ?_
      refine r_goto d_L_law_739 ?_
      refine r_invI [_, _] h (fun _ hq => s_X11_ended hq) d_L_law_743 pl_L_101 py_X11_ended pi_X11_ended rfl rfl (g_room_of ⟨by omega, by omega, by omega, by omega⟩) (fun x153 n151 G152 h => ?_)
      refine r_icmp_eq h d_L_law_746 (fun h => ?_) (fun h => ?_)
      · refine r_iinc d_L_law_1054 rfl (ii_3 _) rfl rfl ?_
        refine r_goto d_L_law_1057 ?_
        refine r_lv [(0, .ref bS), (1, .ref v1), (2, .ref v2), (3, .ref v3), (4, .int (v4 + 3))] (g_allc rfl (g_allc rfl (g_allc rfl (g_allc rfl (g_allc rfl g_alln))))) ?_
        exact hrec23 _ _ (by omega) (by omega) _ _ _ _ h
      · refine r_iconst d_L_law_749 ic_0 ?_
        exact r_zret h d_L_law_750
  · refine r_iconst d_L_law_714 ic_1 ?_
    refine r_goto d_L_law_715 ?_
    refine r_invP [_, _] h (fun _ hq => s_X10_ended hq) d_L_law_719 pl_L_97 py_X10_ended pi_X10_ended rfl rfl (g_room_of ⟨by omega, by omega, by omega, by omega⟩) (fun x154 h => ?_)
    refine r_aload d_L_law_722 rfl ?_
    refine r_aload d_L_law_723 rfl ?_
    refine r_iload d_L_law_724 rfl ?_
    refine r_iconst d_L_law_726 ic_1 ?_
    refine r_iadd d_L_law_727 ?_
    refine r_scrI hS h d_L_law_728 (fun x155 h => ?_)
    refine r_aload d_L_law_729 rfl ?_
    refine r_iload d_L_law_730 rfl ?_
    refine r_iconst d_L_law_732 ic_2 ?_
    refine r_iadd d_L_law_733 ?_
    refine r_scrI hS h d_L_law_734 (fun x156 h => ?_)
    refine r_if_eq h d_L_law_735 (fun h => ?_) (fun h => ?_)
    · refine r_iconst d_L_law_742 ic_0 ?_
      refine r_invI [_, _] h (fun _ hq => s_X11_ended hq) d_L_law_743 pl_L_101 py_X11_ended pi_X11_ended rfl rfl (g_room_of ⟨by omega, by omega, by omega, by omega⟩) (fun x159 n157 G158 h => ?_)
      refine r_icmp_eq h d_L_law_746 (fun h => ?_) (fun h => ?_)
      · refine r_iinc d_L_law_1054 rfl (ii_3 _) rfl rfl ?_
        refine r_goto d_L_law_1057 ?_
        refine r_lv [(0, .ref bS), (1, .ref v1), (2, .ref v2), (3, .ref v3), (4, .int (v4 + 3))] (g_allc rfl (g_allc rfl (g_allc rfl (g_allc rfl (g_allc rfl g_alln))))) ?_
        exact hrec23 _ _ (by omega) (by omega) _ _ _ _ h
      · refine r_iconst d_L_law_749 ic_0 ?_
        exact r_zret h d_L_law_750
    · refine r_iconst d_L_law_738 ic_1 ?_
      refine r_goto d_L_law_739 ?_
      refine r_invI [_, _] h (fun _ hq => s_X11_ended hq) d_L_law_743 pl_L_101 py_X11_ended pi_X11_ended rfl rfl (g_room_of ⟨by omega, by omega, by omega, by omega⟩) (fun x162 n160 G161 h => ?_)
      refine r_icmp_eq h d_L_law_746 (fun h => ?_) (fun h => ?_)
      · refine r_iinc d_L_law_1054 rfl (ii_3 _) rfl rfl ?_
        refine r_goto d_L_law_1057 ?_
        refine r_lv [(0, .ref bS), (1, .ref v1), (2, .ref v2), (3, .ref v3), (4, .int (v4 + 3))] (g_allc rfl (g_allc rfl (g_allc rfl (g_allc rfl (g_allc rfl g_alln))))) ?_
        exact hrec23 _ _ (by omega) (by omega) _ _ _ _ h
      · refine r_iconst d_L_law_749 ic_0 ?_
        exact r_zret h d_L_law_750
set_option maxRecDepth 100000 in
set_option maxHeartbeats 4000000 in
theorem c_L_law_751 {E : GE} {F bS L : Nat} {xs : Nat → Int32} {rec23 : Int32 → Nat → GH → Option (Int32 × Nat × GH)} {v1 : Nat} {v2 : Nat} {v3 : Nat} {v4 : Int32} {n : Nat} {G : GH} {z : Int32 × Nat × GH} {Kk rc rs : Nat} (hX : ∀ U, E.2.2.2.2.2 U → x_Z E U) (hS : ∀ U, E.2.2.2.2.2 U → va_X bS L xs U (g_H E)) (hrc : 20 * (Kk + 1) ≤ rc) (hrs : 2000 * (Kk + 1) ≤ rs) (hrec23 : ∀ (rc rs : Nat), 20 * Kk ≤ rc → 2000 * Kk ≤ rs → ∀ (w4 : Int32) (n : Nat) (G : GH) (z : Int32 × Nat × GH), rec23 w4 n G = some z → WG E RL "law" cL_law 7 (some .boolean) 2048 84000 rc rs 23 [(0, .ref bS), (1, .ref v1), (2, .ref v2), (3, .ref v3), (4, .int w4)] [] n G (g_O E (some (.int z.1), z.2.1, z.2.2))) (h : k_L_law_751 F L xs rec23 v1 v2 v3 v4 n G = some z) : WG E RL "law" cL_law 7 (some .boolean) 2048 84000 rc rs 751 [(0, .ref bS), (1, .ref v1), (2, .ref v2), (3, .ref v3), (4, .int v4)] [] n G (g_O E (some (.int z.1), z.2.1, z.2.2)) := by
  unfold k_L_law_751 at h
  refine r_aload d_L_law_751 rfl ?_
  refine r_aload d_L_law_752 rfl ?_
  refine r_iload d_L_law_753 rfl ?_
  refine r_iconst d_L_law_755 ic_1 ?_
  refine r_iadd d_L_law_756 ?_
  refine r_scrI hS h d_L_law_757 (fun x163 h => ?_)
  refine r_invI [_] h (fun _ hq => s_X10_start hq) d_L_law_758 pl_L_102 py_X10_start pi_X10_start rfl rfl (g_room_of ⟨by omega, by omega, by omega, by omega⟩) (fun x166 n164 G165 h => ?_)
  refine r_aload d_L_law_761 rfl ?_
  refine r_aload d_L_law_762 rfl ?_
  refine r_iload d_L_law_763 rfl ?_
  refine r_iconst d_L_law_765 ic_1 ?_
  refine r_iadd d_L_law_766 ?_
  refine r_scrI hS h d_L_law_767 (fun x167 h => ?_)
  refine r_invI [_] h (fun _ hq => s_X11_start hq) d_L_law_768 pl_L_105 py_X11_start pi_X11_start rfl rfl (g_room_of ⟨by omega, by omega, by omega, by omega⟩) (fun x170 n168 G169 h => ?_)
  refine r_icmp_eq h d_L_law_771 (fun h => ?_) (fun h => ?_)
  · refine r_iinc d_L_law_1054 rfl (ii_3 _) rfl rfl ?_
    refine r_goto d_L_law_1057 ?_
    refine r_lv [(0, .ref bS), (1, .ref v1), (2, .ref v2), (3, .ref v3), (4, .int (v4 + 3))] (g_allc rfl (g_allc rfl (g_allc rfl (g_allc rfl (g_allc rfl g_alln))))) ?_
    exact hrec23 _ _ (by omega) (by omega) _ _ _ _ h
  · refine r_iconst d_L_law_774 ic_0 ?_
    exact r_zret h d_L_law_775
set_option maxRecDepth 100000 in
set_option maxHeartbeats 4000000 in
theorem c_L_law_776 {E : GE} {F bS L : Nat} {xs : Nat → Int32} {rec23 : Int32 → Nat → GH → Option (Int32 × Nat × GH)} {v1 : Nat} {v2 : Nat} {v3 : Nat} {v4 : Int32} {n : Nat} {G : GH} {z : Int32 × Nat × GH} {Kk rc rs : Nat} (hX : ∀ U, E.2.2.2.2.2 U → x_Z E U) (hS : ∀ U, E.2.2.2.2.2 U → va_X bS L xs U (g_H E)) (hrc : 20 * (Kk + 1) ≤ rc) (hrs : 2000 * (Kk + 1) ≤ rs) (hrec23 : ∀ (rc rs : Nat), 20 * Kk ≤ rc → 2000 * Kk ≤ rs → ∀ (w4 : Int32) (n : Nat) (G : GH) (z : Int32 × Nat × GH), rec23 w4 n G = some z → WG E RL "law" cL_law 7 (some .boolean) 2048 84000 rc rs 23 [(0, .ref bS), (1, .ref v1), (2, .ref v2), (3, .ref v3), (4, .int w4)] [] n G (g_O E (some (.int z.1), z.2.1, z.2.2))) (h : k_L_law_776 F L xs rec23 v1 v2 v3 v4 n G = some z) : WG E RL "law" cL_law 7 (some .boolean) 2048 84000 rc rs 776 [(0, .ref bS), (1, .ref v1), (2, .ref v2), (3, .ref v3), (4, .int v4)] [] n G (g_O E (some (.int z.1), z.2.1, z.2.2)) := by
  unfold k_L_law_776 at h
  refine r_aload d_L_law_776 rfl ?_
  refine r_aload d_L_law_777 rfl ?_
  refine r_iload d_L_law_778 rfl ?_
  refine r_iconst d_L_law_780 ic_1 ?_
  refine r_iadd d_L_law_781 ?_
  refine r_scrI hS h d_L_law_782 (fun x171 h => ?_)
  refine r_invI [_] h (fun _ hq => s_X10_loop hq) d_L_law_783 pl_L_106 py_X10_loop pi_X10_loop rfl rfl (g_room_of ⟨by omega, by omega, by omega, by omega⟩) (fun x174 n172 G173 h => ?_)
  refine r_aload d_L_law_786 rfl ?_
  refine r_aload d_L_law_787 rfl ?_
  refine r_iload d_L_law_788 rfl ?_
  refine r_iconst d_L_law_790 ic_1 ?_
  refine r_iadd d_L_law_791 ?_
  refine r_scrI hS h d_L_law_792 (fun x175 h => ?_)
  refine r_invI [_] h (fun _ hq => s_X11_loop hq) d_L_law_793 pl_L_109 py_X11_loop pi_X11_loop rfl rfl (g_room_of ⟨by omega, by omega, by omega, by omega⟩) (fun x178 n176 G177 h => ?_)
  refine r_icmp_eq h d_L_law_796 (fun h => ?_) (fun h => ?_)
  · refine r_iinc d_L_law_1054 rfl (ii_3 _) rfl rfl ?_
    refine r_goto d_L_law_1057 ?_
    refine r_lv [(0, .ref bS), (1, .ref v1), (2, .ref v2), (3, .ref v3), (4, .int (v4 + 3))] (g_allc rfl (g_allc rfl (g_allc rfl (g_allc rfl (g_allc rfl g_alln))))) ?_
    exact hrec23 _ _ (by omega) (by omega) _ _ _ _ h
  · refine r_iconst d_L_law_799 ic_0 ?_
    exact r_zret h d_L_law_800
set_option maxRecDepth 100000 in
set_option maxHeartbeats 4000000 in
theorem c_L_law_801 {E : GE} {F bS L : Nat} {xs : Nat → Int32} {rec23 : Int32 → Nat → GH → Option (Int32 × Nat × GH)} {v1 : Nat} {v2 : Nat} {v3 : Nat} {v4 : Int32} {n : Nat} {G : GH} {z : Int32 × Nat × GH} {Kk rc rs : Nat} (hX : ∀ U, E.2.2.2.2.2 U → x_Z E U) (hS : ∀ U, E.2.2.2.2.2 U → va_X bS L xs U (g_H E)) (hrc : 20 * (Kk + 1) ≤ rc) (hrs : 2000 * (Kk + 1) ≤ rs) (hrec23 : ∀ (rc rs : Nat), 20 * Kk ≤ rc → 2000 * Kk ≤ rs → ∀ (w4 : Int32) (n : Nat) (G : GH) (z : Int32 × Nat × GH), rec23 w4 n G = some z → WG E RL "law" cL_law 7 (some .boolean) 2048 84000 rc rs 23 [(0, .ref bS), (1, .ref v1), (2, .ref v2), (3, .ref v3), (4, .int w4)] [] n G (g_O E (some (.int z.1), z.2.1, z.2.2))) (h : k_L_law_801 F L xs rec23 v1 v2 v3 v4 n G = some z) : WG E RL "law" cL_law 7 (some .boolean) 2048 84000 rc rs 801 [(0, .ref bS), (1, .ref v1), (2, .ref v2), (3, .ref v3), (4, .int v4)] [] n G (g_O E (some (.int z.1), z.2.1, z.2.2)) := by
  unfold k_L_law_801 at h
  refine r_aload d_L_law_801 rfl ?_
  refine r_aload d_L_law_802 rfl ?_
  refine r_iload d_L_law_803 rfl ?_
  refine r_iconst d_L_law_805 ic_1 ?_
  refine r_iadd d_L_law_806 ?_
  refine r_scrI hS h d_L_law_807 (fun x179 h => ?_)
  refine r_aload d_L_law_808 rfl ?_
  refine r_iload d_L_law_809 rfl ?_
  refine r_iconst d_L_law_811 ic_2 ?_
  refine r_iadd d_L_law_812 ?_
  refine r_scrI hS h d_L_law_813 (fun x180 h => ?_)
  refine r_if_eq h d_L_law_814 (fun h => ?_) (fun h => ?_)
  · refine r_iconst d_L_law_821 ic_0 ?_
    refine r_invI [_, _] h (fun _ hq => s_X10_needs hq) d_L_law_822 pl_L_110 py_X10_needs pi_X10_needs rfl rfl (g_room_of ⟨by omega, by omega, by omega, by omega⟩) (fun x183 n181 G182 h => ?_)
    refine r_aload d_L_law_825 rfl ?_
    refine r_aload d_L_law_826 rfl ?_
    refine r_iload d_L_law_827 rfl ?_
    refine r_iconst d_L_law_829 ic_1 ?_
    refine r_iadd d_L_law_830 ?_
    refine r_scrI hS h d_L_law_831 (fun x184 h => ?_)
    refine r_aload d_L_law_832 rfl ?_
    refine r_iload d_L_law_833 rfl ?_
    refine r_iconst d_L_law_835 ic_2 ?_
    refine r_iadd d_L_law_836 ?_
    refine r_scrI hS h d_L_law_837 (fun x185 h => ?_)
    refine r_if_eq h d_L_law_838 (fun h => ?_) (fun h => ?_)
    · refine r_iconst d_L_law_845 ic_0 ?_
      refine r_invI [_, _] h (fun _ hq => s_X11_needs hq) d_L_law_846 pl_L_113 py_X11_needs pi_X11_needs rfl rfl (g_room_of ⟨by omega, by omega, by omega, by omega⟩) (fun x188 n186 G187 h => ?_)
      refine r_icmp_eq h d_L_law_849 (fun h => ?_) (fun h => ?_)
      · refine r_iinc d_L_law_1054 rfl (ii_3 _) rfl rfl ?_
        refine r_goto d_L_law_1057 ?_
        refine r_lv [(0, .ref bS), (1, .ref v1), (2, .ref v2), (3, .ref v3), (4, .int (v4 + 3))] (g_allc rfl (g_allc rfl (g_allc rfl (g_allc rfl (g_allc rfl g_alln))))) ?_
        exact hrec23 _ _ (by omega) (by omega) _ _ _ _ h
      · refine r_iconst d_L_law_852 ic_0 ?_
        exact r_zret h d_L_law_853
    · refine r_iconst d_L_law_841 ic_1 ?_
      refine r_goto d_L_law_842 ?_
      refine r_invI [_, _] h (fun _ hq => s_X11_needs hq) d_L_law_846 pl_L_113 py_X11_needs pi_X11_needs rfl rfl (g_room_of ⟨by omega, by omega, by omega, by omega⟩) (fun x191 n189 G190 h => ?_)
      refine r_icmp_eq h d_L_law_849 (fun h => ?_) (fun h => ?_)
      · refine r_iinc d_L_law_1054 rfl (ii_3 _) rfl rfl ?_
        refine r_goto d_L_law_1057 ?_
        refine r_lv [(0, .ref bS), (1, .ref v1), (2, .ref v2), (3, .ref v3), (4, .int (v4 + 3))] (g_allc rfl (g_allc rfl (g_allc rfl (g_allc rfl (g_allc rfl g_alln))))) ?_
        exact hrec23 _ _ (by omega) (by omega) _ _ _ _ h
      · refine r_iconst d_L_law_852 ic_0 ?_
        exact r_zret h d_L_law_853
  · refine r_iconst d_L_law_817 ic_1 ?_
    refine r_goto d_L_law_818 ?_
    refine r_invI [_, _] h (fun _ hq => s_X10_needs hq) d_L_law_822 pl_L_110 py_X10_needs pi_X10_needs rfl rfl (g_room_of ⟨by omega, by omega, by omega, by omega⟩) (fun x194 n192 G193 h => ?_)
    refine r_aload d_L_law_825 rfl ?_
    refine r_aload d_L_law_826 rfl ?_
    refine r_iload d_L_law_827 rfl ?_
    refine r_iconst d_L_law_829 ic_1 ?_
    refine r_iadd d_L_law_830 ?_
    refine r_scrI hS h d_L_law_831 (fun x195 h => ?_)
    refine r_aload d_L_law_832 rfl ?_
    refine r_iload d_L_law_833 rfl ?_
    refine r_iconst d_L_law_835 ic_2 ?_
    refine r_iadd d_L_law_836 ?_
    refine r_scrI hS h d_L_law_837 (fun x196 h => ?_)
    refine r_if_eq h d_L_law_838 (fun h => ?_) (fun h => ?_)
    · refine r_iconst d_L_law_845 ic_0 ?_
      refine r_invI [_, _] h (fun _ hq => s_X11_needs hq) d_L_law_846 pl_L_113 py_X11_needs pi_X11_needs rfl rfl (g_room_of ⟨by omega, by omega, by omega, by omega⟩) (fun x199 n197 G198 h => ?_)
      refine r_icmp_eq h d_L_law_849 (fun h => ?_) (fun h => ?_)
      · refine r_iinc d_L_law_1054 rfl (ii_3 _) rfl rfl ?_
        refine r_goto d_L_law_1057 ?_
        refine r_lv [(0, .ref bS), (1, .ref v1), (2, .ref v2), (3, .ref v3), (4, .int (v4 + 3))] (g_allc rfl (g_allc rfl (g_allc rfl (g_allc rfl (g_allc rfl g_alln))))) ?_
        exact hrec23 _ _ (by omega) (by omega) _ _ _ _ h
      · refine r_iconst d_L_law_852 ic_0 ?_
        exact r_zret h d_L_law_853
    · refine r_iconst d_L_law_841 ic_1 ?_
      refine r_goto d_L_law_842 ?_
      refine r_invI [_, _] h (fun _ hq => s_X11_needs hq) d_L_law_846 pl_L_113 py_X11_needs pi_X11_needs rfl rfl (g_room_of ⟨by omega, by omega, by omega, by omega⟩) (fun x202 n200 G201 h => ?_)
      refine r_icmp_eq h d_L_law_849 (fun h => ?_) (fun h => ?_)
      · refine r_iinc d_L_law_1054 rfl (ii_3 _) rfl rfl ?_
        refine r_goto d_L_law_1057 ?_
        refine r_lv [(0, .ref bS), (1, .ref v1), (2, .ref v2), (3, .ref v3), (4, .int (v4 + 3))] (g_allc rfl (g_allc rfl (g_allc rfl (g_allc rfl (g_allc rfl g_alln))))) ?_
        exact hrec23 _ _ (by omega) (by omega) _ _ _ _ h
      · refine r_iconst d_L_law_852 ic_0 ?_
        exact r_zret h d_L_law_853
set_option maxRecDepth 100000 in
set_option maxHeartbeats 4000000 in
theorem c_L_law_854 {E : GE} {F bS L : Nat} {xs : Nat → Int32} {rec23 : Int32 → Nat → GH → Option (Int32 × Nat × GH)} {v1 : Nat} {v2 : Nat} {v3 : Nat} {v4 : Int32} {n : Nat} {G : GH} {z : Int32 × Nat × GH} {Kk rc rs : Nat} (hX : ∀ U, E.2.2.2.2.2 U → x_Z E U) (hS : ∀ U, E.2.2.2.2.2 U → va_X bS L xs U (g_H E)) (hrc : 20 * (Kk + 1) ≤ rc) (hrs : 2000 * (Kk + 1) ≤ rs) (hrec23 : ∀ (rc rs : Nat), 20 * Kk ≤ rc → 2000 * Kk ≤ rs → ∀ (w4 : Int32) (n : Nat) (G : GH) (z : Int32 × Nat × GH), rec23 w4 n G = some z → WG E RL "law" cL_law 7 (some .boolean) 2048 84000 rc rs 23 [(0, .ref bS), (1, .ref v1), (2, .ref v2), (3, .ref v3), (4, .int w4)] [] n G (g_O E (some (.int z.1), z.2.1, z.2.2))) (h : k_L_law_854 F L xs rec23 v1 v2 v3 v4 n G = some z) : WG E RL "law" cL_law 7 (some .boolean) 2048 84000 rc rs 854 [(0, .ref bS), (1, .ref v1), (2, .ref v2), (3, .ref v3), (4, .int v4)] [] n G (g_O E (some (.int z.1), z.2.1, z.2.2)) := by
  unfold k_L_law_854 at h
  refine r_aload d_L_law_854 rfl ?_
  refine r_aload d_L_law_855 rfl ?_
  refine r_iload d_L_law_856 rfl ?_
  refine r_iconst d_L_law_858 ic_1 ?_
  refine r_iadd d_L_law_859 ?_
  refine r_scrI hS h d_L_law_860 (fun x203 h => ?_)
  refine r_aload d_L_law_861 rfl ?_
  refine r_iload d_L_law_862 rfl ?_
  refine r_iconst d_L_law_864 ic_2 ?_
  refine r_iadd d_L_law_865 ?_
  refine r_scrI hS h d_L_law_866 (fun x204 h => ?_)
  refine r_invI [_, _] h (fun _ hq => s_X10_would hq) d_L_law_867 pl_L_114 py_X10_would pi_X10_would rfl rfl (g_room_of ⟨by omega, by omega, by omega, by omega⟩) (fun x207 n205 G206 h => ?_)
  refine r_aload d_L_law_870 rfl ?_
  refine r_aload d_L_law_871 rfl ?_
  refine r_iload d_L_law_872 rfl ?_
  refine r_iconst d_L_law_874 ic_1 ?_
  refine r_iadd d_L_law_875 ?_
  refine r_scrI hS h d_L_law_876 (fun x208 h => ?_)
  refine r_aload d_L_law_877 rfl ?_
  refine r_iload d_L_law_878 rfl ?_
  refine r_iconst d_L_law_880 ic_2 ?_
  refine r_iadd d_L_law_881 ?_
  refine r_scrI hS h d_L_law_882 (fun x209 h => ?_)
  refine r_invI [_, _] h (fun _ hq => s_X11_would hq) d_L_law_883 pl_L_117 py_X11_would pi_X11_would rfl rfl (g_room_of ⟨by omega, by omega, by omega, by omega⟩) (fun x212 n210 G211 h => ?_)
  refine r_icmp_eq h d_L_law_886 (fun h => ?_) (fun h => ?_)
  · refine r_iinc d_L_law_1054 rfl (ii_3 _) rfl rfl ?_
    refine r_goto d_L_law_1057 ?_
    refine r_lv [(0, .ref bS), (1, .ref v1), (2, .ref v2), (3, .ref v3), (4, .int (v4 + 3))] (g_allc rfl (g_allc rfl (g_allc rfl (g_allc rfl (g_allc rfl g_alln))))) ?_
    exact hrec23 _ _ (by omega) (by omega) _ _ _ _ h
  · refine r_iconst d_L_law_889 ic_0 ?_
    exact r_zret h d_L_law_890
set_option maxRecDepth 100000 in
set_option maxHeartbeats 4000000 in
theorem c_L_law_891 {E : GE} {F bS L : Nat} {xs : Nat → Int32} {rec23 : Int32 → Nat → GH → Option (Int32 × Nat × GH)} {v1 : Nat} {v2 : Nat} {v3 : Nat} {v4 : Int32} {n : Nat} {G : GH} {z : Int32 × Nat × GH} {Kk rc rs : Nat} (hX : ∀ U, E.2.2.2.2.2 U → x_Z E U) (hS : ∀ U, E.2.2.2.2.2 U → va_X bS L xs U (g_H E)) (hrc : 20 * (Kk + 1) ≤ rc) (hrs : 2000 * (Kk + 1) ≤ rs) (hrec23 : ∀ (rc rs : Nat), 20 * Kk ≤ rc → 2000 * Kk ≤ rs → ∀ (w4 : Int32) (n : Nat) (G : GH) (z : Int32 × Nat × GH), rec23 w4 n G = some z → WG E RL "law" cL_law 7 (some .boolean) 2048 84000 rc rs 23 [(0, .ref bS), (1, .ref v1), (2, .ref v2), (3, .ref v3), (4, .int w4)] [] n G (g_O E (some (.int z.1), z.2.1, z.2.2))) (h : k_L_law_891 F L xs rec23 v1 v2 v3 v4 n G = some z) : WG E RL "law" cL_law 7 (some .boolean) 2048 84000 rc rs 891 [(0, .ref bS), (1, .ref v1), (2, .ref v2), (3, .ref v3), (4, .int v4)] [] n G (g_O E (some (.int z.1), z.2.1, z.2.2)) := by
  unfold k_L_law_891 at h
  refine r_aload d_L_law_891 rfl ?_
  refine r_aload d_L_law_892 rfl ?_
  refine r_iload d_L_law_893 rfl ?_
  refine r_iconst d_L_law_895 ic_1 ?_
  refine r_iadd d_L_law_896 ?_
  refine r_scrI hS h d_L_law_897 (fun x213 h => ?_)
  refine r_invI [_] h (fun _ hq => s_X10_worth hq) d_L_law_898 pl_L_118 py_X10_worth pi_X10_worth rfl rfl (g_room_of ⟨by omega, by omega, by omega, by omega⟩) (fun x216 n214 G215 h => ?_)
  refine r_aload d_L_law_901 rfl ?_
  refine r_aload d_L_law_902 rfl ?_
  refine r_iload d_L_law_903 rfl ?_
  refine r_iconst d_L_law_905 ic_1 ?_
  refine r_iadd d_L_law_906 ?_
  refine r_scrI hS h d_L_law_907 (fun x217 h => ?_)
  refine r_invI [_] h (fun _ hq => s_X11_worth hq) d_L_law_908 pl_L_121 py_X11_worth pi_X11_worth rfl rfl (g_room_of ⟨by omega, by omega, by omega, by omega⟩) (fun x220 n218 G219 h => ?_)
  refine r_icmp_eq h d_L_law_911 (fun h => ?_) (fun h => ?_)
  · refine r_iinc d_L_law_1054 rfl (ii_3 _) rfl rfl ?_
    refine r_goto d_L_law_1057 ?_
    refine r_lv [(0, .ref bS), (1, .ref v1), (2, .ref v2), (3, .ref v3), (4, .int (v4 + 3))] (g_allc rfl (g_allc rfl (g_allc rfl (g_allc rfl (g_allc rfl g_alln))))) ?_
    exact hrec23 _ _ (by omega) (by omega) _ _ _ _ h
  · refine r_iconst d_L_law_914 ic_0 ?_
    exact r_zret h d_L_law_915
set_option maxRecDepth 100000 in
set_option maxHeartbeats 4000000 in
theorem c_L_law_916 {E : GE} {F bS L : Nat} {xs : Nat → Int32} {rec23 : Int32 → Nat → GH → Option (Int32 × Nat × GH)} {v1 : Nat} {v2 : Nat} {v3 : Nat} {v4 : Int32} {n : Nat} {G : GH} {z : Int32 × Nat × GH} {Kk rc rs : Nat} (hX : ∀ U, E.2.2.2.2.2 U → x_Z E U) (hS : ∀ U, E.2.2.2.2.2 U → va_X bS L xs U (g_H E)) (hrc : 20 * (Kk + 1) ≤ rc) (hrs : 2000 * (Kk + 1) ≤ rs) (hrec23 : ∀ (rc rs : Nat), 20 * Kk ≤ rc → 2000 * Kk ≤ rs → ∀ (w4 : Int32) (n : Nat) (G : GH) (z : Int32 × Nat × GH), rec23 w4 n G = some z → WG E RL "law" cL_law 7 (some .boolean) 2048 84000 rc rs 23 [(0, .ref bS), (1, .ref v1), (2, .ref v2), (3, .ref v3), (4, .int w4)] [] n G (g_O E (some (.int z.1), z.2.1, z.2.2))) (h : k_L_law_916 F L xs rec23 v1 v2 v3 v4 n G = some z) : WG E RL "law" cL_law 7 (some .boolean) 2048 84000 rc rs 916 [(0, .ref bS), (1, .ref v1), (2, .ref v2), (3, .ref v3), (4, .int v4)] [] n G (g_O E (some (.int z.1), z.2.1, z.2.2)) := by
  unfold k_L_law_916 at h
  refine r_aload d_L_law_916 rfl ?_
  refine r_invI [] h (fun _ hq => s_X10_deep hq) d_L_law_917 pl_L_122 py_X10_deep pi_X10_deep rfl rfl (g_room_of ⟨by omega, by omega, by omega, by omega⟩) (fun x223 n221 G222 h => ?_)
  refine r_aload d_L_law_920 rfl ?_
  refine r_invI [] h (fun _ hq => s_X11_deep hq) d_L_law_921 pl_L_125 py_X11_deep pi_X11_deep rfl rfl (g_room_of ⟨by omega, by omega, by omega, by omega⟩) (fun x226 n224 G225 h => ?_)
  refine r_icmp_eq h d_L_law_924 (fun h => ?_) (fun h => ?_)
  · refine r_iinc d_L_law_1054 rfl (ii_3 _) rfl rfl ?_
    refine r_goto d_L_law_1057 ?_
    refine r_lv [(0, .ref bS), (1, .ref v1), (2, .ref v2), (3, .ref v3), (4, .int (v4 + 3))] (g_allc rfl (g_allc rfl (g_allc rfl (g_allc rfl (g_allc rfl g_alln))))) ?_
    exact hrec23 _ _ (by omega) (by omega) _ _ _ _ h
  · refine r_iconst d_L_law_927 ic_0 ?_
    exact r_zret h d_L_law_928
set_option maxRecDepth 100000 in
set_option maxHeartbeats 4000000 in
theorem c_L_law_929 {E : GE} {F bS L : Nat} {xs : Nat → Int32} {rec23 : Int32 → Nat → GH → Option (Int32 × Nat × GH)} {v1 : Nat} {v2 : Nat} {v3 : Nat} {v4 : Int32} {n : Nat} {G : GH} {z : Int32 × Nat × GH} {Kk rc rs : Nat} (hX : ∀ U, E.2.2.2.2.2 U → x_Z E U) (hS : ∀ U, E.2.2.2.2.2 U → va_X bS L xs U (g_H E)) (hrc : 20 * (Kk + 1) ≤ rc) (hrs : 2000 * (Kk + 1) ≤ rs) (hrec23 : ∀ (rc rs : Nat), 20 * Kk ≤ rc → 2000 * Kk ≤ rs → ∀ (w4 : Int32) (n : Nat) (G : GH) (z : Int32 × Nat × GH), rec23 w4 n G = some z → WG E RL "law" cL_law 7 (some .boolean) 2048 84000 rc rs 23 [(0, .ref bS), (1, .ref v1), (2, .ref v2), (3, .ref v3), (4, .int w4)] [] n G (g_O E (some (.int z.1), z.2.1, z.2.2))) (h : k_L_law_929 F L xs rec23 v1 v2 v3 v4 n G = some z) : WG E RL "law" cL_law 7 (some .boolean) 2048 84000 rc rs 929 [(0, .ref bS), (1, .ref v1), (2, .ref v2), (3, .ref v3), (4, .int v4)] [] n G (g_O E (some (.int z.1), z.2.1, z.2.2)) := by
  unfold k_L_law_929 at h
  refine r_aload d_L_law_929 rfl ?_
  refine r_aload d_L_law_930 rfl ?_
  refine r_iload d_L_law_931 rfl ?_
  refine r_iconst d_L_law_933 ic_1 ?_
  refine r_iadd d_L_law_934 ?_
  refine r_scrI hS h d_L_law_935 (fun x227 h => ?_)
  refine r_invI [_] h (fun _ hq => s_X10_wave hq) d_L_law_936 pl_L_126 py_X10_wave pi_X10_wave rfl rfl (g_room_of ⟨by omega, by omega, by omega, by omega⟩) (fun x230 n228 G229 h => ?_)
  refine r_aload d_L_law_939 rfl ?_
  refine r_aload d_L_law_940 rfl ?_
  refine r_iload d_L_law_941 rfl ?_
  refine r_iconst d_L_law_943 ic_1 ?_
  refine r_iadd d_L_law_944 ?_
  refine r_scrI hS h d_L_law_945 (fun x231 h => ?_)
  refine r_invI [_] h (fun _ hq => s_X11_wave hq) d_L_law_946 pl_L_129 py_X11_wave pi_X11_wave rfl rfl (g_room_of ⟨by omega, by omega, by omega, by omega⟩) (fun x234 n232 G233 h => ?_)
  refine r_icmp_eq h d_L_law_949 (fun h => ?_) (fun h => ?_)
  · refine r_iinc d_L_law_1054 rfl (ii_3 _) rfl rfl ?_
    refine r_goto d_L_law_1057 ?_
    refine r_lv [(0, .ref bS), (1, .ref v1), (2, .ref v2), (3, .ref v3), (4, .int (v4 + 3))] (g_allc rfl (g_allc rfl (g_allc rfl (g_allc rfl (g_allc rfl g_alln))))) ?_
    exact hrec23 _ _ (by omega) (by omega) _ _ _ _ h
  · refine r_iconst d_L_law_952 ic_0 ?_
    exact r_zret h d_L_law_953
set_option maxRecDepth 100000 in
set_option maxHeartbeats 4000000 in
theorem c_L_law_954 {E : GE} {F bS L : Nat} {xs : Nat → Int32} {rec23 : Int32 → Nat → GH → Option (Int32 × Nat × GH)} {v1 : Nat} {v2 : Nat} {v3 : Nat} {v4 : Int32} {n : Nat} {G : GH} {z : Int32 × Nat × GH} {Kk rc rs : Nat} (hX : ∀ U, E.2.2.2.2.2 U → x_Z E U) (hS : ∀ U, E.2.2.2.2.2 U → va_X bS L xs U (g_H E)) (hrc : 20 * (Kk + 1) ≤ rc) (hrs : 2000 * (Kk + 1) ≤ rs) (hrec23 : ∀ (rc rs : Nat), 20 * Kk ≤ rc → 2000 * Kk ≤ rs → ∀ (w4 : Int32) (n : Nat) (G : GH) (z : Int32 × Nat × GH), rec23 w4 n G = some z → WG E RL "law" cL_law 7 (some .boolean) 2048 84000 rc rs 23 [(0, .ref bS), (1, .ref v1), (2, .ref v2), (3, .ref v3), (4, .int w4)] [] n G (g_O E (some (.int z.1), z.2.1, z.2.2))) (h : k_L_law_954 F L xs rec23 v1 v2 v3 v4 n G = some z) : WG E RL "law" cL_law 7 (some .boolean) 2048 84000 rc rs 954 [(0, .ref bS), (1, .ref v1), (2, .ref v2), (3, .ref v3), (4, .int v4)] [] n G (g_O E (some (.int z.1), z.2.1, z.2.2)) := by
  unfold k_L_law_954 at h
  refine r_aload d_L_law_954 rfl ?_
  refine r_aload d_L_law_955 rfl ?_
  refine r_iload d_L_law_956 rfl ?_
  refine r_iconst d_L_law_958 ic_1 ?_
  refine r_iadd d_L_law_959 ?_
  refine r_scrI hS h d_L_law_960 (fun x235 h => ?_)
  refine r_invI [_] h (fun _ hq => s_X10_lost hq) d_L_law_961 pl_L_130 py_X10_lost pi_X10_lost rfl rfl (g_room_of ⟨by omega, by omega, by omega, by omega⟩) (fun x238 n236 G237 h => ?_)
  refine r_aload d_L_law_964 rfl ?_
  refine r_aload d_L_law_965 rfl ?_
  refine r_iload d_L_law_966 rfl ?_
  refine r_iconst d_L_law_968 ic_1 ?_
  refine r_iadd d_L_law_969 ?_
  refine r_scrI hS h d_L_law_970 (fun x239 h => ?_)
  refine r_invI [_] h (fun _ hq => s_X11_lost hq) d_L_law_971 pl_L_133 py_X11_lost pi_X11_lost rfl rfl (g_room_of ⟨by omega, by omega, by omega, by omega⟩) (fun x242 n240 G241 h => ?_)
  refine r_icmp_eq h d_L_law_974 (fun h => ?_) (fun h => ?_)
  · refine r_iinc d_L_law_1054 rfl (ii_3 _) rfl rfl ?_
    refine r_goto d_L_law_1057 ?_
    refine r_lv [(0, .ref bS), (1, .ref v1), (2, .ref v2), (3, .ref v3), (4, .int (v4 + 3))] (g_allc rfl (g_allc rfl (g_allc rfl (g_allc rfl (g_allc rfl g_alln))))) ?_
    exact hrec23 _ _ (by omega) (by omega) _ _ _ _ h
  · refine r_iconst d_L_law_977 ic_0 ?_
    exact r_zret h d_L_law_978
set_option maxRecDepth 100000 in
set_option maxHeartbeats 4000000 in
theorem c_L_law_979 {E : GE} {F bS L : Nat} {xs : Nat → Int32} {rec23 : Int32 → Nat → GH → Option (Int32 × Nat × GH)} {v1 : Nat} {v2 : Nat} {v3 : Nat} {v4 : Int32} {n : Nat} {G : GH} {z : Int32 × Nat × GH} {Kk rc rs : Nat} (hX : ∀ U, E.2.2.2.2.2 U → x_Z E U) (hS : ∀ U, E.2.2.2.2.2 U → va_X bS L xs U (g_H E)) (hrc : 20 * (Kk + 1) ≤ rc) (hrs : 2000 * (Kk + 1) ≤ rs) (hrec23 : ∀ (rc rs : Nat), 20 * Kk ≤ rc → 2000 * Kk ≤ rs → ∀ (w4 : Int32) (n : Nat) (G : GH) (z : Int32 × Nat × GH), rec23 w4 n G = some z → WG E RL "law" cL_law 7 (some .boolean) 2048 84000 rc rs 23 [(0, .ref bS), (1, .ref v1), (2, .ref v2), (3, .ref v3), (4, .int w4)] [] n G (g_O E (some (.int z.1), z.2.1, z.2.2))) (h : k_L_law_979 F L xs rec23 v1 v2 v3 v4 n G = some z) : WG E RL "law" cL_law 7 (some .boolean) 2048 84000 rc rs 979 [(0, .ref bS), (1, .ref v1), (2, .ref v2), (3, .ref v3), (4, .int v4)] [] n G (g_O E (some (.int z.1), z.2.1, z.2.2)) := by
  unfold k_L_law_979 at h
  refine r_aload d_L_law_979 rfl ?_
  refine r_aload d_L_law_980 rfl ?_
  refine r_iload d_L_law_981 rfl ?_
  refine r_iconst d_L_law_983 ic_1 ?_
  refine r_iadd d_L_law_984 ?_
  refine r_scrI hS h d_L_law_985 (fun x243 h => ?_)
  refine r_invI [_] h (fun _ hq => s_X10_looser hq) d_L_law_986 pl_L_134 py_X10_looser pi_X10_looser rfl rfl (g_room_of ⟨by omega, by omega, by omega, by omega⟩) (fun x246 n244 G245 h => ?_)
  refine r_aload d_L_law_989 rfl ?_
  refine r_aload d_L_law_990 rfl ?_
  refine r_iload d_L_law_991 rfl ?_
  refine r_iconst d_L_law_993 ic_1 ?_
  refine r_iadd d_L_law_994 ?_
  refine r_scrI hS h d_L_law_995 (fun x247 h => ?_)
  refine r_invI [_] h (fun _ hq => s_X11_looser hq) d_L_law_996 pl_L_137 py_X11_looser pi_X11_looser rfl rfl (g_room_of ⟨by omega, by omega, by omega, by omega⟩) (fun x250 n248 G249 h => ?_)
  refine r_icmp_eq h d_L_law_999 (fun h => ?_) (fun h => ?_)
  · refine r_iinc d_L_law_1054 rfl (ii_3 _) rfl rfl ?_
    refine r_goto d_L_law_1057 ?_
    refine r_lv [(0, .ref bS), (1, .ref v1), (2, .ref v2), (3, .ref v3), (4, .int (v4 + 3))] (g_allc rfl (g_allc rfl (g_allc rfl (g_allc rfl (g_allc rfl g_alln))))) ?_
    exact hrec23 _ _ (by omega) (by omega) _ _ _ _ h
  · refine r_iconst d_L_law_1002 ic_0 ?_
    exact r_zret h d_L_law_1003
set_option maxRecDepth 100000 in
set_option maxHeartbeats 4000000 in
theorem c_L_law_1004 {E : GE} {F bS L : Nat} {xs : Nat → Int32} {rec23 : Int32 → Nat → GH → Option (Int32 × Nat × GH)} {v1 : Nat} {v2 : Nat} {v3 : Nat} {v4 : Int32} {n : Nat} {G : GH} {z : Int32 × Nat × GH} {Kk rc rs : Nat} (hX : ∀ U, E.2.2.2.2.2 U → x_Z E U) (hS : ∀ U, E.2.2.2.2.2 U → va_X bS L xs U (g_H E)) (hrc : 20 * (Kk + 1) ≤ rc) (hrs : 2000 * (Kk + 1) ≤ rs) (hrec23 : ∀ (rc rs : Nat), 20 * Kk ≤ rc → 2000 * Kk ≤ rs → ∀ (w4 : Int32) (n : Nat) (G : GH) (z : Int32 × Nat × GH), rec23 w4 n G = some z → WG E RL "law" cL_law 7 (some .boolean) 2048 84000 rc rs 23 [(0, .ref bS), (1, .ref v1), (2, .ref v2), (3, .ref v3), (4, .int w4)] [] n G (g_O E (some (.int z.1), z.2.1, z.2.2))) (h : k_L_law_1004 F L xs rec23 v1 v2 v3 v4 n G = some z) : WG E RL "law" cL_law 7 (some .boolean) 2048 84000 rc rs 1004 [(0, .ref bS), (1, .ref v1), (2, .ref v2), (3, .ref v3), (4, .int v4)] [] n G (g_O E (some (.int z.1), z.2.1, z.2.2)) := by
  unfold k_L_law_1004 at h
  refine r_aload d_L_law_1004 rfl ?_
  refine r_aload d_L_law_1005 rfl ?_
  refine r_iload d_L_law_1006 rfl ?_
  refine r_iconst d_L_law_1008 ic_1 ?_
  refine r_iadd d_L_law_1009 ?_
  refine r_scrI hS h d_L_law_1010 (fun x251 h => ?_)
  refine r_invI [_] h (fun _ hq => s_X10_image hq) d_L_law_1011 pl_L_138 py_X10_image pi_X10_image rfl rfl (g_room_of ⟨by omega, by omega, by omega, by omega⟩) (fun x254 n252 G253 h => ?_)
  refine r_aload d_L_law_1014 rfl ?_
  refine r_aload d_L_law_1015 rfl ?_
  refine r_iload d_L_law_1016 rfl ?_
  refine r_iconst d_L_law_1018 ic_1 ?_
  refine r_iadd d_L_law_1019 ?_
  refine r_scrI hS h d_L_law_1020 (fun x255 h => ?_)
  refine r_invI [_] h (fun _ hq => s_X11_image hq) d_L_law_1021 pl_L_142 py_X11_image pi_X11_image rfl rfl (g_room_of ⟨by omega, by omega, by omega, by omega⟩) (fun x258 n256 G257 h => ?_)
  refine r_icmp_eq h d_L_law_1024 (fun h => ?_) (fun h => ?_)
  · refine r_iinc d_L_law_1054 rfl (ii_3 _) rfl rfl ?_
    refine r_goto d_L_law_1057 ?_
    refine r_lv [(0, .ref bS), (1, .ref v1), (2, .ref v2), (3, .ref v3), (4, .int (v4 + 3))] (g_allc rfl (g_allc rfl (g_allc rfl (g_allc rfl (g_allc rfl g_alln))))) ?_
    exact hrec23 _ _ (by omega) (by omega) _ _ _ _ h
  · refine r_iconst d_L_law_1027 ic_0 ?_
    exact r_zret h d_L_law_1028
set_option maxRecDepth 100000 in
set_option maxHeartbeats 4000000 in
theorem c_L_law_1029 {E : GE} {F bS L : Nat} {xs : Nat → Int32} {rec23 : Int32 → Nat → GH → Option (Int32 × Nat × GH)} {v1 : Nat} {v2 : Nat} {v3 : Nat} {v4 : Int32} {n : Nat} {G : GH} {z : Int32 × Nat × GH} {Kk rc rs : Nat} (hX : ∀ U, E.2.2.2.2.2 U → x_Z E U) (hS : ∀ U, E.2.2.2.2.2 U → va_X bS L xs U (g_H E)) (hrc : 20 * (Kk + 1) ≤ rc) (hrs : 2000 * (Kk + 1) ≤ rs) (hrec23 : ∀ (rc rs : Nat), 20 * Kk ≤ rc → 2000 * Kk ≤ rs → ∀ (w4 : Int32) (n : Nat) (G : GH) (z : Int32 × Nat × GH), rec23 w4 n G = some z → WG E RL "law" cL_law 7 (some .boolean) 2048 84000 rc rs 23 [(0, .ref bS), (1, .ref v1), (2, .ref v2), (3, .ref v3), (4, .int w4)] [] n G (g_O E (some (.int z.1), z.2.1, z.2.2))) (h : k_L_law_1029 F L xs rec23 v1 v2 v3 v4 n G = some z) : WG E RL "law" cL_law 7 (some .boolean) 2048 84000 rc rs 1029 [(0, .ref bS), (1, .ref v1), (2, .ref v2), (3, .ref v3), (4, .int v4)] [] n G (g_O E (some (.int z.1), z.2.1, z.2.2)) := by
  unfold k_L_law_1029 at h
  refine r_aload d_L_law_1029 rfl ?_
  refine r_aload d_L_law_1030 rfl ?_
  refine r_iload d_L_law_1031 rfl ?_
  refine r_iconst d_L_law_1033 ic_1 ?_
  refine r_iadd d_L_law_1034 ?_
  refine r_scrI hS h d_L_law_1035 (fun x259 h => ?_)
  refine r_invI [_] h (fun _ hq => s_X10_again hq) d_L_law_1036 pl_L_143 py_X10_again pi_X10_again rfl rfl (g_room_of ⟨by omega, by omega, by omega, by omega⟩) (fun x262 n260 G261 h => ?_)
  refine r_aload d_L_law_1039 rfl ?_
  refine r_aload d_L_law_1040 rfl ?_
  refine r_iload d_L_law_1041 rfl ?_
  refine r_iconst d_L_law_1043 ic_1 ?_
  refine r_iadd d_L_law_1044 ?_
  refine r_scrI hS h d_L_law_1045 (fun x263 h => ?_)
  refine r_invI [_] h (fun _ hq => s_X11_again hq) d_L_law_1046 pl_L_146 py_X11_again pi_X11_again rfl rfl (g_room_of ⟨by omega, by omega, by omega, by omega⟩) (fun x266 n264 G265 h => ?_)
  refine r_icmp_eq h d_L_law_1049 (fun h => ?_) (fun h => ?_)
  · refine r_iinc d_L_law_1054 rfl (ii_3 _) rfl rfl ?_
    refine r_goto d_L_law_1057 ?_
    refine r_lv [(0, .ref bS), (1, .ref v1), (2, .ref v2), (3, .ref v3), (4, .int (v4 + 3))] (g_allc rfl (g_allc rfl (g_allc rfl (g_allc rfl (g_allc rfl g_alln))))) ?_
    exact hrec23 _ _ (by omega) (by omega) _ _ _ _ h
  · refine r_iconst d_L_law_1052 ic_0 ?_
    exact r_zret h d_L_law_1053
set_option maxRecDepth 100000 in
set_option maxHeartbeats 4000000 in
theorem l_L_law_23 {E : GE} {F bS L : Nat} {xs : Nat → Int32} {v1 : Nat} {v2 : Nat} {v3 : Nat} (hX : ∀ U, E.2.2.2.2.2 U → x_Z E U) (hS : ∀ U, E.2.2.2.2.2 U → va_X bS L xs U (g_H E)) : ∀ (Kk rc rs : Nat), 20 * Kk ≤ rc → 2000 * Kk ≤ rs → ∀ (v4 : Int32) (n : Nat) (G : GH) (z : Int32 × Nat × GH), fixN ((fun _ _ _ => none) : Int32 → Nat → GH → Option (Int32 × Nat × GH)) (b_L_law_23 F L xs v1 v2 v3) Kk v4 n G = some z → WG E RL "law" cL_law 7 (some .boolean) 2048 84000 rc rs 23 [(0, .ref bS), (1, .ref v1), (2, .ref v2), (3, .ref v3), (4, .int v4)] [] n G (g_O E (some (.int z.1), z.2.1, z.2.2)) := by
  intro Kk
  induction Kk with
  | zero => intro rc rs _ _ v4 n G z h; cases h
  | succ Kk hrec23 =>
    intro rc rs hrc hrs v4 n G z h
    have h : b_L_law_23 F L xs v1 v2 v3 (fixN ((fun _ _ _ => none) : Int32 → Nat → GH → Option (Int32 × Nat × GH)) (b_L_law_23 F L xs v1 v2 v3) Kk) v4 n G = some z := h
    unfold b_L_law_23 at h
    refine r_iload d_L_law_23 rfl ?_
    refine r_aload d_L_law_25 rfl ?_
    refine r_scrL hS d_L_law_26 ?_
    refine r_iconst d_L_law_27 ic_3 ?_
    refine r_isub d_L_law_28 ?_
    refine r_icmp_gt h d_L_law_29 (fun h => ?_) (fun h => ?_)
    · refine r_iconst d_L_law_1060 ic_1 ?_
      exact r_zret h d_L_law_1061
    · refine r_aload d_L_law_32 rfl ?_
      refine r_iload d_L_law_33 rfl ?_
      refine r_scrI hS h d_L_law_35 (fun x5 h => ?_)
      refine r_bipush d_L_law_36 bp_31 ?_
      refine r_iand d_L_law_38 ?_
      refine r_switch (tg := 1054) h [164, 221, 234, 275, 288, 301, 338, 363, 388, 401, 426, 494, 531, 599, 636, 673, 698, 751, 776, 801, 854, 891, 916, 929, 954, 979, 1004, 1029] d_L_law_39 rfl rfl rfl (by decide) rfl (by decide) (g_swPc (fun h => ?_) (g_swPc (fun h => ?_) (g_swPc (fun h => ?_) (g_swPc (fun h => ?_) (g_swPc (fun h => ?_) (g_swPc (fun h => ?_) (g_swPc (fun h => ?_) (g_swPc (fun h => ?_) (g_swPc (fun h => ?_) (g_swPc (fun h => ?_) (g_swPc (fun h => ?_) (g_swPc (fun h => ?_) (g_swPc (fun h => ?_) (g_swPc (fun h => ?_) (g_swPc (fun h => ?_) (g_swPc (fun h => ?_) (g_swPc (fun h => ?_) (g_swPc (fun h => ?_) (g_swPc (fun h => ?_) (g_swPc (fun h => ?_) (g_swPc (fun h => ?_) (g_swPc (fun h => ?_) (g_swPc (fun h => ?_) (g_swPc (fun h => ?_) (g_swPc (fun h => ?_) (g_swPc (fun h => ?_) (g_swPc (fun h => ?_) (g_swPc (fun h => ?_) (g_swPn))))))))))))))))))))))))))))) (fun h => ?_)
      · refine r_lv [(0, .ref bS), (1, .ref v1), (2, .ref v2), (3, .ref v3), (4, .int v4)] (g_allc rfl (g_allc rfl (g_allc rfl (g_allc rfl (g_allc rfl g_alln))))) ?_
        exact c_L_law_164 hX hS (Kk := Kk) hrc hrs hrec23 h
      · refine r_lv [(0, .ref bS), (1, .ref v1), (2, .ref v2), (3, .ref v3), (4, .int v4)] (g_allc rfl (g_allc rfl (g_allc rfl (g_allc rfl (g_allc rfl g_alln))))) ?_
        exact c_L_law_221 hX hS (Kk := Kk) hrc hrs hrec23 h
      · refine r_lv [(0, .ref bS), (1, .ref v1), (2, .ref v2), (3, .ref v3), (4, .int v4)] (g_allc rfl (g_allc rfl (g_allc rfl (g_allc rfl (g_allc rfl g_alln))))) ?_
        exact c_L_law_234 hX hS (Kk := Kk) hrc hrs hrec23 h
      · refine r_lv [(0, .ref bS), (1, .ref v1), (2, .ref v2), (3, .ref v3), (4, .int v4)] (g_allc rfl (g_allc rfl (g_allc rfl (g_allc rfl (g_allc rfl g_alln))))) ?_
        exact c_L_law_275 hX hS (Kk := Kk) hrc hrs hrec23 h
      · refine r_lv [(0, .ref bS), (1, .ref v1), (2, .ref v2), (3, .ref v3), (4, .int v4)] (g_allc rfl (g_allc rfl (g_allc rfl (g_allc rfl (g_allc rfl g_alln))))) ?_
        exact c_L_law_288 hX hS (Kk := Kk) hrc hrs hrec23 h
      · refine r_lv [(0, .ref bS), (1, .ref v1), (2, .ref v2), (3, .ref v3), (4, .int v4)] (g_allc rfl (g_allc rfl (g_allc rfl (g_allc rfl (g_allc rfl g_alln))))) ?_
        exact c_L_law_301 hX hS (Kk := Kk) hrc hrs hrec23 h
      · refine r_lv [(0, .ref bS), (1, .ref v1), (2, .ref v2), (3, .ref v3), (4, .int v4)] (g_allc rfl (g_allc rfl (g_allc rfl (g_allc rfl (g_allc rfl g_alln))))) ?_
        exact c_L_law_338 hX hS (Kk := Kk) hrc hrs hrec23 h
      · refine r_lv [(0, .ref bS), (1, .ref v1), (2, .ref v2), (3, .ref v3), (4, .int v4)] (g_allc rfl (g_allc rfl (g_allc rfl (g_allc rfl (g_allc rfl g_alln))))) ?_
        exact c_L_law_363 hX hS (Kk := Kk) hrc hrs hrec23 h
      · refine r_lv [(0, .ref bS), (1, .ref v1), (2, .ref v2), (3, .ref v3), (4, .int v4)] (g_allc rfl (g_allc rfl (g_allc rfl (g_allc rfl (g_allc rfl g_alln))))) ?_
        exact c_L_law_388 hX hS (Kk := Kk) hrc hrs hrec23 h
      · refine r_lv [(0, .ref bS), (1, .ref v1), (2, .ref v2), (3, .ref v3), (4, .int v4)] (g_allc rfl (g_allc rfl (g_allc rfl (g_allc rfl (g_allc rfl g_alln))))) ?_
        exact c_L_law_401 hX hS (Kk := Kk) hrc hrs hrec23 h
      · refine r_lv [(0, .ref bS), (1, .ref v1), (2, .ref v2), (3, .ref v3), (4, .int v4)] (g_allc rfl (g_allc rfl (g_allc rfl (g_allc rfl (g_allc rfl g_alln))))) ?_
        exact c_L_law_426 hX hS (Kk := Kk) hrc hrs hrec23 h
      · refine r_lv [(0, .ref bS), (1, .ref v1), (2, .ref v2), (3, .ref v3), (4, .int v4)] (g_allc rfl (g_allc rfl (g_allc rfl (g_allc rfl (g_allc rfl g_alln))))) ?_
        exact c_L_law_494 hX hS (Kk := Kk) hrc hrs hrec23 h
      · refine r_lv [(0, .ref bS), (1, .ref v1), (2, .ref v2), (3, .ref v3), (4, .int v4)] (g_allc rfl (g_allc rfl (g_allc rfl (g_allc rfl (g_allc rfl g_alln))))) ?_
        exact c_L_law_531 hX hS (Kk := Kk) hrc hrs hrec23 h
      · refine r_lv [(0, .ref bS), (1, .ref v1), (2, .ref v2), (3, .ref v3), (4, .int v4)] (g_allc rfl (g_allc rfl (g_allc rfl (g_allc rfl (g_allc rfl g_alln))))) ?_
        exact c_L_law_599 hX hS (Kk := Kk) hrc hrs hrec23 h
      · refine r_lv [(0, .ref bS), (1, .ref v1), (2, .ref v2), (3, .ref v3), (4, .int v4)] (g_allc rfl (g_allc rfl (g_allc rfl (g_allc rfl (g_allc rfl g_alln))))) ?_
        exact c_L_law_636 hX hS (Kk := Kk) hrc hrs hrec23 h
      · refine r_lv [(0, .ref bS), (1, .ref v1), (2, .ref v2), (3, .ref v3), (4, .int v4)] (g_allc rfl (g_allc rfl (g_allc rfl (g_allc rfl (g_allc rfl g_alln))))) ?_
        exact c_L_law_673 hX hS (Kk := Kk) hrc hrs hrec23 h
      · refine r_lv [(0, .ref bS), (1, .ref v1), (2, .ref v2), (3, .ref v3), (4, .int v4)] (g_allc rfl (g_allc rfl (g_allc rfl (g_allc rfl (g_allc rfl g_alln))))) ?_
        exact c_L_law_698 hX hS (Kk := Kk) hrc hrs hrec23 h
      · refine r_lv [(0, .ref bS), (1, .ref v1), (2, .ref v2), (3, .ref v3), (4, .int v4)] (g_allc rfl (g_allc rfl (g_allc rfl (g_allc rfl (g_allc rfl g_alln))))) ?_
        exact c_L_law_751 hX hS (Kk := Kk) hrc hrs hrec23 h
      · refine r_lv [(0, .ref bS), (1, .ref v1), (2, .ref v2), (3, .ref v3), (4, .int v4)] (g_allc rfl (g_allc rfl (g_allc rfl (g_allc rfl (g_allc rfl g_alln))))) ?_
        exact c_L_law_776 hX hS (Kk := Kk) hrc hrs hrec23 h
      · refine r_lv [(0, .ref bS), (1, .ref v1), (2, .ref v2), (3, .ref v3), (4, .int v4)] (g_allc rfl (g_allc rfl (g_allc rfl (g_allc rfl (g_allc rfl g_alln))))) ?_
        exact c_L_law_801 hX hS (Kk := Kk) hrc hrs hrec23 h
      · refine r_lv [(0, .ref bS), (1, .ref v1), (2, .ref v2), (3, .ref v3), (4, .int v4)] (g_allc rfl (g_allc rfl (g_allc rfl (g_allc rfl (g_allc rfl g_alln))))) ?_
        exact c_L_law_854 hX hS (Kk := Kk) hrc hrs hrec23 h
      · refine r_lv [(0, .ref bS), (1, .ref v1), (2, .ref v2), (3, .ref v3), (4, .int v4)] (g_allc rfl (g_allc rfl (g_allc rfl (g_allc rfl (g_allc rfl g_alln))))) ?_
        exact c_L_law_891 hX hS (Kk := Kk) hrc hrs hrec23 h
      · refine r_lv [(0, .ref bS), (1, .ref v1), (2, .ref v2), (3, .ref v3), (4, .int v4)] (g_allc rfl (g_allc rfl (g_allc rfl (g_allc rfl (g_allc rfl g_alln))))) ?_
        exact c_L_law_916 hX hS (Kk := Kk) hrc hrs hrec23 h
      · refine r_lv [(0, .ref bS), (1, .ref v1), (2, .ref v2), (3, .ref v3), (4, .int v4)] (g_allc rfl (g_allc rfl (g_allc rfl (g_allc rfl (g_allc rfl g_alln))))) ?_
        exact c_L_law_929 hX hS (Kk := Kk) hrc hrs hrec23 h
      · refine r_lv [(0, .ref bS), (1, .ref v1), (2, .ref v2), (3, .ref v3), (4, .int v4)] (g_allc rfl (g_allc rfl (g_allc rfl (g_allc rfl (g_allc rfl g_alln))))) ?_
        exact c_L_law_954 hX hS (Kk := Kk) hrc hrs hrec23 h
      · refine r_lv [(0, .ref bS), (1, .ref v1), (2, .ref v2), (3, .ref v3), (4, .int v4)] (g_allc rfl (g_allc rfl (g_allc rfl (g_allc rfl (g_allc rfl g_alln))))) ?_
        exact c_L_law_979 hX hS (Kk := Kk) hrc hrs hrec23 h
      · refine r_lv [(0, .ref bS), (1, .ref v1), (2, .ref v2), (3, .ref v3), (4, .int v4)] (g_allc rfl (g_allc rfl (g_allc rfl (g_allc rfl (g_allc rfl g_alln))))) ?_
        exact c_L_law_1004 hX hS (Kk := Kk) hrc hrs hrec23 h
      · refine r_lv [(0, .ref bS), (1, .ref v1), (2, .ref v2), (3, .ref v3), (4, .int v4)] (g_allc rfl (g_allc rfl (g_allc rfl (g_allc rfl (g_allc rfl g_alln))))) ?_
        exact c_L_law_1029 hX hS (Kk := Kk) hrc hrs hrec23 h
      · refine r_iinc d_L_law_1054 rfl (ii_3 _) rfl rfl ?_
        refine r_goto d_L_law_1057 ?_
        refine r_lv [(0, .ref bS), (1, .ref v1), (2, .ref v2), (3, .ref v3), (4, .int (v4 + 3))] (g_allc rfl (g_allc rfl (g_allc rfl (g_allc rfl (g_allc rfl g_alln))))) ?_
        exact hrec23 _ _ (by omega) (by omega) _ _ _ _ h
set_option maxRecDepth 100000 in
set_option maxHeartbeats 4000000 in
theorem w_L_law {E : GE} {F bS L : Nat} {xs : Nat → Int32} {n : Nat} {G : GH} {z : Int32 × Nat × GH} (hX : ∀ U, E.2.2.2.2.2 U → x_Z E U) (hS : ∀ U, E.2.2.2.2.2 U → va_X bS L xs U (g_H E)) (h : f_L_law F L xs n G = some z) : WG E RL "law" cL_law 7 (some .boolean) 2048 84000 601024 7293033 0 [(0, .ref bS)] [] n G (g_O E (some (.int z.1), z.2.1, z.2.2)) := by
  unfold f_L_law at h
  refine r_new d_L_law_0 pn_L_8 rfl rfl ?_
  refine r_dup d_L_law_3 rfl ?_
  refine r_invN [] h (fun _ hq => s_X10_init hq) d_L_law_4 pl_L_18 py_X10_init pm_X10_init rfl rfl rfl rfl (fun n1 G2 h => ?_)
  refine r_astore d_L_law_7 rfl rfl ?_
  refine r_new d_L_law_8 pn_L_19 rfl rfl ?_
  refine r_dup d_L_law_11 rfl ?_
  refine r_invN [] h (fun _ hq => s_X11_init hq) d_L_law_12 pl_L_21 py_X11_init pm_X11_init rfl rfl rfl rfl (fun n3 G4 h => ?_)
  refine r_astore d_L_law_15 rfl rfl ?_
  refine r_iconst d_L_law_16 ic_1 ?_
  refine r_newaJ (N := 1) d_L_law_17 qa_long (by decide) (by decide) rfl rfl rfl ?_
  refine r_astore d_L_law_19 rfl rfl ?_
  refine r_iconst d_L_law_20 ic_0 ?_
  refine r_istore d_L_law_21 rfl rfl ?_
  refine r_lv [(0, .ref bS), (1, .ref n), (2, .ref n1), (3, .ref n3), (4, .int (0 : Int32))] (g_allc rfl (g_allc rfl (g_allc rfl (g_allc rfl (g_allc rfl g_alln))))) ?_
  have e1 : df_X10.length = 9 := rfl
  have e2 : df_X11.length = 37 := rfl
  exact l_L_law_23 hX hS 520 _ _ (by omega) (by omega) _ _ _ _ h
