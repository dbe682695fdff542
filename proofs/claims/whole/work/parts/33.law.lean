theorem vv_L_66 : VV RL 66 yX9_paid cX9_paid 4 (some .long) 3 := ⟨⟨gw_at 1390 (by decide +kernel) (by decide +kernel), gw_at 1393 (by decide +kernel) (by decide +kernel), gw_at 96 (by decide +kernel) (by decide +kernel), by decide +kernel, by decide⟩, gw_at 1391 (by decide +kernel) (by decide +kernel), gw_at 1392 (by decide +kernel) (by decide +kernel)⟩
theorem ic_6 : Int32.ofInt 6 = 6 := by decide
theorem vv_L_62 : VV RL 62 yX8_paid cX8_paid 6 (some .long) 3 := ⟨⟨gw_at 807 (by decide +kernel) (by decide +kernel), gw_at 810 (by decide +kernel) (by decide +kernel), gw_at 87 (by decide +kernel) (by decide +kernel), by decide +kernel, by decide⟩, gw_at 808 (by decide +kernel) (by decide +kernel), gw_at 809 (by decide +kernel) (by decide +kernel)⟩
theorem vv_L_31 : VV RL 31 yX9_answer cX9_answer 4 (some .int) 3 := ⟨⟨gw_at 1230 (by decide +kernel) (by decide +kernel), gw_at 1233 (by decide +kernel) (by decide +kernel), gw_at 96 (by decide +kernel) (by decide +kernel), by decide +kernel, by decide⟩, gw_at 1231 (by decide +kernel) (by decide +kernel), gw_at 1232 (by decide +kernel) (by decide +kernel)⟩
theorem vv_L_27 : VV RL 27 yX8_answer cX8_answer 6 (some .int) 3 := ⟨⟨gw_at 491 (by decide +kernel) (by decide +kernel), gw_at 494 (by decide +kernel) (by decide +kernel), gw_at 87 (by decide +kernel) (by decide +kernel), by decide +kernel, by decide⟩, gw_at 492 (by decide +kernel) (by decide +kernel), gw_at 493 (by decide +kernel) (by decide +kernel)⟩
theorem bc_63 : (Int8.ofInt 63).toInt32 = 63 := by decide
theorem vv_L_13 : VV RL 13 yX8_known cX8_known 4 (some .int) 2 := ⟨⟨gw_at 460 (by decide +kernel) (by decide +kernel), gw_at 463 (by decide +kernel) (by decide +kernel), gw_at 87 (by decide +kernel) (by decide +kernel), by decide +kernel, by decide⟩, gw_at 461 (by decide +kernel) (by decide +kernel), gw_at 462 (by decide +kernel) (by decide +kernel)⟩
theorem vv_L_17 : VV RL 17 yX9_known cX9_known 4 (some .int) 2 := ⟨⟨gw_at 1198 (by decide +kernel) (by decide +kernel), gw_at 1201 (by decide +kernel) (by decide +kernel), gw_at 96 (by decide +kernel) (by decide +kernel), by decide +kernel, by decide⟩, gw_at 1199 (by decide +kernel) (by decide +kernel), gw_at 1200 (by decide +kernel) (by decide +kernel)⟩
theorem vv_L_18 : VV RL 18 yX8_suit cX8_suit 5 (some .int) 3 := ⟨⟨gw_at 467 (by decide +kernel) (by decide +kernel), gw_at 470 (by decide +kernel) (by decide +kernel), gw_at 87 (by decide +kernel) (by decide +kernel), by decide +kernel, by decide⟩, gw_at 468 (by decide +kernel) (by decide +kernel), gw_at 469 (by decide +kernel) (by decide +kernel)⟩
theorem vv_L_22 : VV RL 22 yX9_suit cX9_suit 4 (some .int) 3 := ⟨⟨gw_at 1206 (by decide +kernel) (by decide +kernel), gw_at 1209 (by decide +kernel) (by decide +kernel), gw_at 96 (by decide +kernel) (by decide +kernel), by decide +kernel, by decide⟩, gw_at 1207 (by decide +kernel) (by decide +kernel), gw_at 1208 (by decide +kernel) (by decide +kernel)⟩
theorem vv_L_23 : VV RL 23 yX8_claim cX8_claim 4 (some .int) 3 := ⟨⟨gw_at 475 (by decide +kernel) (by decide +kernel), gw_at 478 (by decide +kernel) (by decide +kernel), gw_at 87 (by decide +kernel) (by decide +kernel), by decide +kernel, by decide⟩, gw_at 476 (by decide +kernel) (by decide +kernel), gw_at 477 (by decide +kernel) (by decide +kernel)⟩
theorem vv_L_26 : VV RL 26 yX9_claim cX9_claim 5 (some .int) 3 := ⟨⟨gw_at 1214 (by decide +kernel) (by decide +kernel), gw_at 1217 (by decide +kernel) (by decide +kernel), gw_at 96 (by decide +kernel) (by decide +kernel), by decide +kernel, by decide⟩, gw_at 1215 (by decide +kernel) (by decide +kernel), gw_at 1216 (by decide +kernel) (by decide +kernel)⟩
theorem vv_L_32 : VV RL 32 yX8_proof cX8_proof 5 (some .int) 3 := ⟨⟨gw_at 499 (by decide +kernel) (by decide +kernel), gw_at 502 (by decide +kernel) (by decide +kernel), gw_at 87 (by decide +kernel) (by decide +kernel), by decide +kernel, by decide⟩, gw_at 500 (by decide +kernel) (by decide +kernel), gw_at 501 (by decide +kernel) (by decide +kernel)⟩
theorem vv_L_35 : VV RL 35 yX9_proof cX9_proof 4 (some .int) 3 := ⟨⟨gw_at 1242 (by decide +kernel) (by decide +kernel), gw_at 1245 (by decide +kernel) (by decide +kernel), gw_at 96 (by decide +kernel) (by decide +kernel), by decide +kernel, by decide⟩, gw_at 1243 (by decide +kernel) (by decide +kernel), gw_at 1244 (by decide +kernel) (by decide +kernel)⟩
theorem vv_L_36 : VV RL 36 yX8_truth cX8_truth 4 (some .int) 2 := ⟨⟨gw_at 511 (by decide +kernel) (by decide +kernel), gw_at 514 (by decide +kernel) (by decide +kernel), gw_at 87 (by decide +kernel) (by decide +kernel), by decide +kernel, by decide⟩, gw_at 512 (by decide +kernel) (by decide +kernel), gw_at 513 (by decide +kernel) (by decide +kernel)⟩
theorem vv_L_39 : VV RL 39 yX9_truth cX9_truth 3 (some .int) 2 := ⟨⟨gw_at 1246 (by decide +kernel) (by decide +kernel), gw_at 1249 (by decide +kernel) (by decide +kernel), gw_at 96 (by decide +kernel) (by decide +kernel), by decide +kernel, by decide⟩, gw_at 1247 (by decide +kernel) (by decide +kernel), gw_at 1248 (by decide +kernel) (by decide +kernel)⟩
theorem vv_L_40 : VV RL 40 yX8_of cX8_of 3 (some .int) 2 := ⟨⟨gw_at 515 (by decide +kernel) (by decide +kernel), gw_at 518 (by decide +kernel) (by decide +kernel), gw_at 87 (by decide +kernel) (by decide +kernel), by decide +kernel, by decide⟩, gw_at 516 (by decide +kernel) (by decide +kernel), gw_at 517 (by decide +kernel) (by decide +kernel)⟩
theorem vv_L_43 : VV RL 43 yX9_of cX9_of 3 (some .int) 2 := ⟨⟨gw_at 1250 (by decide +kernel) (by decide +kernel), gw_at 1253 (by decide +kernel) (by decide +kernel), gw_at 96 (by decide +kernel) (by decide +kernel), by decide +kernel, by decide⟩, gw_at 1251 (by decide +kernel) (by decide +kernel), gw_at 1252 (by decide +kernel) (by decide +kernel)⟩
theorem vv_L_44 : VV RL 44 yX8_feed cX8_feed 4 (some .int) 2 := ⟨⟨gw_at 520 (by decide +kernel) (by decide +kernel), gw_at 523 (by decide +kernel) (by decide +kernel), gw_at 87 (by decide +kernel) (by decide +kernel), by decide +kernel, by decide⟩, gw_at 521 (by decide +kernel) (by decide +kernel), gw_at 522 (by decide +kernel) (by decide +kernel)⟩
theorem vv_L_47 : VV RL 47 yX9_feed cX9_feed 4 (some .int) 2 := ⟨⟨gw_at 1254 (by decide +kernel) (by decide +kernel), gw_at 1257 (by decide +kernel) (by decide +kernel), gw_at 96 (by decide +kernel) (by decide +kernel), by decide +kernel, by decide⟩, gw_at 1255 (by decide +kernel) (by decide +kernel), gw_at 1256 (by decide +kernel) (by decide +kernel)⟩
theorem vv_L_48 : VV RL 48 yX8_law cX8_law 2 (some .int) 0 := ⟨⟨gw_at 528 (by decide +kernel) (by decide +kernel), gw_at 531 (by decide +kernel) (by decide +kernel), gw_at 87 (by decide +kernel) (by decide +kernel), by decide +kernel, by decide⟩, gw_at 529 (by decide +kernel) (by decide +kernel), gw_at 530 (by decide +kernel) (by decide +kernel)⟩
theorem vv_L_52 : VV RL 52 yX9_law cX9_law 2 (some .int) 0 := ⟨⟨gw_at 1258 (by decide +kernel) (by decide +kernel), gw_at 1261 (by decide +kernel) (by decide +kernel), gw_at 96 (by decide +kernel) (by decide +kernel), by decide +kernel, by decide⟩, gw_at 1259 (by decide +kernel) (by decide +kernel), gw_at 1260 (by decide +kernel) (by decide +kernel)⟩
theorem vv_L_53 : VV RL 53 yX8_comes cX8_comes 3 (some .int) 1 := ⟨⟨gw_at 723 (by decide +kernel) (by decide +kernel), gw_at 726 (by decide +kernel) (by decide +kernel), gw_at 87 (by decide +kernel) (by decide +kernel), by decide +kernel, by decide⟩, gw_at 724 (by decide +kernel) (by decide +kernel), gw_at 725 (by decide +kernel) (by decide +kernel)⟩
theorem vv_L_57 : VV RL 57 yX9_comes cX9_comes 2 (some .int) 1 := ⟨⟨gw_at 1334 (by decide +kernel) (by decide +kernel), gw_at 1337 (by decide +kernel) (by decide +kernel), gw_at 96 (by decide +kernel) (by decide +kernel), by decide +kernel, by decide⟩, gw_at 1335 (by decide +kernel) (by decide +kernel), gw_at 1336 (by decide +kernel) (by decide +kernel)⟩
theorem vv_L_58 : VV RL 58 yX8_due cX8_due 5 (some .int) 2 := ⟨⟨gw_at 795 (by decide +kernel) (by decide +kernel), gw_at 798 (by decide +kernel) (by decide +kernel), gw_at 87 (by decide +kernel) (by decide +kernel), by decide +kernel, by decide⟩, gw_at 796 (by decide +kernel) (by decide +kernel), gw_at 797 (by decide +kernel) (by decide +kernel)⟩
theorem vv_L_61 : VV RL 61 yX9_due cX9_due 6 (some .int) 2 := ⟨⟨gw_at 1382 (by decide +kernel) (by decide +kernel), gw_at 1385 (by decide +kernel) (by decide +kernel), gw_at 96 (by decide +kernel) (by decide +kernel), by decide +kernel, by decide⟩, gw_at 1383 (by decide +kernel) (by decide +kernel), gw_at 1384 (by decide +kernel) (by decide +kernel)⟩
theorem vv_L_67 : VV RL 67 yX8_all cX8_all 4 (some .long) 3 := ⟨⟨gw_at 838 (by decide +kernel) (by decide +kernel), gw_at 841 (by decide +kernel) (by decide +kernel), gw_at 87 (by decide +kernel) (by decide +kernel), by decide +kernel, by decide⟩, gw_at 839 (by decide +kernel) (by decide +kernel), gw_at 840 (by decide +kernel) (by decide +kernel)⟩
theorem vv_L_71 : VV RL 71 yX9_all cX9_all 8 (some .long) 3 := ⟨⟨gw_at 1411 (by decide +kernel) (by decide +kernel), gw_at 1414 (by decide +kernel) (by decide +kernel), gw_at 96 (by decide +kernel) (by decide +kernel), by decide +kernel, by decide⟩, gw_at 1412 (by decide +kernel) (by decide +kernel), gw_at 1413 (by decide +kernel) (by decide +kernel)⟩
theorem vv_L_72 : VV RL 72 yX8_ends cX8_ends 6 (some .long) 3 := ⟨⟨gw_at 847 (by decide +kernel) (by decide +kernel), gw_at 850 (by decide +kernel) (by decide +kernel), gw_at 87 (by decide +kernel) (by decide +kernel), by decide +kernel, by decide⟩, gw_at 848 (by decide +kernel) (by decide +kernel), gw_at 849 (by decide +kernel) (by decide +kernel)⟩
theorem vv_L_75 : VV RL 75 yX9_ends cX9_ends 12 (some .long) 3 := ⟨⟨gw_at 1415 (by decide +kernel) (by decide +kernel), gw_at 1418 (by decide +kernel) (by decide +kernel), gw_at 96 (by decide +kernel) (by decide +kernel), by decide +kernel, by decide⟩, gw_at 1416 (by decide +kernel) (by decide +kernel), gw_at 1417 (by decide +kernel) (by decide +kernel)⟩
theorem vv_L_76 : VV RL 76 yX8_truly cX8_truly 2 (some .int) 1 := ⟨⟨gw_at 870 (by decide +kernel) (by decide +kernel), gw_at 873 (by decide +kernel) (by decide +kernel), gw_at 87 (by decide +kernel) (by decide +kernel), by decide +kernel, by decide⟩, gw_at 871 (by decide +kernel) (by decide +kernel), gw_at 872 (by decide +kernel) (by decide +kernel)⟩
theorem vv_L_79 : VV RL 79 yX9_truly cX9_truly 7 (some .int) 1 := ⟨⟨gw_at 1423 (by decide +kernel) (by decide +kernel), gw_at 1426 (by decide +kernel) (by decide +kernel), gw_at 96 (by decide +kernel) (by decide +kernel), by decide +kernel, by decide⟩, gw_at 1424 (by decide +kernel) (by decide +kernel), gw_at 1425 (by decide +kernel) (by decide +kernel)⟩
theorem vv_L_80 : VV RL 80 yX8_rolled cX8_rolled 4 (some .int) 2 := ⟨⟨gw_at 878 (by decide +kernel) (by decide +kernel), gw_at 881 (by decide +kernel) (by decide +kernel), gw_at 87 (by decide +kernel) (by decide +kernel), by decide +kernel, by decide⟩, gw_at 879 (by decide +kernel) (by decide +kernel), gw_at 880 (by decide +kernel) (by decide +kernel)⟩
theorem vv_L_83 : VV RL 83 yX9_rolled cX9_rolled 5 (some .int) 2 := ⟨⟨gw_at 1427 (by decide +kernel) (by decide +kernel), gw_at 1430 (by decide +kernel) (by decide +kernel), gw_at 96 (by decide +kernel) (by decide +kernel), by decide +kernel, by decide⟩, gw_at 1428 (by decide +kernel) (by decide +kernel), gw_at 1429 (by decide +kernel) (by decide +kernel)⟩
theorem vv_L_84 : VV RL 84 yX8_best cX8_best 4 (some .int) 2 := ⟨⟨gw_at 890 (by decide +kernel) (by decide +kernel), gw_at 893 (by decide +kernel) (by decide +kernel), gw_at 87 (by decide +kernel) (by decide +kernel), by decide +kernel, by decide⟩, gw_at 891 (by decide +kernel) (by decide +kernel), gw_at 892 (by decide +kernel) (by decide +kernel)⟩
theorem vv_L_87 : VV RL 87 yX9_best cX9_best 5 (some .int) 2 := ⟨⟨gw_at 1431 (by decide +kernel) (by decide +kernel), gw_at 1434 (by decide +kernel) (by decide +kernel), gw_at 96 (by decide +kernel) (by decide +kernel), by decide +kernel, by decide⟩, gw_at 1432 (by decide +kernel) (by decide +kernel), gw_at 1433 (by decide +kernel) (by decide +kernel)⟩
theorem vv_L_88 : VV RL 88 yX8_slips cX8_slips 2 (some .int) 1 := ⟨⟨gw_at 926 (by decide +kernel) (by decide +kernel), gw_at 929 (by decide +kernel) (by decide +kernel), gw_at 87 (by decide +kernel) (by decide +kernel), by decide +kernel, by decide⟩, gw_at 927 (by decide +kernel) (by decide +kernel), gw_at 928 (by decide +kernel) (by decide +kernel)⟩
theorem vv_L_91 : VV RL 91 yX9_slips cX9_slips 6 (some .int) 1 := ⟨⟨gw_at 1467 (by decide +kernel) (by decide +kernel), gw_at 1470 (by decide +kernel) (by decide +kernel), gw_at 96 (by decide +kernel) (by decide +kernel), by decide +kernel, by decide⟩, gw_at 1468 (by decide +kernel) (by decide +kernel), gw_at 1469 (by decide +kernel) (by decide +kernel)⟩
theorem vv_L_92 : VV RL 92 yX8_wise cX8_wise 9 (some .int) 1 := ⟨⟨gw_at 938 (by decide +kernel) (by decide +kernel), gw_at 941 (by decide +kernel) (by decide +kernel), gw_at 87 (by decide +kernel) (by decide +kernel), by decide +kernel, by decide⟩, gw_at 939 (by decide +kernel) (by decide +kernel), gw_at 940 (by decide +kernel) (by decide +kernel)⟩
theorem vv_L_95 : VV RL 95 yX9_wise cX9_wise 10 (some .int) 1 := ⟨⟨gw_at 1471 (by decide +kernel) (by decide +kernel), gw_at 1474 (by decide +kernel) (by decide +kernel), gw_at 96 (by decide +kernel) (by decide +kernel), by decide +kernel, by decide⟩, gw_at 1472 (by decide +kernel) (by decide +kernel), gw_at 1473 (by decide +kernel) (by decide +kernel)⟩
theorem vv_L_96 : VV RL 96 yX8_off cX8_off 8 (some .long) 3 := ⟨⟨gw_at 947 (by decide +kernel) (by decide +kernel), gw_at 950 (by decide +kernel) (by decide +kernel), gw_at 87 (by decide +kernel) (by decide +kernel), by decide +kernel, by decide⟩, gw_at 948 (by decide +kernel) (by decide +kernel), gw_at 949 (by decide +kernel) (by decide +kernel)⟩
theorem vv_L_99 : VV RL 99 yX9_off cX9_off 8 (some .long) 3 := ⟨⟨gw_at 1479 (by decide +kernel) (by decide +kernel), gw_at 1482 (by decide +kernel) (by decide +kernel), gw_at 96 (by decide +kernel) (by decide +kernel), by decide +kernel, by decide⟩, gw_at 1480 (by decide +kernel) (by decide +kernel), gw_at 1481 (by decide +kernel) (by decide +kernel)⟩
theorem vv_L_100 : VV RL 100 yX8_beside cX8_beside 4 (some .int) 3 := ⟨⟨gw_at 952 (by decide +kernel) (by decide +kernel), gw_at 955 (by decide +kernel) (by decide +kernel), gw_at 87 (by decide +kernel) (by decide +kernel), by decide +kernel, by decide⟩, gw_at 953 (by decide +kernel) (by decide +kernel), gw_at 954 (by decide +kernel) (by decide +kernel)⟩
theorem vv_L_103 : VV RL 103 yX9_beside cX9_beside 4 (some .int) 3 := ⟨⟨gw_at 1484 (by decide +kernel) (by decide +kernel), gw_at 1487 (by decide +kernel) (by decide +kernel), gw_at 96 (by decide +kernel) (by decide +kernel), by decide +kernel, by decide⟩, gw_at 1485 (by decide +kernel) (by decide +kernel), gw_at 1486 (by decide +kernel) (by decide +kernel)⟩
theorem vv_L_104 : VV RL 104 yX8_ways cX8_ways 5 (some .int) 3 := ⟨⟨gw_at 956 (by decide +kernel) (by decide +kernel), gw_at 959 (by decide +kernel) (by decide +kernel), gw_at 87 (by decide +kernel) (by decide +kernel), by decide +kernel, by decide⟩, gw_at 957 (by decide +kernel) (by decide +kernel), gw_at 958 (by decide +kernel) (by decide +kernel)⟩
theorem vv_L_107 : VV RL 107 yX9_ways cX9_ways 8 (some .int) 3 := ⟨⟨gw_at 1488 (by decide +kernel) (by decide +kernel), gw_at 1491 (by decide +kernel) (by decide +kernel), gw_at 96 (by decide +kernel) (by decide +kernel), by decide +kernel, by decide⟩, gw_at 1489 (by decide +kernel) (by decide +kernel), gw_at 1490 (by decide +kernel) (by decide +kernel)⟩
theorem vv_L_108 : VV RL 108 yX8_judge cX8_judge 8 (some .int) 3 := ⟨⟨gw_at 960 (by decide +kernel) (by decide +kernel), gw_at 963 (by decide +kernel) (by decide +kernel), gw_at 87 (by decide +kernel) (by decide +kernel), by decide +kernel, by decide⟩, gw_at 961 (by decide +kernel) (by decide +kernel), gw_at 962 (by decide +kernel) (by decide +kernel)⟩
theorem vv_L_111 : VV RL 111 yX9_judge cX9_judge 6 (some .int) 3 := ⟨⟨gw_at 1492 (by decide +kernel) (by decide +kernel), gw_at 1495 (by decide +kernel) (by decide +kernel), gw_at 96 (by decide +kernel) (by decide +kernel), by decide +kernel, by decide⟩, gw_at 1493 (by decide +kernel) (by decide +kernel), gw_at 1494 (by decide +kernel) (by decide +kernel)⟩
theorem vv_L_112 : VV RL 112 yX8_image cX8_image 1 (some .int) 0 := ⟨⟨gw_at 972 (by decide +kernel) (by decide +kernel), gw_at 975 (by decide +kernel) (by decide +kernel), gw_at 87 (by decide +kernel) (by decide +kernel), by decide +kernel, by decide⟩, gw_at 973 (by decide +kernel) (by decide +kernel), gw_at 974 (by decide +kernel) (by decide +kernel)⟩
theorem vv_L_115 : VV RL 115 yX9_image cX9_image 2 (some .int) 0 := ⟨⟨gw_at 1500 (by decide +kernel) (by decide +kernel), gw_at 1503 (by decide +kernel) (by decide +kernel), gw_at 96 (by decide +kernel) (by decide +kernel), by decide +kernel, by decide⟩, gw_at 1501 (by decide +kernel) (by decide +kernel), gw_at 1502 (by decide +kernel) (by decide +kernel)⟩
theorem vv_L_116 : VV RL 116 yX8_undo cX8_undo 1 (some .int) 0 := ⟨⟨gw_at 983 (by decide +kernel) (by decide +kernel), gw_at 986 (by decide +kernel) (by decide +kernel), gw_at 87 (by decide +kernel) (by decide +kernel), by decide +kernel, by decide⟩, gw_at 984 (by decide +kernel) (by decide +kernel), gw_at 985 (by decide +kernel) (by decide +kernel)⟩
theorem vv_L_119 : VV RL 119 yX9_undo cX9_undo 2 (some .int) 0 := ⟨⟨gw_at 1504 (by decide +kernel) (by decide +kernel), gw_at 1507 (by decide +kernel) (by decide +kernel), gw_at 96 (by decide +kernel) (by decide +kernel), by decide +kernel, by decide⟩, gw_at 1505 (by decide +kernel) (by decide +kernel), gw_at 1506 (by decide +kernel) (by decide +kernel)⟩
theorem vv_L_120 : VV RL 120 yX8_act cX8_act 4 (some .int) 3 := ⟨⟨gw_at 987 (by decide +kernel) (by decide +kernel), gw_at 990 (by decide +kernel) (by decide +kernel), gw_at 87 (by decide +kernel) (by decide +kernel), by decide +kernel, by decide⟩, gw_at 988 (by decide +kernel) (by decide +kernel), gw_at 989 (by decide +kernel) (by decide +kernel)⟩
theorem vv_L_123 : VV RL 123 yX9_act cX9_act 4 (some .int) 3 := ⟨⟨gw_at 1508 (by decide +kernel) (by decide +kernel), gw_at 1511 (by decide +kernel) (by decide +kernel), gw_at 96 (by decide +kernel) (by decide +kernel), by decide +kernel, by decide⟩, gw_at 1509 (by decide +kernel) (by decide +kernel), gw_at 1510 (by decide +kernel) (by decide +kernel)⟩
theorem vv_L_124 : VV RL 124 yX8_trace cX8_trace 2 (some .int) 1 := ⟨⟨gw_at 1013 (by decide +kernel) (by decide +kernel), gw_at 1016 (by decide +kernel) (by decide +kernel), gw_at 87 (by decide +kernel) (by decide +kernel), by decide +kernel, by decide⟩, gw_at 1014 (by decide +kernel) (by decide +kernel), gw_at 1015 (by decide +kernel) (by decide +kernel)⟩
theorem vv_L_127 : VV RL 127 yX9_trace cX9_trace 2 (some .int) 1 := ⟨⟨gw_at 1544 (by decide +kernel) (by decide +kernel), gw_at 1547 (by decide +kernel) (by decide +kernel), gw_at 96 (by decide +kernel) (by decide +kernel), by decide +kernel, by decide⟩, gw_at 1545 (by decide +kernel) (by decide +kernel), gw_at 1546 (by decide +kernel) (by decide +kernel)⟩
theorem vv_L_128 : VV RL 128 yX8_taken cX8_taken 5 (some .int) 2 := ⟨⟨gw_at 1021 (by decide +kernel) (by decide +kernel), gw_at 1024 (by decide +kernel) (by decide +kernel), gw_at 87 (by decide +kernel) (by decide +kernel), by decide +kernel, by decide⟩, gw_at 1022 (by decide +kernel) (by decide +kernel), gw_at 1023 (by decide +kernel) (by decide +kernel)⟩
theorem vv_L_131 : VV RL 131 yX9_taken cX9_taken 3 (some .int) 2 := ⟨⟨gw_at 1548 (by decide +kernel) (by decide +kernel), gw_at 1551 (by decide +kernel) (by decide +kernel), gw_at 96 (by decide +kernel) (by decide +kernel), by decide +kernel, by decide⟩, gw_at 1549 (by decide +kernel) (by decide +kernel), gw_at 1550 (by decide +kernel) (by decide +kernel)⟩
theorem vv_L_132 : VV RL 132 yX8_count cX8_count 2 (some .int) 1 := ⟨⟨gw_at 1026 (by decide +kernel) (by decide +kernel), gw_at 1029 (by decide +kernel) (by decide +kernel), gw_at 87 (by decide +kernel) (by decide +kernel), by decide +kernel, by decide⟩, gw_at 1027 (by decide +kernel) (by decide +kernel), gw_at 1028 (by decide +kernel) (by decide +kernel)⟩
theorem vv_L_135 : VV RL 135 yX9_count cX9_count 2 (some .int) 1 := ⟨⟨gw_at 1552 (by decide +kernel) (by decide +kernel), gw_at 1555 (by decide +kernel) (by decide +kernel), gw_at 96 (by decide +kernel) (by decide +kernel), by decide +kernel, by decide⟩, gw_at 1553 (by decide +kernel) (by decide +kernel), gw_at 1554 (by decide +kernel) (by decide +kernel)⟩
theorem vv_L_136 : VV RL 136 yX8_tape cX8_tape 4 (some .int) 3 := ⟨⟨gw_at 1030 (by decide +kernel) (by decide +kernel), gw_at 1033 (by decide +kernel) (by decide +kernel), gw_at 87 (by decide +kernel) (by decide +kernel), by decide +kernel, by decide⟩, gw_at 1031 (by decide +kernel) (by decide +kernel), gw_at 1032 (by decide +kernel) (by decide +kernel)⟩
theorem vv_L_139 : VV RL 139 yX9_tape cX9_tape 5 (some .int) 3 := ⟨⟨gw_at 1556 (by decide +kernel) (by decide +kernel), gw_at 1559 (by decide +kernel) (by decide +kernel), gw_at 96 (by decide +kernel) (by decide +kernel), by decide +kernel, by decide⟩, gw_at 1557 (by decide +kernel) (by decide +kernel), gw_at 1558 (by decide +kernel) (by decide +kernel)⟩
theorem wd_1576 : Jvm.Cond.constantLong RL 140 4294967295 ∈ GW := gw_at 1576 (by decide +kernel) (by decide +kernel)
theorem vv_L_142 : VV RL 142 yX8_item cX8_item 6 (some .int) 3 := ⟨⟨gw_at 1041 (by decide +kernel) (by decide +kernel), gw_at 1044 (by decide +kernel) (by decide +kernel), gw_at 87 (by decide +kernel) (by decide +kernel), by decide +kernel, by decide⟩, gw_at 1042 (by decide +kernel) (by decide +kernel), gw_at 1043 (by decide +kernel) (by decide +kernel)⟩
theorem vv_L_146 : VV RL 146 yX9_item cX9_item 5 (some .int) 3 := ⟨⟨gw_at 1560 (by decide +kernel) (by decide +kernel), gw_at 1563 (by decide +kernel) (by decide +kernel), gw_at 96 (by decide +kernel) (by decide +kernel), by decide +kernel, by decide⟩, gw_at 1561 (by decide +kernel) (by decide +kernel), gw_at 1562 (by decide +kernel) (by decide +kernel)⟩
theorem vv_L_147 : VV RL 147 yX8_read cX8_read 3 (some .long) 2 := ⟨⟨gw_at 1049 (by decide +kernel) (by decide +kernel), gw_at 1052 (by decide +kernel) (by decide +kernel), gw_at 87 (by decide +kernel) (by decide +kernel), by decide +kernel, by decide⟩, gw_at 1050 (by decide +kernel) (by decide +kernel), gw_at 1051 (by decide +kernel) (by decide +kernel)⟩
theorem vv_L_151 : VV RL 151 yX9_read cX9_read 3 (some .long) 2 := ⟨⟨gw_at 1568 (by decide +kernel) (by decide +kernel), gw_at 1571 (by decide +kernel) (by decide +kernel), gw_at 96 (by decide +kernel) (by decide +kernel), by decide +kernel, by decide⟩, gw_at 1569 (by decide +kernel) (by decide +kernel), gw_at 1570 (by decide +kernel) (by decide +kernel)⟩
theorem vv_L_152 : VV RL 152 yX8_shift cX8_shift 8 (some .int) 5 := ⟨⟨gw_at 1053 (by decide +kernel) (by decide +kernel), gw_at 1056 (by decide +kernel) (by decide +kernel), gw_at 87 (by decide +kernel) (by decide +kernel), by decide +kernel, by decide⟩, gw_at 1054 (by decide +kernel) (by decide +kernel), gw_at 1055 (by decide +kernel) (by decide +kernel)⟩
theorem vv_L_156 : VV RL 156 yX9_shift cX9_shift 7 (some .int) 5 := ⟨⟨gw_at 1572 (by decide +kernel) (by decide +kernel), gw_at 1575 (by decide +kernel) (by decide +kernel), gw_at 96 (by decide +kernel) (by decide +kernel), by decide +kernel, by decide⟩, gw_at 1573 (by decide +kernel) (by decide +kernel), gw_at 1574 (by decide +kernel) (by decide +kernel)⟩
def m_law_L615 (L : Nat) (xs : Nat → Int32) (k : Int32 → Hp → Hp → Option Unit) (a3 : Int32) (t0 : Int32) (t1 : Int32) (t3 : Int64) (hC hM : Hp) : Option Unit := ck (inb (a3 + 3) L) (cb (m_X9_paid t1 t0 (xs (a3 + 3).toNatClampNeg) hM) fun v2 h3 => if t3 = v2 then vb (a3 + 6) fun v5 => k v5 hC h3 else none)
set_option maxRecDepth 20000 in
set_option maxHeartbeats 4000000 in
theorem s_law_L615 (w w2 : WT) {x : CT} {ζ : Unit → State → Prop} {b L : Nat} {xs : Nat → Int32} (hw : gB (GM w2) = gB (GC w) + 191) (hG : Gd x code 4 RL) (hR : Rm x 200) (hL : Lx x w w2 b L xs) (hZ : Lz x ζ) (k : Int32 → Hp → Hp → Option Unit) (hk : ∀ (a3 : Int32) (hC hM : Hp), Sn x 4 (lA x) (220, 5129) ζ (WW w w2 hC hM) 18 [(0, .ref b), (1, .ref (gB (GC w) + 1)), (2, .ref (gB (GM w2) + 1)), (3, .int a3)] [] (k a3 hC hM)) (a3 : Int32) (t0 : Int32) (t1 : Int32) (t3 : Int64) (hC hM : Hp) : Sn x 4 (lA x) (220, 5129) ζ (WW w w2 hC hM) 615 [(0, .ref b), (1, .ref (gB (GC w) + 1)), (2, .ref (gB (GM w2) + 1)), (3, .int a3)] [.int t0, .int t1, .ref (gB (GM w2) + 1), .long t3] (m_law_L615 L xs k a3 t0 t1 t3 hC hM) := by
  unfold m_law_L615
  refine s_aload_n hG dL_law_615 0 rfl rfl ?_
  refine s_iload_n hG dL_law_616 3 rfl rfl ?_
  refine s_iconst hG dL_law_617 ic_3 ?_
  refine s_iadd hG dL_law_618 ?_
  refine s_ck (fun q1 => ?_)
  refine l_ld hG hL dL_law_619 q1 ?_
  refine l_callM (inj := inL) (As := [.int t1, .int t0, .int (xs (a3 + 3).toNatClampNeg)]) (st := [.long t3]) w w2 hw hG hL hR dL_law_620 (by decide) vv_L_66 rfl rfl (Nat.le_of_ble_eq_true rfl) rfl (fun zv zh zq => c_X9_paid w2 (xl x) t1 t0 (xs (a3 + 3).toNatClampNeg) hM zv zh zq) (fun v2 h3 => ?_)
  refine s_lcmp_eq hG dL_law_623 dL_law_624 (tgt := 1386) (by decide) (fun q4 => ?_) (fun q4 => ?_)
  · refine s_iinc hG dL_law_1386 3 rfl ic_6 (by decide) (fun v5 => [(3, .int v5), (0, .ref b), (1, .ref (gB (GC w) + 1)), (2, .ref (gB (GM w2) + 1))]) (fun _ => rfl) (fun v5 => ?_)
    refine s_goto (tgt := 18) hG dL_law_1389 (by decide) ?_
    refine s_lv [1, 2, 3, 0] rfl ?_
    exact hk v5 hC h3
  · refine s_iconst hG dL_law_627 ic_0 ?_
    exact s_none

def m_law_L588 (L : Nat) (xs : Nat → Int32) (k : Int32 → Hp → Hp → Option Unit) (a3 : Int32) (t0 : Int32) (t1 : Int32) (hC hM : Hp) : Option Unit := ck (inb (a3 + 3) L) (cb (m_X8_paid t1 t0 (xs (a3 + 3).toNatClampNeg) hC) fun v2 h3 => ck (inb (a3 + 1) L) (ck (inb (a3 + 2) L) (if (xs (a3 + 2).toNatClampNeg) = 0 then m_law_L615 L xs k a3 0 (xs (a3 + 1).toNatClampNeg) v2 h3 hM else m_law_L615 L xs k a3 1 (xs (a3 + 1).toNatClampNeg) v2 h3 hM)))
set_option maxRecDepth 20000 in
set_option maxHeartbeats 4000000 in
theorem s_law_L588 (w w2 : WT) {x : CT} {ζ : Unit → State → Prop} {b L : Nat} {xs : Nat → Int32} (hw : gB (GM w2) = gB (GC w) + 191) (hG : Gd x code 4 RL) (hR : Rm x 200) (hL : Lx x w w2 b L xs) (hZ : Lz x ζ) (k : Int32 → Hp → Hp → Option Unit) (hk : ∀ (a3 : Int32) (hC hM : Hp), Sn x 4 (lA x) (220, 5129) ζ (WW w w2 hC hM) 18 [(0, .ref b), (1, .ref (gB (GC w) + 1)), (2, .ref (gB (GM w2) + 1)), (3, .int a3)] [] (k a3 hC hM)) (a3 : Int32) (t0 : Int32) (t1 : Int32) (hC hM : Hp) : Sn x 4 (lA x) (220, 5129) ζ (WW w w2 hC hM) 588 [(0, .ref b), (1, .ref (gB (GC w) + 1)), (2, .ref (gB (GM w2) + 1)), (3, .int a3)] [.int t0, .int t1, .ref (gB (GC w) + 1)] (m_law_L588 L xs k a3 t0 t1 hC hM) := by
  unfold m_law_L588
  refine s_aload_n hG dL_law_588 0 rfl rfl ?_
  refine s_iload_n hG dL_law_589 3 rfl rfl ?_
  refine s_iconst hG dL_law_590 ic_3 ?_
  refine s_iadd hG dL_law_591 ?_
  refine s_ck (fun q1 => ?_)
  refine l_ld hG hL dL_law_592 q1 ?_
  refine l_callC (inj := inL) (As := [.int t1, .int t0, .int (xs (a3 + 3).toNatClampNeg)]) (st := []) w w2 hw hG hL hR dL_law_593 (by decide) vv_L_62 rfl rfl (Nat.le_of_ble_eq_true rfl) rfl (fun zv zh zq => c_X8_paid w (xl x) t1 t0 (xs (a3 + 3).toNatClampNeg) hC zv zh zq) (fun v2 h3 => ?_)
  refine s_aload_n hG dL_law_596 2 rfl rfl ?_
  refine s_aload_n hG dL_law_597 0 rfl rfl ?_
  refine s_iload_n hG dL_law_598 3 rfl rfl ?_
  refine s_iconst hG dL_law_599 ic_1 ?_
  refine s_iadd hG dL_law_600 ?_
  refine s_ck (fun q4 => ?_)
  refine l_ld hG hL dL_law_601 q4 ?_
  refine s_aload_n hG dL_law_602 0 rfl rfl ?_
  refine s_iload_n hG dL_law_603 3 rfl rfl ?_
  refine s_iconst hG dL_law_604 ic_2 ?_
  refine s_iadd hG dL_law_605 ?_
  refine s_ck (fun q5 => ?_)
  refine l_ld hG hL dL_law_606 q5 ?_
  refine s_if_eq hG dL_law_607 (tgt := 614) (by decide) (fun q6 => ?_) (fun q6 => ?_)
  · refine s_iconst hG dL_law_614 ic_0 ?_
    exact s_law_L615 w w2 hw hG hR hL hZ k hk a3 0 (xs (a3 + 1).toNatClampNeg) v2 h3 hM
  · refine s_iconst hG dL_law_610 ic_1 ?_
    refine s_goto (tgt := 615) hG dL_law_611 (by decide) ?_
    exact s_law_L615 w w2 hw hG hR hL hZ k hk a3 1 (xs (a3 + 1).toNatClampNeg) v2 h3 hM

def m_law_L350 (L : Nat) (xs : Nat → Int32) (k : Int32 → Hp → Hp → Option Unit) (a3 : Int32) (t0 : Int32) (t1 : Int32) (t2 : Int32) (t4 : Int32) (hC hM : Hp) : Option Unit := cb (m_X9_answer t2 t1 t0 hM) fun v1 h2 => if t4 = v1 then vb (a3 + 6) fun v4 => k v4 hC h2 else none
set_option maxRecDepth 20000 in
set_option maxHeartbeats 4000000 in
theorem s_law_L350 (w w2 : WT) {x : CT} {ζ : Unit → State → Prop} {b L : Nat} {xs : Nat → Int32} (hw : gB (GM w2) = gB (GC w) + 191) (hG : Gd x code 4 RL) (hR : Rm x 200) (hL : Lx x w w2 b L xs) (hZ : Lz x ζ) (k : Int32 → Hp → Hp → Option Unit) (hk : ∀ (a3 : Int32) (hC hM : Hp), Sn x 4 (lA x) (220, 5129) ζ (WW w w2 hC hM) 18 [(0, .ref b), (1, .ref (gB (GC w) + 1)), (2, .ref (gB (GM w2) + 1)), (3, .int a3)] [] (k a3 hC hM)) (a3 : Int32) (t0 : Int32) (t1 : Int32) (t2 : Int32) (t4 : Int32) (hC hM : Hp) : Sn x 4 (lA x) (220, 5129) ζ (WW w w2 hC hM) 350 [(0, .ref b), (1, .ref (gB (GC w) + 1)), (2, .ref (gB (GM w2) + 1)), (3, .int a3)] [.int t0, .int t1, .int t2, .ref (gB (GM w2) + 1), .int t4] (m_law_L350 L xs k a3 t0 t1 t2 t4 hC hM) := by
  unfold m_law_L350
  refine l_callM (inj := inI) (As := [.int t2, .int t1, .int t0]) (st := [.int t4]) w w2 hw hG hL hR dL_law_350 (by decide) vv_L_31 rfl rfl (Nat.le_of_ble_eq_true rfl) rfl (fun zv zh zq => c_X9_answer w2 (xl x) t2 t1 t0 hM zv zh zq) (fun v1 h2 => ?_)
  refine s_icmp_eq hG dL_law_353 (tgt := 1386) (by decide) (fun q3 => ?_) (fun q3 => ?_)
  · refine s_iinc hG dL_law_1386 3 rfl ic_6 (by decide) (fun v4 => [(3, .int v4), (0, .ref b), (1, .ref (gB (GC w) + 1)), (2, .ref (gB (GM w2) + 1))]) (fun _ => rfl) (fun v4 => ?_)
    refine s_goto (tgt := 18) hG dL_law_1389 (by decide) ?_
    refine s_lv [1, 2, 3, 0] rfl ?_
    exact hk v4 hC h2
  · refine s_iconst hG dL_law_356 ic_0 ?_
    exact s_none

def m_law_L323 (L : Nat) (xs : Nat → Int32) (k : Int32 → Hp → Hp → Option Unit) (a3 : Int32) (t0 : Int32) (t1 : Int32) (t2 : Int32) (hC hM : Hp) : Option Unit := cb (m_X8_answer t2 t1 t0 hC) fun v1 h2 => ck (inb (a3 + 1) L) (ck (inb (a3 + 2) L) (ck (inb (a3 + 3) L) (if (xs (a3 + 3).toNatClampNeg) = 0 then m_law_L350 L xs k a3 0 (xs (a3 + 2).toNatClampNeg) (xs (a3 + 1).toNatClampNeg) v1 h2 hM else m_law_L350 L xs k a3 1 (xs (a3 + 2).toNatClampNeg) (xs (a3 + 1).toNatClampNeg) v1 h2 hM)))
set_option maxRecDepth 20000 in
set_option maxHeartbeats 4000000 in
theorem s_law_L323 (w w2 : WT) {x : CT} {ζ : Unit → State → Prop} {b L : Nat} {xs : Nat → Int32} (hw : gB (GM w2) = gB (GC w) + 191) (hG : Gd x code 4 RL) (hR : Rm x 200) (hL : Lx x w w2 b L xs) (hZ : Lz x ζ) (k : Int32 → Hp → Hp → Option Unit) (hk : ∀ (a3 : Int32) (hC hM : Hp), Sn x 4 (lA x) (220, 5129) ζ (WW w w2 hC hM) 18 [(0, .ref b), (1, .ref (gB (GC w) + 1)), (2, .ref (gB (GM w2) + 1)), (3, .int a3)] [] (k a3 hC hM)) (a3 : Int32) (t0 : Int32) (t1 : Int32) (t2 : Int32) (hC hM : Hp) : Sn x 4 (lA x) (220, 5129) ζ (WW w w2 hC hM) 323 [(0, .ref b), (1, .ref (gB (GC w) + 1)), (2, .ref (gB (GM w2) + 1)), (3, .int a3)] [.int t0, .int t1, .int t2, .ref (gB (GC w) + 1)] (m_law_L323 L xs k a3 t0 t1 t2 hC hM) := by
  unfold m_law_L323
  refine l_callC (inj := inI) (As := [.int t2, .int t1, .int t0]) (st := []) w w2 hw hG hL hR dL_law_323 (by decide) vv_L_27 rfl rfl (Nat.le_of_ble_eq_true rfl) rfl (fun zv zh zq => c_X8_answer w (xl x) t2 t1 t0 hC zv zh zq) (fun v1 h2 => ?_)
  refine s_aload_n hG dL_law_326 2 rfl rfl ?_
  refine s_aload_n hG dL_law_327 0 rfl rfl ?_
  refine s_iload_n hG dL_law_328 3 rfl rfl ?_
  refine s_iconst hG dL_law_329 ic_1 ?_
  refine s_iadd hG dL_law_330 ?_
  refine s_ck (fun q3 => ?_)
  refine l_ld hG hL dL_law_331 q3 ?_
  refine s_aload_n hG dL_law_332 0 rfl rfl ?_
  refine s_iload_n hG dL_law_333 3 rfl rfl ?_
  refine s_iconst hG dL_law_334 ic_2 ?_
  refine s_iadd hG dL_law_335 ?_
  refine s_ck (fun q4 => ?_)
  refine l_ld hG hL dL_law_336 q4 ?_
  refine s_aload_n hG dL_law_337 0 rfl rfl ?_
  refine s_iload_n hG dL_law_338 3 rfl rfl ?_
  refine s_iconst hG dL_law_339 ic_3 ?_
  refine s_iadd hG dL_law_340 ?_
  refine s_ck (fun q5 => ?_)
  refine l_ld hG hL dL_law_341 q5 ?_
  refine s_if_eq hG dL_law_342 (tgt := 349) (by decide) (fun q6 => ?_) (fun q6 => ?_)
  · refine s_iconst hG dL_law_349 ic_0 ?_
    exact s_law_L350 w w2 hw hG hR hL hZ k hk a3 0 (xs (a3 + 2).toNatClampNeg) (xs (a3 + 1).toNatClampNeg) v1 h2 hM
  · refine s_iconst hG dL_law_345 ic_1 ?_
    refine s_goto (tgt := 350) hG dL_law_346 (by decide) ?_
    exact s_law_L350 w w2 hw hG hR hL hZ k hk a3 1 (xs (a3 + 2).toNatClampNeg) (xs (a3 + 1).toNatClampNeg) v1 h2 hM

def m_law_L18 (L : Nat) (xs : Nat → Int32) : Nat → Int32 → Hp → Hp → Option Unit
  | 0, _, _, _ => none
  | n + 1, a3, hC, hM => if ((Int32.ofNat L) - 6) < a3 then some () else ck (inb a3 L) (vb ((xs a3.toNatClampNeg) &&& 63) fun v3 => if v3 = 0 then ck (inb (a3 + 1) L) (ck (inb (a3 + 2) L) (cb (m_X8_known (xs (a3 + 1).toNatClampNeg) (xs (a3 + 2).toNatClampNeg) hC) fun v7 h8 => cb (m_X9_known (xs (a3 + 1).toNatClampNeg) (xs (a3 + 2).toNatClampNeg) hM) fun v9 h10 => if v7 = v9 then vb (a3 + 6) fun v12 => m_law_L18 L xs n v12 h8 h10 else none)) else if v3 = 1 then ck (inb (a3 + 1) L) (ck (inb (a3 + 2) L) (ck (inb (a3 + 3) L) (cb (m_X8_suit (xs (a3 + 1).toNatClampNeg) (xs (a3 + 2).toNatClampNeg) (xs (a3 + 3).toNatClampNeg) hC) fun v17 h18 => cb (m_X9_suit (xs (a3 + 1).toNatClampNeg) (xs (a3 + 2).toNatClampNeg) (xs (a3 + 3).toNatClampNeg) hM) fun v19 h20 => if v17 = v19 then vb (a3 + 6) fun v22 => m_law_L18 L xs n v22 h18 h20 else none))) else if v3 = 2 then ck (inb (a3 + 1) L) (ck (inb (a3 + 2) L) (ck (inb (a3 + 3) L) (cb (m_X8_claim (xs (a3 + 1).toNatClampNeg) (xs (a3 + 2).toNatClampNeg) (xs (a3 + 3).toNatClampNeg) hC) fun v27 h28 => cb (m_X9_claim (xs (a3 + 1).toNatClampNeg) (xs (a3 + 2).toNatClampNeg) (xs (a3 + 3).toNatClampNeg) hM) fun v29 h30 => if v27 = v29 then vb (a3 + 6) fun v32 => m_law_L18 L xs n v32 h28 h30 else none))) else if v3 = 3 then ck (inb (a3 + 1) L) (ck (inb (a3 + 2) L) (ck (inb (a3 + 3) L) (if (xs (a3 + 3).toNatClampNeg) = 0 then m_law_L323 L xs (m_law_L18 L xs n) a3 0 (xs (a3 + 2).toNatClampNeg) (xs (a3 + 1).toNatClampNeg) hC hM else m_law_L323 L xs (m_law_L18 L xs n) a3 1 (xs (a3 + 2).toNatClampNeg) (xs (a3 + 1).toNatClampNeg) hC hM))) else if v3 = 4 then ck (inb (a3 + 1) L) (ck (inb (a3 + 2) L) (ck (inb (a3 + 3) L) (cb (m_X8_proof (xs (a3 + 1).toNatClampNeg) (xs (a3 + 2).toNatClampNeg) (xs (a3 + 3).toNatClampNeg) hC) fun v42 h43 => cb (m_X9_proof (xs (a3 + 1).toNatClampNeg) (xs (a3 + 2).toNatClampNeg) (xs (a3 + 3).toNatClampNeg) hM) fun v44 h45 => if v42 = v44 then vb (a3 + 6) fun v47 => m_law_L18 L xs n v47 h43 h45 else none))) else if v3 = 5 then ck (inb (a3 + 1) L) (ck (inb (a3 + 2) L) (cb (m_X8_truth (xs (a3 + 1).toNatClampNeg) (xs (a3 + 2).toNatClampNeg) hC) fun v51 h52 => cb (m_X9_truth (xs (a3 + 1).toNatClampNeg) (xs (a3 + 2).toNatClampNeg) hM) fun v53 h54 => if v51 = v53 then vb (a3 + 6) fun v56 => m_law_L18 L xs n v56 h52 h54 else none)) else if v3 = 6 then ck (inb (a3 + 1) L) (ck (inb (a3 + 2) L) (cb (m_X8_of (xs (a3 + 1).toNatClampNeg) (xs (a3 + 2).toNatClampNeg) hC) fun v60 h61 => cb (m_X9_of (xs (a3 + 1).toNatClampNeg) (xs (a3 + 2).toNatClampNeg) hM) fun v62 h63 => if v60 = v62 then vb (a3 + 6) fun v65 => m_law_L18 L xs n v65 h61 h63 else none)) else if v3 = 7 then ck (inb (a3 + 1) L) (ck (inb (a3 + 2) L) (cb (m_X8_feed (xs (a3 + 1).toNatClampNeg) (xs (a3 + 2).toNatClampNeg) hC) fun v69 h70 => cb (m_X9_feed (xs (a3 + 1).toNatClampNeg) (xs (a3 + 2).toNatClampNeg) hM) fun v71 h72 => if v69 = v71 then vb (a3 + 6) fun v74 => m_law_L18 L xs n v74 h70 h72 else none)) else if v3 = 8 then cb (m_X8_law hC) fun v76 h77 => cb (m_X9_law hM) fun v78 h79 => if v76 = v78 then vb (a3 + 6) fun v81 => m_law_L18 L xs n v81 h77 h79 else none else if v3 = 9 then ck (inb (a3 + 1) L) (cb (m_X8_comes (xs (a3 + 1).toNatClampNeg) hC) fun v84 h85 => cb (m_X9_comes (xs (a3 + 1).toNatClampNeg) hM) fun v86 h87 => if v84 = v86 then vb (a3 + 6) fun v89 => m_law_L18 L xs n v89 h85 h87 else none) else if v3 = 10 then ck (inb (a3 + 1) L) (ck (inb (a3 + 2) L) (cb (m_X8_due (xs (a3 + 1).toNatClampNeg) (xs (a3 + 2).toNatClampNeg) hC) fun v93 h94 => cb (m_X9_due (xs (a3 + 1).toNatClampNeg) (xs (a3 + 2).toNatClampNeg) hM) fun v95 h96 => if v93 = v95 then vb (a3 + 6) fun v98 => m_law_L18 L xs n v98 h94 h96 else none)) else if v3 = 11 then ck (inb (a3 + 1) L) (ck (inb (a3 + 2) L) (if (xs (a3 + 2).toNatClampNeg) = 0 then m_law_L588 L xs (m_law_L18 L xs n) a3 0 (xs (a3 + 1).toNatClampNeg) hC hM else m_law_L588 L xs (m_law_L18 L xs n) a3 1 (xs (a3 + 1).toNatClampNeg) hC hM)) else if v3 = 12 then ck (inb (a3 + 1) L) (ck (inb (a3 + 2) L) (ck (inb (a3 + 3) L) (cb (m_X8_all (xs (a3 + 1).toNatClampNeg) (xs (a3 + 2).toNatClampNeg) (xs (a3 + 3).toNatClampNeg) hC) fun v107 h108 => cb (m_X9_all (xs (a3 + 1).toNatClampNeg) (xs (a3 + 2).toNatClampNeg) (xs (a3 + 3).toNatClampNeg) hM) fun v109 h110 => if v107 = v109 then vb (a3 + 6) fun v112 => m_law_L18 L xs n v112 h108 h110 else none))) else if v3 = 13 then ck (inb (a3 + 1) L) (ck (inb (a3 + 2) L) (ck (inb (a3 + 3) L) (cb (m_X8_ends (xs (a3 + 1).toNatClampNeg) (xs (a3 + 2).toNatClampNeg) (xs (a3 + 3).toNatClampNeg) hC) fun v117 h118 => cb (m_X9_ends (xs (a3 + 1).toNatClampNeg) (xs (a3 + 2).toNatClampNeg) (xs (a3 + 3).toNatClampNeg) hM) fun v119 h120 => if v117 = v119 then vb (a3 + 6) fun v122 => m_law_L18 L xs n v122 h118 h120 else none))) else if v3 = 14 then ck (inb (a3 + 1) L) (cb (m_X8_truly (xs (a3 + 1).toNatClampNeg) hC) fun v125 h126 => cb (m_X9_truly (xs (a3 + 1).toNatClampNeg) hM) fun v127 h128 => if v125 = v127 then vb (a3 + 6) fun v130 => m_law_L18 L xs n v130 h126 h128 else none) else if v3 = 15 then ck (inb (a3 + 1) L) (ck (inb (a3 + 2) L) (cb (m_X8_rolled (xs (a3 + 1).toNatClampNeg) (xs (a3 + 2).toNatClampNeg) hC) fun v134 h135 => cb (m_X9_rolled (xs (a3 + 1).toNatClampNeg) (xs (a3 + 2).toNatClampNeg) hM) fun v136 h137 => if v134 = v136 then vb (a3 + 6) fun v139 => m_law_L18 L xs n v139 h135 h137 else none)) else if v3 = 16 then ck (inb (a3 + 1) L) (ck (inb (a3 + 2) L) (cb (m_X8_best (xs (a3 + 1).toNatClampNeg) (xs (a3 + 2).toNatClampNeg) hC) fun v143 h144 => cb (m_X9_best (xs (a3 + 1).toNatClampNeg) (xs (a3 + 2).toNatClampNeg) hM) fun v145 h146 => if v143 = v145 then vb (a3 + 6) fun v148 => m_law_L18 L xs n v148 h144 h146 else none)) else if v3 = 17 then ck (inb (a3 + 1) L) (cb (m_X8_slips (xs (a3 + 1).toNatClampNeg) hC) fun v151 h152 => cb (m_X9_slips (xs (a3 + 1).toNatClampNeg) hM) fun v153 h154 => if v151 = v153 then vb (a3 + 6) fun v156 => m_law_L18 L xs n v156 h152 h154 else none) else if v3 = 18 then ck (inb (a3 + 1) L) (cb (m_X8_wise (xs (a3 + 1).toNatClampNeg) hC) fun v159 h160 => cb (m_X9_wise (xs (a3 + 1).toNatClampNeg) hM) fun v161 h162 => if v159 = v161 then vb (a3 + 6) fun v164 => m_law_L18 L xs n v164 h160 h162 else none) else if v3 = 19 then ck (inb (a3 + 1) L) (ck (inb (a3 + 2) L) (ck (inb (a3 + 3) L) (cb (m_X8_off (xs (a3 + 1).toNatClampNeg) (xs (a3 + 2).toNatClampNeg) (xs (a3 + 3).toNatClampNeg) hC) fun v169 h170 => cb (m_X9_off (xs (a3 + 1).toNatClampNeg) (xs (a3 + 2).toNatClampNeg) (xs (a3 + 3).toNatClampNeg) hM) fun v171 h172 => if v169 = v171 then vb (a3 + 6) fun v174 => m_law_L18 L xs n v174 h170 h172 else none))) else if v3 = 20 then ck (inb (a3 + 1) L) (ck (inb (a3 + 2) L) (ck (inb (a3 + 3) L) (cb (m_X8_beside (xs (a3 + 1).toNatClampNeg) (xs (a3 + 2).toNatClampNeg) (xs (a3 + 3).toNatClampNeg) hC) fun v179 h180 => cb (m_X9_beside (xs (a3 + 1).toNatClampNeg) (xs (a3 + 2).toNatClampNeg) (xs (a3 + 3).toNatClampNeg) hM) fun v181 h182 => if v179 = v181 then vb (a3 + 6) fun v184 => m_law_L18 L xs n v184 h180 h182 else none))) else if v3 = 21 then ck (inb (a3 + 1) L) (ck (inb (a3 + 2) L) (ck (inb (a3 + 3) L) (cb (m_X8_ways (xs (a3 + 1).toNatClampNeg) (xs (a3 + 2).toNatClampNeg) (xs (a3 + 3).toNatClampNeg) hC) fun v189 h190 => cb (m_X9_ways (xs (a3 + 1).toNatClampNeg) (xs (a3 + 2).toNatClampNeg) (xs (a3 + 3).toNatClampNeg) hM) fun v191 h192 => if v189 = v191 then vb (a3 + 6) fun v194 => m_law_L18 L xs n v194 h190 h192 else none))) else if v3 = 22 then ck (inb (a3 + 1) L) (ck (inb (a3 + 2) L) (ck (inb (a3 + 3) L) (cb (m_X8_judge (xs (a3 + 1).toNatClampNeg) (xs (a3 + 2).toNatClampNeg) (xs (a3 + 3).toNatClampNeg) hC) fun v199 h200 => cb (m_X9_judge (xs (a3 + 1).toNatClampNeg) (xs (a3 + 2).toNatClampNeg) (xs (a3 + 3).toNatClampNeg) hM) fun v201 h202 => if v199 = v201 then vb (a3 + 6) fun v204 => m_law_L18 L xs n v204 h200 h202 else none))) else if v3 = 23 then cb (m_X8_image hC) fun v206 h207 => cb (m_X9_image hM) fun v208 h209 => if v206 = v208 then vb (a3 + 6) fun v211 => m_law_L18 L xs n v211 h207 h209 else none else if v3 = 24 then cb (m_X8_undo hC) fun v213 h214 => cb (m_X9_undo hM) fun v215 h216 => if v213 = v215 then vb (a3 + 6) fun v218 => m_law_L18 L xs n v218 h214 h216 else none else if v3 = 25 then ck (inb (a3 + 1) L) (ck (inb (a3 + 2) L) (ck (inb (a3 + 3) L) (cb (m_X8_act (xs (a3 + 1).toNatClampNeg) (xs (a3 + 2).toNatClampNeg) (xs (a3 + 3).toNatClampNeg) hC) fun v223 h224 => cb (m_X9_act (xs (a3 + 1).toNatClampNeg) (xs (a3 + 2).toNatClampNeg) (xs (a3 + 3).toNatClampNeg) hM) fun v225 h226 => if v223 = v225 then vb (a3 + 6) fun v228 => m_law_L18 L xs n v228 h224 h226 else none))) else if v3 = 26 then ck (inb (a3 + 1) L) (cb (m_X8_trace (xs (a3 + 1).toNatClampNeg) hC) fun v231 h232 => cb (m_X9_trace (xs (a3 + 1).toNatClampNeg) hM) fun v233 h234 => if v231 = v233 then vb (a3 + 6) fun v236 => m_law_L18 L xs n v236 h232 h234 else none) else if v3 = 27 then ck (inb (a3 + 1) L) (ck (inb (a3 + 2) L) (cb (m_X8_taken (xs (a3 + 1).toNatClampNeg) (xs (a3 + 2).toNatClampNeg) hC) fun v240 h241 => cb (m_X9_taken (xs (a3 + 1).toNatClampNeg) (xs (a3 + 2).toNatClampNeg) hM) fun v242 h243 => if v240 = v242 then vb (a3 + 6) fun v245 => m_law_L18 L xs n v245 h241 h243 else none)) else if v3 = 28 then ck (inb (a3 + 1) L) (cb (m_X8_count (xs (a3 + 1).toNatClampNeg) hC) fun v248 h249 => cb (m_X9_count (xs (a3 + 1).toNatClampNeg) hM) fun v250 h251 => if v248 = v250 then vb (a3 + 6) fun v253 => m_law_L18 L xs n v253 h249 h251 else none) else if v3 = 29 then ck (inb (a3 + 1) L) (ck (inb (a3 + 2) L) (ck (inb (a3 + 3) L) (cb (m_X8_tape (xs (a3 + 1).toNatClampNeg) (xs (a3 + 2).toNatClampNeg) (xs (a3 + 3).toNatClampNeg) hC) fun v258 h259 => cb (m_X9_tape (xs (a3 + 1).toNatClampNeg) (xs (a3 + 2).toNatClampNeg) (xs (a3 + 3).toNatClampNeg) hM) fun v260 h261 => if v258 = v260 then vb (a3 + 6) fun v263 => m_law_L18 L xs n v263 h259 h261 else none))) else if v3 = 30 then ck (inb (a3 + 1) L) (ck (inb (a3 + 2) L) (ck (inb (a3 + 3) L) (ck (inb (a3 + 4) L) (cb (m_X8_item (xs (a3 + 1).toNatClampNeg) (xs (a3 + 2).toNatClampNeg) ((((xs (a3 + 3).toNatClampNeg).toInt64) <<< ((32 : Int32).toInt64 &&& 63)) ||| (((xs (a3 + 4).toNatClampNeg).toInt64) &&& 4294967295)) hC) fun v269 h270 => cb (m_X9_item (xs (a3 + 1).toNatClampNeg) (xs (a3 + 2).toNatClampNeg) ((((xs (a3 + 3).toNatClampNeg).toInt64) <<< ((32 : Int32).toInt64 &&& 63)) ||| (((xs (a3 + 4).toNatClampNeg).toInt64) &&& 4294967295)) hM) fun v271 h272 => if v269 = v271 then vb (a3 + 6) fun v274 => m_law_L18 L xs n v274 h270 h272 else none)))) else if v3 = 31 then ck (inb (a3 + 1) L) (ck (inb (a3 + 2) L) (cb (m_X8_read (xs (a3 + 1).toNatClampNeg) (xs (a3 + 2).toNatClampNeg) hC) fun v278 h279 => cb (m_X9_read (xs (a3 + 1).toNatClampNeg) (xs (a3 + 2).toNatClampNeg) hM) fun v280 h281 => if v278 = v280 then vb (a3 + 6) fun v283 => m_law_L18 L xs n v283 h279 h281 else none)) else if v3 = 32 then ck (inb (a3 + 1) L) (ck (inb (a3 + 2) L) (ck (inb (a3 + 3) L) (ck (inb (a3 + 4) L) (ck (inb (a3 + 5) L) (cb (m_X8_shift (xs (a3 + 1).toNatClampNeg) (xs (a3 + 2).toNatClampNeg) (xs (a3 + 3).toNatClampNeg) (xs (a3 + 4).toNatClampNeg) (xs (a3 + 5).toNatClampNeg) hC) fun v290 h291 => cb (m_X9_shift (xs (a3 + 1).toNatClampNeg) (xs (a3 + 2).toNatClampNeg) (xs (a3 + 3).toNatClampNeg) (xs (a3 + 4).toNatClampNeg) (xs (a3 + 5).toNatClampNeg) hM) fun v292 h293 => if v290 = v292 then vb (a3 + 6) fun v295 => m_law_L18 L xs n v295 h291 h293 else none))))) else vb (a3 + 6) fun v296 => m_law_L18 L xs n v296 hC hM)
set_option maxRecDepth 20000 in
set_option maxHeartbeats 4000000 in
theorem s_law_L18 (w w2 : WT) {x : CT} {ζ : Unit → State → Prop} {b L : Nat} {xs : Nat → Int32} (hw : gB (GM w2) = gB (GC w) + 191) (hG : Gd x code 4 RL) (hR : Rm x 200) (hL : Lx x w w2 b L xs) (hZ : Lz x ζ) : ∀ (n : Nat) (a3 : Int32) (hC hM : Hp), Sn x 4 (lA x) (220, 5129) ζ (WW w w2 hC hM) 18 [(0, .ref b), (1, .ref (gB (GC w) + 1)), (2, .ref (gB (GM w2) + 1)), (3, .int a3)] [] (m_law_L18 L xs n a3 hC hM) := by
  intro n
  induction n with
  | zero => intro a3 hC hM; exact s_none
  | succ n ih =>
    intro a3 hC hM
    rw [m_law_L18]
    refine s_iload_n hG dL_law_18 3 rfl rfl ?_
    refine s_aload_n hG dL_law_19 0 rfl rfl ?_
    refine l_len hG hL dL_law_20 ?_
    refine s_bipush hG dL_law_21 bc_6 ?_
    refine s_isub hG dL_law_23 ?_
    refine s_icmp_gt hG dL_law_24 (tgt := 1392) (by decide) (fun q1 => ?_) (fun q1 => ?_)
    · refine s_iconst hG dL_law_1392 ic_1 ?_
      exact l_ret hG hZ dL_law_1393
    · refine s_aload_n hG dL_law_27 0 rfl rfl ?_
      refine s_iload_n hG dL_law_28 3 rfl rfl ?_
      refine s_ck (fun q2 => ?_)
      refine l_ld hG hL dL_law_29 q2 ?_
      refine s_bipush hG dL_law_30 bc_63 ?_
      refine s_iand hG dL_law_32 ?_
      refine s_vI (fun v3 => ?_)
      refine s_tsw (off := 147) hG dL_law_33 0 (by decide) (tgt := 180) (by decide) (fun q4 => ?_) (fun q4 => ?_)
      · refine s_aload_n hG dL_law_180 1 rfl rfl ?_
        refine s_aload_n hG dL_law_181 0 rfl rfl ?_
        refine s_iload_n hG dL_law_182 3 rfl rfl ?_
        refine s_iconst hG dL_law_183 ic_1 ?_
        refine s_iadd hG dL_law_184 ?_
        refine s_ck (fun q5 => ?_)
        refine l_ld hG hL dL_law_185 q5 ?_
        refine s_aload_n hG dL_law_186 0 rfl rfl ?_
        refine s_iload_n hG dL_law_187 3 rfl rfl ?_
        refine s_iconst hG dL_law_188 ic_2 ?_
        refine s_iadd hG dL_law_189 ?_
        refine s_ck (fun q6 => ?_)
        refine l_ld hG hL dL_law_190 q6 ?_
        refine l_callC (inj := inI) (As := [.int (xs (a3 + 1).toNatClampNeg), .int (xs (a3 + 2).toNatClampNeg)]) (st := []) w w2 hw hG hL hR dL_law_191 (by decide) vv_L_13 rfl rfl (Nat.le_of_ble_eq_true rfl) rfl (fun zv zh zq => c_X8_known w (xl x) (xs (a3 + 1).toNatClampNeg) (xs (a3 + 2).toNatClampNeg) hC zv zh zq) (fun v7 h8 => ?_)
        refine s_aload_n hG dL_law_194 2 rfl rfl ?_
        refine s_aload_n hG dL_law_195 0 rfl rfl ?_
        refine s_iload_n hG dL_law_196 3 rfl rfl ?_
        refine s_iconst hG dL_law_197 ic_1 ?_
        refine s_iadd hG dL_law_198 ?_
        refine l_ld hG hL dL_law_199 q5 ?_
        refine s_aload_n hG dL_law_200 0 rfl rfl ?_
        refine s_iload_n hG dL_law_201 3 rfl rfl ?_
        refine s_iconst hG dL_law_202 ic_2 ?_
        refine s_iadd hG dL_law_203 ?_
        refine l_ld hG hL dL_law_204 q6 ?_
        refine l_callM (inj := inI) (As := [.int (xs (a3 + 1).toNatClampNeg), .int (xs (a3 + 2).toNatClampNeg)]) (st := [.int v7]) w w2 hw hG hL hR dL_law_205 (by decide) vv_L_17 rfl rfl (Nat.le_of_ble_eq_true rfl) rfl (fun zv zh zq => c_X9_known w2 (xl x) (xs (a3 + 1).toNatClampNeg) (xs (a3 + 2).toNatClampNeg) hM zv zh zq) (fun v9 h10 => ?_)
        refine s_icmp_eq hG dL_law_208 (tgt := 1386) (by decide) (fun q11 => ?_) (fun q11 => ?_)
        · refine s_iinc hG dL_law_1386 3 rfl ic_6 (by decide) (fun v12 => [(3, .int v12), (0, .ref b), (1, .ref (gB (GC w) + 1)), (2, .ref (gB (GM w2) + 1))]) (fun _ => rfl) (fun v12 => ?_)
          refine s_goto (tgt := 18) hG dL_law_1389 (by decide) ?_
          refine s_lv [1, 2, 3, 0] rfl ?_
          exact ih v12 h8 h10
        · refine s_iconst hG dL_law_211 ic_0 ?_
          exact s_none
      · refine s_tsw (off := 180) hG dL_law_33 1 (by decide) (tgt := 213) (by decide) (fun q13 => ?_) (fun q13 => ?_)
        · refine s_aload_n hG dL_law_213 1 rfl rfl ?_
          refine s_aload_n hG dL_law_214 0 rfl rfl ?_
          refine s_iload_n hG dL_law_215 3 rfl rfl ?_
          refine s_iconst hG dL_law_216 ic_1 ?_
          refine s_iadd hG dL_law_217 ?_
          refine s_ck (fun q14 => ?_)
          refine l_ld hG hL dL_law_218 q14 ?_
          refine s_aload_n hG dL_law_219 0 rfl rfl ?_
          refine s_iload_n hG dL_law_220 3 rfl rfl ?_
          refine s_iconst hG dL_law_221 ic_2 ?_
          refine s_iadd hG dL_law_222 ?_
          refine s_ck (fun q15 => ?_)
          refine l_ld hG hL dL_law_223 q15 ?_
          refine s_aload_n hG dL_law_224 0 rfl rfl ?_
          refine s_iload_n hG dL_law_225 3 rfl rfl ?_
          refine s_iconst hG dL_law_226 ic_3 ?_
          refine s_iadd hG dL_law_227 ?_
          refine s_ck (fun q16 => ?_)
          refine l_ld hG hL dL_law_228 q16 ?_
          refine l_callC (inj := inI) (As := [.int (xs (a3 + 1).toNatClampNeg), .int (xs (a3 + 2).toNatClampNeg), .int (xs (a3 + 3).toNatClampNeg)]) (st := []) w w2 hw hG hL hR dL_law_229 (by decide) vv_L_18 rfl rfl (Nat.le_of_ble_eq_true rfl) rfl (fun zv zh zq => c_X8_suit w (xl x) (xs (a3 + 1).toNatClampNeg) (xs (a3 + 2).toNatClampNeg) (xs (a3 + 3).toNatClampNeg) hC zv zh zq) (fun v17 h18 => ?_)
          refine s_aload_n hG dL_law_232 2 rfl rfl ?_
          refine s_aload_n hG dL_law_233 0 rfl rfl ?_
          refine s_iload_n hG dL_law_234 3 rfl rfl ?_
          refine s_iconst hG dL_law_235 ic_1 ?_
          refine s_iadd hG dL_law_236 ?_
          refine l_ld hG hL dL_law_237 q14 ?_
          refine s_aload_n hG dL_law_238 0 rfl rfl ?_
          refine s_iload_n hG dL_law_239 3 rfl rfl ?_
          refine s_iconst hG dL_law_240 ic_2 ?_
          refine s_iadd hG dL_law_241 ?_
          refine l_ld hG hL dL_law_242 q15 ?_
          refine s_aload_n hG dL_law_243 0 rfl rfl ?_
          refine s_iload_n hG dL_law_244 3 rfl rfl ?_
          refine s_iconst hG dL_law_245 ic_3 ?_
          refine s_iadd hG dL_law_246 ?_
          refine l_ld hG hL dL_law_247 q16 ?_
          refine l_callM (inj := inI) (As := [.int (xs (a3 + 1).toNatClampNeg), .int (xs (a3 + 2).toNatClampNeg), .int (xs (a3 + 3).toNatClampNeg)]) (st := [.int v17]) w w2 hw hG hL hR dL_law_248 (by decide) vv_L_22 rfl rfl (Nat.le_of_ble_eq_true rfl) rfl (fun zv zh zq => c_X9_suit w2 (xl x) (xs (a3 + 1).toNatClampNeg) (xs (a3 + 2).toNatClampNeg) (xs (a3 + 3).toNatClampNeg) hM zv zh zq) (fun v19 h20 => ?_)
          refine s_icmp_eq hG dL_law_251 (tgt := 1386) (by decide) (fun q21 => ?_) (fun q21 => ?_)
          · refine s_iinc hG dL_law_1386 3 rfl ic_6 (by decide) (fun v22 => [(3, .int v22), (0, .ref b), (1, .ref (gB (GC w) + 1)), (2, .ref (gB (GM w2) + 1))]) (fun _ => rfl) (fun v22 => ?_)
            refine s_goto (tgt := 18) hG dL_law_1389 (by decide) ?_
            refine s_lv [1, 2, 3, 0] rfl ?_
            exact ih v22 h18 h20
          · refine s_iconst hG dL_law_254 ic_0 ?_
            exact s_none
        · refine s_tsw (off := 223) hG dL_law_33 2 (by decide) (tgt := 256) (by decide) (fun q23 => ?_) (fun q23 => ?_)
          · refine s_aload_n hG dL_law_256 1 rfl rfl ?_
            refine s_aload_n hG dL_law_257 0 rfl rfl ?_
            refine s_iload_n hG dL_law_258 3 rfl rfl ?_
            refine s_iconst hG dL_law_259 ic_1 ?_
            refine s_iadd hG dL_law_260 ?_
            refine s_ck (fun q24 => ?_)
            refine l_ld hG hL dL_law_261 q24 ?_
            refine s_aload_n hG dL_law_262 0 rfl rfl ?_
            refine s_iload_n hG dL_law_263 3 rfl rfl ?_
            refine s_iconst hG dL_law_264 ic_2 ?_
            refine s_iadd hG dL_law_265 ?_
            refine s_ck (fun q25 => ?_)
            refine l_ld hG hL dL_law_266 q25 ?_
            refine s_aload_n hG dL_law_267 0 rfl rfl ?_
            refine s_iload_n hG dL_law_268 3 rfl rfl ?_
            refine s_iconst hG dL_law_269 ic_3 ?_
            refine s_iadd hG dL_law_270 ?_
            refine s_ck (fun q26 => ?_)
            refine l_ld hG hL dL_law_271 q26 ?_
            refine l_callC (inj := inI) (As := [.int (xs (a3 + 1).toNatClampNeg), .int (xs (a3 + 2).toNatClampNeg), .int (xs (a3 + 3).toNatClampNeg)]) (st := []) w w2 hw hG hL hR dL_law_272 (by decide) vv_L_23 rfl rfl (Nat.le_of_ble_eq_true rfl) rfl (fun zv zh zq => c_X8_claim w (xl x) (xs (a3 + 1).toNatClampNeg) (xs (a3 + 2).toNatClampNeg) (xs (a3 + 3).toNatClampNeg) hC zv zh zq) (fun v27 h28 => ?_)
            refine s_aload_n hG dL_law_275 2 rfl rfl ?_
            refine s_aload_n hG dL_law_276 0 rfl rfl ?_
            refine s_iload_n hG dL_law_277 3 rfl rfl ?_
            refine s_iconst hG dL_law_278 ic_1 ?_
            refine s_iadd hG dL_law_279 ?_
            refine l_ld hG hL dL_law_280 q24 ?_
            refine s_aload_n hG dL_law_281 0 rfl rfl ?_
            refine s_iload_n hG dL_law_282 3 rfl rfl ?_
            refine s_iconst hG dL_law_283 ic_2 ?_
            refine s_iadd hG dL_law_284 ?_
            refine l_ld hG hL dL_law_285 q25 ?_
            refine s_aload_n hG dL_law_286 0 rfl rfl ?_
            refine s_iload_n hG dL_law_287 3 rfl rfl ?_
            refine s_iconst hG dL_law_288 ic_3 ?_
            refine s_iadd hG dL_law_289 ?_
            refine l_ld hG hL dL_law_290 q26 ?_
            refine l_callM (inj := inI) (As := [.int (xs (a3 + 1).toNatClampNeg), .int (xs (a3 + 2).toNatClampNeg), .int (xs (a3 + 3).toNatClampNeg)]) (st := [.int v27]) w w2 hw hG hL hR dL_law_291 (by decide) vv_L_26 rfl rfl (Nat.le_of_ble_eq_true rfl) rfl (fun zv zh zq => c_X9_claim w2 (xl x) (xs (a3 + 1).toNatClampNeg) (xs (a3 + 2).toNatClampNeg) (xs (a3 + 3).toNatClampNeg) hM zv zh zq) (fun v29 h30 => ?_)
            refine s_icmp_eq hG dL_law_294 (tgt := 1386) (by decide) (fun q31 => ?_) (fun q31 => ?_)
            · refine s_iinc hG dL_law_1386 3 rfl ic_6 (by decide) (fun v32 => [(3, .int v32), (0, .ref b), (1, .ref (gB (GC w) + 1)), (2, .ref (gB (GM w2) + 1))]) (fun _ => rfl) (fun v32 => ?_)
              refine s_goto (tgt := 18) hG dL_law_1389 (by decide) ?_
              refine s_lv [1, 2, 3, 0] rfl ?_
              exact ih v32 h28 h30
            · refine s_iconst hG dL_law_297 ic_0 ?_
              exact s_none
          · refine s_tsw (off := 266) hG dL_law_33 3 (by decide) (tgt := 299) (by decide) (fun q33 => ?_) (fun q33 => ?_)
            · refine s_aload_n hG dL_law_299 1 rfl rfl ?_
              refine s_aload_n hG dL_law_300 0 rfl rfl ?_
              refine s_iload_n hG dL_law_301 3 rfl rfl ?_
              refine s_iconst hG dL_law_302 ic_1 ?_
              refine s_iadd hG dL_law_303 ?_
              refine s_ck (fun q34 => ?_)
              refine l_ld hG hL dL_law_304 q34 ?_
              refine s_aload_n hG dL_law_305 0 rfl rfl ?_
              refine s_iload_n hG dL_law_306 3 rfl rfl ?_
              refine s_iconst hG dL_law_307 ic_2 ?_
              refine s_iadd hG dL_law_308 ?_
              refine s_ck (fun q35 => ?_)
              refine l_ld hG hL dL_law_309 q35 ?_
              refine s_aload_n hG dL_law_310 0 rfl rfl ?_
              refine s_iload_n hG dL_law_311 3 rfl rfl ?_
              refine s_iconst hG dL_law_312 ic_3 ?_
              refine s_iadd hG dL_law_313 ?_
              refine s_ck (fun q36 => ?_)
              refine l_ld hG hL dL_law_314 q36 ?_
              refine s_if_eq hG dL_law_315 (tgt := 322) (by decide) (fun q37 => ?_) (fun q37 => ?_)
              · refine s_iconst hG dL_law_322 ic_0 ?_
                exact s_law_L323 w w2 hw hG hR hL hZ (m_law_L18 L xs n) ih a3 0 (xs (a3 + 2).toNatClampNeg) (xs (a3 + 1).toNatClampNeg) hC hM
              · refine s_iconst hG dL_law_318 ic_1 ?_
                refine s_goto (tgt := 323) hG dL_law_319 (by decide) ?_
                exact s_law_L323 w w2 hw hG hR hL hZ (m_law_L18 L xs n) ih a3 1 (xs (a3 + 2).toNatClampNeg) (xs (a3 + 1).toNatClampNeg) hC hM
            · refine s_tsw (off := 325) hG dL_law_33 4 (by decide) (tgt := 358) (by decide) (fun q38 => ?_) (fun q38 => ?_)
              · refine s_aload_n hG dL_law_358 1 rfl rfl ?_
                refine s_aload_n hG dL_law_359 0 rfl rfl ?_
                refine s_iload_n hG dL_law_360 3 rfl rfl ?_
                refine s_iconst hG dL_law_361 ic_1 ?_
                refine s_iadd hG dL_law_362 ?_
                refine s_ck (fun q39 => ?_)
                refine l_ld hG hL dL_law_363 q39 ?_
                refine s_aload_n hG dL_law_364 0 rfl rfl ?_
                refine s_iload_n hG dL_law_365 3 rfl rfl ?_
                refine s_iconst hG dL_law_366 ic_2 ?_
                refine s_iadd hG dL_law_367 ?_
                refine s_ck (fun q40 => ?_)
                refine l_ld hG hL dL_law_368 q40 ?_
                refine s_aload_n hG dL_law_369 0 rfl rfl ?_
                refine s_iload_n hG dL_law_370 3 rfl rfl ?_
                refine s_iconst hG dL_law_371 ic_3 ?_
                refine s_iadd hG dL_law_372 ?_
                refine s_ck (fun q41 => ?_)
                refine l_ld hG hL dL_law_373 q41 ?_
                refine l_callC (inj := inI) (As := [.int (xs (a3 + 1).toNatClampNeg), .int (xs (a3 + 2).toNatClampNeg), .int (xs (a3 + 3).toNatClampNeg)]) (st := []) w w2 hw hG hL hR dL_law_374 (by decide) vv_L_32 rfl rfl (Nat.le_of_ble_eq_true rfl) rfl (fun zv zh zq => c_X8_proof w (xl x) (xs (a3 + 1).toNatClampNeg) (xs (a3 + 2).toNatClampNeg) (xs (a3 + 3).toNatClampNeg) hC zv zh zq) (fun v42 h43 => ?_)
                refine s_aload_n hG dL_law_377 2 rfl rfl ?_
                refine s_aload_n hG dL_law_378 0 rfl rfl ?_
                refine s_iload_n hG dL_law_379 3 rfl rfl ?_
                refine s_iconst hG dL_law_380 ic_1 ?_
                refine s_iadd hG dL_law_381 ?_
                refine l_ld hG hL dL_law_382 q39 ?_
                refine s_aload_n hG dL_law_383 0 rfl rfl ?_
                refine s_iload_n hG dL_law_384 3 rfl rfl ?_
                refine s_iconst hG dL_law_385 ic_2 ?_
                refine s_iadd hG dL_law_386 ?_
                refine l_ld hG hL dL_law_387 q40 ?_
                refine s_aload_n hG dL_law_388 0 rfl rfl ?_
                refine s_iload_n hG dL_law_389 3 rfl rfl ?_
                refine s_iconst hG dL_law_390 ic_3 ?_
                refine s_iadd hG dL_law_391 ?_
                refine l_ld hG hL dL_law_392 q41 ?_
                refine l_callM (inj := inI) (As := [.int (xs (a3 + 1).toNatClampNeg), .int (xs (a3 + 2).toNatClampNeg), .int (xs (a3 + 3).toNatClampNeg)]) (st := [.int v42]) w w2 hw hG hL hR dL_law_393 (by decide) vv_L_35 rfl rfl (Nat.le_of_ble_eq_true rfl) rfl (fun zv zh zq => c_X9_proof w2 (xl x) (xs (a3 + 1).toNatClampNeg) (xs (a3 + 2).toNatClampNeg) (xs (a3 + 3).toNatClampNeg) hM zv zh zq) (fun v44 h45 => ?_)
                refine s_icmp_eq hG dL_law_396 (tgt := 1386) (by decide) (fun q46 => ?_) (fun q46 => ?_)
                · refine s_iinc hG dL_law_1386 3 rfl ic_6 (by decide) (fun v47 => [(3, .int v47), (0, .ref b), (1, .ref (gB (GC w) + 1)), (2, .ref (gB (GM w2) + 1))]) (fun _ => rfl) (fun v47 => ?_)
                  refine s_goto (tgt := 18) hG dL_law_1389 (by decide) ?_
                  refine s_lv [1, 2, 3, 0] rfl ?_
                  exact ih v47 h43 h45
                · refine s_iconst hG dL_law_399 ic_0 ?_
                  exact s_none
              · refine s_tsw (off := 368) hG dL_law_33 5 (by decide) (tgt := 401) (by decide) (fun q48 => ?_) (fun q48 => ?_)
                · refine s_aload_n hG dL_law_401 1 rfl rfl ?_
                  refine s_aload_n hG dL_law_402 0 rfl rfl ?_
                  refine s_iload_n hG dL_law_403 3 rfl rfl ?_
                  refine s_iconst hG dL_law_404 ic_1 ?_
                  refine s_iadd hG dL_law_405 ?_
                  refine s_ck (fun q49 => ?_)
                  refine l_ld hG hL dL_law_406 q49 ?_
                  refine s_aload_n hG dL_law_407 0 rfl rfl ?_
                  refine s_iload_n hG dL_law_408 3 rfl rfl ?_
                  refine s_iconst hG dL_law_409 ic_2 ?_
                  refine s_iadd hG dL_law_410 ?_
                  refine s_ck (fun q50 => ?_)
                  refine l_ld hG hL dL_law_411 q50 ?_
                  refine l_callC (inj := inI) (As := [.int (xs (a3 + 1).toNatClampNeg), .int (xs (a3 + 2).toNatClampNeg)]) (st := []) w w2 hw hG hL hR dL_law_412 (by decide) vv_L_36 rfl rfl (Nat.le_of_ble_eq_true rfl) rfl (fun zv zh zq => c_X8_truth w (xl x) (xs (a3 + 1).toNatClampNeg) (xs (a3 + 2).toNatClampNeg) hC zv zh zq) (fun v51 h52 => ?_)
                  refine s_aload_n hG dL_law_415 2 rfl rfl ?_
                  refine s_aload_n hG dL_law_416 0 rfl rfl ?_
                  refine s_iload_n hG dL_law_417 3 rfl rfl ?_
                  refine s_iconst hG dL_law_418 ic_1 ?_
                  refine s_iadd hG dL_law_419 ?_
                  refine l_ld hG hL dL_law_420 q49 ?_
                  refine s_aload_n hG dL_law_421 0 rfl rfl ?_
                  refine s_iload_n hG dL_law_422 3 rfl rfl ?_
                  refine s_iconst hG dL_law_423 ic_2 ?_
                  refine s_iadd hG dL_law_424 ?_
                  refine l_ld hG hL dL_law_425 q50 ?_
                  refine l_callM (inj := inI) (As := [.int (xs (a3 + 1).toNatClampNeg), .int (xs (a3 + 2).toNatClampNeg)]) (st := [.int v51]) w w2 hw hG hL hR dL_law_426 (by decide) vv_L_39 rfl rfl (Nat.le_of_ble_eq_true rfl) rfl (fun zv zh zq => c_X9_truth w2 (xl x) (xs (a3 + 1).toNatClampNeg) (xs (a3 + 2).toNatClampNeg) hM zv zh zq) (fun v53 h54 => ?_)
                  refine s_icmp_eq hG dL_law_429 (tgt := 1386) (by decide) (fun q55 => ?_) (fun q55 => ?_)
                  · refine s_iinc hG dL_law_1386 3 rfl ic_6 (by decide) (fun v56 => [(3, .int v56), (0, .ref b), (1, .ref (gB (GC w) + 1)), (2, .ref (gB (GM w2) + 1))]) (fun _ => rfl) (fun v56 => ?_)
                    refine s_goto (tgt := 18) hG dL_law_1389 (by decide) ?_
                    refine s_lv [1, 2, 3, 0] rfl ?_
                    exact ih v56 h52 h54
                  · refine s_iconst hG dL_law_432 ic_0 ?_
                    exact s_none
                · refine s_tsw (off := 401) hG dL_law_33 6 (by decide) (tgt := 434) (by decide) (fun q57 => ?_) (fun q57 => ?_)
                  · refine s_aload_n hG dL_law_434 1 rfl rfl ?_
                    refine s_aload_n hG dL_law_435 0 rfl rfl ?_
                    refine s_iload_n hG dL_law_436 3 rfl rfl ?_
                    refine s_iconst hG dL_law_437 ic_1 ?_
                    refine s_iadd hG dL_law_438 ?_
                    refine s_ck (fun q58 => ?_)
                    refine l_ld hG hL dL_law_439 q58 ?_
                    refine s_aload_n hG dL_law_440 0 rfl rfl ?_
                    refine s_iload_n hG dL_law_441 3 rfl rfl ?_
                    refine s_iconst hG dL_law_442 ic_2 ?_
                    refine s_iadd hG dL_law_443 ?_
                    refine s_ck (fun q59 => ?_)
                    refine l_ld hG hL dL_law_444 q59 ?_
                    refine l_callC (inj := inI) (As := [.int (xs (a3 + 1).toNatClampNeg), .int (xs (a3 + 2).toNatClampNeg)]) (st := []) w w2 hw hG hL hR dL_law_445 (by decide) vv_L_40 rfl rfl (Nat.le_of_ble_eq_true rfl) rfl (fun zv zh zq => c_X8_of w (xl x) (xs (a3 + 1).toNatClampNeg) (xs (a3 + 2).toNatClampNeg) hC zv zh zq) (fun v60 h61 => ?_)
                    refine s_aload_n hG dL_law_448 2 rfl rfl ?_
                    refine s_aload_n hG dL_law_449 0 rfl rfl ?_
                    refine s_iload_n hG dL_law_450 3 rfl rfl ?_
                    refine s_iconst hG dL_law_451 ic_1 ?_
                    refine s_iadd hG dL_law_452 ?_
                    refine l_ld hG hL dL_law_453 q58 ?_
                    refine s_aload_n hG dL_law_454 0 rfl rfl ?_
                    refine s_iload_n hG dL_law_455 3 rfl rfl ?_
                    refine s_iconst hG dL_law_456 ic_2 ?_
                    refine s_iadd hG dL_law_457 ?_
                    refine l_ld hG hL dL_law_458 q59 ?_
                    refine l_callM (inj := inI) (As := [.int (xs (a3 + 1).toNatClampNeg), .int (xs (a3 + 2).toNatClampNeg)]) (st := [.int v60]) w w2 hw hG hL hR dL_law_459 (by decide) vv_L_43 rfl rfl (Nat.le_of_ble_eq_true rfl) rfl (fun zv zh zq => c_X9_of w2 (xl x) (xs (a3 + 1).toNatClampNeg) (xs (a3 + 2).toNatClampNeg) hM zv zh zq) (fun v62 h63 => ?_)
                    refine s_icmp_eq hG dL_law_462 (tgt := 1386) (by decide) (fun q64 => ?_) (fun q64 => ?_)
                    · refine s_iinc hG dL_law_1386 3 rfl ic_6 (by decide) (fun v65 => [(3, .int v65), (0, .ref b), (1, .ref (gB (GC w) + 1)), (2, .ref (gB (GM w2) + 1))]) (fun _ => rfl) (fun v65 => ?_)
                      refine s_goto (tgt := 18) hG dL_law_1389 (by decide) ?_
                      refine s_lv [1, 2, 3, 0] rfl ?_
                      exact ih v65 h61 h63
                    · refine s_iconst hG dL_law_465 ic_0 ?_
                      exact s_none
                  · refine s_tsw (off := 434) hG dL_law_33 7 (by decide) (tgt := 467) (by decide) (fun q66 => ?_) (fun q66 => ?_)
                    · refine s_aload_n hG dL_law_467 1 rfl rfl ?_
                      refine s_aload_n hG dL_law_468 0 rfl rfl ?_
                      refine s_iload_n hG dL_law_469 3 rfl rfl ?_
                      refine s_iconst hG dL_law_470 ic_1 ?_
                      refine s_iadd hG dL_law_471 ?_
                      refine s_ck (fun q67 => ?_)
                      refine l_ld hG hL dL_law_472 q67 ?_
                      refine s_aload_n hG dL_law_473 0 rfl rfl ?_
                      refine s_iload_n hG dL_law_474 3 rfl rfl ?_
                      refine s_iconst hG dL_law_475 ic_2 ?_
                      refine s_iadd hG dL_law_476 ?_
                      refine s_ck (fun q68 => ?_)
                      refine l_ld hG hL dL_law_477 q68 ?_
                      refine l_callC (inj := inI) (As := [.int (xs (a3 + 1).toNatClampNeg), .int (xs (a3 + 2).toNatClampNeg)]) (st := []) w w2 hw hG hL hR dL_law_478 (by decide) vv_L_44 rfl rfl (Nat.le_of_ble_eq_true rfl) rfl (fun zv zh zq => c_X8_feed w (xl x) (xs (a3 + 1).toNatClampNeg) (xs (a3 + 2).toNatClampNeg) hC zv zh zq) (fun v69 h70 => ?_)
                      refine s_aload_n hG dL_law_481 2 rfl rfl ?_
                      refine s_aload_n hG dL_law_482 0 rfl rfl ?_
                      refine s_iload_n hG dL_law_483 3 rfl rfl ?_
                      refine s_iconst hG dL_law_484 ic_1 ?_
                      refine s_iadd hG dL_law_485 ?_
                      refine l_ld hG hL dL_law_486 q67 ?_
                      refine s_aload_n hG dL_law_487 0 rfl rfl ?_
                      refine s_iload_n hG dL_law_488 3 rfl rfl ?_
                      refine s_iconst hG dL_law_489 ic_2 ?_
                      refine s_iadd hG dL_law_490 ?_
                      refine l_ld hG hL dL_law_491 q68 ?_
                      refine l_callM (inj := inI) (As := [.int (xs (a3 + 1).toNatClampNeg), .int (xs (a3 + 2).toNatClampNeg)]) (st := [.int v69]) w w2 hw hG hL hR dL_law_492 (by decide) vv_L_47 rfl rfl (Nat.le_of_ble_eq_true rfl) rfl (fun zv zh zq => c_X9_feed w2 (xl x) (xs (a3 + 1).toNatClampNeg) (xs (a3 + 2).toNatClampNeg) hM zv zh zq) (fun v71 h72 => ?_)
                      refine s_icmp_eq hG dL_law_495 (tgt := 1386) (by decide) (fun q73 => ?_) (fun q73 => ?_)
                      · refine s_iinc hG dL_law_1386 3 rfl ic_6 (by decide) (fun v74 => [(3, .int v74), (0, .ref b), (1, .ref (gB (GC w) + 1)), (2, .ref (gB (GM w2) + 1))]) (fun _ => rfl) (fun v74 => ?_)
                        refine s_goto (tgt := 18) hG dL_law_1389 (by decide) ?_
                        refine s_lv [1, 2, 3, 0] rfl ?_
                        exact ih v74 h70 h72
                      · refine s_iconst hG dL_law_498 ic_0 ?_
                        exact s_none
                    · refine s_tsw (off := 467) hG dL_law_33 8 (by decide) (tgt := 500) (by decide) (fun q75 => ?_) (fun q75 => ?_)
                      · refine s_aload_n hG dL_law_500 1 rfl rfl ?_
                        refine l_callC (inj := inI) (As := []) (st := []) w w2 hw hG hL hR dL_law_501 (by decide) vv_L_48 rfl rfl (Nat.le_of_ble_eq_true rfl) rfl (fun zv zh zq => c_X8_law w (xl x) hC zv zh zq) (fun v76 h77 => ?_)
                        refine s_aload_n hG dL_law_504 2 rfl rfl ?_
                        refine l_callM (inj := inI) (As := []) (st := [.int v76]) w w2 hw hG hL hR dL_law_505 (by decide) vv_L_52 rfl rfl (Nat.le_of_ble_eq_true rfl) rfl (fun zv zh zq => c_X9_law w2 (xl x) hM zv zh zq) (fun v78 h79 => ?_)
                        refine s_icmp_eq hG dL_law_508 (tgt := 1386) (by decide) (fun q80 => ?_) (fun q80 => ?_)
                        · refine s_iinc hG dL_law_1386 3 rfl ic_6 (by decide) (fun v81 => [(3, .int v81), (0, .ref b), (1, .ref (gB (GC w) + 1)), (2, .ref (gB (GM w2) + 1))]) (fun _ => rfl) (fun v81 => ?_)
                          refine s_goto (tgt := 18) hG dL_law_1389 (by decide) ?_
                          refine s_lv [1, 2, 3, 0] rfl ?_
                          exact ih v81 h77 h79
                        · refine s_iconst hG dL_law_511 ic_0 ?_
                          exact s_none
                      · refine s_tsw (off := 480) hG dL_law_33 9 (by decide) (tgt := 513) (by decide) (fun q82 => ?_) (fun q82 => ?_)
                        · refine s_aload_n hG dL_law_513 1 rfl rfl ?_
                          refine s_aload_n hG dL_law_514 0 rfl rfl ?_
                          refine s_iload_n hG dL_law_515 3 rfl rfl ?_
                          refine s_iconst hG dL_law_516 ic_1 ?_
                          refine s_iadd hG dL_law_517 ?_
                          refine s_ck (fun q83 => ?_)
                          refine l_ld hG hL dL_law_518 q83 ?_
                          refine l_callC (inj := inI) (As := [.int (xs (a3 + 1).toNatClampNeg)]) (st := []) w w2 hw hG hL hR dL_law_519 (by decide) vv_L_53 rfl rfl (Nat.le_of_ble_eq_true rfl) rfl (fun zv zh zq => c_X8_comes w (xl x) (xs (a3 + 1).toNatClampNeg) hC zv zh zq) (fun v84 h85 => ?_)
                          refine s_aload_n hG dL_law_522 2 rfl rfl ?_
                          refine s_aload_n hG dL_law_523 0 rfl rfl ?_
                          refine s_iload_n hG dL_law_524 3 rfl rfl ?_
                          refine s_iconst hG dL_law_525 ic_1 ?_
                          refine s_iadd hG dL_law_526 ?_
                          refine l_ld hG hL dL_law_527 q83 ?_
                          refine l_callM (inj := inI) (As := [.int (xs (a3 + 1).toNatClampNeg)]) (st := [.int v84]) w w2 hw hG hL hR dL_law_528 (by decide) vv_L_57 rfl rfl (Nat.le_of_ble_eq_true rfl) rfl (fun zv zh zq => c_X9_comes w2 (xl x) (xs (a3 + 1).toNatClampNeg) hM zv zh zq) (fun v86 h87 => ?_)
                          refine s_icmp_eq hG dL_law_531 (tgt := 1386) (by decide) (fun q88 => ?_) (fun q88 => ?_)
                          · refine s_iinc hG dL_law_1386 3 rfl ic_6 (by decide) (fun v89 => [(3, .int v89), (0, .ref b), (1, .ref (gB (GC w) + 1)), (2, .ref (gB (GM w2) + 1))]) (fun _ => rfl) (fun v89 => ?_)
                            refine s_goto (tgt := 18) hG dL_law_1389 (by decide) ?_
                            refine s_lv [1, 2, 3, 0] rfl ?_
                            exact ih v89 h85 h87
                          · refine s_iconst hG dL_law_534 ic_0 ?_
                            exact s_none
                        · refine s_tsw (off := 503) hG dL_law_33 10 (by decide) (tgt := 536) (by decide) (fun q90 => ?_) (fun q90 => ?_)
                          · refine s_aload_n hG dL_law_536 1 rfl rfl ?_
                            refine s_aload_n hG dL_law_537 0 rfl rfl ?_
                            refine s_iload_n hG dL_law_538 3 rfl rfl ?_
                            refine s_iconst hG dL_law_539 ic_1 ?_
                            refine s_iadd hG dL_law_540 ?_
                            refine s_ck (fun q91 => ?_)
                            refine l_ld hG hL dL_law_541 q91 ?_
                            refine s_aload_n hG dL_law_542 0 rfl rfl ?_
                            refine s_iload_n hG dL_law_543 3 rfl rfl ?_
                            refine s_iconst hG dL_law_544 ic_2 ?_
                            refine s_iadd hG dL_law_545 ?_
                            refine s_ck (fun q92 => ?_)
                            refine l_ld hG hL dL_law_546 q92 ?_
                            refine l_callC (inj := inI) (As := [.int (xs (a3 + 1).toNatClampNeg), .int (xs (a3 + 2).toNatClampNeg)]) (st := []) w w2 hw hG hL hR dL_law_547 (by decide) vv_L_58 rfl rfl (Nat.le_of_ble_eq_true rfl) rfl (fun zv zh zq => c_X8_due w (xl x) (xs (a3 + 1).toNatClampNeg) (xs (a3 + 2).toNatClampNeg) hC zv zh zq) (fun v93 h94 => ?_)
                            refine s_aload_n hG dL_law_550 2 rfl rfl ?_
                            refine s_aload_n hG dL_law_551 0 rfl rfl ?_
                            refine s_iload_n hG dL_law_552 3 rfl rfl ?_
                            refine s_iconst hG dL_law_553 ic_1 ?_
                            refine s_iadd hG dL_law_554 ?_
                            refine l_ld hG hL dL_law_555 q91 ?_
                            refine s_aload_n hG dL_law_556 0 rfl rfl ?_
                            refine s_iload_n hG dL_law_557 3 rfl rfl ?_
                            refine s_iconst hG dL_law_558 ic_2 ?_
                            refine s_iadd hG dL_law_559 ?_
                            refine l_ld hG hL dL_law_560 q92 ?_
                            refine l_callM (inj := inI) (As := [.int (xs (a3 + 1).toNatClampNeg), .int (xs (a3 + 2).toNatClampNeg)]) (st := [.int v93]) w w2 hw hG hL hR dL_law_561 (by decide) vv_L_61 rfl rfl (Nat.le_of_ble_eq_true rfl) rfl (fun zv zh zq => c_X9_due w2 (xl x) (xs (a3 + 1).toNatClampNeg) (xs (a3 + 2).toNatClampNeg) hM zv zh zq) (fun v95 h96 => ?_)
                            refine s_icmp_eq hG dL_law_564 (tgt := 1386) (by decide) (fun q97 => ?_) (fun q97 => ?_)
                            · refine s_iinc hG dL_law_1386 3 rfl ic_6 (by decide) (fun v98 => [(3, .int v98), (0, .ref b), (1, .ref (gB (GC w) + 1)), (2, .ref (gB (GM w2) + 1))]) (fun _ => rfl) (fun v98 => ?_)
                              refine s_goto (tgt := 18) hG dL_law_1389 (by decide) ?_
                              refine s_lv [1, 2, 3, 0] rfl ?_
                              exact ih v98 h94 h96
                            · refine s_iconst hG dL_law_567 ic_0 ?_
                              exact s_none
                          · refine s_tsw (off := 536) hG dL_law_33 11 (by decide) (tgt := 569) (by decide) (fun q99 => ?_) (fun q99 => ?_)
                            · refine s_aload_n hG dL_law_569 1 rfl rfl ?_
                              refine s_aload_n hG dL_law_570 0 rfl rfl ?_
                              refine s_iload_n hG dL_law_571 3 rfl rfl ?_
                              refine s_iconst hG dL_law_572 ic_1 ?_
                              refine s_iadd hG dL_law_573 ?_
                              refine s_ck (fun q100 => ?_)
                              refine l_ld hG hL dL_law_574 q100 ?_
                              refine s_aload_n hG dL_law_575 0 rfl rfl ?_
                              refine s_iload_n hG dL_law_576 3 rfl rfl ?_
                              refine s_iconst hG dL_law_577 ic_2 ?_
                              refine s_iadd hG dL_law_578 ?_
                              refine s_ck (fun q101 => ?_)
                              refine l_ld hG hL dL_law_579 q101 ?_
                              refine s_if_eq hG dL_law_580 (tgt := 587) (by decide) (fun q102 => ?_) (fun q102 => ?_)
                              · refine s_iconst hG dL_law_587 ic_0 ?_
                                exact s_law_L588 w w2 hw hG hR hL hZ (m_law_L18 L xs n) ih a3 0 (xs (a3 + 1).toNatClampNeg) hC hM
                              · refine s_iconst hG dL_law_583 ic_1 ?_
                                refine s_goto (tgt := 588) hG dL_law_584 (by decide) ?_
                                exact s_law_L588 w w2 hw hG hR hL hZ (m_law_L18 L xs n) ih a3 1 (xs (a3 + 1).toNatClampNeg) hC hM
                            · refine s_tsw (off := 596) hG dL_law_33 12 (by decide) (tgt := 629) (by decide) (fun q103 => ?_) (fun q103 => ?_)
                              · refine s_aload_n hG dL_law_629 1 rfl rfl ?_
                                refine s_aload_n hG dL_law_630 0 rfl rfl ?_
                                refine s_iload_n hG dL_law_631 3 rfl rfl ?_
                                refine s_iconst hG dL_law_632 ic_1 ?_
                                refine s_iadd hG dL_law_633 ?_
                                refine s_ck (fun q104 => ?_)
                                refine l_ld hG hL dL_law_634 q104 ?_
                                refine s_aload_n hG dL_law_635 0 rfl rfl ?_
                                refine s_iload_n hG dL_law_636 3 rfl rfl ?_
                                refine s_iconst hG dL_law_637 ic_2 ?_
                                refine s_iadd hG dL_law_638 ?_
                                refine s_ck (fun q105 => ?_)
                                refine l_ld hG hL dL_law_639 q105 ?_
                                refine s_aload_n hG dL_law_640 0 rfl rfl ?_
                                refine s_iload_n hG dL_law_641 3 rfl rfl ?_
                                refine s_iconst hG dL_law_642 ic_3 ?_
                                refine s_iadd hG dL_law_643 ?_
                                refine s_ck (fun q106 => ?_)
                                refine l_ld hG hL dL_law_644 q106 ?_
                                refine l_callC (inj := inL) (As := [.int (xs (a3 + 1).toNatClampNeg), .int (xs (a3 + 2).toNatClampNeg), .int (xs (a3 + 3).toNatClampNeg)]) (st := []) w w2 hw hG hL hR dL_law_645 (by decide) vv_L_67 rfl rfl (Nat.le_of_ble_eq_true rfl) rfl (fun zv zh zq => c_X8_all w (xl x) (xs (a3 + 1).toNatClampNeg) (xs (a3 + 2).toNatClampNeg) (xs (a3 + 3).toNatClampNeg) hC zv zh zq) (fun v107 h108 => ?_)
                                refine s_aload_n hG dL_law_648 2 rfl rfl ?_
                                refine s_aload_n hG dL_law_649 0 rfl rfl ?_
                                refine s_iload_n hG dL_law_650 3 rfl rfl ?_
                                refine s_iconst hG dL_law_651 ic_1 ?_
                                refine s_iadd hG dL_law_652 ?_
                                refine l_ld hG hL dL_law_653 q104 ?_
                                refine s_aload_n hG dL_law_654 0 rfl rfl ?_
                                refine s_iload_n hG dL_law_655 3 rfl rfl ?_
                                refine s_iconst hG dL_law_656 ic_2 ?_
                                refine s_iadd hG dL_law_657 ?_
                                refine l_ld hG hL dL_law_658 q105 ?_
                                refine s_aload_n hG dL_law_659 0 rfl rfl ?_
                                refine s_iload_n hG dL_law_660 3 rfl rfl ?_
                                refine s_iconst hG dL_law_661 ic_3 ?_
                                refine s_iadd hG dL_law_662 ?_
                                refine l_ld hG hL dL_law_663 q106 ?_
                                refine l_callM (inj := inL) (As := [.int (xs (a3 + 1).toNatClampNeg), .int (xs (a3 + 2).toNatClampNeg), .int (xs (a3 + 3).toNatClampNeg)]) (st := [.long v107]) w w2 hw hG hL hR dL_law_664 (by decide) vv_L_71 rfl rfl (Nat.le_of_ble_eq_true rfl) rfl (fun zv zh zq => c_X9_all w2 (xl x) (xs (a3 + 1).toNatClampNeg) (xs (a3 + 2).toNatClampNeg) (xs (a3 + 3).toNatClampNeg) hM zv zh zq) (fun v109 h110 => ?_)
                                refine s_lcmp_eq hG dL_law_667 dL_law_668 (tgt := 1386) (by decide) (fun q111 => ?_) (fun q111 => ?_)
                                · refine s_iinc hG dL_law_1386 3 rfl ic_6 (by decide) (fun v112 => [(3, .int v112), (0, .ref b), (1, .ref (gB (GC w) + 1)), (2, .ref (gB (GM w2) + 1))]) (fun _ => rfl) (fun v112 => ?_)
                                  refine s_goto (tgt := 18) hG dL_law_1389 (by decide) ?_
                                  refine s_lv [1, 2, 3, 0] rfl ?_
                                  exact ih v112 h108 h110
                                · refine s_iconst hG dL_law_671 ic_0 ?_
                                  exact s_none
                              · refine s_tsw (off := 640) hG dL_law_33 13 (by decide) (tgt := 673) (by decide) (fun q113 => ?_) (fun q113 => ?_)
                                · refine s_aload_n hG dL_law_673 1 rfl rfl ?_
                                  refine s_aload_n hG dL_law_674 0 rfl rfl ?_
                                  refine s_iload_n hG dL_law_675 3 rfl rfl ?_
                                  refine s_iconst hG dL_law_676 ic_1 ?_
                                  refine s_iadd hG dL_law_677 ?_
                                  refine s_ck (fun q114 => ?_)
                                  refine l_ld hG hL dL_law_678 q114 ?_
                                  refine s_aload_n hG dL_law_679 0 rfl rfl ?_
                                  refine s_iload_n hG dL_law_680 3 rfl rfl ?_
                                  refine s_iconst hG dL_law_681 ic_2 ?_
                                  refine s_iadd hG dL_law_682 ?_
                                  refine s_ck (fun q115 => ?_)
                                  refine l_ld hG hL dL_law_683 q115 ?_
                                  refine s_aload_n hG dL_law_684 0 rfl rfl ?_
                                  refine s_iload_n hG dL_law_685 3 rfl rfl ?_
                                  refine s_iconst hG dL_law_686 ic_3 ?_
                                  refine s_iadd hG dL_law_687 ?_
                                  refine s_ck (fun q116 => ?_)
                                  refine l_ld hG hL dL_law_688 q116 ?_
                                  refine l_callC (inj := inL) (As := [.int (xs (a3 + 1).toNatClampNeg), .int (xs (a3 + 2).toNatClampNeg), .int (xs (a3 + 3).toNatClampNeg)]) (st := []) w w2 hw hG hL hR dL_law_689 (by decide) vv_L_72 rfl rfl (Nat.le_of_ble_eq_true rfl) rfl (fun zv zh zq => c_X8_ends w (xl x) (xs (a3 + 1).toNatClampNeg) (xs (a3 + 2).toNatClampNeg) (xs (a3 + 3).toNatClampNeg) hC zv zh zq) (fun v117 h118 => ?_)
                                  refine s_aload_n hG dL_law_692 2 rfl rfl ?_
                                  refine s_aload_n hG dL_law_693 0 rfl rfl ?_
                                  refine s_iload_n hG dL_law_694 3 rfl rfl ?_
                                  refine s_iconst hG dL_law_695 ic_1 ?_
                                  refine s_iadd hG dL_law_696 ?_
                                  refine l_ld hG hL dL_law_697 q114 ?_
                                  refine s_aload_n hG dL_law_698 0 rfl rfl ?_
                                  refine s_iload_n hG dL_law_699 3 rfl rfl ?_
                                  refine s_iconst hG dL_law_700 ic_2 ?_
                                  refine s_iadd hG dL_law_701 ?_
                                  refine l_ld hG hL dL_law_702 q115 ?_
                                  refine s_aload_n hG dL_law_703 0 rfl rfl ?_
                                  refine s_iload_n hG dL_law_704 3 rfl rfl ?_
                                  refine s_iconst hG dL_law_705 ic_3 ?_
                                  refine s_iadd hG dL_law_706 ?_
                                  refine l_ld hG hL dL_law_707 q116 ?_
                                  refine l_callM (inj := inL) (As := [.int (xs (a3 + 1).toNatClampNeg), .int (xs (a3 + 2).toNatClampNeg), .int (xs (a3 + 3).toNatClampNeg)]) (st := [.long v117]) w w2 hw hG hL hR dL_law_708 (by decide) vv_L_75 rfl rfl (Nat.le_of_ble_eq_true rfl) rfl (fun zv zh zq => c_X9_ends w2 (xl x) (xs (a3 + 1).toNatClampNeg) (xs (a3 + 2).toNatClampNeg) (xs (a3 + 3).toNatClampNeg) hM zv zh zq) (fun v119 h120 => ?_)
                                  refine s_lcmp_eq hG dL_law_711 dL_law_712 (tgt := 1386) (by decide) (fun q121 => ?_) (fun q121 => ?_)
                                  · refine s_iinc hG dL_law_1386 3 rfl ic_6 (by decide) (fun v122 => [(3, .int v122), (0, .ref b), (1, .ref (gB (GC w) + 1)), (2, .ref (gB (GM w2) + 1))]) (fun _ => rfl) (fun v122 => ?_)
                                    refine s_goto (tgt := 18) hG dL_law_1389 (by decide) ?_
                                    refine s_lv [1, 2, 3, 0] rfl ?_
                                    exact ih v122 h118 h120
                                  · refine s_iconst hG dL_law_715 ic_0 ?_
                                    exact s_none
                                · refine s_tsw (off := 684) hG dL_law_33 14 (by decide) (tgt := 717) (by decide) (fun q123 => ?_) (fun q123 => ?_)
                                  · refine s_aload_n hG dL_law_717 1 rfl rfl ?_
                                    refine s_aload_n hG dL_law_718 0 rfl rfl ?_
                                    refine s_iload_n hG dL_law_719 3 rfl rfl ?_
                                    refine s_iconst hG dL_law_720 ic_1 ?_
                                    refine s_iadd hG dL_law_721 ?_
                                    refine s_ck (fun q124 => ?_)
                                    refine l_ld hG hL dL_law_722 q124 ?_
                                    refine l_callC (inj := inI) (As := [.int (xs (a3 + 1).toNatClampNeg)]) (st := []) w w2 hw hG hL hR dL_law_723 (by decide) vv_L_76 rfl rfl (Nat.le_of_ble_eq_true rfl) rfl (fun zv zh zq => c_X8_truly w (xl x) (xs (a3 + 1).toNatClampNeg) hC zv zh zq) (fun v125 h126 => ?_)
                                    refine s_aload_n hG dL_law_726 2 rfl rfl ?_
                                    refine s_aload_n hG dL_law_727 0 rfl rfl ?_
                                    refine s_iload_n hG dL_law_728 3 rfl rfl ?_
                                    refine s_iconst hG dL_law_729 ic_1 ?_
                                    refine s_iadd hG dL_law_730 ?_
                                    refine l_ld hG hL dL_law_731 q124 ?_
                                    refine l_callM (inj := inI) (As := [.int (xs (a3 + 1).toNatClampNeg)]) (st := [.int v125]) w w2 hw hG hL hR dL_law_732 (by decide) vv_L_79 rfl rfl (Nat.le_of_ble_eq_true rfl) rfl (fun zv zh zq => c_X9_truly w2 (xl x) (xs (a3 + 1).toNatClampNeg) hM zv zh zq) (fun v127 h128 => ?_)
                                    refine s_icmp_eq hG dL_law_735 (tgt := 1386) (by decide) (fun q129 => ?_) (fun q129 => ?_)
                                    · refine s_iinc hG dL_law_1386 3 rfl ic_6 (by decide) (fun v130 => [(3, .int v130), (0, .ref b), (1, .ref (gB (GC w) + 1)), (2, .ref (gB (GM w2) + 1))]) (fun _ => rfl) (fun v130 => ?_)
                                      refine s_goto (tgt := 18) hG dL_law_1389 (by decide) ?_
                                      refine s_lv [1, 2, 3, 0] rfl ?_
                                      exact ih v130 h126 h128
                                    · refine s_iconst hG dL_law_738 ic_0 ?_
                                      exact s_none
                                  · refine s_tsw (off := 707) hG dL_law_33 15 (by decide) (tgt := 740) (by decide) (fun q131 => ?_) (fun q131 => ?_)
                                    · refine s_aload_n hG dL_law_740 1 rfl rfl ?_
                                      refine s_aload_n hG dL_law_741 0 rfl rfl ?_
                                      refine s_iload_n hG dL_law_742 3 rfl rfl ?_
                                      refine s_iconst hG dL_law_743 ic_1 ?_
                                      refine s_iadd hG dL_law_744 ?_
                                      refine s_ck (fun q132 => ?_)
                                      refine l_ld hG hL dL_law_745 q132 ?_
                                      refine s_aload_n hG dL_law_746 0 rfl rfl ?_
                                      refine s_iload_n hG dL_law_747 3 rfl rfl ?_
                                      refine s_iconst hG dL_law_748 ic_2 ?_
                                      refine s_iadd hG dL_law_749 ?_
                                      refine s_ck (fun q133 => ?_)
                                      refine l_ld hG hL dL_law_750 q133 ?_
                                      refine l_callC (inj := inI) (As := [.int (xs (a3 + 1).toNatClampNeg), .int (xs (a3 + 2).toNatClampNeg)]) (st := []) w w2 hw hG hL hR dL_law_751 (by decide) vv_L_80 rfl rfl (Nat.le_of_ble_eq_true rfl) rfl (fun zv zh zq => c_X8_rolled w (xl x) (xs (a3 + 1).toNatClampNeg) (xs (a3 + 2).toNatClampNeg) hC zv zh zq) (fun v134 h135 => ?_)
                                      refine s_aload_n hG dL_law_754 2 rfl rfl ?_
                                      refine s_aload_n hG dL_law_755 0 rfl rfl ?_
                                      refine s_iload_n hG dL_law_756 3 rfl rfl ?_
                                      refine s_iconst hG dL_law_757 ic_1 ?_
                                      refine s_iadd hG dL_law_758 ?_
                                      refine l_ld hG hL dL_law_759 q132 ?_
                                      refine s_aload_n hG dL_law_760 0 rfl rfl ?_
                                      refine s_iload_n hG dL_law_761 3 rfl rfl ?_
                                      refine s_iconst hG dL_law_762 ic_2 ?_
                                      refine s_iadd hG dL_law_763 ?_
                                      refine l_ld hG hL dL_law_764 q133 ?_
                                      refine l_callM (inj := inI) (As := [.int (xs (a3 + 1).toNatClampNeg), .int (xs (a3 + 2).toNatClampNeg)]) (st := [.int v134]) w w2 hw hG hL hR dL_law_765 (by decide) vv_L_83 rfl rfl (Nat.le_of_ble_eq_true rfl) rfl (fun zv zh zq => c_X9_rolled w2 (xl x) (xs (a3 + 1).toNatClampNeg) (xs (a3 + 2).toNatClampNeg) hM zv zh zq) (fun v136 h137 => ?_)
                                      refine s_icmp_eq hG dL_law_768 (tgt := 1386) (by decide) (fun q138 => ?_) (fun q138 => ?_)
                                      · refine s_iinc hG dL_law_1386 3 rfl ic_6 (by decide) (fun v139 => [(3, .int v139), (0, .ref b), (1, .ref (gB (GC w) + 1)), (2, .ref (gB (GM w2) + 1))]) (fun _ => rfl) (fun v139 => ?_)
                                        refine s_goto (tgt := 18) hG dL_law_1389 (by decide) ?_
                                        refine s_lv [1, 2, 3, 0] rfl ?_
                                        exact ih v139 h135 h137
                                      · refine s_iconst hG dL_law_771 ic_0 ?_
                                        exact s_none
                                    · refine s_tsw (off := 740) hG dL_law_33 16 (by decide) (tgt := 773) (by decide) (fun q140 => ?_) (fun q140 => ?_)
                                      · refine s_aload_n hG dL_law_773 1 rfl rfl ?_
                                        refine s_aload_n hG dL_law_774 0 rfl rfl ?_
                                        refine s_iload_n hG dL_law_775 3 rfl rfl ?_
                                        refine s_iconst hG dL_law_776 ic_1 ?_
                                        refine s_iadd hG dL_law_777 ?_
                                        refine s_ck (fun q141 => ?_)
                                        refine l_ld hG hL dL_law_778 q141 ?_
                                        refine s_aload_n hG dL_law_779 0 rfl rfl ?_
                                        refine s_iload_n hG dL_law_780 3 rfl rfl ?_
                                        refine s_iconst hG dL_law_781 ic_2 ?_
                                        refine s_iadd hG dL_law_782 ?_
                                        refine s_ck (fun q142 => ?_)
                                        refine l_ld hG hL dL_law_783 q142 ?_
                                        refine l_callC (inj := inI) (As := [.int (xs (a3 + 1).toNatClampNeg), .int (xs (a3 + 2).toNatClampNeg)]) (st := []) w w2 hw hG hL hR dL_law_784 (by decide) vv_L_84 rfl rfl (Nat.le_of_ble_eq_true rfl) rfl (fun zv zh zq => c_X8_best w (xl x) (xs (a3 + 1).toNatClampNeg) (xs (a3 + 2).toNatClampNeg) hC zv zh zq) (fun v143 h144 => ?_)
                                        refine s_aload_n hG dL_law_787 2 rfl rfl ?_
                                        refine s_aload_n hG dL_law_788 0 rfl rfl ?_
                                        refine s_iload_n hG dL_law_789 3 rfl rfl ?_
                                        refine s_iconst hG dL_law_790 ic_1 ?_
                                        refine s_iadd hG dL_law_791 ?_
                                        refine l_ld hG hL dL_law_792 q141 ?_
                                        refine s_aload_n hG dL_law_793 0 rfl rfl ?_
                                        refine s_iload_n hG dL_law_794 3 rfl rfl ?_
                                        refine s_iconst hG dL_law_795 ic_2 ?_
                                        refine s_iadd hG dL_law_796 ?_
                                        refine l_ld hG hL dL_law_797 q142 ?_
                                        refine l_callM (inj := inI) (As := [.int (xs (a3 + 1).toNatClampNeg), .int (xs (a3 + 2).toNatClampNeg)]) (st := [.int v143]) w w2 hw hG hL hR dL_law_798 (by decide) vv_L_87 rfl rfl (Nat.le_of_ble_eq_true rfl) rfl (fun zv zh zq => c_X9_best w2 (xl x) (xs (a3 + 1).toNatClampNeg) (xs (a3 + 2).toNatClampNeg) hM zv zh zq) (fun v145 h146 => ?_)
                                        refine s_icmp_eq hG dL_law_801 (tgt := 1386) (by decide) (fun q147 => ?_) (fun q147 => ?_)
                                        · refine s_iinc hG dL_law_1386 3 rfl ic_6 (by decide) (fun v148 => [(3, .int v148), (0, .ref b), (1, .ref (gB (GC w) + 1)), (2, .ref (gB (GM w2) + 1))]) (fun _ => rfl) (fun v148 => ?_)
                                          refine s_goto (tgt := 18) hG dL_law_1389 (by decide) ?_
                                          refine s_lv [1, 2, 3, 0] rfl ?_
                                          exact ih v148 h144 h146
                                        · refine s_iconst hG dL_law_804 ic_0 ?_
                                          exact s_none
                                      · refine s_tsw (off := 773) hG dL_law_33 17 (by decide) (tgt := 806) (by decide) (fun q149 => ?_) (fun q149 => ?_)
                                        · refine s_aload_n hG dL_law_806 1 rfl rfl ?_
                                          refine s_aload_n hG dL_law_807 0 rfl rfl ?_
                                          refine s_iload_n hG dL_law_808 3 rfl rfl ?_
                                          refine s_iconst hG dL_law_809 ic_1 ?_
                                          refine s_iadd hG dL_law_810 ?_
                                          refine s_ck (fun q150 => ?_)
                                          refine l_ld hG hL dL_law_811 q150 ?_
                                          refine l_callC (inj := inI) (As := [.int (xs (a3 + 1).toNatClampNeg)]) (st := []) w w2 hw hG hL hR dL_law_812 (by decide) vv_L_88 rfl rfl (Nat.le_of_ble_eq_true rfl) rfl (fun zv zh zq => c_X8_slips w (xl x) (xs (a3 + 1).toNatClampNeg) hC zv zh zq) (fun v151 h152 => ?_)
                                          refine s_aload_n hG dL_law_815 2 rfl rfl ?_
                                          refine s_aload_n hG dL_law_816 0 rfl rfl ?_
                                          refine s_iload_n hG dL_law_817 3 rfl rfl ?_
                                          refine s_iconst hG dL_law_818 ic_1 ?_
                                          refine s_iadd hG dL_law_819 ?_
                                          refine l_ld hG hL dL_law_820 q150 ?_
                                          refine l_callM (inj := inI) (As := [.int (xs (a3 + 1).toNatClampNeg)]) (st := [.int v151]) w w2 hw hG hL hR dL_law_821 (by decide) vv_L_91 rfl rfl (Nat.le_of_ble_eq_true rfl) rfl (fun zv zh zq => c_X9_slips w2 (xl x) (xs (a3 + 1).toNatClampNeg) hM zv zh zq) (fun v153 h154 => ?_)
                                          refine s_icmp_eq hG dL_law_824 (tgt := 1386) (by decide) (fun q155 => ?_) (fun q155 => ?_)
                                          · refine s_iinc hG dL_law_1386 3 rfl ic_6 (by decide) (fun v156 => [(3, .int v156), (0, .ref b), (1, .ref (gB (GC w) + 1)), (2, .ref (gB (GM w2) + 1))]) (fun _ => rfl) (fun v156 => ?_)
                                            refine s_goto (tgt := 18) hG dL_law_1389 (by decide) ?_
                                            refine s_lv [1, 2, 3, 0] rfl ?_
                                            exact ih v156 h152 h154
                                          · refine s_iconst hG dL_law_827 ic_0 ?_
                                            exact s_none
                                        · refine s_tsw (off := 796) hG dL_law_33 18 (by decide) (tgt := 829) (by decide) (fun q157 => ?_) (fun q157 => ?_)
                                          · refine s_aload_n hG dL_law_829 1 rfl rfl ?_
                                            refine s_aload_n hG dL_law_830 0 rfl rfl ?_
                                            refine s_iload_n hG dL_law_831 3 rfl rfl ?_
                                            refine s_iconst hG dL_law_832 ic_1 ?_
                                            refine s_iadd hG dL_law_833 ?_
                                            refine s_ck (fun q158 => ?_)
                                            refine l_ld hG hL dL_law_834 q158 ?_
                                            refine l_callC (inj := inI) (As := [.int (xs (a3 + 1).toNatClampNeg)]) (st := []) w w2 hw hG hL hR dL_law_835 (by decide) vv_L_92 rfl rfl (Nat.le_of_ble_eq_true rfl) rfl (fun zv zh zq => c_X8_wise w (xl x) (xs (a3 + 1).toNatClampNeg) hC zv zh zq) (fun v159 h160 => ?_)
                                            refine s_aload_n hG dL_law_838 2 rfl rfl ?_
                                            refine s_aload_n hG dL_law_839 0 rfl rfl ?_
                                            refine s_iload_n hG dL_law_840 3 rfl rfl ?_
                                            refine s_iconst hG dL_law_841 ic_1 ?_
                                            refine s_iadd hG dL_law_842 ?_
                                            refine l_ld hG hL dL_law_843 q158 ?_
                                            refine l_callM (inj := inI) (As := [.int (xs (a3 + 1).toNatClampNeg)]) (st := [.int v159]) w w2 hw hG hL hR dL_law_844 (by decide) vv_L_95 rfl rfl (Nat.le_of_ble_eq_true rfl) rfl (fun zv zh zq => c_X9_wise w2 (xl x) (xs (a3 + 1).toNatClampNeg) hM zv zh zq) (fun v161 h162 => ?_)
                                            refine s_icmp_eq hG dL_law_847 (tgt := 1386) (by decide) (fun q163 => ?_) (fun q163 => ?_)
                                            · refine s_iinc hG dL_law_1386 3 rfl ic_6 (by decide) (fun v164 => [(3, .int v164), (0, .ref b), (1, .ref (gB (GC w) + 1)), (2, .ref (gB (GM w2) + 1))]) (fun _ => rfl) (fun v164 => ?_)
                                              refine s_goto (tgt := 18) hG dL_law_1389 (by decide) ?_
                                              refine s_lv [1, 2, 3, 0] rfl ?_
                                              exact ih v164 h160 h162
                                            · refine s_iconst hG dL_law_850 ic_0 ?_
                                              exact s_none
                                          · refine s_tsw (off := 819) hG dL_law_33 19 (by decide) (tgt := 852) (by decide) (fun q165 => ?_) (fun q165 => ?_)
                                            · refine s_aload_n hG dL_law_852 1 rfl rfl ?_
                                              refine s_aload_n hG dL_law_853 0 rfl rfl ?_
                                              refine s_iload_n hG dL_law_854 3 rfl rfl ?_
                                              refine s_iconst hG dL_law_855 ic_1 ?_
                                              refine s_iadd hG dL_law_856 ?_
                                              refine s_ck (fun q166 => ?_)
                                              refine l_ld hG hL dL_law_857 q166 ?_
                                              refine s_aload_n hG dL_law_858 0 rfl rfl ?_
                                              refine s_iload_n hG dL_law_859 3 rfl rfl ?_
                                              refine s_iconst hG dL_law_860 ic_2 ?_
                                              refine s_iadd hG dL_law_861 ?_
                                              refine s_ck (fun q167 => ?_)
                                              refine l_ld hG hL dL_law_862 q167 ?_
                                              refine s_aload_n hG dL_law_863 0 rfl rfl ?_
                                              refine s_iload_n hG dL_law_864 3 rfl rfl ?_
                                              refine s_iconst hG dL_law_865 ic_3 ?_
                                              refine s_iadd hG dL_law_866 ?_
                                              refine s_ck (fun q168 => ?_)
                                              refine l_ld hG hL dL_law_867 q168 ?_
                                              refine l_callC (inj := inL) (As := [.int (xs (a3 + 1).toNatClampNeg), .int (xs (a3 + 2).toNatClampNeg), .int (xs (a3 + 3).toNatClampNeg)]) (st := []) w w2 hw hG hL hR dL_law_868 (by decide) vv_L_96 rfl rfl (Nat.le_of_ble_eq_true rfl) rfl (fun zv zh zq => c_X8_off w (xl x) (xs (a3 + 1).toNatClampNeg) (xs (a3 + 2).toNatClampNeg) (xs (a3 + 3).toNatClampNeg) hC zv zh zq) (fun v169 h170 => ?_)
                                              refine s_aload_n hG dL_law_871 2 rfl rfl ?_
                                              refine s_aload_n hG dL_law_872 0 rfl rfl ?_
                                              refine s_iload_n hG dL_law_873 3 rfl rfl ?_
                                              refine s_iconst hG dL_law_874 ic_1 ?_
                                              refine s_iadd hG dL_law_875 ?_
                                              refine l_ld hG hL dL_law_876 q166 ?_
                                              refine s_aload_n hG dL_law_877 0 rfl rfl ?_
                                              refine s_iload_n hG dL_law_878 3 rfl rfl ?_
                                              refine s_iconst hG dL_law_879 ic_2 ?_
                                              refine s_iadd hG dL_law_880 ?_
                                              refine l_ld hG hL dL_law_881 q167 ?_
                                              refine s_aload_n hG dL_law_882 0 rfl rfl ?_
                                              refine s_iload_n hG dL_law_883 3 rfl rfl ?_
                                              refine s_iconst hG dL_law_884 ic_3 ?_
                                              refine s_iadd hG dL_law_885 ?_
                                              refine l_ld hG hL dL_law_886 q168 ?_
                                              refine l_callM (inj := inL) (As := [.int (xs (a3 + 1).toNatClampNeg), .int (xs (a3 + 2).toNatClampNeg), .int (xs (a3 + 3).toNatClampNeg)]) (st := [.long v169]) w w2 hw hG hL hR dL_law_887 (by decide) vv_L_99 rfl rfl (Nat.le_of_ble_eq_true rfl) rfl (fun zv zh zq => c_X9_off w2 (xl x) (xs (a3 + 1).toNatClampNeg) (xs (a3 + 2).toNatClampNeg) (xs (a3 + 3).toNatClampNeg) hM zv zh zq) (fun v171 h172 => ?_)
                                              refine s_lcmp_eq hG dL_law_890 dL_law_891 (tgt := 1386) (by decide) (fun q173 => ?_) (fun q173 => ?_)
                                              · refine s_iinc hG dL_law_1386 3 rfl ic_6 (by decide) (fun v174 => [(3, .int v174), (0, .ref b), (1, .ref (gB (GC w) + 1)), (2, .ref (gB (GM w2) + 1))]) (fun _ => rfl) (fun v174 => ?_)
                                                refine s_goto (tgt := 18) hG dL_law_1389 (by decide) ?_
                                                refine s_lv [1, 2, 3, 0] rfl ?_
                                                exact ih v174 h170 h172
                                              · refine s_iconst hG dL_law_894 ic_0 ?_
                                                exact s_none
                                            · refine s_tsw (off := 863) hG dL_law_33 20 (by decide) (tgt := 896) (by decide) (fun q175 => ?_) (fun q175 => ?_)
                                              · refine s_aload_n hG dL_law_896 1 rfl rfl ?_
                                                refine s_aload_n hG dL_law_897 0 rfl rfl ?_
                                                refine s_iload_n hG dL_law_898 3 rfl rfl ?_
                                                refine s_iconst hG dL_law_899 ic_1 ?_
                                                refine s_iadd hG dL_law_900 ?_
                                                refine s_ck (fun q176 => ?_)
                                                refine l_ld hG hL dL_law_901 q176 ?_
                                                refine s_aload_n hG dL_law_902 0 rfl rfl ?_
                                                refine s_iload_n hG dL_law_903 3 rfl rfl ?_
                                                refine s_iconst hG dL_law_904 ic_2 ?_
                                                refine s_iadd hG dL_law_905 ?_
                                                refine s_ck (fun q177 => ?_)
                                                refine l_ld hG hL dL_law_906 q177 ?_
                                                refine s_aload_n hG dL_law_907 0 rfl rfl ?_
                                                refine s_iload_n hG dL_law_908 3 rfl rfl ?_
                                                refine s_iconst hG dL_law_909 ic_3 ?_
                                                refine s_iadd hG dL_law_910 ?_
                                                refine s_ck (fun q178 => ?_)
                                                refine l_ld hG hL dL_law_911 q178 ?_
                                                refine l_callC (inj := inI) (As := [.int (xs (a3 + 1).toNatClampNeg), .int (xs (a3 + 2).toNatClampNeg), .int (xs (a3 + 3).toNatClampNeg)]) (st := []) w w2 hw hG hL hR dL_law_912 (by decide) vv_L_100 rfl rfl (Nat.le_of_ble_eq_true rfl) rfl (fun zv zh zq => c_X8_beside w (xl x) (xs (a3 + 1).toNatClampNeg) (xs (a3 + 2).toNatClampNeg) (xs (a3 + 3).toNatClampNeg) hC zv zh zq) (fun v179 h180 => ?_)
                                                refine s_aload_n hG dL_law_915 2 rfl rfl ?_
                                                refine s_aload_n hG dL_law_916 0 rfl rfl ?_
                                                refine s_iload_n hG dL_law_917 3 rfl rfl ?_
                                                refine s_iconst hG dL_law_918 ic_1 ?_
                                                refine s_iadd hG dL_law_919 ?_
                                                refine l_ld hG hL dL_law_920 q176 ?_
                                                refine s_aload_n hG dL_law_921 0 rfl rfl ?_
                                                refine s_iload_n hG dL_law_922 3 rfl rfl ?_
                                                refine s_iconst hG dL_law_923 ic_2 ?_
                                                refine s_iadd hG dL_law_924 ?_
                                                refine l_ld hG hL dL_law_925 q177 ?_
                                                refine s_aload_n hG dL_law_926 0 rfl rfl ?_
                                                refine s_iload_n hG dL_law_927 3 rfl rfl ?_
                                                refine s_iconst hG dL_law_928 ic_3 ?_
                                                refine s_iadd hG dL_law_929 ?_
                                                refine l_ld hG hL dL_law_930 q178 ?_
                                                refine l_callM (inj := inI) (As := [.int (xs (a3 + 1).toNatClampNeg), .int (xs (a3 + 2).toNatClampNeg), .int (xs (a3 + 3).toNatClampNeg)]) (st := [.int v179]) w w2 hw hG hL hR dL_law_931 (by decide) vv_L_103 rfl rfl (Nat.le_of_ble_eq_true rfl) rfl (fun zv zh zq => c_X9_beside w2 (xl x) (xs (a3 + 1).toNatClampNeg) (xs (a3 + 2).toNatClampNeg) (xs (a3 + 3).toNatClampNeg) hM zv zh zq) (fun v181 h182 => ?_)
                                                refine s_icmp_eq hG dL_law_934 (tgt := 1386) (by decide) (fun q183 => ?_) (fun q183 => ?_)
                                                · refine s_iinc hG dL_law_1386 3 rfl ic_6 (by decide) (fun v184 => [(3, .int v184), (0, .ref b), (1, .ref (gB (GC w) + 1)), (2, .ref (gB (GM w2) + 1))]) (fun _ => rfl) (fun v184 => ?_)
                                                  refine s_goto (tgt := 18) hG dL_law_1389 (by decide) ?_
                                                  refine s_lv [1, 2, 3, 0] rfl ?_
                                                  exact ih v184 h180 h182
                                                · refine s_iconst hG dL_law_937 ic_0 ?_
                                                  exact s_none
                                              · refine s_tsw (off := 906) hG dL_law_33 21 (by decide) (tgt := 939) (by decide) (fun q185 => ?_) (fun q185 => ?_)
                                                · refine s_aload_n hG dL_law_939 1 rfl rfl ?_
                                                  refine s_aload_n hG dL_law_940 0 rfl rfl ?_
                                                  refine s_iload_n hG dL_law_941 3 rfl rfl ?_
                                                  refine s_iconst hG dL_law_942 ic_1 ?_
                                                  refine s_iadd hG dL_law_943 ?_
                                                  refine s_ck (fun q186 => ?_)
                                                  refine l_ld hG hL dL_law_944 q186 ?_
                                                  refine s_aload_n hG dL_law_945 0 rfl rfl ?_
                                                  refine s_iload_n hG dL_law_946 3 rfl rfl ?_
                                                  refine s_iconst hG dL_law_947 ic_2 ?_
                                                  refine s_iadd hG dL_law_948 ?_
                                                  refine s_ck (fun q187 => ?_)
                                                  refine l_ld hG hL dL_law_949 q187 ?_
                                                  refine s_aload_n hG dL_law_950 0 rfl rfl ?_
                                                  refine s_iload_n hG dL_law_951 3 rfl rfl ?_
                                                  refine s_iconst hG dL_law_952 ic_3 ?_
                                                  refine s_iadd hG dL_law_953 ?_
                                                  refine s_ck (fun q188 => ?_)
                                                  refine l_ld hG hL dL_law_954 q188 ?_
                                                  refine l_callC (inj := inI) (As := [.int (xs (a3 + 1).toNatClampNeg), .int (xs (a3 + 2).toNatClampNeg), .int (xs (a3 + 3).toNatClampNeg)]) (st := []) w w2 hw hG hL hR dL_law_955 (by decide) vv_L_104 rfl rfl (Nat.le_of_ble_eq_true rfl) rfl (fun zv zh zq => c_X8_ways w (xl x) (xs (a3 + 1).toNatClampNeg) (xs (a3 + 2).toNatClampNeg) (xs (a3 + 3).toNatClampNeg) hC zv zh zq) (fun v189 h190 => ?_)
                                                  refine s_aload_n hG dL_law_958 2 rfl rfl ?_
                                                  refine s_aload_n hG dL_law_959 0 rfl rfl ?_
                                                  refine s_iload_n hG dL_law_960 3 rfl rfl ?_
                                                  refine s_iconst hG dL_law_961 ic_1 ?_
                                                  refine s_iadd hG dL_law_962 ?_
                                                  refine l_ld hG hL dL_law_963 q186 ?_
                                                  refine s_aload_n hG dL_law_964 0 rfl rfl ?_
                                                  refine s_iload_n hG dL_law_965 3 rfl rfl ?_
                                                  refine s_iconst hG dL_law_966 ic_2 ?_
                                                  refine s_iadd hG dL_law_967 ?_
                                                  refine l_ld hG hL dL_law_968 q187 ?_
                                                  refine s_aload_n hG dL_law_969 0 rfl rfl ?_
                                                  refine s_iload_n hG dL_law_970 3 rfl rfl ?_
                                                  refine s_iconst hG dL_law_971 ic_3 ?_
                                                  refine s_iadd hG dL_law_972 ?_
                                                  refine l_ld hG hL dL_law_973 q188 ?_
                                                  refine l_callM (inj := inI) (As := [.int (xs (a3 + 1).toNatClampNeg), .int (xs (a3 + 2).toNatClampNeg), .int (xs (a3 + 3).toNatClampNeg)]) (st := [.int v189]) w w2 hw hG hL hR dL_law_974 (by decide) vv_L_107 rfl rfl (Nat.le_of_ble_eq_true rfl) rfl (fun zv zh zq => c_X9_ways w2 (xl x) (xs (a3 + 1).toNatClampNeg) (xs (a3 + 2).toNatClampNeg) (xs (a3 + 3).toNatClampNeg) hM zv zh zq) (fun v191 h192 => ?_)
                                                  refine s_icmp_eq hG dL_law_977 (tgt := 1386) (by decide) (fun q193 => ?_) (fun q193 => ?_)
                                                  · refine s_iinc hG dL_law_1386 3 rfl ic_6 (by decide) (fun v194 => [(3, .int v194), (0, .ref b), (1, .ref (gB (GC w) + 1)), (2, .ref (gB (GM w2) + 1))]) (fun _ => rfl) (fun v194 => ?_)
                                                    refine s_goto (tgt := 18) hG dL_law_1389 (by decide) ?_
                                                    refine s_lv [1, 2, 3, 0] rfl ?_
                                                    exact ih v194 h190 h192
                                                  · refine s_iconst hG dL_law_980 ic_0 ?_
                                                    exact s_none
                                                · refine s_tsw (off := 949) hG dL_law_33 22 (by decide) (tgt := 982) (by decide) (fun q195 => ?_) (fun q195 => ?_)
                                                  · refine s_aload_n hG dL_law_982 1 rfl rfl ?_
                                                    refine s_aload_n hG dL_law_983 0 rfl rfl ?_
                                                    refine s_iload_n hG dL_law_984 3 rfl rfl ?_
                                                    refine s_iconst hG dL_law_985 ic_1 ?_
                                                    refine s_iadd hG dL_law_986 ?_
                                                    refine s_ck (fun q196 => ?_)
                                                    refine l_ld hG hL dL_law_987 q196 ?_
                                                    refine s_aload_n hG dL_law_988 0 rfl rfl ?_
                                                    refine s_iload_n hG dL_law_989 3 rfl rfl ?_
                                                    refine s_iconst hG dL_law_990 ic_2 ?_
                                                    refine s_iadd hG dL_law_991 ?_
                                                    refine s_ck (fun q197 => ?_)
                                                    refine l_ld hG hL dL_law_992 q197 ?_
                                                    refine s_aload_n hG dL_law_993 0 rfl rfl ?_
                                                    refine s_iload_n hG dL_law_994 3 rfl rfl ?_
                                                    refine s_iconst hG dL_law_995 ic_3 ?_
                                                    refine s_iadd hG dL_law_996 ?_
                                                    refine s_ck (fun q198 => ?_)
                                                    refine l_ld hG hL dL_law_997 q198 ?_
                                                    refine l_callC (inj := inI) (As := [.int (xs (a3 + 1).toNatClampNeg), .int (xs (a3 + 2).toNatClampNeg), .int (xs (a3 + 3).toNatClampNeg)]) (st := []) w w2 hw hG hL hR dL_law_998 (by decide) vv_L_108 rfl rfl (Nat.le_of_ble_eq_true rfl) rfl (fun zv zh zq => c_X8_judge w (xl x) (xs (a3 + 1).toNatClampNeg) (xs (a3 + 2).toNatClampNeg) (xs (a3 + 3).toNatClampNeg) hC zv zh zq) (fun v199 h200 => ?_)
                                                    refine s_aload_n hG dL_law_1001 2 rfl rfl ?_
                                                    refine s_aload_n hG dL_law_1002 0 rfl rfl ?_
                                                    refine s_iload_n hG dL_law_1003 3 rfl rfl ?_
                                                    refine s_iconst hG dL_law_1004 ic_1 ?_
                                                    refine s_iadd hG dL_law_1005 ?_
                                                    refine l_ld hG hL dL_law_1006 q196 ?_
                                                    refine s_aload_n hG dL_law_1007 0 rfl rfl ?_
                                                    refine s_iload_n hG dL_law_1008 3 rfl rfl ?_
                                                    refine s_iconst hG dL_law_1009 ic_2 ?_
                                                    refine s_iadd hG dL_law_1010 ?_
                                                    refine l_ld hG hL dL_law_1011 q197 ?_
                                                    refine s_aload_n hG dL_law_1012 0 rfl rfl ?_
                                                    refine s_iload_n hG dL_law_1013 3 rfl rfl ?_
                                                    refine s_iconst hG dL_law_1014 ic_3 ?_
                                                    refine s_iadd hG dL_law_1015 ?_
                                                    refine l_ld hG hL dL_law_1016 q198 ?_
                                                    refine l_callM (inj := inI) (As := [.int (xs (a3 + 1).toNatClampNeg), .int (xs (a3 + 2).toNatClampNeg), .int (xs (a3 + 3).toNatClampNeg)]) (st := [.int v199]) w w2 hw hG hL hR dL_law_1017 (by decide) vv_L_111 rfl rfl (Nat.le_of_ble_eq_true rfl) rfl (fun zv zh zq => c_X9_judge w2 (xl x) (xs (a3 + 1).toNatClampNeg) (xs (a3 + 2).toNatClampNeg) (xs (a3 + 3).toNatClampNeg) hM zv zh zq) (fun v201 h202 => ?_)
                                                    refine s_icmp_eq hG dL_law_1020 (tgt := 1386) (by decide) (fun q203 => ?_) (fun q203 => ?_)
                                                    · refine s_iinc hG dL_law_1386 3 rfl ic_6 (by decide) (fun v204 => [(3, .int v204), (0, .ref b), (1, .ref (gB (GC w) + 1)), (2, .ref (gB (GM w2) + 1))]) (fun _ => rfl) (fun v204 => ?_)
                                                      refine s_goto (tgt := 18) hG dL_law_1389 (by decide) ?_
                                                      refine s_lv [1, 2, 3, 0] rfl ?_
                                                      exact ih v204 h200 h202
                                                    · refine s_iconst hG dL_law_1023 ic_0 ?_
                                                      exact s_none
                                                  · refine s_tsw (off := 992) hG dL_law_33 23 (by decide) (tgt := 1025) (by decide) (fun q205 => ?_) (fun q205 => ?_)
                                                    · refine s_aload_n hG dL_law_1025 1 rfl rfl ?_
                                                      refine l_callC (inj := inI) (As := []) (st := []) w w2 hw hG hL hR dL_law_1026 (by decide) vv_L_112 rfl rfl (Nat.le_of_ble_eq_true rfl) rfl (fun zv zh zq => c_X8_image w (xl x) hC zv zh zq) (fun v206 h207 => ?_)
                                                      refine s_aload_n hG dL_law_1029 2 rfl rfl ?_
                                                      refine l_callM (inj := inI) (As := []) (st := [.int v206]) w w2 hw hG hL hR dL_law_1030 (by decide) vv_L_115 rfl rfl (Nat.le_of_ble_eq_true rfl) rfl (fun zv zh zq => c_X9_image w2 (xl x) hM zv zh zq) (fun v208 h209 => ?_)
                                                      refine s_icmp_eq hG dL_law_1033 (tgt := 1386) (by decide) (fun q210 => ?_) (fun q210 => ?_)
                                                      · refine s_iinc hG dL_law_1386 3 rfl ic_6 (by decide) (fun v211 => [(3, .int v211), (0, .ref b), (1, .ref (gB (GC w) + 1)), (2, .ref (gB (GM w2) + 1))]) (fun _ => rfl) (fun v211 => ?_)
                                                        refine s_goto (tgt := 18) hG dL_law_1389 (by decide) ?_
                                                        refine s_lv [1, 2, 3, 0] rfl ?_
                                                        exact ih v211 h207 h209
                                                      · refine s_iconst hG dL_law_1036 ic_0 ?_
                                                        exact s_none
                                                    · refine s_tsw (off := 1005) hG dL_law_33 24 (by decide) (tgt := 1038) (by decide) (fun q212 => ?_) (fun q212 => ?_)
                                                      · refine s_aload_n hG dL_law_1038 1 rfl rfl ?_
                                                        refine l_callC (inj := inI) (As := []) (st := []) w w2 hw hG hL hR dL_law_1039 (by decide) vv_L_116 rfl rfl (Nat.le_of_ble_eq_true rfl) rfl (fun zv zh zq => c_X8_undo w (xl x) hC zv zh zq) (fun v213 h214 => ?_)
                                                        refine s_aload_n hG dL_law_1042 2 rfl rfl ?_
                                                        refine l_callM (inj := inI) (As := []) (st := [.int v213]) w w2 hw hG hL hR dL_law_1043 (by decide) vv_L_119 rfl rfl (Nat.le_of_ble_eq_true rfl) rfl (fun zv zh zq => c_X9_undo w2 (xl x) hM zv zh zq) (fun v215 h216 => ?_)
                                                        refine s_icmp_eq hG dL_law_1046 (tgt := 1386) (by decide) (fun q217 => ?_) (fun q217 => ?_)
                                                        · refine s_iinc hG dL_law_1386 3 rfl ic_6 (by decide) (fun v218 => [(3, .int v218), (0, .ref b), (1, .ref (gB (GC w) + 1)), (2, .ref (gB (GM w2) + 1))]) (fun _ => rfl) (fun v218 => ?_)
                                                          refine s_goto (tgt := 18) hG dL_law_1389 (by decide) ?_
                                                          refine s_lv [1, 2, 3, 0] rfl ?_
                                                          exact ih v218 h214 h216
                                                        · refine s_iconst hG dL_law_1049 ic_0 ?_
                                                          exact s_none
                                                      · refine s_tsw (off := 1018) hG dL_law_33 25 (by decide) (tgt := 1051) (by decide) (fun q219 => ?_) (fun q219 => ?_)
                                                        · refine s_aload_n hG dL_law_1051 1 rfl rfl ?_
                                                          refine s_aload_n hG dL_law_1052 0 rfl rfl ?_
                                                          refine s_iload_n hG dL_law_1053 3 rfl rfl ?_
                                                          refine s_iconst hG dL_law_1054 ic_1 ?_
                                                          refine s_iadd hG dL_law_1055 ?_
                                                          refine s_ck (fun q220 => ?_)
                                                          refine l_ld hG hL dL_law_1056 q220 ?_
                                                          refine s_aload_n hG dL_law_1057 0 rfl rfl ?_
                                                          refine s_iload_n hG dL_law_1058 3 rfl rfl ?_
                                                          refine s_iconst hG dL_law_1059 ic_2 ?_
                                                          refine s_iadd hG dL_law_1060 ?_
                                                          refine s_ck (fun q221 => ?_)
                                                          refine l_ld hG hL dL_law_1061 q221 ?_
                                                          refine s_aload_n hG dL_law_1062 0 rfl rfl ?_
                                                          refine s_iload_n hG dL_law_1063 3 rfl rfl ?_
                                                          refine s_iconst hG dL_law_1064 ic_3 ?_
                                                          refine s_iadd hG dL_law_1065 ?_
                                                          refine s_ck (fun q222 => ?_)
                                                          refine l_ld hG hL dL_law_1066 q222 ?_
                                                          refine l_callC (inj := inI) (As := [.int (xs (a3 + 1).toNatClampNeg), .int (xs (a3 + 2).toNatClampNeg), .int (xs (a3 + 3).toNatClampNeg)]) (st := []) w w2 hw hG hL hR dL_law_1067 (by decide) vv_L_120 rfl rfl (Nat.le_of_ble_eq_true rfl) rfl (fun zv zh zq => c_X8_act w (xl x) (xs (a3 + 1).toNatClampNeg) (xs (a3 + 2).toNatClampNeg) (xs (a3 + 3).toNatClampNeg) hC zv zh zq) (fun v223 h224 => ?_)
                                                          refine s_aload_n hG dL_law_1070 2 rfl rfl ?_
                                                          refine s_aload_n hG dL_law_1071 0 rfl rfl ?_
                                                          refine s_iload_n hG dL_law_1072 3 rfl rfl ?_
                                                          refine s_iconst hG dL_law_1073 ic_1 ?_
                                                          refine s_iadd hG dL_law_1074 ?_
                                                          refine l_ld hG hL dL_law_1075 q220 ?_
                                                          refine s_aload_n hG dL_law_1076 0 rfl rfl ?_
                                                          refine s_iload_n hG dL_law_1077 3 rfl rfl ?_
                                                          refine s_iconst hG dL_law_1078 ic_2 ?_
                                                          refine s_iadd hG dL_law_1079 ?_
                                                          refine l_ld hG hL dL_law_1080 q221 ?_
                                                          refine s_aload_n hG dL_law_1081 0 rfl rfl ?_
                                                          refine s_iload_n hG dL_law_1082 3 rfl rfl ?_
                                                          refine s_iconst hG dL_law_1083 ic_3 ?_
                                                          refine s_iadd hG dL_law_1084 ?_
                                                          refine l_ld hG hL dL_law_1085 q222 ?_
                                                          refine l_callM (inj := inI) (As := [.int (xs (a3 + 1).toNatClampNeg), .int (xs (a3 + 2).toNatClampNeg), .int (xs (a3 + 3).toNatClampNeg)]) (st := [.int v223]) w w2 hw hG hL hR dL_law_1086 (by decide) vv_L_123 rfl rfl (Nat.le_of_ble_eq_true rfl) rfl (fun zv zh zq => c_X9_act w2 (xl x) (xs (a3 + 1).toNatClampNeg) (xs (a3 + 2).toNatClampNeg) (xs (a3 + 3).toNatClampNeg) hM zv zh zq) (fun v225 h226 => ?_)
                                                          refine s_icmp_eq hG dL_law_1089 (tgt := 1386) (by decide) (fun q227 => ?_) (fun q227 => ?_)
                                                          · refine s_iinc hG dL_law_1386 3 rfl ic_6 (by decide) (fun v228 => [(3, .int v228), (0, .ref b), (1, .ref (gB (GC w) + 1)), (2, .ref (gB (GM w2) + 1))]) (fun _ => rfl) (fun v228 => ?_)
                                                            refine s_goto (tgt := 18) hG dL_law_1389 (by decide) ?_
                                                            refine s_lv [1, 2, 3, 0] rfl ?_
                                                            exact ih v228 h224 h226
                                                          · refine s_iconst hG dL_law_1092 ic_0 ?_
                                                            exact s_none
                                                        · refine s_tsw (off := 1061) hG dL_law_33 26 (by decide) (tgt := 1094) (by decide) (fun q229 => ?_) (fun q229 => ?_)
                                                          · refine s_aload_n hG dL_law_1094 1 rfl rfl ?_
                                                            refine s_aload_n hG dL_law_1095 0 rfl rfl ?_
                                                            refine s_iload_n hG dL_law_1096 3 rfl rfl ?_
                                                            refine s_iconst hG dL_law_1097 ic_1 ?_
                                                            refine s_iadd hG dL_law_1098 ?_
                                                            refine s_ck (fun q230 => ?_)
                                                            refine l_ld hG hL dL_law_1099 q230 ?_
                                                            refine l_callC (inj := inI) (As := [.int (xs (a3 + 1).toNatClampNeg)]) (st := []) w w2 hw hG hL hR dL_law_1100 (by decide) vv_L_124 rfl rfl (Nat.le_of_ble_eq_true rfl) rfl (fun zv zh zq => c_X8_trace w (xl x) (xs (a3 + 1).toNatClampNeg) hC zv zh zq) (fun v231 h232 => ?_)
                                                            refine s_aload_n hG dL_law_1103 2 rfl rfl ?_
                                                            refine s_aload_n hG dL_law_1104 0 rfl rfl ?_
                                                            refine s_iload_n hG dL_law_1105 3 rfl rfl ?_
                                                            refine s_iconst hG dL_law_1106 ic_1 ?_
                                                            refine s_iadd hG dL_law_1107 ?_
                                                            refine l_ld hG hL dL_law_1108 q230 ?_
                                                            refine l_callM (inj := inI) (As := [.int (xs (a3 + 1).toNatClampNeg)]) (st := [.int v231]) w w2 hw hG hL hR dL_law_1109 (by decide) vv_L_127 rfl rfl (Nat.le_of_ble_eq_true rfl) rfl (fun zv zh zq => c_X9_trace w2 (xl x) (xs (a3 + 1).toNatClampNeg) hM zv zh zq) (fun v233 h234 => ?_)
                                                            refine s_icmp_eq hG dL_law_1112 (tgt := 1386) (by decide) (fun q235 => ?_) (fun q235 => ?_)
                                                            · refine s_iinc hG dL_law_1386 3 rfl ic_6 (by decide) (fun v236 => [(3, .int v236), (0, .ref b), (1, .ref (gB (GC w) + 1)), (2, .ref (gB (GM w2) + 1))]) (fun _ => rfl) (fun v236 => ?_)
                                                              refine s_goto (tgt := 18) hG dL_law_1389 (by decide) ?_
                                                              refine s_lv [1, 2, 3, 0] rfl ?_
                                                              exact ih v236 h232 h234
                                                            · refine s_iconst hG dL_law_1115 ic_0 ?_
                                                              exact s_none
                                                          · refine s_tsw (off := 1084) hG dL_law_33 27 (by decide) (tgt := 1117) (by decide) (fun q237 => ?_) (fun q237 => ?_)
                                                            · refine s_aload_n hG dL_law_1117 1 rfl rfl ?_
                                                              refine s_aload_n hG dL_law_1118 0 rfl rfl ?_
                                                              refine s_iload_n hG dL_law_1119 3 rfl rfl ?_
                                                              refine s_iconst hG dL_law_1120 ic_1 ?_
                                                              refine s_iadd hG dL_law_1121 ?_
                                                              refine s_ck (fun q238 => ?_)
                                                              refine l_ld hG hL dL_law_1122 q238 ?_
                                                              refine s_aload_n hG dL_law_1123 0 rfl rfl ?_
                                                              refine s_iload_n hG dL_law_1124 3 rfl rfl ?_
                                                              refine s_iconst hG dL_law_1125 ic_2 ?_
                                                              refine s_iadd hG dL_law_1126 ?_
                                                              refine s_ck (fun q239 => ?_)
                                                              refine l_ld hG hL dL_law_1127 q239 ?_
                                                              refine l_callC (inj := inI) (As := [.int (xs (a3 + 1).toNatClampNeg), .int (xs (a3 + 2).toNatClampNeg)]) (st := []) w w2 hw hG hL hR dL_law_1128 (by decide) vv_L_128 rfl rfl (Nat.le_of_ble_eq_true rfl) rfl (fun zv zh zq => c_X8_taken w (xl x) (xs (a3 + 1).toNatClampNeg) (xs (a3 + 2).toNatClampNeg) hC zv zh zq) (fun v240 h241 => ?_)
                                                              refine s_aload_n hG dL_law_1131 2 rfl rfl ?_
                                                              refine s_aload_n hG dL_law_1132 0 rfl rfl ?_
                                                              refine s_iload_n hG dL_law_1133 3 rfl rfl ?_
                                                              refine s_iconst hG dL_law_1134 ic_1 ?_
                                                              refine s_iadd hG dL_law_1135 ?_
                                                              refine l_ld hG hL dL_law_1136 q238 ?_
                                                              refine s_aload_n hG dL_law_1137 0 rfl rfl ?_
                                                              refine s_iload_n hG dL_law_1138 3 rfl rfl ?_
                                                              refine s_iconst hG dL_law_1139 ic_2 ?_
                                                              refine s_iadd hG dL_law_1140 ?_
                                                              refine l_ld hG hL dL_law_1141 q239 ?_
                                                              refine l_callM (inj := inI) (As := [.int (xs (a3 + 1).toNatClampNeg), .int (xs (a3 + 2).toNatClampNeg)]) (st := [.int v240]) w w2 hw hG hL hR dL_law_1142 (by decide) vv_L_131 rfl rfl (Nat.le_of_ble_eq_true rfl) rfl (fun zv zh zq => c_X9_taken w2 (xl x) (xs (a3 + 1).toNatClampNeg) (xs (a3 + 2).toNatClampNeg) hM zv zh zq) (fun v242 h243 => ?_)
                                                              refine s_icmp_eq hG dL_law_1145 (tgt := 1386) (by decide) (fun q244 => ?_) (fun q244 => ?_)
                                                              · refine s_iinc hG dL_law_1386 3 rfl ic_6 (by decide) (fun v245 => [(3, .int v245), (0, .ref b), (1, .ref (gB (GC w) + 1)), (2, .ref (gB (GM w2) + 1))]) (fun _ => rfl) (fun v245 => ?_)
                                                                refine s_goto (tgt := 18) hG dL_law_1389 (by decide) ?_
                                                                refine s_lv [1, 2, 3, 0] rfl ?_
                                                                exact ih v245 h241 h243
                                                              · refine s_iconst hG dL_law_1148 ic_0 ?_
                                                                exact s_none
                                                            · refine s_tsw (off := 1117) hG dL_law_33 28 (by decide) (tgt := 1150) (by decide) (fun q246 => ?_) (fun q246 => ?_)
                                                              · refine s_aload_n hG dL_law_1150 1 rfl rfl ?_
                                                                refine s_aload_n hG dL_law_1151 0 rfl rfl ?_
                                                                refine s_iload_n hG dL_law_1152 3 rfl rfl ?_
                                                                refine s_iconst hG dL_law_1153 ic_1 ?_
                                                                refine s_iadd hG dL_law_1154 ?_
                                                                refine s_ck (fun q247 => ?_)
                                                                refine l_ld hG hL dL_law_1155 q247 ?_
                                                                refine l_callC (inj := inI) (As := [.int (xs (a3 + 1).toNatClampNeg)]) (st := []) w w2 hw hG hL hR dL_law_1156 (by decide) vv_L_132 rfl rfl (Nat.le_of_ble_eq_true rfl) rfl (fun zv zh zq => c_X8_count w (xl x) (xs (a3 + 1).toNatClampNeg) hC zv zh zq) (fun v248 h249 => ?_)
                                                                refine s_aload_n hG dL_law_1159 2 rfl rfl ?_
                                                                refine s_aload_n hG dL_law_1160 0 rfl rfl ?_
                                                                refine s_iload_n hG dL_law_1161 3 rfl rfl ?_
                                                                refine s_iconst hG dL_law_1162 ic_1 ?_
                                                                refine s_iadd hG dL_law_1163 ?_
                                                                refine l_ld hG hL dL_law_1164 q247 ?_
                                                                refine l_callM (inj := inI) (As := [.int (xs (a3 + 1).toNatClampNeg)]) (st := [.int v248]) w w2 hw hG hL hR dL_law_1165 (by decide) vv_L_135 rfl rfl (Nat.le_of_ble_eq_true rfl) rfl (fun zv zh zq => c_X9_count w2 (xl x) (xs (a3 + 1).toNatClampNeg) hM zv zh zq) (fun v250 h251 => ?_)
                                                                refine s_icmp_eq hG dL_law_1168 (tgt := 1386) (by decide) (fun q252 => ?_) (fun q252 => ?_)
                                                                · refine s_iinc hG dL_law_1386 3 rfl ic_6 (by decide) (fun v253 => [(3, .int v253), (0, .ref b), (1, .ref (gB (GC w) + 1)), (2, .ref (gB (GM w2) + 1))]) (fun _ => rfl) (fun v253 => ?_)
                                                                  refine s_goto (tgt := 18) hG dL_law_1389 (by decide) ?_
                                                                  refine s_lv [1, 2, 3, 0] rfl ?_
                                                                  exact ih v253 h249 h251
                                                                · refine s_iconst hG dL_law_1171 ic_0 ?_
                                                                  exact s_none
                                                              · refine s_tsw (off := 1140) hG dL_law_33 29 (by decide) (tgt := 1173) (by decide) (fun q254 => ?_) (fun q254 => ?_)
                                                                · refine s_aload_n hG dL_law_1173 1 rfl rfl ?_
                                                                  refine s_aload_n hG dL_law_1174 0 rfl rfl ?_
                                                                  refine s_iload_n hG dL_law_1175 3 rfl rfl ?_
                                                                  refine s_iconst hG dL_law_1176 ic_1 ?_
                                                                  refine s_iadd hG dL_law_1177 ?_
                                                                  refine s_ck (fun q255 => ?_)
                                                                  refine l_ld hG hL dL_law_1178 q255 ?_
                                                                  refine s_aload_n hG dL_law_1179 0 rfl rfl ?_
                                                                  refine s_iload_n hG dL_law_1180 3 rfl rfl ?_
                                                                  refine s_iconst hG dL_law_1181 ic_2 ?_
                                                                  refine s_iadd hG dL_law_1182 ?_
                                                                  refine s_ck (fun q256 => ?_)
                                                                  refine l_ld hG hL dL_law_1183 q256 ?_
                                                                  refine s_aload_n hG dL_law_1184 0 rfl rfl ?_
                                                                  refine s_iload_n hG dL_law_1185 3 rfl rfl ?_
                                                                  refine s_iconst hG dL_law_1186 ic_3 ?_
                                                                  refine s_iadd hG dL_law_1187 ?_
                                                                  refine s_ck (fun q257 => ?_)
                                                                  refine l_ld hG hL dL_law_1188 q257 ?_
                                                                  refine l_callC (inj := inI) (As := [.int (xs (a3 + 1).toNatClampNeg), .int (xs (a3 + 2).toNatClampNeg), .int (xs (a3 + 3).toNatClampNeg)]) (st := []) w w2 hw hG hL hR dL_law_1189 (by decide) vv_L_136 rfl rfl (Nat.le_of_ble_eq_true rfl) rfl (fun zv zh zq => c_X8_tape w (xl x) (xs (a3 + 1).toNatClampNeg) (xs (a3 + 2).toNatClampNeg) (xs (a3 + 3).toNatClampNeg) hC zv zh zq) (fun v258 h259 => ?_)
                                                                  refine s_aload_n hG dL_law_1192 2 rfl rfl ?_
                                                                  refine s_aload_n hG dL_law_1193 0 rfl rfl ?_
                                                                  refine s_iload_n hG dL_law_1194 3 rfl rfl ?_
                                                                  refine s_iconst hG dL_law_1195 ic_1 ?_
                                                                  refine s_iadd hG dL_law_1196 ?_
                                                                  refine l_ld hG hL dL_law_1197 q255 ?_
                                                                  refine s_aload_n hG dL_law_1198 0 rfl rfl ?_
                                                                  refine s_iload_n hG dL_law_1199 3 rfl rfl ?_
                                                                  refine s_iconst hG dL_law_1200 ic_2 ?_
                                                                  refine s_iadd hG dL_law_1201 ?_
                                                                  refine l_ld hG hL dL_law_1202 q256 ?_
                                                                  refine s_aload_n hG dL_law_1203 0 rfl rfl ?_
                                                                  refine s_iload_n hG dL_law_1204 3 rfl rfl ?_
                                                                  refine s_iconst hG dL_law_1205 ic_3 ?_
                                                                  refine s_iadd hG dL_law_1206 ?_
                                                                  refine l_ld hG hL dL_law_1207 q257 ?_
                                                                  refine l_callM (inj := inI) (As := [.int (xs (a3 + 1).toNatClampNeg), .int (xs (a3 + 2).toNatClampNeg), .int (xs (a3 + 3).toNatClampNeg)]) (st := [.int v258]) w w2 hw hG hL hR dL_law_1208 (by decide) vv_L_139 rfl rfl (Nat.le_of_ble_eq_true rfl) rfl (fun zv zh zq => c_X9_tape w2 (xl x) (xs (a3 + 1).toNatClampNeg) (xs (a3 + 2).toNatClampNeg) (xs (a3 + 3).toNatClampNeg) hM zv zh zq) (fun v260 h261 => ?_)
                                                                  refine s_icmp_eq hG dL_law_1211 (tgt := 1386) (by decide) (fun q262 => ?_) (fun q262 => ?_)
                                                                  · refine s_iinc hG dL_law_1386 3 rfl ic_6 (by decide) (fun v263 => [(3, .int v263), (0, .ref b), (1, .ref (gB (GC w) + 1)), (2, .ref (gB (GM w2) + 1))]) (fun _ => rfl) (fun v263 => ?_)
                                                                    refine s_goto (tgt := 18) hG dL_law_1389 (by decide) ?_
                                                                    refine s_lv [1, 2, 3, 0] rfl ?_
                                                                    exact ih v263 h259 h261
                                                                  · refine s_iconst hG dL_law_1214 ic_0 ?_
                                                                    exact s_none
                                                                · refine s_tsw (off := 1183) hG dL_law_33 30 (by decide) (tgt := 1216) (by decide) (fun q264 => ?_) (fun q264 => ?_)
                                                                  · refine s_aload_n hG dL_law_1216 1 rfl rfl ?_
                                                                    refine s_aload_n hG dL_law_1217 0 rfl rfl ?_
                                                                    refine s_iload_n hG dL_law_1218 3 rfl rfl ?_
                                                                    refine s_iconst hG dL_law_1219 ic_1 ?_
                                                                    refine s_iadd hG dL_law_1220 ?_
                                                                    refine s_ck (fun q265 => ?_)
                                                                    refine l_ld hG hL dL_law_1221 q265 ?_
                                                                    refine s_aload_n hG dL_law_1222 0 rfl rfl ?_
                                                                    refine s_iload_n hG dL_law_1223 3 rfl rfl ?_
                                                                    refine s_iconst hG dL_law_1224 ic_2 ?_
                                                                    refine s_iadd hG dL_law_1225 ?_
                                                                    refine s_ck (fun q266 => ?_)
                                                                    refine l_ld hG hL dL_law_1226 q266 ?_
                                                                    refine s_aload_n hG dL_law_1227 0 rfl rfl ?_
                                                                    refine s_iload_n hG dL_law_1228 3 rfl rfl ?_
                                                                    refine s_iconst hG dL_law_1229 ic_3 ?_
                                                                    refine s_iadd hG dL_law_1230 ?_
                                                                    refine s_ck (fun q267 => ?_)
                                                                    refine l_ld hG hL dL_law_1231 q267 ?_
                                                                    refine s_i2l hG dL_law_1232 ?_
                                                                    refine s_bipush hG dL_law_1233 bc_32 ?_
                                                                    refine s_lshl hG dL_law_1235 ?_
                                                                    refine s_aload_n hG dL_law_1236 0 rfl rfl ?_
                                                                    refine s_iload_n hG dL_law_1237 3 rfl rfl ?_
                                                                    refine s_iconst hG dL_law_1238 ic_4 ?_
                                                                    refine s_iadd hG dL_law_1239 ?_
                                                                    refine s_ck (fun q268 => ?_)
                                                                    refine l_ld hG hL dL_law_1240 q268 ?_
                                                                    refine s_i2l hG dL_law_1241 ?_
                                                                    refine s_ldc2 hG dL_law_1242 wd_1576 ?_
                                                                    refine s_land hG dL_law_1245 ?_
                                                                    refine s_lor hG dL_law_1246 ?_
                                                                    refine l_callC (inj := inI) (As := [.int (xs (a3 + 1).toNatClampNeg), .int (xs (a3 + 2).toNatClampNeg), .long ((((xs (a3 + 3).toNatClampNeg).toInt64) <<< ((32 : Int32).toInt64 &&& 63)) ||| (((xs (a3 + 4).toNatClampNeg).toInt64) &&& 4294967295))]) (st := []) w w2 hw hG hL hR dL_law_1247 (by decide) vv_L_142 rfl rfl (Nat.le_of_ble_eq_true rfl) rfl (fun zv zh zq => c_X8_item w (xl x) (xs (a3 + 1).toNatClampNeg) (xs (a3 + 2).toNatClampNeg) ((((xs (a3 + 3).toNatClampNeg).toInt64) <<< ((32 : Int32).toInt64 &&& 63)) ||| (((xs (a3 + 4).toNatClampNeg).toInt64) &&& 4294967295)) hC zv zh zq) (fun v269 h270 => ?_)
                                                                    refine s_aload_n hG dL_law_1250 2 rfl rfl ?_
                                                                    refine s_aload_n hG dL_law_1251 0 rfl rfl ?_
                                                                    refine s_iload_n hG dL_law_1252 3 rfl rfl ?_
                                                                    refine s_iconst hG dL_law_1253 ic_1 ?_
                                                                    refine s_iadd hG dL_law_1254 ?_
                                                                    refine l_ld hG hL dL_law_1255 q265 ?_
                                                                    refine s_aload_n hG dL_law_1256 0 rfl rfl ?_
                                                                    refine s_iload_n hG dL_law_1257 3 rfl rfl ?_
                                                                    refine s_iconst hG dL_law_1258 ic_2 ?_
                                                                    refine s_iadd hG dL_law_1259 ?_
                                                                    refine l_ld hG hL dL_law_1260 q266 ?_
                                                                    refine s_aload_n hG dL_law_1261 0 rfl rfl ?_
                                                                    refine s_iload_n hG dL_law_1262 3 rfl rfl ?_
                                                                    refine s_iconst hG dL_law_1263 ic_3 ?_
                                                                    refine s_iadd hG dL_law_1264 ?_
                                                                    refine l_ld hG hL dL_law_1265 q267 ?_
                                                                    refine s_i2l hG dL_law_1266 ?_
                                                                    refine s_bipush hG dL_law_1267 bc_32 ?_
                                                                    refine s_lshl hG dL_law_1269 ?_
                                                                    refine s_aload_n hG dL_law_1270 0 rfl rfl ?_
                                                                    refine s_iload_n hG dL_law_1271 3 rfl rfl ?_
                                                                    refine s_iconst hG dL_law_1272 ic_4 ?_
                                                                    refine s_iadd hG dL_law_1273 ?_
                                                                    refine l_ld hG hL dL_law_1274 q268 ?_
                                                                    refine s_i2l hG dL_law_1275 ?_
                                                                    refine s_ldc2 hG dL_law_1276 wd_1576 ?_
                                                                    refine s_land hG dL_law_1279 ?_
                                                                    refine s_lor hG dL_law_1280 ?_
                                                                    refine l_callM (inj := inI) (As := [.int (xs (a3 + 1).toNatClampNeg), .int (xs (a3 + 2).toNatClampNeg), .long ((((xs (a3 + 3).toNatClampNeg).toInt64) <<< ((32 : Int32).toInt64 &&& 63)) ||| (((xs (a3 + 4).toNatClampNeg).toInt64) &&& 4294967295))]) (st := [.int v269]) w w2 hw hG hL hR dL_law_1281 (by decide) vv_L_146 rfl rfl (Nat.le_of_ble_eq_true rfl) rfl (fun zv zh zq => c_X9_item w2 (xl x) (xs (a3 + 1).toNatClampNeg) (xs (a3 + 2).toNatClampNeg) ((((xs (a3 + 3).toNatClampNeg).toInt64) <<< ((32 : Int32).toInt64 &&& 63)) ||| (((xs (a3 + 4).toNatClampNeg).toInt64) &&& 4294967295)) hM zv zh zq) (fun v271 h272 => ?_)
                                                                    refine s_icmp_eq hG dL_law_1284 (tgt := 1386) (by decide) (fun q273 => ?_) (fun q273 => ?_)
                                                                    · refine s_iinc hG dL_law_1386 3 rfl ic_6 (by decide) (fun v274 => [(3, .int v274), (0, .ref b), (1, .ref (gB (GC w) + 1)), (2, .ref (gB (GM w2) + 1))]) (fun _ => rfl) (fun v274 => ?_)
                                                                      refine s_goto (tgt := 18) hG dL_law_1389 (by decide) ?_
                                                                      refine s_lv [1, 2, 3, 0] rfl ?_
                                                                      exact ih v274 h270 h272
                                                                    · refine s_iconst hG dL_law_1287 ic_0 ?_
                                                                      exact s_none
                                                                  · refine s_tsw (off := 1256) hG dL_law_33 31 (by decide) (tgt := 1289) (by decide) (fun q275 => ?_) (fun q275 => ?_)
                                                                    · refine s_aload_n hG dL_law_1289 1 rfl rfl ?_
                                                                      refine s_aload_n hG dL_law_1290 0 rfl rfl ?_
                                                                      refine s_iload_n hG dL_law_1291 3 rfl rfl ?_
                                                                      refine s_iconst hG dL_law_1292 ic_1 ?_
                                                                      refine s_iadd hG dL_law_1293 ?_
                                                                      refine s_ck (fun q276 => ?_)
                                                                      refine l_ld hG hL dL_law_1294 q276 ?_
                                                                      refine s_aload_n hG dL_law_1295 0 rfl rfl ?_
                                                                      refine s_iload_n hG dL_law_1296 3 rfl rfl ?_
                                                                      refine s_iconst hG dL_law_1297 ic_2 ?_
                                                                      refine s_iadd hG dL_law_1298 ?_
                                                                      refine s_ck (fun q277 => ?_)
                                                                      refine l_ld hG hL dL_law_1299 q277 ?_
                                                                      refine l_callC (inj := inL) (As := [.int (xs (a3 + 1).toNatClampNeg), .int (xs (a3 + 2).toNatClampNeg)]) (st := []) w w2 hw hG hL hR dL_law_1300 (by decide) vv_L_147 rfl rfl (Nat.le_of_ble_eq_true rfl) rfl (fun zv zh zq => c_X8_read w (xl x) (xs (a3 + 1).toNatClampNeg) (xs (a3 + 2).toNatClampNeg) hC zv zh zq) (fun v278 h279 => ?_)
                                                                      refine s_aload_n hG dL_law_1303 2 rfl rfl ?_
                                                                      refine s_aload_n hG dL_law_1304 0 rfl rfl ?_
                                                                      refine s_iload_n hG dL_law_1305 3 rfl rfl ?_
                                                                      refine s_iconst hG dL_law_1306 ic_1 ?_
                                                                      refine s_iadd hG dL_law_1307 ?_
                                                                      refine l_ld hG hL dL_law_1308 q276 ?_
                                                                      refine s_aload_n hG dL_law_1309 0 rfl rfl ?_
                                                                      refine s_iload_n hG dL_law_1310 3 rfl rfl ?_
                                                                      refine s_iconst hG dL_law_1311 ic_2 ?_
                                                                      refine s_iadd hG dL_law_1312 ?_
                                                                      refine l_ld hG hL dL_law_1313 q277 ?_
                                                                      refine l_callM (inj := inL) (As := [.int (xs (a3 + 1).toNatClampNeg), .int (xs (a3 + 2).toNatClampNeg)]) (st := [.long v278]) w w2 hw hG hL hR dL_law_1314 (by decide) vv_L_151 rfl rfl (Nat.le_of_ble_eq_true rfl) rfl (fun zv zh zq => c_X9_read w2 (xl x) (xs (a3 + 1).toNatClampNeg) (xs (a3 + 2).toNatClampNeg) hM zv zh zq) (fun v280 h281 => ?_)
                                                                      refine s_lcmp_eq hG dL_law_1317 dL_law_1318 (tgt := 1386) (by decide) (fun q282 => ?_) (fun q282 => ?_)
                                                                      · refine s_iinc hG dL_law_1386 3 rfl ic_6 (by decide) (fun v283 => [(3, .int v283), (0, .ref b), (1, .ref (gB (GC w) + 1)), (2, .ref (gB (GM w2) + 1))]) (fun _ => rfl) (fun v283 => ?_)
                                                                        refine s_goto (tgt := 18) hG dL_law_1389 (by decide) ?_
                                                                        refine s_lv [1, 2, 3, 0] rfl ?_
                                                                        exact ih v283 h279 h281
                                                                      · refine s_iconst hG dL_law_1321 ic_0 ?_
                                                                        exact s_none
                                                                    · refine s_tsw (off := 1290) hG dL_law_33 32 (by decide) (tgt := 1323) (by decide) (fun q284 => ?_) (fun q284 => ?_)
                                                                      · refine s_aload_n hG dL_law_1323 1 rfl rfl ?_
                                                                        refine s_aload_n hG dL_law_1324 0 rfl rfl ?_
                                                                        refine s_iload_n hG dL_law_1325 3 rfl rfl ?_
                                                                        refine s_iconst hG dL_law_1326 ic_1 ?_
                                                                        refine s_iadd hG dL_law_1327 ?_
                                                                        refine s_ck (fun q285 => ?_)
                                                                        refine l_ld hG hL dL_law_1328 q285 ?_
                                                                        refine s_aload_n hG dL_law_1329 0 rfl rfl ?_
                                                                        refine s_iload_n hG dL_law_1330 3 rfl rfl ?_
                                                                        refine s_iconst hG dL_law_1331 ic_2 ?_
                                                                        refine s_iadd hG dL_law_1332 ?_
                                                                        refine s_ck (fun q286 => ?_)
                                                                        refine l_ld hG hL dL_law_1333 q286 ?_
                                                                        refine s_aload_n hG dL_law_1334 0 rfl rfl ?_
                                                                        refine s_iload_n hG dL_law_1335 3 rfl rfl ?_
                                                                        refine s_iconst hG dL_law_1336 ic_3 ?_
                                                                        refine s_iadd hG dL_law_1337 ?_
                                                                        refine s_ck (fun q287 => ?_)
                                                                        refine l_ld hG hL dL_law_1338 q287 ?_
                                                                        refine s_aload_n hG dL_law_1339 0 rfl rfl ?_
                                                                        refine s_iload_n hG dL_law_1340 3 rfl rfl ?_
                                                                        refine s_iconst hG dL_law_1341 ic_4 ?_
                                                                        refine s_iadd hG dL_law_1342 ?_
                                                                        refine s_ck (fun q288 => ?_)
                                                                        refine l_ld hG hL dL_law_1343 q288 ?_
                                                                        refine s_aload_n hG dL_law_1344 0 rfl rfl ?_
                                                                        refine s_iload_n hG dL_law_1345 3 rfl rfl ?_
                                                                        refine s_iconst hG dL_law_1346 ic_5 ?_
                                                                        refine s_iadd hG dL_law_1347 ?_
                                                                        refine s_ck (fun q289 => ?_)
                                                                        refine l_ld hG hL dL_law_1348 q289 ?_
                                                                        refine l_callC (inj := inI) (As := [.int (xs (a3 + 1).toNatClampNeg), .int (xs (a3 + 2).toNatClampNeg), .int (xs (a3 + 3).toNatClampNeg), .int (xs (a3 + 4).toNatClampNeg), .int (xs (a3 + 5).toNatClampNeg)]) (st := []) w w2 hw hG hL hR dL_law_1349 (by decide) vv_L_152 rfl rfl (Nat.le_of_ble_eq_true rfl) rfl (fun zv zh zq => c_X8_shift w (xl x) (xs (a3 + 1).toNatClampNeg) (xs (a3 + 2).toNatClampNeg) (xs (a3 + 3).toNatClampNeg) (xs (a3 + 4).toNatClampNeg) (xs (a3 + 5).toNatClampNeg) hC zv zh zq) (fun v290 h291 => ?_)
                                                                        refine s_aload_n hG dL_law_1352 2 rfl rfl ?_
                                                                        refine s_aload_n hG dL_law_1353 0 rfl rfl ?_
                                                                        refine s_iload_n hG dL_law_1354 3 rfl rfl ?_
                                                                        refine s_iconst hG dL_law_1355 ic_1 ?_
                                                                        refine s_iadd hG dL_law_1356 ?_
                                                                        refine l_ld hG hL dL_law_1357 q285 ?_
                                                                        refine s_aload_n hG dL_law_1358 0 rfl rfl ?_
                                                                        refine s_iload_n hG dL_law_1359 3 rfl rfl ?_
                                                                        refine s_iconst hG dL_law_1360 ic_2 ?_
                                                                        refine s_iadd hG dL_law_1361 ?_
                                                                        refine l_ld hG hL dL_law_1362 q286 ?_
                                                                        refine s_aload_n hG dL_law_1363 0 rfl rfl ?_
                                                                        refine s_iload_n hG dL_law_1364 3 rfl rfl ?_
                                                                        refine s_iconst hG dL_law_1365 ic_3 ?_
                                                                        refine s_iadd hG dL_law_1366 ?_
                                                                        refine l_ld hG hL dL_law_1367 q287 ?_
                                                                        refine s_aload_n hG dL_law_1368 0 rfl rfl ?_
                                                                        refine s_iload_n hG dL_law_1369 3 rfl rfl ?_
                                                                        refine s_iconst hG dL_law_1370 ic_4 ?_
                                                                        refine s_iadd hG dL_law_1371 ?_
                                                                        refine l_ld hG hL dL_law_1372 q288 ?_
                                                                        refine s_aload_n hG dL_law_1373 0 rfl rfl ?_
                                                                        refine s_iload_n hG dL_law_1374 3 rfl rfl ?_
                                                                        refine s_iconst hG dL_law_1375 ic_5 ?_
                                                                        refine s_iadd hG dL_law_1376 ?_
                                                                        refine l_ld hG hL dL_law_1377 q289 ?_
                                                                        refine l_callM (inj := inI) (As := [.int (xs (a3 + 1).toNatClampNeg), .int (xs (a3 + 2).toNatClampNeg), .int (xs (a3 + 3).toNatClampNeg), .int (xs (a3 + 4).toNatClampNeg), .int (xs (a3 + 5).toNatClampNeg)]) (st := [.int v290]) w w2 hw hG hL hR dL_law_1378 (by decide) vv_L_156 rfl rfl (Nat.le_of_ble_eq_true rfl) rfl (fun zv zh zq => c_X9_shift w2 (xl x) (xs (a3 + 1).toNatClampNeg) (xs (a3 + 2).toNatClampNeg) (xs (a3 + 3).toNatClampNeg) (xs (a3 + 4).toNatClampNeg) (xs (a3 + 5).toNatClampNeg) hM zv zh zq) (fun v292 h293 => ?_)
                                                                        refine s_icmp_eq hG dL_law_1381 (tgt := 1386) (by decide) (fun q294 => ?_) (fun q294 => ?_)
                                                                        · refine s_iinc hG dL_law_1386 3 rfl ic_6 (by decide) (fun v295 => [(3, .int v295), (0, .ref b), (1, .ref (gB (GC w) + 1)), (2, .ref (gB (GM w2) + 1))]) (fun _ => rfl) (fun v295 => ?_)
                                                                          refine s_goto (tgt := 18) hG dL_law_1389 (by decide) ?_
                                                                          refine s_lv [1, 2, 3, 0] rfl ?_
                                                                          exact ih v295 h291 h293
                                                                        · refine s_iconst hG dL_law_1384 ic_0 ?_
                                                                          exact s_none
                                                                      · refine s_tswD (tgt := 1386) hG dL_law_33 (by decide) (by have zq4 := lv_neT q4 (show (0 : Int32).toInt = 0 by decide); have zq13 := lv_neT q13 (show (1 : Int32).toInt = 1 by decide); have zq23 := lv_neT q23 (show (2 : Int32).toInt = 2 by decide); have zq33 := lv_neT q33 (show (3 : Int32).toInt = 3 by decide); have zq38 := lv_neT q38 (show (4 : Int32).toInt = 4 by decide); have zq48 := lv_neT q48 (show (5 : Int32).toInt = 5 by decide); have zq57 := lv_neT q57 (show (6 : Int32).toInt = 6 by decide); have zq66 := lv_neT q66 (show (7 : Int32).toInt = 7 by decide); have zq75 := lv_neT q75 (show (8 : Int32).toInt = 8 by decide); have zq82 := lv_neT q82 (show (9 : Int32).toInt = 9 by decide); have zq90 := lv_neT q90 (show (10 : Int32).toInt = 10 by decide); have zq99 := lv_neT q99 (show (11 : Int32).toInt = 11 by decide); have zq103 := lv_neT q103 (show (12 : Int32).toInt = 12 by decide); have zq113 := lv_neT q113 (show (13 : Int32).toInt = 13 by decide); have zq123 := lv_neT q123 (show (14 : Int32).toInt = 14 by decide); have zq131 := lv_neT q131 (show (15 : Int32).toInt = 15 by decide); have zq140 := lv_neT q140 (show (16 : Int32).toInt = 16 by decide); have zq149 := lv_neT q149 (show (17 : Int32).toInt = 17 by decide); have zq157 := lv_neT q157 (show (18 : Int32).toInt = 18 by decide); have zq165 := lv_neT q165 (show (19 : Int32).toInt = 19 by decide); have zq175 := lv_neT q175 (show (20 : Int32).toInt = 20 by decide); have zq185 := lv_neT q185 (show (21 : Int32).toInt = 21 by decide); have zq195 := lv_neT q195 (show (22 : Int32).toInt = 22 by decide); have zq205 := lv_neT q205 (show (23 : Int32).toInt = 23 by decide); have zq212 := lv_neT q212 (show (24 : Int32).toInt = 24 by decide); have zq219 := lv_neT q219 (show (25 : Int32).toInt = 25 by decide); have zq229 := lv_neT q229 (show (26 : Int32).toInt = 26 by decide); have zq237 := lv_neT q237 (show (27 : Int32).toInt = 27 by decide); have zq246 := lv_neT q246 (show (28 : Int32).toInt = 28 by decide); have zq254 := lv_neT q254 (show (29 : Int32).toInt = 29 by decide); have zq264 := lv_neT q264 (show (30 : Int32).toInt = 30 by decide); have zq275 := lv_neT q275 (show (31 : Int32).toInt = 31 by decide); have zq284 := lv_neT q284 (show (32 : Int32).toInt = 32 by decide); omega) ?_
                                                                        refine s_iinc hG dL_law_1386 3 rfl ic_6 (by decide) (fun v296 => [(3, .int v296), (0, .ref b), (1, .ref (gB (GC w) + 1)), (2, .ref (gB (GM w2) + 1))]) (fun _ => rfl) (fun v296 => ?_)
                                                                        refine s_goto (tgt := 18) hG dL_law_1389 (by decide) ?_
                                                                        refine s_lv [1, 2, 3, 0] rfl ?_
                                                                        exact ih v296 hC hM

