def R_law : String := "OneCoinLaw"
/-! the law (by program) -/
abbrev m_W_law : oMI := (⟨R_law, "law", "([I)Z"⟩, code, 4, ret)
theorem co_O_person : oCo m_O_person 3 := ⟨oT_mem 472 (by decide +kernel) rfl, oT_mem 96 (by decide +kernel) rfl, ⟨by decide +kernel, by decide +kernel, by decide +kernel⟩, by decide⟩
theorem v_W_13 : oClV "OneCoinLaw" 13 m_O_person 3 10 := ⟨Or.inl (oT_mem 469 (by decide +kernel) rfl), oT_mem 470 (by decide +kernel) rfl, oT_mem 471 (by decide +kernel) rfl, co_O_person, ⟨_, rfl, rfl⟩⟩
theorem co_M_person : oCo m_M_person 3 := ⟨oT_mem 1288 (by decide +kernel) rfl, oT_mem 107 (by decide +kernel) rfl, ⟨by decide +kernel, by decide +kernel, by decide +kernel⟩, by decide⟩
theorem v_W_17 : oClV "OneCoinLaw" 17 m_M_person 3 11 := ⟨Or.inl (oT_mem 1285 (by decide +kernel) rfl), oT_mem 1286 (by decide +kernel) rfl, oT_mem 1287 (by decide +kernel) rfl, co_M_person, ⟨_, rfl, rfl⟩⟩
theorem co_O_debt : oCo m_O_debt 3 := ⟨oT_mem 483 (by decide +kernel) rfl, oT_mem 96 (by decide +kernel) rfl, ⟨by decide +kernel, by decide +kernel, by decide +kernel⟩, by decide⟩
theorem v_W_18 : oClV "OneCoinLaw" 18 m_O_debt 3 10 := ⟨Or.inl (oT_mem 480 (by decide +kernel) rfl), oT_mem 481 (by decide +kernel) rfl, oT_mem 482 (by decide +kernel) rfl, co_O_debt, ⟨_, rfl, rfl⟩⟩
theorem co_M_debt : oCo m_M_debt 3 := ⟨oT_mem 1295 (by decide +kernel) rfl, oT_mem 107 (by decide +kernel) rfl, ⟨by decide +kernel, by decide +kernel, by decide +kernel⟩, by decide⟩
theorem v_W_21 : oClV "OneCoinLaw" 21 m_M_debt 3 11 := ⟨Or.inl (oT_mem 1292 (by decide +kernel) rfl), oT_mem 1293 (by decide +kernel) rfl, oT_mem 1294 (by decide +kernel) rfl, co_M_debt, ⟨_, rfl, rfl⟩⟩
theorem co_O_coin : oCo m_O_coin 1 := ⟨oT_mem 496 (by decide +kernel) rfl, oT_mem 96 (by decide +kernel) rfl, ⟨by decide +kernel, by decide +kernel, by decide +kernel⟩, by decide⟩
theorem v_W_22 : oClV "OneCoinLaw" 22 m_O_coin 1 10 := ⟨Or.inl (oT_mem 493 (by decide +kernel) rfl), oT_mem 494 (by decide +kernel) rfl, oT_mem 495 (by decide +kernel) rfl, co_O_coin, ⟨_, rfl, rfl⟩⟩
theorem co_M_coin : oCo m_M_coin 1 := ⟨oT_mem 1310 (by decide +kernel) rfl, oT_mem 107 (by decide +kernel) rfl, ⟨by decide +kernel, by decide +kernel, by decide +kernel⟩, by decide⟩
theorem v_W_26 : oClV "OneCoinLaw" 26 m_M_coin 1 11 := ⟨Or.inl (oT_mem 1307 (by decide +kernel) rfl), oT_mem 1308 (by decide +kernel) rfl, oT_mem 1309 (by decide +kernel) rfl, co_M_coin, ⟨_, rfl, rfl⟩⟩
theorem co_O_feed : oCo m_O_feed 5 := ⟨oT_mem 505 (by decide +kernel) rfl, oT_mem 96 (by decide +kernel) rfl, ⟨by decide +kernel, by decide +kernel, by decide +kernel⟩, by decide⟩
theorem v_W_27 : oClV "OneCoinLaw" 27 m_O_feed 5 10 := ⟨Or.inl (oT_mem 502 (by decide +kernel) rfl), oT_mem 503 (by decide +kernel) rfl, oT_mem 504 (by decide +kernel) rfl, co_O_feed, ⟨_, rfl, rfl⟩⟩
theorem co_M_feed : oCo m_M_feed 5 := ⟨oT_mem 1318 (by decide +kernel) rfl, oT_mem 107 (by decide +kernel) rfl, ⟨by decide +kernel, by decide +kernel, by decide +kernel⟩, by decide⟩
theorem v_W_31 : oClV "OneCoinLaw" 31 m_M_feed 5 11 := ⟨Or.inl (oT_mem 1315 (by decide +kernel) rfl), oT_mem 1316 (by decide +kernel) rfl, oT_mem 1317 (by decide +kernel) rfl, co_M_feed, ⟨_, rfl, rfl⟩⟩
theorem co_O_law : oCo m_O_law 1 := ⟨oT_mem 517 (by decide +kernel) rfl, oT_mem 96 (by decide +kernel) rfl, ⟨by decide +kernel, by decide +kernel, by decide +kernel⟩, by decide⟩
theorem v_W_32 : oClV "OneCoinLaw" 32 m_O_law 1 10 := ⟨Or.inl (oT_mem 514 (by decide +kernel) rfl), oT_mem 515 (by decide +kernel) rfl, oT_mem 516 (by decide +kernel) rfl, co_O_law, ⟨_, rfl, rfl⟩⟩
theorem co_M_law : oCo m_M_law 1 := ⟨oT_mem 1326 (by decide +kernel) rfl, oT_mem 107 (by decide +kernel) rfl, ⟨by decide +kernel, by decide +kernel, by decide +kernel⟩, by decide⟩
theorem v_W_36 : oClV "OneCoinLaw" 36 m_M_law 1 11 := ⟨Or.inl (oT_mem 1323 (by decide +kernel) rfl), oT_mem 1324 (by decide +kernel) rfl, oT_mem 1325 (by decide +kernel) rfl, co_M_law, ⟨_, rfl, rfl⟩⟩
theorem co_O_debts : oCo m_O_debts 1 := ⟨oT_mem 689 (by decide +kernel) rfl, oT_mem 96 (by decide +kernel) rfl, ⟨by decide +kernel, by decide +kernel, by decide +kernel⟩, by decide⟩
theorem v_W_37 : oClV "OneCoinLaw" 37 m_O_debts 1 10 := ⟨Or.inl (oT_mem 686 (by decide +kernel) rfl), oT_mem 687 (by decide +kernel) rfl, oT_mem 688 (by decide +kernel) rfl, co_O_debts, ⟨_, rfl, rfl⟩⟩
theorem co_M_debts : oCo m_M_debts 1 := ⟨oT_mem 1409 (by decide +kernel) rfl, oT_mem 107 (by decide +kernel) rfl, ⟨by decide +kernel, by decide +kernel, by decide +kernel⟩, by decide⟩
theorem v_W_40 : oClV "OneCoinLaw" 40 m_M_debts 1 11 := ⟨Or.inl (oT_mem 1406 (by decide +kernel) rfl), oT_mem 1407 (by decide +kernel) rfl, oT_mem 1408 (by decide +kernel) rfl, co_M_debts, ⟨_, rfl, rfl⟩⟩
theorem co_O_hours : oCo m_O_hours 1 := ⟨oT_mem 730 (by decide +kernel) rfl, oT_mem 96 (by decide +kernel) rfl, ⟨by decide +kernel, by decide +kernel, by decide +kernel⟩, by decide⟩
theorem v_W_41 : oClV "OneCoinLaw" 41 m_O_hours 1 10 := ⟨Or.inl (oT_mem 727 (by decide +kernel) rfl), oT_mem 728 (by decide +kernel) rfl, oT_mem 729 (by decide +kernel) rfl, co_O_hours, ⟨_, rfl, rfl⟩⟩
theorem co_M_hours : oCo m_M_hours 1 := ⟨oT_mem 1436 (by decide +kernel) rfl, oT_mem 107 (by decide +kernel) rfl, ⟨by decide +kernel, by decide +kernel, by decide +kernel⟩, by decide⟩
theorem v_W_44 : oClV "OneCoinLaw" 44 m_M_hours 1 11 := ⟨Or.inl (oT_mem 1433 (by decide +kernel) rfl), oT_mem 1434 (by decide +kernel) rfl, oT_mem 1435 (by decide +kernel) rfl, co_M_hours, ⟨_, rfl, rfl⟩⟩
theorem co_O_tried : oCo m_O_tried 2 := ⟨oT_mem 832 (by decide +kernel) rfl, oT_mem 96 (by decide +kernel) rfl, ⟨by decide +kernel, by decide +kernel, by decide +kernel⟩, by decide⟩
theorem v_W_45 : oClV "OneCoinLaw" 45 m_O_tried 2 10 := ⟨Or.inl (oT_mem 829 (by decide +kernel) rfl), oT_mem 830 (by decide +kernel) rfl, oT_mem 831 (by decide +kernel) rfl, co_O_tried, ⟨_, rfl, rfl⟩⟩
theorem co_M_tried : oCo m_M_tried 2 := ⟨oT_mem 1522 (by decide +kernel) rfl, oT_mem 107 (by decide +kernel) rfl, ⟨by decide +kernel, by decide +kernel, by decide +kernel⟩, by decide⟩
theorem v_W_49 : oClV "OneCoinLaw" 49 m_M_tried 2 11 := ⟨Or.inl (oT_mem 1519 (by decide +kernel) rfl), oT_mem 1520 (by decide +kernel) rfl, oT_mem 1521 (by decide +kernel) rfl, co_M_tried, ⟨_, rfl, rfl⟩⟩
theorem co_O_personIs : oCo m_O_personIs 2 := ⟨oT_mem 840 (by decide +kernel) rfl, oT_mem 96 (by decide +kernel) rfl, ⟨by decide +kernel, by decide +kernel, by decide +kernel⟩, by decide⟩
theorem v_W_50 : oClV "OneCoinLaw" 50 m_O_personIs 2 10 := ⟨Or.inl (oT_mem 837 (by decide +kernel) rfl), oT_mem 838 (by decide +kernel) rfl, oT_mem 839 (by decide +kernel) rfl, co_O_personIs, ⟨_, rfl, rfl⟩⟩
theorem co_M_personIs : oCo m_M_personIs 2 := ⟨oT_mem 1529 (by decide +kernel) rfl, oT_mem 107 (by decide +kernel) rfl, ⟨by decide +kernel, by decide +kernel, by decide +kernel⟩, by decide⟩
theorem v_W_53 : oClV "OneCoinLaw" 53 m_M_personIs 2 11 := ⟨Or.inl (oT_mem 1526 (by decide +kernel) rfl), oT_mem 1527 (by decide +kernel) rfl, oT_mem 1528 (by decide +kernel) rfl, co_M_personIs, ⟨_, rfl, rfl⟩⟩
theorem co_O_owes : oCo m_O_owes 2 := ⟨oT_mem 850 (by decide +kernel) rfl, oT_mem 96 (by decide +kernel) rfl, ⟨by decide +kernel, by decide +kernel, by decide +kernel⟩, by decide⟩
theorem v_W_54 : oClV "OneCoinLaw" 54 m_O_owes 2 10 := ⟨Or.inl (oT_mem 847 (by decide +kernel) rfl), oT_mem 848 (by decide +kernel) rfl, oT_mem 849 (by decide +kernel) rfl, co_O_owes, ⟨_, rfl, rfl⟩⟩
theorem co_M_owes : oCo m_M_owes 2 := ⟨oT_mem 1537 (by decide +kernel) rfl, oT_mem 107 (by decide +kernel) rfl, ⟨by decide +kernel, by decide +kernel, by decide +kernel⟩, by decide⟩
theorem v_W_57 : oClV "OneCoinLaw" 57 m_M_owes 2 11 := ⟨Or.inl (oT_mem 1534 (by decide +kernel) rfl), oT_mem 1535 (by decide +kernel) rfl, oT_mem 1536 (by decide +kernel) rfl, co_M_owes, ⟨_, rfl, rfl⟩⟩
theorem co_O_likes : oCo m_O_likes 2 := ⟨oT_mem 855 (by decide +kernel) rfl, oT_mem 96 (by decide +kernel) rfl, ⟨by decide +kernel, by decide +kernel, by decide +kernel⟩, by decide⟩
theorem v_W_58 : oClV "OneCoinLaw" 58 m_O_likes 2 10 := ⟨Or.inl (oT_mem 852 (by decide +kernel) rfl), oT_mem 853 (by decide +kernel) rfl, oT_mem 854 (by decide +kernel) rfl, co_O_likes, ⟨_, rfl, rfl⟩⟩
theorem co_M_likes : oCo m_M_likes 2 := ⟨oT_mem 1541 (by decide +kernel) rfl, oT_mem 107 (by decide +kernel) rfl, ⟨by decide +kernel, by decide +kernel, by decide +kernel⟩, by decide⟩
theorem v_W_61 : oClV "OneCoinLaw" 61 m_M_likes 2 11 := ⟨Or.inl (oT_mem 1538 (by decide +kernel) rfl), oT_mem 1539 (by decide +kernel) rfl, oT_mem 1540 (by decide +kernel) rfl, co_M_likes, ⟨_, rfl, rfl⟩⟩
theorem co_O_route : oCo m_O_route 2 := ⟨oT_mem 860 (by decide +kernel) rfl, oT_mem 96 (by decide +kernel) rfl, ⟨by decide +kernel, by decide +kernel, by decide +kernel⟩, by decide⟩
theorem v_W_62 : oClV "OneCoinLaw" 62 m_O_route 2 10 := ⟨Or.inl (oT_mem 857 (by decide +kernel) rfl), oT_mem 858 (by decide +kernel) rfl, oT_mem 859 (by decide +kernel) rfl, co_O_route, ⟨_, rfl, rfl⟩⟩
theorem co_M_route : oCo m_M_route 2 := ⟨oT_mem 1545 (by decide +kernel) rfl, oT_mem 107 (by decide +kernel) rfl, ⟨by decide +kernel, by decide +kernel, by decide +kernel⟩, by decide⟩
theorem v_W_65 : oClV "OneCoinLaw" 65 m_M_route 2 11 := ⟨Or.inl (oT_mem 1542 (by decide +kernel) rfl), oT_mem 1543 (by decide +kernel) rfl, oT_mem 1544 (by decide +kernel) rfl, co_M_route, ⟨_, rfl, rfl⟩⟩
theorem co_O_walk : oCo m_O_walk 1 := ⟨oT_mem 902 (by decide +kernel) rfl, oT_mem 96 (by decide +kernel) rfl, ⟨by decide +kernel, by decide +kernel, by decide +kernel⟩, by decide⟩
theorem v_W_66 : oClV "OneCoinLaw" 66 m_O_walk 1 10 := ⟨Or.inl (oT_mem 899 (by decide +kernel) rfl), oT_mem 900 (by decide +kernel) rfl, oT_mem 901 (by decide +kernel) rfl, co_O_walk, ⟨_, rfl, rfl⟩⟩
theorem co_M_walk : oCo m_M_walk 1 := ⟨oT_mem 1569 (by decide +kernel) rfl, oT_mem 107 (by decide +kernel) rfl, ⟨by decide +kernel, by decide +kernel, by decide +kernel⟩, by decide⟩
theorem v_W_69 : oClV "OneCoinLaw" 69 m_M_walk 1 11 := ⟨Or.inl (oT_mem 1566 (by decide +kernel) rfl), oT_mem 1567 (by decide +kernel) rfl, oT_mem 1568 (by decide +kernel) rfl, co_M_walk, ⟨_, rfl, rfl⟩⟩
theorem co_O_tour : oCo m_O_tour 1 := ⟨oT_mem 906 (by decide +kernel) rfl, oT_mem 96 (by decide +kernel) rfl, ⟨by decide +kernel, by decide +kernel, by decide +kernel⟩, by decide⟩
theorem v_W_70 : oClV "OneCoinLaw" 70 m_O_tour 1 10 := ⟨Or.inl (oT_mem 903 (by decide +kernel) rfl), oT_mem 904 (by decide +kernel) rfl, oT_mem 905 (by decide +kernel) rfl, co_O_tour, ⟨_, rfl, rfl⟩⟩
theorem co_M_tour : oCo m_M_tour 1 := ⟨oT_mem 1573 (by decide +kernel) rfl, oT_mem 107 (by decide +kernel) rfl, ⟨by decide +kernel, by decide +kernel, by decide +kernel⟩, by decide⟩
theorem v_W_73 : oClV "OneCoinLaw" 73 m_M_tour 1 11 := ⟨Or.inl (oT_mem 1570 (by decide +kernel) rfl), oT_mem 1571 (by decide +kernel) rfl, oT_mem 1572 (by decide +kernel) rfl, co_M_tour, ⟨_, rfl, rfl⟩⟩
theorem co_O_most : oCo m_O_most 1 := ⟨oT_mem 929 (by decide +kernel) rfl, oT_mem 96 (by decide +kernel) rfl, ⟨by decide +kernel, by decide +kernel, by decide +kernel⟩, by decide⟩
theorem v_W_74 : oClV "OneCoinLaw" 74 m_O_most 1 10 := ⟨Or.inl (oT_mem 926 (by decide +kernel) rfl), oT_mem 927 (by decide +kernel) rfl, oT_mem 928 (by decide +kernel) rfl, co_O_most, ⟨_, rfl, rfl⟩⟩
theorem co_M_most : oCo m_M_most 1 := ⟨oT_mem 1597 (by decide +kernel) rfl, oT_mem 107 (by decide +kernel) rfl, ⟨by decide +kernel, by decide +kernel, by decide +kernel⟩, by decide⟩
theorem v_W_77 : oClV "OneCoinLaw" 77 m_M_most 1 11 := ⟨Or.inl (oT_mem 1594 (by decide +kernel) rfl), oT_mem 1595 (by decide +kernel) rfl, oT_mem 1596 (by decide +kernel) rfl, co_M_most, ⟨_, rfl, rfl⟩⟩
theorem co_O_back : oCo m_O_back 2 := ⟨oT_mem 940 (by decide +kernel) rfl, oT_mem 96 (by decide +kernel) rfl, ⟨by decide +kernel, by decide +kernel, by decide +kernel⟩, by decide⟩
theorem v_W_78 : oClV "OneCoinLaw" 78 m_O_back 2 10 := ⟨Or.inl (oT_mem 937 (by decide +kernel) rfl), oT_mem 938 (by decide +kernel) rfl, oT_mem 939 (by decide +kernel) rfl, co_O_back, ⟨_, rfl, rfl⟩⟩
theorem co_M_back : oCo m_M_back 2 := ⟨oT_mem 1613 (by decide +kernel) rfl, oT_mem 107 (by decide +kernel) rfl, ⟨by decide +kernel, by decide +kernel, by decide +kernel⟩, by decide⟩
theorem v_W_81 : oClV "OneCoinLaw" 81 m_M_back 2 11 := ⟨Or.inl (oT_mem 1610 (by decide +kernel) rfl), oT_mem 1611 (by decide +kernel) rfl, oT_mem 1612 (by decide +kernel) rfl, co_M_back, ⟨_, rfl, rfl⟩⟩
theorem co_O_even : oCo m_O_even 1 := ⟨oT_mem 953 (by decide +kernel) rfl, oT_mem 96 (by decide +kernel) rfl, ⟨by decide +kernel, by decide +kernel, by decide +kernel⟩, by decide⟩
theorem v_W_82 : oClV "OneCoinLaw" 82 m_O_even 1 10 := ⟨Or.inl (oT_mem 950 (by decide +kernel) rfl), oT_mem 951 (by decide +kernel) rfl, oT_mem 952 (by decide +kernel) rfl, co_O_even, ⟨_, rfl, rfl⟩⟩
theorem co_M_even : oCo m_M_even 1 := ⟨oT_mem 1622 (by decide +kernel) rfl, oT_mem 107 (by decide +kernel) rfl, ⟨by decide +kernel, by decide +kernel, by decide +kernel⟩, by decide⟩
theorem v_W_85 : oClV "OneCoinLaw" 85 m_M_even 1 11 := ⟨Or.inl (oT_mem 1619 (by decide +kernel) rfl), oT_mem 1620 (by decide +kernel) rfl, oT_mem 1621 (by decide +kernel) rfl, co_M_even, ⟨_, rfl, rfl⟩⟩
theorem co_O_turned : oCo m_O_turned 1 := ⟨oT_mem 979 (by decide +kernel) rfl, oT_mem 96 (by decide +kernel) rfl, ⟨by decide +kernel, by decide +kernel, by decide +kernel⟩, by decide⟩
theorem v_W_86 : oClV "OneCoinLaw" 86 m_O_turned 1 10 := ⟨Or.inl (oT_mem 976 (by decide +kernel) rfl), oT_mem 977 (by decide +kernel) rfl, oT_mem 978 (by decide +kernel) rfl, co_O_turned, ⟨_, rfl, rfl⟩⟩
theorem co_M_turned : oCo m_M_turned 1 := ⟨oT_mem 1642 (by decide +kernel) rfl, oT_mem 107 (by decide +kernel) rfl, ⟨by decide +kernel, by decide +kernel, by decide +kernel⟩, by decide⟩
theorem v_W_89 : oClV "OneCoinLaw" 89 m_M_turned 1 11 := ⟨Or.inl (oT_mem 1639 (by decide +kernel) rfl), oT_mem 1640 (by decide +kernel) rfl, oT_mem 1641 (by decide +kernel) rfl, co_M_turned, ⟨_, rfl, rfl⟩⟩
theorem co_O_setOff : oCo m_O_setOff 1 := ⟨oT_mem 1002 (by decide +kernel) rfl, oT_mem 96 (by decide +kernel) rfl, ⟨by decide +kernel, by decide +kernel, by decide +kernel⟩, by decide⟩
theorem v_W_90 : oClV "OneCoinLaw" 90 m_O_setOff 1 10 := ⟨Or.inl (oT_mem 999 (by decide +kernel) rfl), oT_mem 1000 (by decide +kernel) rfl, oT_mem 1001 (by decide +kernel) rfl, co_O_setOff, ⟨_, rfl, rfl⟩⟩
theorem co_M_setOff : oCo m_M_setOff 1 := ⟨oT_mem 1653 (by decide +kernel) rfl, oT_mem 107 (by decide +kernel) rfl, ⟨by decide +kernel, by decide +kernel, by decide +kernel⟩, by decide⟩
theorem v_W_93 : oClV "OneCoinLaw" 93 m_M_setOff 1 11 := ⟨Or.inl (oT_mem 1650 (by decide +kernel) rfl), oT_mem 1651 (by decide +kernel) rfl, oT_mem 1652 (by decide +kernel) rfl, co_M_setOff, ⟨_, rfl, rfl⟩⟩
theorem co_O_fewest : oCo m_O_fewest 0 := ⟨oT_mem 1007 (by decide +kernel) rfl, oT_mem 96 (by decide +kernel) rfl, ⟨by decide +kernel, by decide +kernel, by decide +kernel⟩, by decide⟩
theorem v_W_94 : oClV "OneCoinLaw" 94 m_O_fewest 0 10 := ⟨Or.inl (oT_mem 1004 (by decide +kernel) rfl), oT_mem 1005 (by decide +kernel) rfl, oT_mem 1006 (by decide +kernel) rfl, co_O_fewest, ⟨_, rfl, rfl⟩⟩
theorem co_M_fewest : oCo m_M_fewest 0 := ⟨oT_mem 1658 (by decide +kernel) rfl, oT_mem 107 (by decide +kernel) rfl, ⟨by decide +kernel, by decide +kernel, by decide +kernel⟩, by decide⟩
theorem v_W_98 : oClV "OneCoinLaw" 98 m_M_fewest 0 11 := ⟨Or.inl (oT_mem 1655 (by decide +kernel) rfl), oT_mem 1656 (by decide +kernel) rfl, oT_mem 1657 (by decide +kernel) rfl, co_M_fewest, ⟨_, rfl, rfl⟩⟩
theorem co_O_rings : oCo m_O_rings 1 := ⟨oT_mem 1015 (by decide +kernel) rfl, oT_mem 96 (by decide +kernel) rfl, ⟨by decide +kernel, by decide +kernel, by decide +kernel⟩, by decide⟩
theorem v_W_99 : oClV "OneCoinLaw" 99 m_O_rings 1 10 := ⟨Or.inl (oT_mem 1012 (by decide +kernel) rfl), oT_mem 1013 (by decide +kernel) rfl, oT_mem 1014 (by decide +kernel) rfl, co_O_rings, ⟨_, rfl, rfl⟩⟩
theorem co_M_rings : oCo m_M_rings 1 := ⟨oT_mem 1666 (by decide +kernel) rfl, oT_mem 107 (by decide +kernel) rfl, ⟨by decide +kernel, by decide +kernel, by decide +kernel⟩, by decide⟩
theorem v_W_102 : oClV "OneCoinLaw" 102 m_M_rings 1 11 := ⟨Or.inl (oT_mem 1663 (by decide +kernel) rfl), oT_mem 1664 (by decide +kernel) rfl, oT_mem 1665 (by decide +kernel) rfl, co_M_rings, ⟨_, rfl, rfl⟩⟩
theorem co_O_off : oCo m_O_off 0 := ⟨oT_mem 1022 (by decide +kernel) rfl, oT_mem 96 (by decide +kernel) rfl, ⟨by decide +kernel, by decide +kernel, by decide +kernel⟩, by decide⟩
theorem v_W_103 : oClV "OneCoinLaw" 103 m_O_off 0 10 := ⟨Or.inl (oT_mem 1019 (by decide +kernel) rfl), oT_mem 1020 (by decide +kernel) rfl, oT_mem 1021 (by decide +kernel) rfl, co_O_off, ⟨_, rfl, rfl⟩⟩
theorem co_M_off : oCo m_M_off 0 := ⟨oT_mem 1678 (by decide +kernel) rfl, oT_mem 107 (by decide +kernel) rfl, ⟨by decide +kernel, by decide +kernel, by decide +kernel⟩, by decide⟩
theorem v_W_106 : oClV "OneCoinLaw" 106 m_M_off 0 11 := ⟨Or.inl (oT_mem 1675 (by decide +kernel) rfl), oT_mem 1676 (by decide +kernel) rfl, oT_mem 1677 (by decide +kernel) rfl, co_M_off, ⟨_, rfl, rfl⟩⟩
theorem co_O_when : oCo m_O_when 2 := ⟨oT_mem 1027 (by decide +kernel) rfl, oT_mem 96 (by decide +kernel) rfl, ⟨by decide +kernel, by decide +kernel, by decide +kernel⟩, by decide⟩
theorem v_W_107 : oClV "OneCoinLaw" 107 m_O_when 2 10 := ⟨Or.inl (oT_mem 1024 (by decide +kernel) rfl), oT_mem 1025 (by decide +kernel) rfl, oT_mem 1026 (by decide +kernel) rfl, co_O_when, ⟨_, rfl, rfl⟩⟩
theorem co_M_when : oCo m_M_when 2 := ⟨oT_mem 1682 (by decide +kernel) rfl, oT_mem 107 (by decide +kernel) rfl, ⟨by decide +kernel, by decide +kernel, by decide +kernel⟩, by decide⟩
theorem v_W_110 : oClV "OneCoinLaw" 110 m_M_when 2 11 := ⟨Or.inl (oT_mem 1679 (by decide +kernel) rfl), oT_mem 1680 (by decide +kernel) rfl, oT_mem 1681 (by decide +kernel) rfl, co_M_when, ⟨_, rfl, rfl⟩⟩
theorem co_O_wedding : oCo m_O_wedding 3 := ⟨oT_mem 1032 (by decide +kernel) rfl, oT_mem 96 (by decide +kernel) rfl, ⟨by decide +kernel, by decide +kernel, by decide +kernel⟩, by decide⟩
theorem v_W_111 : oClV "OneCoinLaw" 111 m_O_wedding 3 10 := ⟨Or.inl (oT_mem 1029 (by decide +kernel) rfl), oT_mem 1030 (by decide +kernel) rfl, oT_mem 1031 (by decide +kernel) rfl, co_O_wedding, ⟨_, rfl, rfl⟩⟩
theorem co_M_wedding : oCo m_M_wedding 3 := ⟨oT_mem 1686 (by decide +kernel) rfl, oT_mem 107 (by decide +kernel) rfl, ⟨by decide +kernel, by decide +kernel, by decide +kernel⟩, by decide⟩
theorem v_W_115 : oClV "OneCoinLaw" 115 m_M_wedding 3 11 := ⟨Or.inl (oT_mem 1683 (by decide +kernel) rfl), oT_mem 1684 (by decide +kernel) rfl, oT_mem 1685 (by decide +kernel) rfl, co_M_wedding, ⟨_, rfl, rfl⟩⟩
theorem co_O_longest : oCo m_O_longest 0 := ⟨oT_mem 1036 (by decide +kernel) rfl, oT_mem 96 (by decide +kernel) rfl, ⟨by decide +kernel, by decide +kernel, by decide +kernel⟩, by decide⟩
theorem v_W_116 : oClV "OneCoinLaw" 116 m_O_longest 0 10 := ⟨Or.inl (oT_mem 1033 (by decide +kernel) rfl), oT_mem 1034 (by decide +kernel) rfl, oT_mem 1035 (by decide +kernel) rfl, co_O_longest, ⟨_, rfl, rfl⟩⟩
theorem co_M_longest : oCo m_M_longest 0 := ⟨oT_mem 1690 (by decide +kernel) rfl, oT_mem 107 (by decide +kernel) rfl, ⟨by decide +kernel, by decide +kernel, by decide +kernel⟩, by decide⟩
theorem v_W_119 : oClV "OneCoinLaw" 119 m_M_longest 0 11 := ⟨Or.inl (oT_mem 1687 (by decide +kernel) rfl), oT_mem 1688 (by decide +kernel) rfl, oT_mem 1689 (by decide +kernel) rfl, co_M_longest, ⟨_, rfl, rfl⟩⟩
theorem co_O_chalk : oCo m_O_chalk 1 := ⟨oT_mem 1040 (by decide +kernel) rfl, oT_mem 96 (by decide +kernel) rfl, ⟨by decide +kernel, by decide +kernel, by decide +kernel⟩, by decide⟩
theorem v_W_120 : oClV "OneCoinLaw" 120 m_O_chalk 1 10 := ⟨Or.inl (oT_mem 1037 (by decide +kernel) rfl), oT_mem 1038 (by decide +kernel) rfl, oT_mem 1039 (by decide +kernel) rfl, co_O_chalk, ⟨_, rfl, rfl⟩⟩
theorem co_M_chalk : oCo m_M_chalk 1 := ⟨oT_mem 1694 (by decide +kernel) rfl, oT_mem 107 (by decide +kernel) rfl, ⟨by decide +kernel, by decide +kernel, by decide +kernel⟩, by decide⟩
theorem v_W_123 : oClV "OneCoinLaw" 123 m_M_chalk 1 11 := ⟨Or.inl (oT_mem 1691 (by decide +kernel) rfl), oT_mem 1692 (by decide +kernel) rfl, oT_mem 1693 (by decide +kernel) rfl, co_M_chalk, ⟨_, rfl, rfl⟩⟩
theorem co_O_two : oCo m_O_two 1 := ⟨oT_mem 1044 (by decide +kernel) rfl, oT_mem 96 (by decide +kernel) rfl, ⟨by decide +kernel, by decide +kernel, by decide +kernel⟩, by decide⟩
theorem v_W_124 : oClV "OneCoinLaw" 124 m_O_two 1 10 := ⟨Or.inl (oT_mem 1041 (by decide +kernel) rfl), oT_mem 1042 (by decide +kernel) rfl, oT_mem 1043 (by decide +kernel) rfl, co_O_two, ⟨_, rfl, rfl⟩⟩
theorem co_M_two : oCo m_M_two 1 := ⟨oT_mem 1698 (by decide +kernel) rfl, oT_mem 107 (by decide +kernel) rfl, ⟨by decide +kernel, by decide +kernel, by decide +kernel⟩, by decide⟩
theorem v_W_127 : oClV "OneCoinLaw" 127 m_M_two 1 11 := ⟨Or.inl (oT_mem 1695 (by decide +kernel) rfl), oT_mem 1696 (by decide +kernel) rfl, oT_mem 1697 (by decide +kernel) rfl, co_M_two, ⟨_, rfl, rfl⟩⟩
theorem co_O_dry : oCo m_O_dry 2 := ⟨oT_mem 1062 (by decide +kernel) rfl, oT_mem 96 (by decide +kernel) rfl, ⟨by decide +kernel, by decide +kernel, by decide +kernel⟩, by decide⟩
theorem v_W_128 : oClV "OneCoinLaw" 128 m_O_dry 2 10 := ⟨Or.inl (oT_mem 1059 (by decide +kernel) rfl), oT_mem 1060 (by decide +kernel) rfl, oT_mem 1061 (by decide +kernel) rfl, co_O_dry, ⟨_, rfl, rfl⟩⟩
theorem co_M_dry : oCo m_M_dry 2 := ⟨oT_mem 1710 (by decide +kernel) rfl, oT_mem 107 (by decide +kernel) rfl, ⟨by decide +kernel, by decide +kernel, by decide +kernel⟩, by decide⟩
theorem v_W_131 : oClV "OneCoinLaw" 131 m_M_dry 2 11 := ⟨Or.inl (oT_mem 1707 (by decide +kernel) rfl), oT_mem 1708 (by decide +kernel) rfl, oT_mem 1709 (by decide +kernel) rfl, co_M_dry, ⟨_, rfl, rfl⟩⟩
theorem co_O_seed : oCo m_O_seed 1 := ⟨oT_mem 1070 (by decide +kernel) rfl, oT_mem 96 (by decide +kernel) rfl, ⟨by decide +kernel, by decide +kernel, by decide +kernel⟩, by decide⟩
theorem v_W_132 : oClV "OneCoinLaw" 132 m_O_seed 1 10 := ⟨Or.inl (oT_mem 1067 (by decide +kernel) rfl), oT_mem 1068 (by decide +kernel) rfl, oT_mem 1069 (by decide +kernel) rfl, co_O_seed, ⟨_, rfl, rfl⟩⟩
theorem co_M_seed : oCo m_M_seed 1 := ⟨oT_mem 1717 (by decide +kernel) rfl, oT_mem 107 (by decide +kernel) rfl, ⟨by decide +kernel, by decide +kernel, by decide +kernel⟩, by decide⟩
theorem v_W_135 : oClV "OneCoinLaw" 135 m_M_seed 1 11 := ⟨Or.inl (oT_mem 1714 (by decide +kernel) rfl), oT_mem 1715 (by decide +kernel) rfl, oT_mem 1716 (by decide +kernel) rfl, co_M_seed, ⟨_, rfl, rfl⟩⟩
theorem co_O_keep : oCo m_O_keep 0 := ⟨oT_mem 1075 (by decide +kernel) rfl, oT_mem 96 (by decide +kernel) rfl, ⟨by decide +kernel, by decide +kernel, by decide +kernel⟩, by decide⟩
theorem v_W_136 : oClV "OneCoinLaw" 136 m_O_keep 0 10 := ⟨Or.inl (oT_mem 1072 (by decide +kernel) rfl), oT_mem 1073 (by decide +kernel) rfl, oT_mem 1074 (by decide +kernel) rfl, co_O_keep, ⟨_, rfl, rfl⟩⟩
theorem co_M_keep : oCo m_M_keep 0 := ⟨oT_mem 1722 (by decide +kernel) rfl, oT_mem 107 (by decide +kernel) rfl, ⟨by decide +kernel, by decide +kernel, by decide +kernel⟩, by decide⟩
theorem v_W_139 : oClV "OneCoinLaw" 139 m_M_keep 0 11 := ⟨Or.inl (oT_mem 1719 (by decide +kernel) rfl), oT_mem 1720 (by decide +kernel) rfl, oT_mem 1721 (by decide +kernel) rfl, co_M_keep, ⟨_, rfl, rfl⟩⟩
theorem co_O_undo : oCo m_O_undo 0 := ⟨oT_mem 1079 (by decide +kernel) rfl, oT_mem 96 (by decide +kernel) rfl, ⟨by decide +kernel, by decide +kernel, by decide +kernel⟩, by decide⟩
theorem v_W_140 : oClV "OneCoinLaw" 140 m_O_undo 0 10 := ⟨Or.inl (oT_mem 1076 (by decide +kernel) rfl), oT_mem 1077 (by decide +kernel) rfl, oT_mem 1078 (by decide +kernel) rfl, co_O_undo, ⟨_, rfl, rfl⟩⟩
theorem co_M_undo : oCo m_M_undo 0 := ⟨oT_mem 1726 (by decide +kernel) rfl, oT_mem 107 (by decide +kernel) rfl, ⟨by decide +kernel, by decide +kernel, by decide +kernel⟩, by decide⟩
theorem v_W_144 : oClV "OneCoinLaw" 144 m_M_undo 0 11 := ⟨Or.inl (oT_mem 1723 (by decide +kernel) rfl), oT_mem 1724 (by decide +kernel) rfl, oT_mem 1725 (by decide +kernel) rfl, co_M_undo, ⟨_, rfl, rfl⟩⟩
theorem co_O_check : oCo m_O_check 1 := ⟨oT_mem 1083 (by decide +kernel) rfl, oT_mem 96 (by decide +kernel) rfl, ⟨by decide +kernel, by decide +kernel, by decide +kernel⟩, by decide⟩
theorem v_W_145 : oClV "OneCoinLaw" 145 m_O_check 1 10 := ⟨Or.inl (oT_mem 1080 (by decide +kernel) rfl), oT_mem 1081 (by decide +kernel) rfl, oT_mem 1082 (by decide +kernel) rfl, co_O_check, ⟨_, rfl, rfl⟩⟩
theorem co_M_check : oCo m_M_check 1 := ⟨oT_mem 1730 (by decide +kernel) rfl, oT_mem 107 (by decide +kernel) rfl, ⟨by decide +kernel, by decide +kernel, by decide +kernel⟩, by decide⟩
theorem v_W_148 : oClV "OneCoinLaw" 148 m_M_check 1 11 := ⟨Or.inl (oT_mem 1727 (by decide +kernel) rfl), oT_mem 1728 (by decide +kernel) rfl, oT_mem 1729 (by decide +kernel) rfl, co_M_check, ⟨_, rfl, rfl⟩⟩
theorem co_O_count : oCo m_O_count 1 := ⟨oT_mem 1090 (by decide +kernel) rfl, oT_mem 96 (by decide +kernel) rfl, ⟨by decide +kernel, by decide +kernel, by decide +kernel⟩, by decide⟩
theorem v_W_149 : oClV "OneCoinLaw" 149 m_O_count 1 10 := ⟨Or.inl (oT_mem 1087 (by decide +kernel) rfl), oT_mem 1088 (by decide +kernel) rfl, oT_mem 1089 (by decide +kernel) rfl, co_O_count, ⟨_, rfl, rfl⟩⟩
theorem co_M_count : oCo m_M_count 1 := ⟨oT_mem 1734 (by decide +kernel) rfl, oT_mem 107 (by decide +kernel) rfl, ⟨by decide +kernel, by decide +kernel, by decide +kernel⟩, by decide⟩
theorem v_W_152 : oClV "OneCoinLaw" 152 m_M_count 1 11 := ⟨Or.inl (oT_mem 1731 (by decide +kernel) rfl), oT_mem 1732 (by decide +kernel) rfl, oT_mem 1733 (by decide +kernel) rfl, co_M_count, ⟨_, rfl, rfl⟩⟩
abbrev oEL (L : Nat) (xs : Nat → Int) : oE := (800, 600000, 7302250, some (L, xs), oQ (fun q => q.1 = 1))
section LAWROWS
variable {l : Launch} {mt : oMI} {k n pc : Nat} {lv st st0 : List oV} {wd : oW} {M : oM} {L : Nat} {xs : Nat → Int}
theorem oj_sldL {α : Type} {K : α → Prop} {f : Int → Option α} {a : Int} (hd : decode mt.2.1 pc = .ok (.iaload, 1)) (hK : okp (bnd ((L : Nat) : Int) a f) K) (h : okp (f a) K → oJ l mt (oEL L xs) k n (pc + 1) lv (vi (xs a.toNat) :: st) wd M) : oJ l mt (oEL L xs) k n pc lv (vi a :: vr 1002 :: st) wd M := by
  obtain ⟨h0, h1, hK⟩ := okp_bnd hK
  exact oj_sld (α := α) (K := K) (f := f) rfl hd h0 h1 (h hK)
theorem ofL_Vi {y : oMI} {d' np idx ci o : Nat} {as : List oV} {K' : Int × oM → Prop} {ty : FieldType} (hv : oClV mt.1.cls idx y np ci) (hw : ∃ fs, WD[o]? = some (.inr (ci, fs))) (hst : st0 = as.reverse ++ vr o :: st) (has : as.length = np) (hsl : st.length ≤ 8) (hd : decode mt.2.1 pc = .ok (.invokevirtual idx, 3)) (hdep : d' + 1 ≤ 800) (hty : y.2.2.2 = some ty) (hK : oKf l y d' (vr o :: as) M K') (hk : k ≤ 600000) (hn : n ≤ 7302250) (h : ∀ r M', K' (r, M') → oJ l mt (oEL L xs) k n (pc + 3) lv (vi r :: st) WD M') : oJ l mt (oEL L xs) k n pc lv st0 WD M := by
  obtain ⟨fs, hw⟩ := hw
  exact (oj_V (E := oEL L xs) (k := k) (n := n) (pc := pc) (lv := lv) hv hw hst has hsl hd hdep hk hn hK).1 ty hty (fun r wd' M' q => by obtain ⟨rfl, q⟩ := q; exact h r M' q)
end LAWROWS

noncomputable section
def p_W_law_B1069_18 (f : Nat) (L : Nat) (xs : Nat → Int) (l3 : Int) (M : oM) : Option ((Int × oM) ⊕ (Int × oM)) :=
  lt (w32 (l3 + 6)) fun x1 =>
  some (.inl (x1, M))
def p_W_law_L18 (f : Nat) (L : Nat) (xs : Nat → Int) : Int × oM → Option ((Int × oM) ⊕ (Int × oM))
  | (l3, M) =>
  if w32 (((L : Nat) : Int) - 6) < l3 then (some (.inr (1, M)))
  else (bnd ((L : Nat) : Int) l3 fun i2 =>
  lt (iand (xs i2.toNat) 63) fun x3 =>
  if x3 = 0 then (bnd ((L : Nat) : Int) (w32 (l3 + 1)) fun i4 =>
  bnd ((L : Nat) : Int) (w32 (l3 + 2)) fun i5 =>
  bnd ((L : Nat) : Int) (w32 (l3 + 3)) fun i6 =>
  (p_O_person f (xs i4.toNat) (xs i5.toNat) (xs i6.toNat) M).bind fun q7 =>
  bnd ((L : Nat) : Int) (w32 (l3 + 1)) fun i8 =>
  bnd ((L : Nat) : Int) (w32 (l3 + 2)) fun i9 =>
  bnd ((L : Nat) : Int) (w32 (l3 + 3)) fun i10 =>
  (p_M_person f (xs i8.toNat) (xs i9.toNat) (xs i10.toNat) q7.2).bind fun q11 =>
  if q7.1 = q11.1 then (p_W_law_B1069_18 f L xs l3 q11.2)
  else (some (.inr (0, q11.2))))
  else (if x3 = 1 then (bnd ((L : Nat) : Int) (w32 (l3 + 1)) fun i12 =>
  bnd ((L : Nat) : Int) (w32 (l3 + 2)) fun i13 =>
  bnd ((L : Nat) : Int) (w32 (l3 + 3)) fun i14 =>
  (p_O_debt f (xs i12.toNat) (xs i13.toNat) (xs i14.toNat) M).bind fun q15 =>
  bnd ((L : Nat) : Int) (w32 (l3 + 1)) fun i16 =>
  bnd ((L : Nat) : Int) (w32 (l3 + 2)) fun i17 =>
  bnd ((L : Nat) : Int) (w32 (l3 + 3)) fun i18 =>
  (p_M_debt f (xs i16.toNat) (xs i17.toNat) (xs i18.toNat) q15.2).bind fun q19 =>
  if q15.1 = q19.1 then (p_W_law_B1069_18 f L xs l3 q19.2)
  else (some (.inr (0, q19.2))))
  else (if x3 = 2 then (bnd ((L : Nat) : Int) (w32 (l3 + 1)) fun i20 =>
  (p_O_coin f (xs i20.toNat) M).bind fun q21 =>
  bnd ((L : Nat) : Int) (w32 (l3 + 1)) fun i22 =>
  (p_M_coin f (xs i22.toNat) q21.2).bind fun q23 =>
  if q21.1 = q23.1 then (p_W_law_B1069_18 f L xs l3 q23.2)
  else (some (.inr (0, q23.2))))
  else (if x3 = 3 then (bnd ((L : Nat) : Int) (w32 (l3 + 1)) fun i24 =>
  bnd ((L : Nat) : Int) (w32 (l3 + 2)) fun i25 =>
  bnd ((L : Nat) : Int) (w32 (l3 + 3)) fun i26 =>
  bnd ((L : Nat) : Int) (w32 (l3 + 4)) fun i27 =>
  bnd ((L : Nat) : Int) (w32 (l3 + 5)) fun i28 =>
  (p_O_feed f (xs i24.toNat) (xs i25.toNat) (xs i26.toNat) (xs i27.toNat) (xs i28.toNat) M).bind fun q29 =>
  bnd ((L : Nat) : Int) (w32 (l3 + 1)) fun i30 =>
  bnd ((L : Nat) : Int) (w32 (l3 + 2)) fun i31 =>
  bnd ((L : Nat) : Int) (w32 (l3 + 3)) fun i32 =>
  bnd ((L : Nat) : Int) (w32 (l3 + 4)) fun i33 =>
  bnd ((L : Nat) : Int) (w32 (l3 + 5)) fun i34 =>
  (p_M_feed f (xs i30.toNat) (xs i31.toNat) (xs i32.toNat) (xs i33.toNat) (xs i34.toNat) q29.2).bind fun q35 =>
  if q29.1 = q35.1 then (p_W_law_B1069_18 f L xs l3 q35.2)
  else (some (.inr (0, q35.2))))
  else (if x3 = 4 then (bnd ((L : Nat) : Int) (w32 (l3 + 1)) fun i36 =>
  (p_O_law f (xs i36.toNat) M).bind fun q37 =>
  bnd ((L : Nat) : Int) (w32 (l3 + 1)) fun i38 =>
  (p_M_law f (xs i38.toNat) q37.2).bind fun q39 =>
  if q37.1 = q39.1 then (p_W_law_B1069_18 f L xs l3 q39.2)
  else (some (.inr (0, q39.2))))
  else (if x3 = 5 then (bnd ((L : Nat) : Int) (w32 (l3 + 1)) fun i40 =>
  (p_O_debts f (xs i40.toNat) M).bind fun q41 =>
  bnd ((L : Nat) : Int) (w32 (l3 + 1)) fun i42 =>
  (p_M_debts f (xs i42.toNat) q41.2).bind fun q43 =>
  if q41.1 = q43.1 then (p_W_law_B1069_18 f L xs l3 q43.2)
  else (some (.inr (0, q43.2))))
  else (if x3 = 6 then (bnd ((L : Nat) : Int) (w32 (l3 + 1)) fun i44 =>
  (p_O_hours f (xs i44.toNat) M).bind fun q45 =>
  bnd ((L : Nat) : Int) (w32 (l3 + 1)) fun i46 =>
  (p_M_hours f (xs i46.toNat) q45.2).bind fun q47 =>
  if q45.1 = q47.1 then (p_W_law_B1069_18 f L xs l3 q47.2)
  else (some (.inr (0, q47.2))))
  else (if x3 = 7 then (bnd ((L : Nat) : Int) (w32 (l3 + 1)) fun i48 =>
  bnd ((L : Nat) : Int) (w32 (l3 + 2)) fun i49 =>
  (p_O_tried f (xs i48.toNat) (xs i49.toNat) M).bind fun q50 =>
  bnd ((L : Nat) : Int) (w32 (l3 + 1)) fun i51 =>
  bnd ((L : Nat) : Int) (w32 (l3 + 2)) fun i52 =>
  (p_M_tried f (xs i51.toNat) (xs i52.toNat) q50.2).bind fun q53 =>
  if q50.1 = q53.1 then (p_W_law_B1069_18 f L xs l3 q53.2)
  else (some (.inr (0, q53.2))))
  else (if x3 = 8 then (bnd ((L : Nat) : Int) (w32 (l3 + 1)) fun i54 =>
  bnd ((L : Nat) : Int) (w32 (l3 + 2)) fun i55 =>
  (p_O_personIs f (xs i54.toNat) (xs i55.toNat) M).bind fun q56 =>
  bnd ((L : Nat) : Int) (w32 (l3 + 1)) fun i57 =>
  bnd ((L : Nat) : Int) (w32 (l3 + 2)) fun i58 =>
  (p_M_personIs f (xs i57.toNat) (xs i58.toNat) q56.2).bind fun q59 =>
  if q56.1 = q59.1 then (p_W_law_B1069_18 f L xs l3 q59.2)
  else (some (.inr (0, q59.2))))
  else (if x3 = 9 then (bnd ((L : Nat) : Int) (w32 (l3 + 1)) fun i60 =>
  bnd ((L : Nat) : Int) (w32 (l3 + 2)) fun i61 =>
  (p_O_owes f (xs i60.toNat) (xs i61.toNat) M).bind fun q62 =>
  bnd ((L : Nat) : Int) (w32 (l3 + 1)) fun i63 =>
  bnd ((L : Nat) : Int) (w32 (l3 + 2)) fun i64 =>
  (p_M_owes f (xs i63.toNat) (xs i64.toNat) q62.2).bind fun q65 =>
  if q62.1 = q65.1 then (p_W_law_B1069_18 f L xs l3 q65.2)
  else (some (.inr (0, q65.2))))
  else (if x3 = 10 then (bnd ((L : Nat) : Int) (w32 (l3 + 1)) fun i66 =>
  bnd ((L : Nat) : Int) (w32 (l3 + 2)) fun i67 =>
  (p_O_likes f (xs i66.toNat) (xs i67.toNat) M).bind fun q68 =>
  bnd ((L : Nat) : Int) (w32 (l3 + 1)) fun i69 =>
  bnd ((L : Nat) : Int) (w32 (l3 + 2)) fun i70 =>
  (p_M_likes f (xs i69.toNat) (xs i70.toNat) q68.2).bind fun q71 =>
  if q68.1 = q71.1 then (p_W_law_B1069_18 f L xs l3 q71.2)
  else (some (.inr (0, q71.2))))
  else (if x3 = 11 then (bnd ((L : Nat) : Int) (w32 (l3 + 1)) fun i72 =>
  bnd ((L : Nat) : Int) (w32 (l3 + 2)) fun i73 =>
  (p_O_route f (xs i72.toNat) (xs i73.toNat) M).bind fun q74 =>
  bnd ((L : Nat) : Int) (w32 (l3 + 1)) fun i75 =>
  bnd ((L : Nat) : Int) (w32 (l3 + 2)) fun i76 =>
  (p_M_route f (xs i75.toNat) (xs i76.toNat) q74.2).bind fun q77 =>
  if q74.1 = q77.1 then (p_W_law_B1069_18 f L xs l3 q77.2)
  else (some (.inr (0, q77.2))))
  else (if x3 = 12 then (bnd ((L : Nat) : Int) (w32 (l3 + 1)) fun i78 =>
  (p_O_walk f (xs i78.toNat) M).bind fun q79 =>
  bnd ((L : Nat) : Int) (w32 (l3 + 1)) fun i80 =>
  (p_M_walk f (xs i80.toNat) q79.2).bind fun q81 =>
  if q79.1 = q81.1 then (p_W_law_B1069_18 f L xs l3 q81.2)
  else (some (.inr (0, q81.2))))
  else (if x3 = 13 then (bnd ((L : Nat) : Int) (w32 (l3 + 1)) fun i82 =>
  (p_O_tour f (xs i82.toNat) M).bind fun q83 =>
  bnd ((L : Nat) : Int) (w32 (l3 + 1)) fun i84 =>
  (p_M_tour f (xs i84.toNat) q83.2).bind fun q85 =>
  if q83.1 = q85.1 then (p_W_law_B1069_18 f L xs l3 q85.2)
  else (some (.inr (0, q85.2))))
  else (if x3 = 14 then (bnd ((L : Nat) : Int) (w32 (l3 + 1)) fun i86 =>
  (p_O_most f (xs i86.toNat) M).bind fun q87 =>
  bnd ((L : Nat) : Int) (w32 (l3 + 1)) fun i88 =>
  (p_M_most f (xs i88.toNat) q87.2).bind fun q89 =>
  if q87.1 = q89.1 then (p_W_law_B1069_18 f L xs l3 q89.2)
  else (some (.inr (0, q89.2))))
  else (if x3 = 15 then (bnd ((L : Nat) : Int) (w32 (l3 + 1)) fun i90 =>
  bnd ((L : Nat) : Int) (w32 (l3 + 2)) fun i91 =>
  (p_O_back f (xs i90.toNat) (xs i91.toNat) M).bind fun q92 =>
  bnd ((L : Nat) : Int) (w32 (l3 + 1)) fun i93 =>
  bnd ((L : Nat) : Int) (w32 (l3 + 2)) fun i94 =>
  (p_M_back f (xs i93.toNat) (xs i94.toNat) q92.2).bind fun q95 =>
  if q92.1 = q95.1 then (p_W_law_B1069_18 f L xs l3 q95.2)
  else (some (.inr (0, q95.2))))
  else (if x3 = 16 then (bnd ((L : Nat) : Int) (w32 (l3 + 1)) fun i96 =>
  (p_O_even f (xs i96.toNat) M).bind fun q97 =>
  bnd ((L : Nat) : Int) (w32 (l3 + 1)) fun i98 =>
  (p_M_even f (xs i98.toNat) q97.2).bind fun q99 =>
  if q97.1 = q99.1 then (p_W_law_B1069_18 f L xs l3 q99.2)
  else (some (.inr (0, q99.2))))
  else (if x3 = 17 then (bnd ((L : Nat) : Int) (w32 (l3 + 1)) fun i100 =>
  (p_O_turned f (xs i100.toNat) M).bind fun q101 =>
  bnd ((L : Nat) : Int) (w32 (l3 + 1)) fun i102 =>
  (p_M_turned f (xs i102.toNat) q101.2).bind fun q103 =>
  if q101.1 = q103.1 then (p_W_law_B1069_18 f L xs l3 q103.2)
  else (some (.inr (0, q103.2))))
  else (if x3 = 18 then (bnd ((L : Nat) : Int) (w32 (l3 + 1)) fun i104 =>
  (p_O_setOff f (xs i104.toNat) M).bind fun q105 =>
  bnd ((L : Nat) : Int) (w32 (l3 + 1)) fun i106 =>
  (p_M_setOff f (xs i106.toNat) q105.2).bind fun q107 =>
  if q105.1 = q107.1 then (p_W_law_B1069_18 f L xs l3 q107.2)
  else (some (.inr (0, q107.2))))
  else (if x3 = 19 then ((p_O_fewest f  M).bind fun q108 =>
  (p_M_fewest f  q108.2).bind fun q109 =>
  if q108.1 = q109.1 then (p_W_law_B1069_18 f L xs l3 q109.2)
  else (some (.inr (0, q109.2))))
  else (if x3 = 20 then (bnd ((L : Nat) : Int) (w32 (l3 + 1)) fun i110 =>
  (p_O_rings f (xs i110.toNat) M).bind fun q111 =>
  bnd ((L : Nat) : Int) (w32 (l3 + 1)) fun i112 =>
  (p_M_rings f (xs i112.toNat) q111.2).bind fun q113 =>
  if q111.1 = q113.1 then (p_W_law_B1069_18 f L xs l3 q113.2)
  else (some (.inr (0, q113.2))))
  else (if x3 = 21 then ((p_O_off f  M).bind fun q114 =>
  (p_M_off f  q114.2).bind fun q115 =>
  if q114.1 = q115.1 then (p_W_law_B1069_18 f L xs l3 q115.2)
  else (some (.inr (0, q115.2))))
  else (if x3 = 22 then (bnd ((L : Nat) : Int) (w32 (l3 + 1)) fun i116 =>
  bnd ((L : Nat) : Int) (w32 (l3 + 2)) fun i117 =>
  (p_O_when f (xs i116.toNat) (xs i117.toNat) M).bind fun q118 =>
  bnd ((L : Nat) : Int) (w32 (l3 + 1)) fun i119 =>
  bnd ((L : Nat) : Int) (w32 (l3 + 2)) fun i120 =>
  (p_M_when f (xs i119.toNat) (xs i120.toNat) q118.2).bind fun q121 =>
  if q118.1 = q121.1 then (p_W_law_B1069_18 f L xs l3 q121.2)
  else (some (.inr (0, q121.2))))
  else (if x3 = 23 then (bnd ((L : Nat) : Int) (w32 (l3 + 1)) fun i122 =>
  bnd ((L : Nat) : Int) (w32 (l3 + 2)) fun i123 =>
  bnd ((L : Nat) : Int) (w32 (l3 + 3)) fun i124 =>
  (p_O_wedding f (xs i122.toNat) (xs i123.toNat) (xs i124.toNat) M).bind fun q125 =>
  bnd ((L : Nat) : Int) (w32 (l3 + 1)) fun i126 =>
  bnd ((L : Nat) : Int) (w32 (l3 + 2)) fun i127 =>
  bnd ((L : Nat) : Int) (w32 (l3 + 3)) fun i128 =>
  (p_M_wedding f (xs i126.toNat) (xs i127.toNat) (xs i128.toNat) q125.2).bind fun q129 =>
  if q125.1 = q129.1 then (p_W_law_B1069_18 f L xs l3 q129.2)
  else (some (.inr (0, q129.2))))
  else (if x3 = 24 then ((p_O_longest f  M).bind fun q130 =>
  (p_M_longest f  q130.2).bind fun q131 =>
  if q130.1 = q131.1 then (p_W_law_B1069_18 f L xs l3 q131.2)
  else (some (.inr (0, q131.2))))
  else (if x3 = 25 then (bnd ((L : Nat) : Int) (w32 (l3 + 1)) fun i132 =>
  (p_O_chalk f (xs i132.toNat) M).bind fun q133 =>
  bnd ((L : Nat) : Int) (w32 (l3 + 1)) fun i134 =>
  (p_M_chalk f (xs i134.toNat) q133.2).bind fun q135 =>
  if q133.1 = q135.1 then (p_W_law_B1069_18 f L xs l3 q135.2)
  else (some (.inr (0, q135.2))))
  else (if x3 = 26 then (bnd ((L : Nat) : Int) (w32 (l3 + 1)) fun i136 =>
  (p_O_two f (xs i136.toNat) M).bind fun q137 =>
  bnd ((L : Nat) : Int) (w32 (l3 + 1)) fun i138 =>
  (p_M_two f (xs i138.toNat) q137.2).bind fun q139 =>
  if q137.1 = q139.1 then (p_W_law_B1069_18 f L xs l3 q139.2)
  else (some (.inr (0, q139.2))))
  else (if x3 = 27 then (bnd ((L : Nat) : Int) (w32 (l3 + 1)) fun i140 =>
  bnd ((L : Nat) : Int) (w32 (l3 + 2)) fun i141 =>
  (p_O_dry f (xs i140.toNat) (xs i141.toNat) M).bind fun q142 =>
  bnd ((L : Nat) : Int) (w32 (l3 + 1)) fun i143 =>
  bnd ((L : Nat) : Int) (w32 (l3 + 2)) fun i144 =>
  (p_M_dry f (xs i143.toNat) (xs i144.toNat) q142.2).bind fun q145 =>
  if q142.1 = q145.1 then (p_W_law_B1069_18 f L xs l3 q145.2)
  else (some (.inr (0, q145.2))))
  else (if x3 = 28 then (bnd ((L : Nat) : Int) (w32 (l3 + 1)) fun i146 =>
  (p_O_seed f (xs i146.toNat) M).bind fun q147 =>
  bnd ((L : Nat) : Int) (w32 (l3 + 1)) fun i148 =>
  (p_M_seed f (xs i148.toNat) q147.2).bind fun q149 =>
  if q147.1 = q149.1 then (p_W_law_B1069_18 f L xs l3 q149.2)
  else (some (.inr (0, q149.2))))
  else (if x3 = 29 then ((p_O_keep f  M).bind fun q150 =>
  (p_M_keep f  q150.2).bind fun q151 =>
  if q150.1 = q151.1 then (p_W_law_B1069_18 f L xs l3 q151.2)
  else (some (.inr (0, q151.2))))
  else (if x3 = 30 then ((p_O_undo f  M).bind fun q152 =>
  (p_M_undo f  q152.2).bind fun q153 =>
  if q152.1 = q153.1 then (p_W_law_B1069_18 f L xs l3 q153.2)
  else (some (.inr (0, q153.2))))
  else (if x3 = 31 then (bnd ((L : Nat) : Int) (w32 (l3 + 1)) fun i154 =>
  (p_O_check f (xs i154.toNat) M).bind fun q155 =>
  bnd ((L : Nat) : Int) (w32 (l3 + 1)) fun i156 =>
  (p_M_check f (xs i156.toNat) q155.2).bind fun q157 =>
  if q155.1 = q157.1 then (p_W_law_B1069_18 f L xs l3 q157.2)
  else (some (.inr (0, q157.2))))
  else (if x3 = 32 then (bnd ((L : Nat) : Int) (w32 (l3 + 1)) fun i158 =>
  (p_O_count f (xs i158.toNat) M).bind fun q159 =>
  bnd ((L : Nat) : Int) (w32 (l3 + 1)) fun i160 =>
  (p_M_count f (xs i160.toNat) q159.2).bind fun q161 =>
  if q159.1 = q161.1 then (p_W_law_B1069_18 f L xs l3 q161.2)
  else (some (.inr (0, q161.2))))
  else (p_W_law_B1069_18 f L xs l3 M))))))))))))))))))))))))))))))))))
def p_W_law (f : Nat) (L : Nat) (xs : Nat → Int) (l3 : Int) (M : oM) : Option (Int × oM) :=
  iter (p_W_law_L18 f L xs) f (l3, M)
end
theorem c_W_loop {l : Launch} {f L : Nat} {xs : Nat → Int} {l3 : Int} {M : oM} (H : okp (p_W_law f L xs l3 M) (fun q => q.1 = 1)) : oJ l m_W_law (oEL L xs) 95 49174 18 [vr 1002, vr 0, vr 57, vi l3] [] WD M := by
  have h18 : ∀ (g : Nat) (l3 : Int) (M : oM), okp (iter (p_W_law_L18 f L xs) g (l3, M)) (fun q : Int × oM => q.1 = 1) → oJ l m_W_law (oEL L xs) 95 49174 18 [vr 1002, vr 0, vr 57, vi l3] [] WD M := by
    intro g l3 M H
    have HL := fun hs => iter_J' (Jh := fun s => oJ l m_W_law (oEL L xs) 95 49174 18 [vr 1002, vr 0, vr 57, vi s.1] [] WD s.2) (G := (fun q : Int × oM => q.1 = 1)) hs g (l3, M) H
    refine HL ?_
    intro K18 s i18 e18 H
    obtain ⟨l3, M⟩ := s
    show oJ l m_W_law (oEL L xs) 95 49174 18 [vr 1002, vr 0, vr 57, vi l3] [] WD M
    have h1069 : ∀ (l3 : Int) (M : oM), okp (p_W_law_B1069_18 f L xs l3 M) K18 → oJ l m_W_law (oEL L xs) 95 49174 1069 [vr 1002, vr 0, vr 57, vi l3] [] WD M := by
      intro l3 M H
      refine oj_inc3 (pc := 1069) (d := 6) (by decide +kernel) (by decide +kernel) ?_
      have H := okp_lt H
      refine oj_goto (pc := 1072) (off := -1054) (tgt := 18) (by decide +kernel) (by decide) ?_
      have H := i18 _ H
      exact H
    refine oj_ld3 (pc := 18) (by decide +kernel) ?_
    refine oj_ald0 (pc := 19) (by decide +kernel) ?_
    refine oj_slen (pc := 20) rfl (by decide +kernel) ?_
    refine oj_bipush (pc := 21) (v := 6) ⟨by decide, by decide⟩ (by decide +kernel) ?_
    refine oj_isub (pc := 23) (by decide +kernel) ?_
    refine oj_icmp_gt (pc := 24) (off := 1051) (tgt := 1075) (by decide +kernel) (by decide) H (fun _ H => ?_) (fun _ H => ?_)
    · refine oj_iconst (pc := 1075) (v := 1) ⟨by decide, by decide⟩ (by decide +kernel) ?_
      have H := e18 _ H
      exact oj_iret (pc := 1076) (by decide +kernel) rfl rfl (Nat.le_of_ble_eq_true rfl) (Nat.le_of_ble_eq_true rfl) ⟨rfl, H⟩
    · refine oj_ald0 (pc := 27) (by decide +kernel) ?_
      refine oj_ld3 (pc := 28) (by decide +kernel) ?_
      refine oj_sldL (pc := 29) (by decide +kernel) H (fun H => ?_)
      refine oj_bipush (pc := 30) (v := 63) ⟨by decide, by decide⟩ (by decide +kernel) ?_
      refine oj_iand (pc := 32) (by decide +kernel) ?_
      have H := okp_lt H
      refine oj_case (c := _ = 0) H (fun c0 H => ?_) (fun c0 H => ?_)
      · refine oj_tin (pc := 33) (dflt := 1036) (lo := 0) (hi := 32) (offs := #[147, 190, 233, 256, 319, 342, 365, 388, 421, 454, 487, 520, 553, 576, 599, 622, 655, 678, 701, 724, 737, 760, 773, 806, 849, 862, 885, 908, 941, 964, 977, 990, 1013]) (len := 147) (off := 147) (tgt := 180) 0 c0 (by decide +kernel) ⟨by decide, by decide⟩ (by decide +kernel) (by decide) ?_
        refine oj_ald1 (pc := 180) (by decide +kernel) ?_
        refine oj_ald0 (pc := 181) (by decide +kernel) ?_
        refine oj_ld3 (pc := 182) (by decide +kernel) ?_
        refine oj_iconst (pc := 183) (v := 1) ⟨by decide, by decide⟩ (by decide +kernel) ?_
        refine oj_iadd (pc := 184) (by decide +kernel) ?_
        refine oj_sldL (pc := 185) (by decide +kernel) H (fun H => ?_)
        refine oj_ald0 (pc := 186) (by decide +kernel) ?_
        refine oj_ld3 (pc := 187) (by decide +kernel) ?_
        refine oj_iconst (pc := 188) (v := 2) ⟨by decide, by decide⟩ (by decide +kernel) ?_
        refine oj_iadd (pc := 189) (by decide +kernel) ?_
        refine oj_sldL (pc := 190) (by decide +kernel) H (fun H => ?_)
        refine oj_ald0 (pc := 191) (by decide +kernel) ?_
        refine oj_ld3 (pc := 192) (by decide +kernel) ?_
        refine oj_iconst (pc := 193) (v := 3) ⟨by decide, by decide⟩ (by decide +kernel) ?_
        refine oj_iadd (pc := 194) (by decide +kernel) ?_
        refine oj_sldL (pc := 195) (by decide +kernel) H (fun H => ?_)
        refine ofL_Vi (pc := 196) (as := [_, _, _]) v_W_13 o_0 rfl rfl (Nat.le_of_ble_eq_true rfl) (by decide +kernel) (by decide) rfl (c_O_person_0 (okp_bind H)) (Nat.le_of_ble_eq_true rfl) (Nat.le_of_ble_eq_true rfl) (fun r M H => ?_)
        refine oj_ald2 (pc := 199) (by decide +kernel) ?_
        refine oj_ald0 (pc := 200) (by decide +kernel) ?_
        refine oj_ld3 (pc := 201) (by decide +kernel) ?_
        refine oj_iconst (pc := 202) (v := 1) ⟨by decide, by decide⟩ (by decide +kernel) ?_
        refine oj_iadd (pc := 203) (by decide +kernel) ?_
        refine oj_sldL (pc := 204) (by decide +kernel) H (fun H => ?_)
        refine oj_ald0 (pc := 205) (by decide +kernel) ?_
        refine oj_ld3 (pc := 206) (by decide +kernel) ?_
        refine oj_iconst (pc := 207) (v := 2) ⟨by decide, by decide⟩ (by decide +kernel) ?_
        refine oj_iadd (pc := 208) (by decide +kernel) ?_
        refine oj_sldL (pc := 209) (by decide +kernel) H (fun H => ?_)
        refine oj_ald0 (pc := 210) (by decide +kernel) ?_
        refine oj_ld3 (pc := 211) (by decide +kernel) ?_
        refine oj_iconst (pc := 212) (v := 3) ⟨by decide, by decide⟩ (by decide +kernel) ?_
        refine oj_iadd (pc := 213) (by decide +kernel) ?_
        refine oj_sldL (pc := 214) (by decide +kernel) H (fun H => ?_)
        refine ofL_Vi (pc := 215) (as := [_, _, _]) v_W_17 o_57 rfl rfl (Nat.le_of_ble_eq_true rfl) (by decide +kernel) (by decide) rfl (c_M_person_0 (okp_bind H)) (Nat.le_of_ble_eq_true rfl) (Nat.le_of_ble_eq_true rfl) (fun r M H => ?_)
        refine oj_icmp_eq (pc := 218) (off := 851) (tgt := 1069) (by decide +kernel) (by decide) H (fun _ H => ?_) (fun _ H => ?_)
        · exact h1069 _ _ H
        · refine oj_iconst (pc := 221) (v := 0) ⟨by decide, by decide⟩ (by decide +kernel) ?_
          have H := e18 _ H
          exact oj_iret (pc := 222) (by decide +kernel) rfl rfl (Nat.le_of_ble_eq_true rfl) (Nat.le_of_ble_eq_true rfl) ⟨rfl, H⟩
      refine oj_case (c := _ = 1) H (fun c1 H => ?_) (fun c1 H => ?_)
      · refine oj_tin (pc := 33) (dflt := 1036) (lo := 0) (hi := 32) (offs := #[147, 190, 233, 256, 319, 342, 365, 388, 421, 454, 487, 520, 553, 576, 599, 622, 655, 678, 701, 724, 737, 760, 773, 806, 849, 862, 885, 908, 941, 964, 977, 990, 1013]) (len := 147) (off := 190) (tgt := 223) 1 c1 (by decide +kernel) ⟨by decide, by decide⟩ (by decide +kernel) (by decide) ?_
        refine oj_ald1 (pc := 223) (by decide +kernel) ?_
        refine oj_ald0 (pc := 224) (by decide +kernel) ?_
        refine oj_ld3 (pc := 225) (by decide +kernel) ?_
        refine oj_iconst (pc := 226) (v := 1) ⟨by decide, by decide⟩ (by decide +kernel) ?_
        refine oj_iadd (pc := 227) (by decide +kernel) ?_
        refine oj_sldL (pc := 228) (by decide +kernel) H (fun H => ?_)
        refine oj_ald0 (pc := 229) (by decide +kernel) ?_
        refine oj_ld3 (pc := 230) (by decide +kernel) ?_
        refine oj_iconst (pc := 231) (v := 2) ⟨by decide, by decide⟩ (by decide +kernel) ?_
        refine oj_iadd (pc := 232) (by decide +kernel) ?_
        refine oj_sldL (pc := 233) (by decide +kernel) H (fun H => ?_)
        refine oj_ald0 (pc := 234) (by decide +kernel) ?_
        refine oj_ld3 (pc := 235) (by decide +kernel) ?_
        refine oj_iconst (pc := 236) (v := 3) ⟨by decide, by decide⟩ (by decide +kernel) ?_
        refine oj_iadd (pc := 237) (by decide +kernel) ?_
        refine oj_sldL (pc := 238) (by decide +kernel) H (fun H => ?_)
        refine ofL_Vi (pc := 239) (as := [_, _, _]) v_W_18 o_0 rfl rfl (Nat.le_of_ble_eq_true rfl) (by decide +kernel) (by decide) rfl (c_O_debt_0 (okp_bind H)) (Nat.le_of_ble_eq_true rfl) (Nat.le_of_ble_eq_true rfl) (fun r M H => ?_)
        refine oj_ald2 (pc := 242) (by decide +kernel) ?_
        refine oj_ald0 (pc := 243) (by decide +kernel) ?_
        refine oj_ld3 (pc := 244) (by decide +kernel) ?_
        refine oj_iconst (pc := 245) (v := 1) ⟨by decide, by decide⟩ (by decide +kernel) ?_
        refine oj_iadd (pc := 246) (by decide +kernel) ?_
        refine oj_sldL (pc := 247) (by decide +kernel) H (fun H => ?_)
        refine oj_ald0 (pc := 248) (by decide +kernel) ?_
        refine oj_ld3 (pc := 249) (by decide +kernel) ?_
        refine oj_iconst (pc := 250) (v := 2) ⟨by decide, by decide⟩ (by decide +kernel) ?_
        refine oj_iadd (pc := 251) (by decide +kernel) ?_
        refine oj_sldL (pc := 252) (by decide +kernel) H (fun H => ?_)
        refine oj_ald0 (pc := 253) (by decide +kernel) ?_
        refine oj_ld3 (pc := 254) (by decide +kernel) ?_
        refine oj_iconst (pc := 255) (v := 3) ⟨by decide, by decide⟩ (by decide +kernel) ?_
        refine oj_iadd (pc := 256) (by decide +kernel) ?_
        refine oj_sldL (pc := 257) (by decide +kernel) H (fun H => ?_)
        refine ofL_Vi (pc := 258) (as := [_, _, _]) v_W_21 o_57 rfl rfl (Nat.le_of_ble_eq_true rfl) (by decide +kernel) (by decide) rfl (c_M_debt_0 (okp_bind H)) (Nat.le_of_ble_eq_true rfl) (Nat.le_of_ble_eq_true rfl) (fun r M H => ?_)
        refine oj_icmp_eq (pc := 261) (off := 808) (tgt := 1069) (by decide +kernel) (by decide) H (fun _ H => ?_) (fun _ H => ?_)
        · exact h1069 _ _ H
        · refine oj_iconst (pc := 264) (v := 0) ⟨by decide, by decide⟩ (by decide +kernel) ?_
          have H := e18 _ H
          exact oj_iret (pc := 265) (by decide +kernel) rfl rfl (Nat.le_of_ble_eq_true rfl) (Nat.le_of_ble_eq_true rfl) ⟨rfl, H⟩
      refine oj_case (c := _ = 2) H (fun c2 H => ?_) (fun c2 H => ?_)
      · refine oj_tin (pc := 33) (dflt := 1036) (lo := 0) (hi := 32) (offs := #[147, 190, 233, 256, 319, 342, 365, 388, 421, 454, 487, 520, 553, 576, 599, 622, 655, 678, 701, 724, 737, 760, 773, 806, 849, 862, 885, 908, 941, 964, 977, 990, 1013]) (len := 147) (off := 233) (tgt := 266) 2 c2 (by decide +kernel) ⟨by decide, by decide⟩ (by decide +kernel) (by decide) ?_
        refine oj_ald1 (pc := 266) (by decide +kernel) ?_
        refine oj_ald0 (pc := 267) (by decide +kernel) ?_
        refine oj_ld3 (pc := 268) (by decide +kernel) ?_
        refine oj_iconst (pc := 269) (v := 1) ⟨by decide, by decide⟩ (by decide +kernel) ?_
        refine oj_iadd (pc := 270) (by decide +kernel) ?_
        refine oj_sldL (pc := 271) (by decide +kernel) H (fun H => ?_)
        refine ofL_Vi (pc := 272) (as := [_]) v_W_22 o_0 rfl rfl (Nat.le_of_ble_eq_true rfl) (by decide +kernel) (by decide) rfl (c_O_coin_0 (okp_bind H)) (Nat.le_of_ble_eq_true rfl) (Nat.le_of_ble_eq_true rfl) (fun r M H => ?_)
        refine oj_ald2 (pc := 275) (by decide +kernel) ?_
        refine oj_ald0 (pc := 276) (by decide +kernel) ?_
        refine oj_ld3 (pc := 277) (by decide +kernel) ?_
        refine oj_iconst (pc := 278) (v := 1) ⟨by decide, by decide⟩ (by decide +kernel) ?_
        refine oj_iadd (pc := 279) (by decide +kernel) ?_
        refine oj_sldL (pc := 280) (by decide +kernel) H (fun H => ?_)
        refine ofL_Vi (pc := 281) (as := [_]) v_W_26 o_57 rfl rfl (Nat.le_of_ble_eq_true rfl) (by decide +kernel) (by decide) rfl (c_M_coin_0 (okp_bind H)) (Nat.le_of_ble_eq_true rfl) (Nat.le_of_ble_eq_true rfl) (fun r M H => ?_)
        refine oj_icmp_eq (pc := 284) (off := 785) (tgt := 1069) (by decide +kernel) (by decide) H (fun _ H => ?_) (fun _ H => ?_)
        · exact h1069 _ _ H
        · refine oj_iconst (pc := 287) (v := 0) ⟨by decide, by decide⟩ (by decide +kernel) ?_
          have H := e18 _ H
          exact oj_iret (pc := 288) (by decide +kernel) rfl rfl (Nat.le_of_ble_eq_true rfl) (Nat.le_of_ble_eq_true rfl) ⟨rfl, H⟩
      refine oj_case (c := _ = 3) H (fun c3 H => ?_) (fun c3 H => ?_)
      · refine oj_tin (pc := 33) (dflt := 1036) (lo := 0) (hi := 32) (offs := #[147, 190, 233, 256, 319, 342, 365, 388, 421, 454, 487, 520, 553, 576, 599, 622, 655, 678, 701, 724, 737, 760, 773, 806, 849, 862, 885, 908, 941, 964, 977, 990, 1013]) (len := 147) (off := 256) (tgt := 289) 3 c3 (by decide +kernel) ⟨by decide, by decide⟩ (by decide +kernel) (by decide) ?_
        refine oj_ald1 (pc := 289) (by decide +kernel) ?_
        refine oj_ald0 (pc := 290) (by decide +kernel) ?_
        refine oj_ld3 (pc := 291) (by decide +kernel) ?_
        refine oj_iconst (pc := 292) (v := 1) ⟨by decide, by decide⟩ (by decide +kernel) ?_
        refine oj_iadd (pc := 293) (by decide +kernel) ?_
        refine oj_sldL (pc := 294) (by decide +kernel) H (fun H => ?_)
        refine oj_ald0 (pc := 295) (by decide +kernel) ?_
        refine oj_ld3 (pc := 296) (by decide +kernel) ?_
        refine oj_iconst (pc := 297) (v := 2) ⟨by decide, by decide⟩ (by decide +kernel) ?_
        refine oj_iadd (pc := 298) (by decide +kernel) ?_
        refine oj_sldL (pc := 299) (by decide +kernel) H (fun H => ?_)
        refine oj_ald0 (pc := 300) (by decide +kernel) ?_
        refine oj_ld3 (pc := 301) (by decide +kernel) ?_
        refine oj_iconst (pc := 302) (v := 3) ⟨by decide, by decide⟩ (by decide +kernel) ?_
        refine oj_iadd (pc := 303) (by decide +kernel) ?_
        refine oj_sldL (pc := 304) (by decide +kernel) H (fun H => ?_)
        refine oj_ald0 (pc := 305) (by decide +kernel) ?_
        refine oj_ld3 (pc := 306) (by decide +kernel) ?_
        refine oj_iconst (pc := 307) (v := 4) ⟨by decide, by decide⟩ (by decide +kernel) ?_
        refine oj_iadd (pc := 308) (by decide +kernel) ?_
        refine oj_sldL (pc := 309) (by decide +kernel) H (fun H => ?_)
        refine oj_ald0 (pc := 310) (by decide +kernel) ?_
        refine oj_ld3 (pc := 311) (by decide +kernel) ?_
        refine oj_iconst (pc := 312) (v := 5) ⟨by decide, by decide⟩ (by decide +kernel) ?_
        refine oj_iadd (pc := 313) (by decide +kernel) ?_
        refine oj_sldL (pc := 314) (by decide +kernel) H (fun H => ?_)
        refine ofL_Vi (pc := 315) (as := [_, _, _, _, _]) v_W_27 o_0 rfl rfl (Nat.le_of_ble_eq_true rfl) (by decide +kernel) (by decide) rfl (c_O_feed_0 (okp_bind H)) (Nat.le_of_ble_eq_true rfl) (Nat.le_of_ble_eq_true rfl) (fun r M H => ?_)
        refine oj_ald2 (pc := 318) (by decide +kernel) ?_
        refine oj_ald0 (pc := 319) (by decide +kernel) ?_
        refine oj_ld3 (pc := 320) (by decide +kernel) ?_
        refine oj_iconst (pc := 321) (v := 1) ⟨by decide, by decide⟩ (by decide +kernel) ?_
        refine oj_iadd (pc := 322) (by decide +kernel) ?_
        refine oj_sldL (pc := 323) (by decide +kernel) H (fun H => ?_)
        refine oj_ald0 (pc := 324) (by decide +kernel) ?_
        refine oj_ld3 (pc := 325) (by decide +kernel) ?_
        refine oj_iconst (pc := 326) (v := 2) ⟨by decide, by decide⟩ (by decide +kernel) ?_
        refine oj_iadd (pc := 327) (by decide +kernel) ?_
        refine oj_sldL (pc := 328) (by decide +kernel) H (fun H => ?_)
        refine oj_ald0 (pc := 329) (by decide +kernel) ?_
        refine oj_ld3 (pc := 330) (by decide +kernel) ?_
        refine oj_iconst (pc := 331) (v := 3) ⟨by decide, by decide⟩ (by decide +kernel) ?_
        refine oj_iadd (pc := 332) (by decide +kernel) ?_
        refine oj_sldL (pc := 333) (by decide +kernel) H (fun H => ?_)
        refine oj_ald0 (pc := 334) (by decide +kernel) ?_
        refine oj_ld3 (pc := 335) (by decide +kernel) ?_
        refine oj_iconst (pc := 336) (v := 4) ⟨by decide, by decide⟩ (by decide +kernel) ?_
        refine oj_iadd (pc := 337) (by decide +kernel) ?_
        refine oj_sldL (pc := 338) (by decide +kernel) H (fun H => ?_)
        refine oj_ald0 (pc := 339) (by decide +kernel) ?_
        refine oj_ld3 (pc := 340) (by decide +kernel) ?_
        refine oj_iconst (pc := 341) (v := 5) ⟨by decide, by decide⟩ (by decide +kernel) ?_
        refine oj_iadd (pc := 342) (by decide +kernel) ?_
        refine oj_sldL (pc := 343) (by decide +kernel) H (fun H => ?_)
        refine ofL_Vi (pc := 344) (as := [_, _, _, _, _]) v_W_31 o_57 rfl rfl (Nat.le_of_ble_eq_true rfl) (by decide +kernel) (by decide) rfl (c_M_feed_0 (okp_bind H)) (Nat.le_of_ble_eq_true rfl) (Nat.le_of_ble_eq_true rfl) (fun r M H => ?_)
        refine oj_icmp_eq (pc := 347) (off := 722) (tgt := 1069) (by decide +kernel) (by decide) H (fun _ H => ?_) (fun _ H => ?_)
        · exact h1069 _ _ H
        · refine oj_iconst (pc := 350) (v := 0) ⟨by decide, by decide⟩ (by decide +kernel) ?_
          have H := e18 _ H
          exact oj_iret (pc := 351) (by decide +kernel) rfl rfl (Nat.le_of_ble_eq_true rfl) (Nat.le_of_ble_eq_true rfl) ⟨rfl, H⟩
      refine oj_case (c := _ = 4) H (fun c4 H => ?_) (fun c4 H => ?_)
      · refine oj_tin (pc := 33) (dflt := 1036) (lo := 0) (hi := 32) (offs := #[147, 190, 233, 256, 319, 342, 365, 388, 421, 454, 487, 520, 553, 576, 599, 622, 655, 678, 701, 724, 737, 760, 773, 806, 849, 862, 885, 908, 941, 964, 977, 990, 1013]) (len := 147) (off := 319) (tgt := 352) 4 c4 (by decide +kernel) ⟨by decide, by decide⟩ (by decide +kernel) (by decide) ?_
        refine oj_ald1 (pc := 352) (by decide +kernel) ?_
        refine oj_ald0 (pc := 353) (by decide +kernel) ?_
        refine oj_ld3 (pc := 354) (by decide +kernel) ?_
        refine oj_iconst (pc := 355) (v := 1) ⟨by decide, by decide⟩ (by decide +kernel) ?_
        refine oj_iadd (pc := 356) (by decide +kernel) ?_
        refine oj_sldL (pc := 357) (by decide +kernel) H (fun H => ?_)
        refine ofL_Vi (pc := 358) (as := [_]) v_W_32 o_0 rfl rfl (Nat.le_of_ble_eq_true rfl) (by decide +kernel) (by decide) rfl (c_O_law_0 (okp_bind H)) (Nat.le_of_ble_eq_true rfl) (Nat.le_of_ble_eq_true rfl) (fun r M H => ?_)
        refine oj_ald2 (pc := 361) (by decide +kernel) ?_
        refine oj_ald0 (pc := 362) (by decide +kernel) ?_
        refine oj_ld3 (pc := 363) (by decide +kernel) ?_
        refine oj_iconst (pc := 364) (v := 1) ⟨by decide, by decide⟩ (by decide +kernel) ?_
        refine oj_iadd (pc := 365) (by decide +kernel) ?_
        refine oj_sldL (pc := 366) (by decide +kernel) H (fun H => ?_)
        refine ofL_Vi (pc := 367) (as := [_]) v_W_36 o_57 rfl rfl (Nat.le_of_ble_eq_true rfl) (by decide +kernel) (by decide) rfl (c_M_law_0 (okp_bind H)) (Nat.le_of_ble_eq_true rfl) (Nat.le_of_ble_eq_true rfl) (fun r M H => ?_)
        refine oj_icmp_eq (pc := 370) (off := 699) (tgt := 1069) (by decide +kernel) (by decide) H (fun _ H => ?_) (fun _ H => ?_)
        · exact h1069 _ _ H
        · refine oj_iconst (pc := 373) (v := 0) ⟨by decide, by decide⟩ (by decide +kernel) ?_
          have H := e18 _ H
          exact oj_iret (pc := 374) (by decide +kernel) rfl rfl (Nat.le_of_ble_eq_true rfl) (Nat.le_of_ble_eq_true rfl) ⟨rfl, H⟩
      refine oj_case (c := _ = 5) H (fun c5 H => ?_) (fun c5 H => ?_)
      · refine oj_tin (pc := 33) (dflt := 1036) (lo := 0) (hi := 32) (offs := #[147, 190, 233, 256, 319, 342, 365, 388, 421, 454, 487, 520, 553, 576, 599, 622, 655, 678, 701, 724, 737, 760, 773, 806, 849, 862, 885, 908, 941, 964, 977, 990, 1013]) (len := 147) (off := 342) (tgt := 375) 5 c5 (by decide +kernel) ⟨by decide, by decide⟩ (by decide +kernel) (by decide) ?_
        refine oj_ald1 (pc := 375) (by decide +kernel) ?_
        refine oj_ald0 (pc := 376) (by decide +kernel) ?_
        refine oj_ld3 (pc := 377) (by decide +kernel) ?_
        refine oj_iconst (pc := 378) (v := 1) ⟨by decide, by decide⟩ (by decide +kernel) ?_
        refine oj_iadd (pc := 379) (by decide +kernel) ?_
        refine oj_sldL (pc := 380) (by decide +kernel) H (fun H => ?_)
        refine ofL_Vi (pc := 381) (as := [_]) v_W_37 o_0 rfl rfl (Nat.le_of_ble_eq_true rfl) (by decide +kernel) (by decide) rfl (c_O_debts_0 (okp_bind H)) (Nat.le_of_ble_eq_true rfl) (Nat.le_of_ble_eq_true rfl) (fun r M H => ?_)
        refine oj_ald2 (pc := 384) (by decide +kernel) ?_
        refine oj_ald0 (pc := 385) (by decide +kernel) ?_
        refine oj_ld3 (pc := 386) (by decide +kernel) ?_
        refine oj_iconst (pc := 387) (v := 1) ⟨by decide, by decide⟩ (by decide +kernel) ?_
        refine oj_iadd (pc := 388) (by decide +kernel) ?_
        refine oj_sldL (pc := 389) (by decide +kernel) H (fun H => ?_)
        refine ofL_Vi (pc := 390) (as := [_]) v_W_40 o_57 rfl rfl (Nat.le_of_ble_eq_true rfl) (by decide +kernel) (by decide) rfl (c_M_debts_0 (okp_bind H)) (Nat.le_of_ble_eq_true rfl) (Nat.le_of_ble_eq_true rfl) (fun r M H => ?_)
        refine oj_icmp_eq (pc := 393) (off := 676) (tgt := 1069) (by decide +kernel) (by decide) H (fun _ H => ?_) (fun _ H => ?_)
        · exact h1069 _ _ H
        · refine oj_iconst (pc := 396) (v := 0) ⟨by decide, by decide⟩ (by decide +kernel) ?_
          have H := e18 _ H
          exact oj_iret (pc := 397) (by decide +kernel) rfl rfl (Nat.le_of_ble_eq_true rfl) (Nat.le_of_ble_eq_true rfl) ⟨rfl, H⟩
      refine oj_case (c := _ = 6) H (fun c6 H => ?_) (fun c6 H => ?_)
      · refine oj_tin (pc := 33) (dflt := 1036) (lo := 0) (hi := 32) (offs := #[147, 190, 233, 256, 319, 342, 365, 388, 421, 454, 487, 520, 553, 576, 599, 622, 655, 678, 701, 724, 737, 760, 773, 806, 849, 862, 885, 908, 941, 964, 977, 990, 1013]) (len := 147) (off := 365) (tgt := 398) 6 c6 (by decide +kernel) ⟨by decide, by decide⟩ (by decide +kernel) (by decide) ?_
        refine oj_ald1 (pc := 398) (by decide +kernel) ?_
        refine oj_ald0 (pc := 399) (by decide +kernel) ?_
        refine oj_ld3 (pc := 400) (by decide +kernel) ?_
        refine oj_iconst (pc := 401) (v := 1) ⟨by decide, by decide⟩ (by decide +kernel) ?_
        refine oj_iadd (pc := 402) (by decide +kernel) ?_
        refine oj_sldL (pc := 403) (by decide +kernel) H (fun H => ?_)
        refine ofL_Vi (pc := 404) (as := [_]) v_W_41 o_0 rfl rfl (Nat.le_of_ble_eq_true rfl) (by decide +kernel) (by decide) rfl (c_O_hours_0 (okp_bind H)) (Nat.le_of_ble_eq_true rfl) (Nat.le_of_ble_eq_true rfl) (fun r M H => ?_)
        refine oj_ald2 (pc := 407) (by decide +kernel) ?_
        refine oj_ald0 (pc := 408) (by decide +kernel) ?_
        refine oj_ld3 (pc := 409) (by decide +kernel) ?_
        refine oj_iconst (pc := 410) (v := 1) ⟨by decide, by decide⟩ (by decide +kernel) ?_
        refine oj_iadd (pc := 411) (by decide +kernel) ?_
        refine oj_sldL (pc := 412) (by decide +kernel) H (fun H => ?_)
        refine ofL_Vi (pc := 413) (as := [_]) v_W_44 o_57 rfl rfl (Nat.le_of_ble_eq_true rfl) (by decide +kernel) (by decide) rfl (c_M_hours_0 (okp_bind H)) (Nat.le_of_ble_eq_true rfl) (Nat.le_of_ble_eq_true rfl) (fun r M H => ?_)
        refine oj_icmp_eq (pc := 416) (off := 653) (tgt := 1069) (by decide +kernel) (by decide) H (fun _ H => ?_) (fun _ H => ?_)
        · exact h1069 _ _ H
        · refine oj_iconst (pc := 419) (v := 0) ⟨by decide, by decide⟩ (by decide +kernel) ?_
          have H := e18 _ H
          exact oj_iret (pc := 420) (by decide +kernel) rfl rfl (Nat.le_of_ble_eq_true rfl) (Nat.le_of_ble_eq_true rfl) ⟨rfl, H⟩
      refine oj_case (c := _ = 7) H (fun c7 H => ?_) (fun c7 H => ?_)
      · refine oj_tin (pc := 33) (dflt := 1036) (lo := 0) (hi := 32) (offs := #[147, 190, 233, 256, 319, 342, 365, 388, 421, 454, 487, 520, 553, 576, 599, 622, 655, 678, 701, 724, 737, 760, 773, 806, 849, 862, 885, 908, 941, 964, 977, 990, 1013]) (len := 147) (off := 388) (tgt := 421) 7 c7 (by decide +kernel) ⟨by decide, by decide⟩ (by decide +kernel) (by decide) ?_
        refine oj_ald1 (pc := 421) (by decide +kernel) ?_
        refine oj_ald0 (pc := 422) (by decide +kernel) ?_
        refine oj_ld3 (pc := 423) (by decide +kernel) ?_
        refine oj_iconst (pc := 424) (v := 1) ⟨by decide, by decide⟩ (by decide +kernel) ?_
        refine oj_iadd (pc := 425) (by decide +kernel) ?_
        refine oj_sldL (pc := 426) (by decide +kernel) H (fun H => ?_)
        refine oj_ald0 (pc := 427) (by decide +kernel) ?_
        refine oj_ld3 (pc := 428) (by decide +kernel) ?_
        refine oj_iconst (pc := 429) (v := 2) ⟨by decide, by decide⟩ (by decide +kernel) ?_
        refine oj_iadd (pc := 430) (by decide +kernel) ?_
        refine oj_sldL (pc := 431) (by decide +kernel) H (fun H => ?_)
        refine ofL_Vi (pc := 432) (as := [_, _]) v_W_45 o_0 rfl rfl (Nat.le_of_ble_eq_true rfl) (by decide +kernel) (by decide) rfl (c_O_tried_0 (okp_bind H)) (Nat.le_of_ble_eq_true rfl) (Nat.le_of_ble_eq_true rfl) (fun r M H => ?_)
        refine oj_ald2 (pc := 435) (by decide +kernel) ?_
        refine oj_ald0 (pc := 436) (by decide +kernel) ?_
        refine oj_ld3 (pc := 437) (by decide +kernel) ?_
        refine oj_iconst (pc := 438) (v := 1) ⟨by decide, by decide⟩ (by decide +kernel) ?_
        refine oj_iadd (pc := 439) (by decide +kernel) ?_
        refine oj_sldL (pc := 440) (by decide +kernel) H (fun H => ?_)
        refine oj_ald0 (pc := 441) (by decide +kernel) ?_
        refine oj_ld3 (pc := 442) (by decide +kernel) ?_
        refine oj_iconst (pc := 443) (v := 2) ⟨by decide, by decide⟩ (by decide +kernel) ?_
        refine oj_iadd (pc := 444) (by decide +kernel) ?_
        refine oj_sldL (pc := 445) (by decide +kernel) H (fun H => ?_)
        refine ofL_Vi (pc := 446) (as := [_, _]) v_W_49 o_57 rfl rfl (Nat.le_of_ble_eq_true rfl) (by decide +kernel) (by decide) rfl (c_M_tried_0 (okp_bind H)) (Nat.le_of_ble_eq_true rfl) (Nat.le_of_ble_eq_true rfl) (fun r M H => ?_)
        refine oj_icmp_eq (pc := 449) (off := 620) (tgt := 1069) (by decide +kernel) (by decide) H (fun _ H => ?_) (fun _ H => ?_)
        · exact h1069 _ _ H
        · refine oj_iconst (pc := 452) (v := 0) ⟨by decide, by decide⟩ (by decide +kernel) ?_
          have H := e18 _ H
          exact oj_iret (pc := 453) (by decide +kernel) rfl rfl (Nat.le_of_ble_eq_true rfl) (Nat.le_of_ble_eq_true rfl) ⟨rfl, H⟩
      refine oj_case (c := _ = 8) H (fun c8 H => ?_) (fun c8 H => ?_)
      · refine oj_tin (pc := 33) (dflt := 1036) (lo := 0) (hi := 32) (offs := #[147, 190, 233, 256, 319, 342, 365, 388, 421, 454, 487, 520, 553, 576, 599, 622, 655, 678, 701, 724, 737, 760, 773, 806, 849, 862, 885, 908, 941, 964, 977, 990, 1013]) (len := 147) (off := 421) (tgt := 454) 8 c8 (by decide +kernel) ⟨by decide, by decide⟩ (by decide +kernel) (by decide) ?_
        refine oj_ald1 (pc := 454) (by decide +kernel) ?_
        refine oj_ald0 (pc := 455) (by decide +kernel) ?_
        refine oj_ld3 (pc := 456) (by decide +kernel) ?_
        refine oj_iconst (pc := 457) (v := 1) ⟨by decide, by decide⟩ (by decide +kernel) ?_
        refine oj_iadd (pc := 458) (by decide +kernel) ?_
        refine oj_sldL (pc := 459) (by decide +kernel) H (fun H => ?_)
        refine oj_ald0 (pc := 460) (by decide +kernel) ?_
        refine oj_ld3 (pc := 461) (by decide +kernel) ?_
        refine oj_iconst (pc := 462) (v := 2) ⟨by decide, by decide⟩ (by decide +kernel) ?_
        refine oj_iadd (pc := 463) (by decide +kernel) ?_
        refine oj_sldL (pc := 464) (by decide +kernel) H (fun H => ?_)
        refine ofL_Vi (pc := 465) (as := [_, _]) v_W_50 o_0 rfl rfl (Nat.le_of_ble_eq_true rfl) (by decide +kernel) (by decide) rfl (c_O_personIs_0 (okp_bind H)) (Nat.le_of_ble_eq_true rfl) (Nat.le_of_ble_eq_true rfl) (fun r M H => ?_)
        refine oj_ald2 (pc := 468) (by decide +kernel) ?_
        refine oj_ald0 (pc := 469) (by decide +kernel) ?_
        refine oj_ld3 (pc := 470) (by decide +kernel) ?_
        refine oj_iconst (pc := 471) (v := 1) ⟨by decide, by decide⟩ (by decide +kernel) ?_
        refine oj_iadd (pc := 472) (by decide +kernel) ?_
        refine oj_sldL (pc := 473) (by decide +kernel) H (fun H => ?_)
        refine oj_ald0 (pc := 474) (by decide +kernel) ?_
        refine oj_ld3 (pc := 475) (by decide +kernel) ?_
        refine oj_iconst (pc := 476) (v := 2) ⟨by decide, by decide⟩ (by decide +kernel) ?_
        refine oj_iadd (pc := 477) (by decide +kernel) ?_
        refine oj_sldL (pc := 478) (by decide +kernel) H (fun H => ?_)
        refine ofL_Vi (pc := 479) (as := [_, _]) v_W_53 o_57 rfl rfl (Nat.le_of_ble_eq_true rfl) (by decide +kernel) (by decide) rfl (c_M_personIs_0 (okp_bind H)) (Nat.le_of_ble_eq_true rfl) (Nat.le_of_ble_eq_true rfl) (fun r M H => ?_)
        refine oj_icmp_eq (pc := 482) (off := 587) (tgt := 1069) (by decide +kernel) (by decide) H (fun _ H => ?_) (fun _ H => ?_)
        · exact h1069 _ _ H
        · refine oj_iconst (pc := 485) (v := 0) ⟨by decide, by decide⟩ (by decide +kernel) ?_
          have H := e18 _ H
          exact oj_iret (pc := 486) (by decide +kernel) rfl rfl (Nat.le_of_ble_eq_true rfl) (Nat.le_of_ble_eq_true rfl) ⟨rfl, H⟩
      refine oj_case (c := _ = 9) H (fun c9 H => ?_) (fun c9 H => ?_)
      · refine oj_tin (pc := 33) (dflt := 1036) (lo := 0) (hi := 32) (offs := #[147, 190, 233, 256, 319, 342, 365, 388, 421, 454, 487, 520, 553, 576, 599, 622, 655, 678, 701, 724, 737, 760, 773, 806, 849, 862, 885, 908, 941, 964, 977, 990, 1013]) (len := 147) (off := 454) (tgt := 487) 9 c9 (by decide +kernel) ⟨by decide, by decide⟩ (by decide +kernel) (by decide) ?_
        refine oj_ald1 (pc := 487) (by decide +kernel) ?_
        refine oj_ald0 (pc := 488) (by decide +kernel) ?_
        refine oj_ld3 (pc := 489) (by decide +kernel) ?_
        refine oj_iconst (pc := 490) (v := 1) ⟨by decide, by decide⟩ (by decide +kernel) ?_
        refine oj_iadd (pc := 491) (by decide +kernel) ?_
        refine oj_sldL (pc := 492) (by decide +kernel) H (fun H => ?_)
        refine oj_ald0 (pc := 493) (by decide +kernel) ?_
        refine oj_ld3 (pc := 494) (by decide +kernel) ?_
        refine oj_iconst (pc := 495) (v := 2) ⟨by decide, by decide⟩ (by decide +kernel) ?_
        refine oj_iadd (pc := 496) (by decide +kernel) ?_
        refine oj_sldL (pc := 497) (by decide +kernel) H (fun H => ?_)
        refine ofL_Vi (pc := 498) (as := [_, _]) v_W_54 o_0 rfl rfl (Nat.le_of_ble_eq_true rfl) (by decide +kernel) (by decide) rfl (c_O_owes_0 (okp_bind H)) (Nat.le_of_ble_eq_true rfl) (Nat.le_of_ble_eq_true rfl) (fun r M H => ?_)
        refine oj_ald2 (pc := 501) (by decide +kernel) ?_
        refine oj_ald0 (pc := 502) (by decide +kernel) ?_
        refine oj_ld3 (pc := 503) (by decide +kernel) ?_
        refine oj_iconst (pc := 504) (v := 1) ⟨by decide, by decide⟩ (by decide +kernel) ?_
        refine oj_iadd (pc := 505) (by decide +kernel) ?_
        refine oj_sldL (pc := 506) (by decide +kernel) H (fun H => ?_)
        refine oj_ald0 (pc := 507) (by decide +kernel) ?_
        refine oj_ld3 (pc := 508) (by decide +kernel) ?_
        refine oj_iconst (pc := 509) (v := 2) ⟨by decide, by decide⟩ (by decide +kernel) ?_
        refine oj_iadd (pc := 510) (by decide +kernel) ?_
        refine oj_sldL (pc := 511) (by decide +kernel) H (fun H => ?_)
        refine ofL_Vi (pc := 512) (as := [_, _]) v_W_57 o_57 rfl rfl (Nat.le_of_ble_eq_true rfl) (by decide +kernel) (by decide) rfl (c_M_owes_0 (okp_bind H)) (Nat.le_of_ble_eq_true rfl) (Nat.le_of_ble_eq_true rfl) (fun r M H => ?_)
        refine oj_icmp_eq (pc := 515) (off := 554) (tgt := 1069) (by decide +kernel) (by decide) H (fun _ H => ?_) (fun _ H => ?_)
        · exact h1069 _ _ H
        · refine oj_iconst (pc := 518) (v := 0) ⟨by decide, by decide⟩ (by decide +kernel) ?_
          have H := e18 _ H
          exact oj_iret (pc := 519) (by decide +kernel) rfl rfl (Nat.le_of_ble_eq_true rfl) (Nat.le_of_ble_eq_true rfl) ⟨rfl, H⟩
      refine oj_case (c := _ = 10) H (fun c10 H => ?_) (fun c10 H => ?_)
      · refine oj_tin (pc := 33) (dflt := 1036) (lo := 0) (hi := 32) (offs := #[147, 190, 233, 256, 319, 342, 365, 388, 421, 454, 487, 520, 553, 576, 599, 622, 655, 678, 701, 724, 737, 760, 773, 806, 849, 862, 885, 908, 941, 964, 977, 990, 1013]) (len := 147) (off := 487) (tgt := 520) 10 c10 (by decide +kernel) ⟨by decide, by decide⟩ (by decide +kernel) (by decide) ?_
        refine oj_ald1 (pc := 520) (by decide +kernel) ?_
        refine oj_ald0 (pc := 521) (by decide +kernel) ?_
        refine oj_ld3 (pc := 522) (by decide +kernel) ?_
        refine oj_iconst (pc := 523) (v := 1) ⟨by decide, by decide⟩ (by decide +kernel) ?_
        refine oj_iadd (pc := 524) (by decide +kernel) ?_
        refine oj_sldL (pc := 525) (by decide +kernel) H (fun H => ?_)
        refine oj_ald0 (pc := 526) (by decide +kernel) ?_
        refine oj_ld3 (pc := 527) (by decide +kernel) ?_
        refine oj_iconst (pc := 528) (v := 2) ⟨by decide, by decide⟩ (by decide +kernel) ?_
        refine oj_iadd (pc := 529) (by decide +kernel) ?_
        refine oj_sldL (pc := 530) (by decide +kernel) H (fun H => ?_)
        refine ofL_Vi (pc := 531) (as := [_, _]) v_W_58 o_0 rfl rfl (Nat.le_of_ble_eq_true rfl) (by decide +kernel) (by decide) rfl (c_O_likes_0 (okp_bind H)) (Nat.le_of_ble_eq_true rfl) (Nat.le_of_ble_eq_true rfl) (fun r M H => ?_)
        refine oj_ald2 (pc := 534) (by decide +kernel) ?_
        refine oj_ald0 (pc := 535) (by decide +kernel) ?_
        refine oj_ld3 (pc := 536) (by decide +kernel) ?_
        refine oj_iconst (pc := 537) (v := 1) ⟨by decide, by decide⟩ (by decide +kernel) ?_
        refine oj_iadd (pc := 538) (by decide +kernel) ?_
        refine oj_sldL (pc := 539) (by decide +kernel) H (fun H => ?_)
        refine oj_ald0 (pc := 540) (by decide +kernel) ?_
        refine oj_ld3 (pc := 541) (by decide +kernel) ?_
        refine oj_iconst (pc := 542) (v := 2) ⟨by decide, by decide⟩ (by decide +kernel) ?_
        refine oj_iadd (pc := 543) (by decide +kernel) ?_
        refine oj_sldL (pc := 544) (by decide +kernel) H (fun H => ?_)
        refine ofL_Vi (pc := 545) (as := [_, _]) v_W_61 o_57 rfl rfl (Nat.le_of_ble_eq_true rfl) (by decide +kernel) (by decide) rfl (c_M_likes_0 (okp_bind H)) (Nat.le_of_ble_eq_true rfl) (Nat.le_of_ble_eq_true rfl) (fun r M H => ?_)
        refine oj_icmp_eq (pc := 548) (off := 521) (tgt := 1069) (by decide +kernel) (by decide) H (fun _ H => ?_) (fun _ H => ?_)
        · exact h1069 _ _ H
        · refine oj_iconst (pc := 551) (v := 0) ⟨by decide, by decide⟩ (by decide +kernel) ?_
          have H := e18 _ H
          exact oj_iret (pc := 552) (by decide +kernel) rfl rfl (Nat.le_of_ble_eq_true rfl) (Nat.le_of_ble_eq_true rfl) ⟨rfl, H⟩
      refine oj_case (c := _ = 11) H (fun c11 H => ?_) (fun c11 H => ?_)
      · refine oj_tin (pc := 33) (dflt := 1036) (lo := 0) (hi := 32) (offs := #[147, 190, 233, 256, 319, 342, 365, 388, 421, 454, 487, 520, 553, 576, 599, 622, 655, 678, 701, 724, 737, 760, 773, 806, 849, 862, 885, 908, 941, 964, 977, 990, 1013]) (len := 147) (off := 520) (tgt := 553) 11 c11 (by decide +kernel) ⟨by decide, by decide⟩ (by decide +kernel) (by decide) ?_
        refine oj_ald1 (pc := 553) (by decide +kernel) ?_
        refine oj_ald0 (pc := 554) (by decide +kernel) ?_
        refine oj_ld3 (pc := 555) (by decide +kernel) ?_
        refine oj_iconst (pc := 556) (v := 1) ⟨by decide, by decide⟩ (by decide +kernel) ?_
        refine oj_iadd (pc := 557) (by decide +kernel) ?_
        refine oj_sldL (pc := 558) (by decide +kernel) H (fun H => ?_)
        refine oj_ald0 (pc := 559) (by decide +kernel) ?_
        refine oj_ld3 (pc := 560) (by decide +kernel) ?_
        refine oj_iconst (pc := 561) (v := 2) ⟨by decide, by decide⟩ (by decide +kernel) ?_
        refine oj_iadd (pc := 562) (by decide +kernel) ?_
        refine oj_sldL (pc := 563) (by decide +kernel) H (fun H => ?_)
        refine ofL_Vi (pc := 564) (as := [_, _]) v_W_62 o_0 rfl rfl (Nat.le_of_ble_eq_true rfl) (by decide +kernel) (by decide) rfl (c_O_route_0 (okp_bind H)) (Nat.le_of_ble_eq_true rfl) (Nat.le_of_ble_eq_true rfl) (fun r M H => ?_)
        refine oj_ald2 (pc := 567) (by decide +kernel) ?_
        refine oj_ald0 (pc := 568) (by decide +kernel) ?_
        refine oj_ld3 (pc := 569) (by decide +kernel) ?_
        refine oj_iconst (pc := 570) (v := 1) ⟨by decide, by decide⟩ (by decide +kernel) ?_
        refine oj_iadd (pc := 571) (by decide +kernel) ?_
        refine oj_sldL (pc := 572) (by decide +kernel) H (fun H => ?_)
        refine oj_ald0 (pc := 573) (by decide +kernel) ?_
        refine oj_ld3 (pc := 574) (by decide +kernel) ?_
        refine oj_iconst (pc := 575) (v := 2) ⟨by decide, by decide⟩ (by decide +kernel) ?_
        refine oj_iadd (pc := 576) (by decide +kernel) ?_
        refine oj_sldL (pc := 577) (by decide +kernel) H (fun H => ?_)
        refine ofL_Vi (pc := 578) (as := [_, _]) v_W_65 o_57 rfl rfl (Nat.le_of_ble_eq_true rfl) (by decide +kernel) (by decide) rfl (c_M_route_0 (okp_bind H)) (Nat.le_of_ble_eq_true rfl) (Nat.le_of_ble_eq_true rfl) (fun r M H => ?_)
        refine oj_icmp_eq (pc := 581) (off := 488) (tgt := 1069) (by decide +kernel) (by decide) H (fun _ H => ?_) (fun _ H => ?_)
        · exact h1069 _ _ H
        · refine oj_iconst (pc := 584) (v := 0) ⟨by decide, by decide⟩ (by decide +kernel) ?_
          have H := e18 _ H
          exact oj_iret (pc := 585) (by decide +kernel) rfl rfl (Nat.le_of_ble_eq_true rfl) (Nat.le_of_ble_eq_true rfl) ⟨rfl, H⟩
      refine oj_case (c := _ = 12) H (fun c12 H => ?_) (fun c12 H => ?_)
      · refine oj_tin (pc := 33) (dflt := 1036) (lo := 0) (hi := 32) (offs := #[147, 190, 233, 256, 319, 342, 365, 388, 421, 454, 487, 520, 553, 576, 599, 622, 655, 678, 701, 724, 737, 760, 773, 806, 849, 862, 885, 908, 941, 964, 977, 990, 1013]) (len := 147) (off := 553) (tgt := 586) 12 c12 (by decide +kernel) ⟨by decide, by decide⟩ (by decide +kernel) (by decide) ?_
        refine oj_ald1 (pc := 586) (by decide +kernel) ?_
        refine oj_ald0 (pc := 587) (by decide +kernel) ?_
        refine oj_ld3 (pc := 588) (by decide +kernel) ?_
        refine oj_iconst (pc := 589) (v := 1) ⟨by decide, by decide⟩ (by decide +kernel) ?_
        refine oj_iadd (pc := 590) (by decide +kernel) ?_
        refine oj_sldL (pc := 591) (by decide +kernel) H (fun H => ?_)
        refine ofL_Vi (pc := 592) (as := [_]) v_W_66 o_0 rfl rfl (Nat.le_of_ble_eq_true rfl) (by decide +kernel) (by decide) rfl (c_O_walk_0 (okp_bind H)) (Nat.le_of_ble_eq_true rfl) (Nat.le_of_ble_eq_true rfl) (fun r M H => ?_)
        refine oj_ald2 (pc := 595) (by decide +kernel) ?_
        refine oj_ald0 (pc := 596) (by decide +kernel) ?_
        refine oj_ld3 (pc := 597) (by decide +kernel) ?_
        refine oj_iconst (pc := 598) (v := 1) ⟨by decide, by decide⟩ (by decide +kernel) ?_
        refine oj_iadd (pc := 599) (by decide +kernel) ?_
        refine oj_sldL (pc := 600) (by decide +kernel) H (fun H => ?_)
        refine ofL_Vi (pc := 601) (as := [_]) v_W_69 o_57 rfl rfl (Nat.le_of_ble_eq_true rfl) (by decide +kernel) (by decide) rfl (c_M_walk_0 (okp_bind H)) (Nat.le_of_ble_eq_true rfl) (Nat.le_of_ble_eq_true rfl) (fun r M H => ?_)
        refine oj_icmp_eq (pc := 604) (off := 465) (tgt := 1069) (by decide +kernel) (by decide) H (fun _ H => ?_) (fun _ H => ?_)
        · exact h1069 _ _ H
        · refine oj_iconst (pc := 607) (v := 0) ⟨by decide, by decide⟩ (by decide +kernel) ?_
          have H := e18 _ H
          exact oj_iret (pc := 608) (by decide +kernel) rfl rfl (Nat.le_of_ble_eq_true rfl) (Nat.le_of_ble_eq_true rfl) ⟨rfl, H⟩
      refine oj_case (c := _ = 13) H (fun c13 H => ?_) (fun c13 H => ?_)
      · refine oj_tin (pc := 33) (dflt := 1036) (lo := 0) (hi := 32) (offs := #[147, 190, 233, 256, 319, 342, 365, 388, 421, 454, 487, 520, 553, 576, 599, 622, 655, 678, 701, 724, 737, 760, 773, 806, 849, 862, 885, 908, 941, 964, 977, 990, 1013]) (len := 147) (off := 576) (tgt := 609) 13 c13 (by decide +kernel) ⟨by decide, by decide⟩ (by decide +kernel) (by decide) ?_
        refine oj_ald1 (pc := 609) (by decide +kernel) ?_
        refine oj_ald0 (pc := 610) (by decide +kernel) ?_
        refine oj_ld3 (pc := 611) (by decide +kernel) ?_
        refine oj_iconst (pc := 612) (v := 1) ⟨by decide, by decide⟩ (by decide +kernel) ?_
        refine oj_iadd (pc := 613) (by decide +kernel) ?_
        refine oj_sldL (pc := 614) (by decide +kernel) H (fun H => ?_)
        refine ofL_Vi (pc := 615) (as := [_]) v_W_70 o_0 rfl rfl (Nat.le_of_ble_eq_true rfl) (by decide +kernel) (by decide) rfl (c_O_tour_0 (okp_bind H)) (Nat.le_of_ble_eq_true rfl) (Nat.le_of_ble_eq_true rfl) (fun r M H => ?_)
        refine oj_ald2 (pc := 618) (by decide +kernel) ?_
        refine oj_ald0 (pc := 619) (by decide +kernel) ?_
        refine oj_ld3 (pc := 620) (by decide +kernel) ?_
        refine oj_iconst (pc := 621) (v := 1) ⟨by decide, by decide⟩ (by decide +kernel) ?_
        refine oj_iadd (pc := 622) (by decide +kernel) ?_
        refine oj_sldL (pc := 623) (by decide +kernel) H (fun H => ?_)
        refine ofL_Vi (pc := 624) (as := [_]) v_W_73 o_57 rfl rfl (Nat.le_of_ble_eq_true rfl) (by decide +kernel) (by decide) rfl (c_M_tour_0 (okp_bind H)) (Nat.le_of_ble_eq_true rfl) (Nat.le_of_ble_eq_true rfl) (fun r M H => ?_)
        refine oj_icmp_eq (pc := 627) (off := 442) (tgt := 1069) (by decide +kernel) (by decide) H (fun _ H => ?_) (fun _ H => ?_)
        · exact h1069 _ _ H
        · refine oj_iconst (pc := 630) (v := 0) ⟨by decide, by decide⟩ (by decide +kernel) ?_
          have H := e18 _ H
          exact oj_iret (pc := 631) (by decide +kernel) rfl rfl (Nat.le_of_ble_eq_true rfl) (Nat.le_of_ble_eq_true rfl) ⟨rfl, H⟩
      refine oj_case (c := _ = 14) H (fun c14 H => ?_) (fun c14 H => ?_)
      · refine oj_tin (pc := 33) (dflt := 1036) (lo := 0) (hi := 32) (offs := #[147, 190, 233, 256, 319, 342, 365, 388, 421, 454, 487, 520, 553, 576, 599, 622, 655, 678, 701, 724, 737, 760, 773, 806, 849, 862, 885, 908, 941, 964, 977, 990, 1013]) (len := 147) (off := 599) (tgt := 632) 14 c14 (by decide +kernel) ⟨by decide, by decide⟩ (by decide +kernel) (by decide) ?_
        refine oj_ald1 (pc := 632) (by decide +kernel) ?_
        refine oj_ald0 (pc := 633) (by decide +kernel) ?_
        refine oj_ld3 (pc := 634) (by decide +kernel) ?_
        refine oj_iconst (pc := 635) (v := 1) ⟨by decide, by decide⟩ (by decide +kernel) ?_
        refine oj_iadd (pc := 636) (by decide +kernel) ?_
        refine oj_sldL (pc := 637) (by decide +kernel) H (fun H => ?_)
        refine ofL_Vi (pc := 638) (as := [_]) v_W_74 o_0 rfl rfl (Nat.le_of_ble_eq_true rfl) (by decide +kernel) (by decide) rfl (c_O_most_0 (okp_bind H)) (Nat.le_of_ble_eq_true rfl) (Nat.le_of_ble_eq_true rfl) (fun r M H => ?_)
        refine oj_ald2 (pc := 641) (by decide +kernel) ?_
        refine oj_ald0 (pc := 642) (by decide +kernel) ?_
        refine oj_ld3 (pc := 643) (by decide +kernel) ?_
        refine oj_iconst (pc := 644) (v := 1) ⟨by decide, by decide⟩ (by decide +kernel) ?_
        refine oj_iadd (pc := 645) (by decide +kernel) ?_
        refine oj_sldL (pc := 646) (by decide +kernel) H (fun H => ?_)
        refine ofL_Vi (pc := 647) (as := [_]) v_W_77 o_57 rfl rfl (Nat.le_of_ble_eq_true rfl) (by decide +kernel) (by decide) rfl (c_M_most_0 (okp_bind H)) (Nat.le_of_ble_eq_true rfl) (Nat.le_of_ble_eq_true rfl) (fun r M H => ?_)
        refine oj_icmp_eq (pc := 650) (off := 419) (tgt := 1069) (by decide +kernel) (by decide) H (fun _ H => ?_) (fun _ H => ?_)
        · exact h1069 _ _ H
        · refine oj_iconst (pc := 653) (v := 0) ⟨by decide, by decide⟩ (by decide +kernel) ?_
          have H := e18 _ H
          exact oj_iret (pc := 654) (by decide +kernel) rfl rfl (Nat.le_of_ble_eq_true rfl) (Nat.le_of_ble_eq_true rfl) ⟨rfl, H⟩
      refine oj_case (c := _ = 15) H (fun c15 H => ?_) (fun c15 H => ?_)
      · refine oj_tin (pc := 33) (dflt := 1036) (lo := 0) (hi := 32) (offs := #[147, 190, 233, 256, 319, 342, 365, 388, 421, 454, 487, 520, 553, 576, 599, 622, 655, 678, 701, 724, 737, 760, 773, 806, 849, 862, 885, 908, 941, 964, 977, 990, 1013]) (len := 147) (off := 622) (tgt := 655) 15 c15 (by decide +kernel) ⟨by decide, by decide⟩ (by decide +kernel) (by decide) ?_
        refine oj_ald1 (pc := 655) (by decide +kernel) ?_
        refine oj_ald0 (pc := 656) (by decide +kernel) ?_
        refine oj_ld3 (pc := 657) (by decide +kernel) ?_
        refine oj_iconst (pc := 658) (v := 1) ⟨by decide, by decide⟩ (by decide +kernel) ?_
        refine oj_iadd (pc := 659) (by decide +kernel) ?_
        refine oj_sldL (pc := 660) (by decide +kernel) H (fun H => ?_)
        refine oj_ald0 (pc := 661) (by decide +kernel) ?_
        refine oj_ld3 (pc := 662) (by decide +kernel) ?_
        refine oj_iconst (pc := 663) (v := 2) ⟨by decide, by decide⟩ (by decide +kernel) ?_
        refine oj_iadd (pc := 664) (by decide +kernel) ?_
        refine oj_sldL (pc := 665) (by decide +kernel) H (fun H => ?_)
        refine ofL_Vi (pc := 666) (as := [_, _]) v_W_78 o_0 rfl rfl (Nat.le_of_ble_eq_true rfl) (by decide +kernel) (by decide) rfl (c_O_back_0 (okp_bind H)) (Nat.le_of_ble_eq_true rfl) (Nat.le_of_ble_eq_true rfl) (fun r M H => ?_)
        refine oj_ald2 (pc := 669) (by decide +kernel) ?_
        refine oj_ald0 (pc := 670) (by decide +kernel) ?_
        refine oj_ld3 (pc := 671) (by decide +kernel) ?_
        refine oj_iconst (pc := 672) (v := 1) ⟨by decide, by decide⟩ (by decide +kernel) ?_
        refine oj_iadd (pc := 673) (by decide +kernel) ?_
        refine oj_sldL (pc := 674) (by decide +kernel) H (fun H => ?_)
        refine oj_ald0 (pc := 675) (by decide +kernel) ?_
        refine oj_ld3 (pc := 676) (by decide +kernel) ?_
        refine oj_iconst (pc := 677) (v := 2) ⟨by decide, by decide⟩ (by decide +kernel) ?_
        refine oj_iadd (pc := 678) (by decide +kernel) ?_
        refine oj_sldL (pc := 679) (by decide +kernel) H (fun H => ?_)
        refine ofL_Vi (pc := 680) (as := [_, _]) v_W_81 o_57 rfl rfl (Nat.le_of_ble_eq_true rfl) (by decide +kernel) (by decide) rfl (c_M_back_0 (okp_bind H)) (Nat.le_of_ble_eq_true rfl) (Nat.le_of_ble_eq_true rfl) (fun r M H => ?_)
        refine oj_icmp_eq (pc := 683) (off := 386) (tgt := 1069) (by decide +kernel) (by decide) H (fun _ H => ?_) (fun _ H => ?_)
        · exact h1069 _ _ H
        · refine oj_iconst (pc := 686) (v := 0) ⟨by decide, by decide⟩ (by decide +kernel) ?_
          have H := e18 _ H
          exact oj_iret (pc := 687) (by decide +kernel) rfl rfl (Nat.le_of_ble_eq_true rfl) (Nat.le_of_ble_eq_true rfl) ⟨rfl, H⟩
      refine oj_case (c := _ = 16) H (fun c16 H => ?_) (fun c16 H => ?_)
      · refine oj_tin (pc := 33) (dflt := 1036) (lo := 0) (hi := 32) (offs := #[147, 190, 233, 256, 319, 342, 365, 388, 421, 454, 487, 520, 553, 576, 599, 622, 655, 678, 701, 724, 737, 760, 773, 806, 849, 862, 885, 908, 941, 964, 977, 990, 1013]) (len := 147) (off := 655) (tgt := 688) 16 c16 (by decide +kernel) ⟨by decide, by decide⟩ (by decide +kernel) (by decide) ?_
        refine oj_ald1 (pc := 688) (by decide +kernel) ?_
        refine oj_ald0 (pc := 689) (by decide +kernel) ?_
        refine oj_ld3 (pc := 690) (by decide +kernel) ?_
        refine oj_iconst (pc := 691) (v := 1) ⟨by decide, by decide⟩ (by decide +kernel) ?_
        refine oj_iadd (pc := 692) (by decide +kernel) ?_
        refine oj_sldL (pc := 693) (by decide +kernel) H (fun H => ?_)
        refine ofL_Vi (pc := 694) (as := [_]) v_W_82 o_0 rfl rfl (Nat.le_of_ble_eq_true rfl) (by decide +kernel) (by decide) rfl (c_O_even_0 (okp_bind H)) (Nat.le_of_ble_eq_true rfl) (Nat.le_of_ble_eq_true rfl) (fun r M H => ?_)
        refine oj_ald2 (pc := 697) (by decide +kernel) ?_
        refine oj_ald0 (pc := 698) (by decide +kernel) ?_
        refine oj_ld3 (pc := 699) (by decide +kernel) ?_
        refine oj_iconst (pc := 700) (v := 1) ⟨by decide, by decide⟩ (by decide +kernel) ?_
        refine oj_iadd (pc := 701) (by decide +kernel) ?_
        refine oj_sldL (pc := 702) (by decide +kernel) H (fun H => ?_)
        refine ofL_Vi (pc := 703) (as := [_]) v_W_85 o_57 rfl rfl (Nat.le_of_ble_eq_true rfl) (by decide +kernel) (by decide) rfl (c_M_even_0 (okp_bind H)) (Nat.le_of_ble_eq_true rfl) (Nat.le_of_ble_eq_true rfl) (fun r M H => ?_)
        refine oj_icmp_eq (pc := 706) (off := 363) (tgt := 1069) (by decide +kernel) (by decide) H (fun _ H => ?_) (fun _ H => ?_)
        · exact h1069 _ _ H
        · refine oj_iconst (pc := 709) (v := 0) ⟨by decide, by decide⟩ (by decide +kernel) ?_
          have H := e18 _ H
          exact oj_iret (pc := 710) (by decide +kernel) rfl rfl (Nat.le_of_ble_eq_true rfl) (Nat.le_of_ble_eq_true rfl) ⟨rfl, H⟩
      refine oj_case (c := _ = 17) H (fun c17 H => ?_) (fun c17 H => ?_)
      · refine oj_tin (pc := 33) (dflt := 1036) (lo := 0) (hi := 32) (offs := #[147, 190, 233, 256, 319, 342, 365, 388, 421, 454, 487, 520, 553, 576, 599, 622, 655, 678, 701, 724, 737, 760, 773, 806, 849, 862, 885, 908, 941, 964, 977, 990, 1013]) (len := 147) (off := 678) (tgt := 711) 17 c17 (by decide +kernel) ⟨by decide, by decide⟩ (by decide +kernel) (by decide) ?_
        refine oj_ald1 (pc := 711) (by decide +kernel) ?_
        refine oj_ald0 (pc := 712) (by decide +kernel) ?_
        refine oj_ld3 (pc := 713) (by decide +kernel) ?_
        refine oj_iconst (pc := 714) (v := 1) ⟨by decide, by decide⟩ (by decide +kernel) ?_
        refine oj_iadd (pc := 715) (by decide +kernel) ?_
        refine oj_sldL (pc := 716) (by decide +kernel) H (fun H => ?_)
        refine ofL_Vi (pc := 717) (as := [_]) v_W_86 o_0 rfl rfl (Nat.le_of_ble_eq_true rfl) (by decide +kernel) (by decide) rfl (c_O_turned_0 (okp_bind H)) (Nat.le_of_ble_eq_true rfl) (Nat.le_of_ble_eq_true rfl) (fun r M H => ?_)
        refine oj_ald2 (pc := 720) (by decide +kernel) ?_
        refine oj_ald0 (pc := 721) (by decide +kernel) ?_
        refine oj_ld3 (pc := 722) (by decide +kernel) ?_
        refine oj_iconst (pc := 723) (v := 1) ⟨by decide, by decide⟩ (by decide +kernel) ?_
        refine oj_iadd (pc := 724) (by decide +kernel) ?_
        refine oj_sldL (pc := 725) (by decide +kernel) H (fun H => ?_)
        refine ofL_Vi (pc := 726) (as := [_]) v_W_89 o_57 rfl rfl (Nat.le_of_ble_eq_true rfl) (by decide +kernel) (by decide) rfl (c_M_turned_0 (okp_bind H)) (Nat.le_of_ble_eq_true rfl) (Nat.le_of_ble_eq_true rfl) (fun r M H => ?_)
        refine oj_icmp_eq (pc := 729) (off := 340) (tgt := 1069) (by decide +kernel) (by decide) H (fun _ H => ?_) (fun _ H => ?_)
        · exact h1069 _ _ H
        · refine oj_iconst (pc := 732) (v := 0) ⟨by decide, by decide⟩ (by decide +kernel) ?_
          have H := e18 _ H
          exact oj_iret (pc := 733) (by decide +kernel) rfl rfl (Nat.le_of_ble_eq_true rfl) (Nat.le_of_ble_eq_true rfl) ⟨rfl, H⟩
      refine oj_case (c := _ = 18) H (fun c18 H => ?_) (fun c18 H => ?_)
      · refine oj_tin (pc := 33) (dflt := 1036) (lo := 0) (hi := 32) (offs := #[147, 190, 233, 256, 319, 342, 365, 388, 421, 454, 487, 520, 553, 576, 599, 622, 655, 678, 701, 724, 737, 760, 773, 806, 849, 862, 885, 908, 941, 964, 977, 990, 1013]) (len := 147) (off := 701) (tgt := 734) 18 c18 (by decide +kernel) ⟨by decide, by decide⟩ (by decide +kernel) (by decide) ?_
        refine oj_ald1 (pc := 734) (by decide +kernel) ?_
        refine oj_ald0 (pc := 735) (by decide +kernel) ?_
        refine oj_ld3 (pc := 736) (by decide +kernel) ?_
        refine oj_iconst (pc := 737) (v := 1) ⟨by decide, by decide⟩ (by decide +kernel) ?_
        refine oj_iadd (pc := 738) (by decide +kernel) ?_
        refine oj_sldL (pc := 739) (by decide +kernel) H (fun H => ?_)
        refine ofL_Vi (pc := 740) (as := [_]) v_W_90 o_0 rfl rfl (Nat.le_of_ble_eq_true rfl) (by decide +kernel) (by decide) rfl (c_O_setOff_0 (okp_bind H)) (Nat.le_of_ble_eq_true rfl) (Nat.le_of_ble_eq_true rfl) (fun r M H => ?_)
        refine oj_ald2 (pc := 743) (by decide +kernel) ?_
        refine oj_ald0 (pc := 744) (by decide +kernel) ?_
        refine oj_ld3 (pc := 745) (by decide +kernel) ?_
        refine oj_iconst (pc := 746) (v := 1) ⟨by decide, by decide⟩ (by decide +kernel) ?_
        refine oj_iadd (pc := 747) (by decide +kernel) ?_
        refine oj_sldL (pc := 748) (by decide +kernel) H (fun H => ?_)
        refine ofL_Vi (pc := 749) (as := [_]) v_W_93 o_57 rfl rfl (Nat.le_of_ble_eq_true rfl) (by decide +kernel) (by decide) rfl (c_M_setOff_0 (okp_bind H)) (Nat.le_of_ble_eq_true rfl) (Nat.le_of_ble_eq_true rfl) (fun r M H => ?_)
        refine oj_icmp_eq (pc := 752) (off := 317) (tgt := 1069) (by decide +kernel) (by decide) H (fun _ H => ?_) (fun _ H => ?_)
        · exact h1069 _ _ H
        · refine oj_iconst (pc := 755) (v := 0) ⟨by decide, by decide⟩ (by decide +kernel) ?_
          have H := e18 _ H
          exact oj_iret (pc := 756) (by decide +kernel) rfl rfl (Nat.le_of_ble_eq_true rfl) (Nat.le_of_ble_eq_true rfl) ⟨rfl, H⟩
      refine oj_case (c := _ = 19) H (fun c19 H => ?_) (fun c19 H => ?_)
      · refine oj_tin (pc := 33) (dflt := 1036) (lo := 0) (hi := 32) (offs := #[147, 190, 233, 256, 319, 342, 365, 388, 421, 454, 487, 520, 553, 576, 599, 622, 655, 678, 701, 724, 737, 760, 773, 806, 849, 862, 885, 908, 941, 964, 977, 990, 1013]) (len := 147) (off := 724) (tgt := 757) 19 c19 (by decide +kernel) ⟨by decide, by decide⟩ (by decide +kernel) (by decide) ?_
        refine oj_ald1 (pc := 757) (by decide +kernel) ?_
        refine ofL_Vi (pc := 758) (as := []) v_W_94 o_0 rfl rfl (Nat.le_of_ble_eq_true rfl) (by decide +kernel) (by decide) rfl (c_O_fewest_0 (okp_bind H)) (Nat.le_of_ble_eq_true rfl) (Nat.le_of_ble_eq_true rfl) (fun r M H => ?_)
        refine oj_ald2 (pc := 761) (by decide +kernel) ?_
        refine ofL_Vi (pc := 762) (as := []) v_W_98 o_57 rfl rfl (Nat.le_of_ble_eq_true rfl) (by decide +kernel) (by decide) rfl (c_M_fewest_0 (okp_bind H)) (Nat.le_of_ble_eq_true rfl) (Nat.le_of_ble_eq_true rfl) (fun r M H => ?_)
        refine oj_icmp_eq (pc := 765) (off := 304) (tgt := 1069) (by decide +kernel) (by decide) H (fun _ H => ?_) (fun _ H => ?_)
        · exact h1069 _ _ H
        · refine oj_iconst (pc := 768) (v := 0) ⟨by decide, by decide⟩ (by decide +kernel) ?_
          have H := e18 _ H
          exact oj_iret (pc := 769) (by decide +kernel) rfl rfl (Nat.le_of_ble_eq_true rfl) (Nat.le_of_ble_eq_true rfl) ⟨rfl, H⟩
      refine oj_case (c := _ = 20) H (fun c20 H => ?_) (fun c20 H => ?_)
      · refine oj_tin (pc := 33) (dflt := 1036) (lo := 0) (hi := 32) (offs := #[147, 190, 233, 256, 319, 342, 365, 388, 421, 454, 487, 520, 553, 576, 599, 622, 655, 678, 701, 724, 737, 760, 773, 806, 849, 862, 885, 908, 941, 964, 977, 990, 1013]) (len := 147) (off := 737) (tgt := 770) 20 c20 (by decide +kernel) ⟨by decide, by decide⟩ (by decide +kernel) (by decide) ?_
        refine oj_ald1 (pc := 770) (by decide +kernel) ?_
        refine oj_ald0 (pc := 771) (by decide +kernel) ?_
        refine oj_ld3 (pc := 772) (by decide +kernel) ?_
        refine oj_iconst (pc := 773) (v := 1) ⟨by decide, by decide⟩ (by decide +kernel) ?_
        refine oj_iadd (pc := 774) (by decide +kernel) ?_
        refine oj_sldL (pc := 775) (by decide +kernel) H (fun H => ?_)
        refine ofL_Vi (pc := 776) (as := [_]) v_W_99 o_0 rfl rfl (Nat.le_of_ble_eq_true rfl) (by decide +kernel) (by decide) rfl (c_O_rings_0 (okp_bind H)) (Nat.le_of_ble_eq_true rfl) (Nat.le_of_ble_eq_true rfl) (fun r M H => ?_)
        refine oj_ald2 (pc := 779) (by decide +kernel) ?_
        refine oj_ald0 (pc := 780) (by decide +kernel) ?_
        refine oj_ld3 (pc := 781) (by decide +kernel) ?_
        refine oj_iconst (pc := 782) (v := 1) ⟨by decide, by decide⟩ (by decide +kernel) ?_
        refine oj_iadd (pc := 783) (by decide +kernel) ?_
        refine oj_sldL (pc := 784) (by decide +kernel) H (fun H => ?_)
        refine ofL_Vi (pc := 785) (as := [_]) v_W_102 o_57 rfl rfl (Nat.le_of_ble_eq_true rfl) (by decide +kernel) (by decide) rfl (c_M_rings_0 (okp_bind H)) (Nat.le_of_ble_eq_true rfl) (Nat.le_of_ble_eq_true rfl) (fun r M H => ?_)
        refine oj_icmp_eq (pc := 788) (off := 281) (tgt := 1069) (by decide +kernel) (by decide) H (fun _ H => ?_) (fun _ H => ?_)
        · exact h1069 _ _ H
        · refine oj_iconst (pc := 791) (v := 0) ⟨by decide, by decide⟩ (by decide +kernel) ?_
          have H := e18 _ H
          exact oj_iret (pc := 792) (by decide +kernel) rfl rfl (Nat.le_of_ble_eq_true rfl) (Nat.le_of_ble_eq_true rfl) ⟨rfl, H⟩
      refine oj_case (c := _ = 21) H (fun c21 H => ?_) (fun c21 H => ?_)
      · refine oj_tin (pc := 33) (dflt := 1036) (lo := 0) (hi := 32) (offs := #[147, 190, 233, 256, 319, 342, 365, 388, 421, 454, 487, 520, 553, 576, 599, 622, 655, 678, 701, 724, 737, 760, 773, 806, 849, 862, 885, 908, 941, 964, 977, 990, 1013]) (len := 147) (off := 760) (tgt := 793) 21 c21 (by decide +kernel) ⟨by decide, by decide⟩ (by decide +kernel) (by decide) ?_
        refine oj_ald1 (pc := 793) (by decide +kernel) ?_
        refine ofL_Vi (pc := 794) (as := []) v_W_103 o_0 rfl rfl (Nat.le_of_ble_eq_true rfl) (by decide +kernel) (by decide) rfl (c_O_off_0 (okp_bind H)) (Nat.le_of_ble_eq_true rfl) (Nat.le_of_ble_eq_true rfl) (fun r M H => ?_)
        refine oj_ald2 (pc := 797) (by decide +kernel) ?_
        refine ofL_Vi (pc := 798) (as := []) v_W_106 o_57 rfl rfl (Nat.le_of_ble_eq_true rfl) (by decide +kernel) (by decide) rfl (c_M_off_0 (okp_bind H)) (Nat.le_of_ble_eq_true rfl) (Nat.le_of_ble_eq_true rfl) (fun r M H => ?_)
        refine oj_icmp_eq (pc := 801) (off := 268) (tgt := 1069) (by decide +kernel) (by decide) H (fun _ H => ?_) (fun _ H => ?_)
        · exact h1069 _ _ H
        · refine oj_iconst (pc := 804) (v := 0) ⟨by decide, by decide⟩ (by decide +kernel) ?_
          have H := e18 _ H
          exact oj_iret (pc := 805) (by decide +kernel) rfl rfl (Nat.le_of_ble_eq_true rfl) (Nat.le_of_ble_eq_true rfl) ⟨rfl, H⟩
      refine oj_case (c := _ = 22) H (fun c22 H => ?_) (fun c22 H => ?_)
      · refine oj_tin (pc := 33) (dflt := 1036) (lo := 0) (hi := 32) (offs := #[147, 190, 233, 256, 319, 342, 365, 388, 421, 454, 487, 520, 553, 576, 599, 622, 655, 678, 701, 724, 737, 760, 773, 806, 849, 862, 885, 908, 941, 964, 977, 990, 1013]) (len := 147) (off := 773) (tgt := 806) 22 c22 (by decide +kernel) ⟨by decide, by decide⟩ (by decide +kernel) (by decide) ?_
        refine oj_ald1 (pc := 806) (by decide +kernel) ?_
        refine oj_ald0 (pc := 807) (by decide +kernel) ?_
        refine oj_ld3 (pc := 808) (by decide +kernel) ?_
        refine oj_iconst (pc := 809) (v := 1) ⟨by decide, by decide⟩ (by decide +kernel) ?_
        refine oj_iadd (pc := 810) (by decide +kernel) ?_
        refine oj_sldL (pc := 811) (by decide +kernel) H (fun H => ?_)
        refine oj_ald0 (pc := 812) (by decide +kernel) ?_
        refine oj_ld3 (pc := 813) (by decide +kernel) ?_
        refine oj_iconst (pc := 814) (v := 2) ⟨by decide, by decide⟩ (by decide +kernel) ?_
        refine oj_iadd (pc := 815) (by decide +kernel) ?_
        refine oj_sldL (pc := 816) (by decide +kernel) H (fun H => ?_)
        refine ofL_Vi (pc := 817) (as := [_, _]) v_W_107 o_0 rfl rfl (Nat.le_of_ble_eq_true rfl) (by decide +kernel) (by decide) rfl (c_O_when_0 (okp_bind H)) (Nat.le_of_ble_eq_true rfl) (Nat.le_of_ble_eq_true rfl) (fun r M H => ?_)
        refine oj_ald2 (pc := 820) (by decide +kernel) ?_
        refine oj_ald0 (pc := 821) (by decide +kernel) ?_
        refine oj_ld3 (pc := 822) (by decide +kernel) ?_
        refine oj_iconst (pc := 823) (v := 1) ⟨by decide, by decide⟩ (by decide +kernel) ?_
        refine oj_iadd (pc := 824) (by decide +kernel) ?_
        refine oj_sldL (pc := 825) (by decide +kernel) H (fun H => ?_)
        refine oj_ald0 (pc := 826) (by decide +kernel) ?_
        refine oj_ld3 (pc := 827) (by decide +kernel) ?_
        refine oj_iconst (pc := 828) (v := 2) ⟨by decide, by decide⟩ (by decide +kernel) ?_
        refine oj_iadd (pc := 829) (by decide +kernel) ?_
        refine oj_sldL (pc := 830) (by decide +kernel) H (fun H => ?_)
        refine ofL_Vi (pc := 831) (as := [_, _]) v_W_110 o_57 rfl rfl (Nat.le_of_ble_eq_true rfl) (by decide +kernel) (by decide) rfl (c_M_when_0 (okp_bind H)) (Nat.le_of_ble_eq_true rfl) (Nat.le_of_ble_eq_true rfl) (fun r M H => ?_)
        refine oj_icmp_eq (pc := 834) (off := 235) (tgt := 1069) (by decide +kernel) (by decide) H (fun _ H => ?_) (fun _ H => ?_)
        · exact h1069 _ _ H
        · refine oj_iconst (pc := 837) (v := 0) ⟨by decide, by decide⟩ (by decide +kernel) ?_
          have H := e18 _ H
          exact oj_iret (pc := 838) (by decide +kernel) rfl rfl (Nat.le_of_ble_eq_true rfl) (Nat.le_of_ble_eq_true rfl) ⟨rfl, H⟩
      refine oj_case (c := _ = 23) H (fun c23 H => ?_) (fun c23 H => ?_)
      · refine oj_tin (pc := 33) (dflt := 1036) (lo := 0) (hi := 32) (offs := #[147, 190, 233, 256, 319, 342, 365, 388, 421, 454, 487, 520, 553, 576, 599, 622, 655, 678, 701, 724, 737, 760, 773, 806, 849, 862, 885, 908, 941, 964, 977, 990, 1013]) (len := 147) (off := 806) (tgt := 839) 23 c23 (by decide +kernel) ⟨by decide, by decide⟩ (by decide +kernel) (by decide) ?_
        refine oj_ald1 (pc := 839) (by decide +kernel) ?_
        refine oj_ald0 (pc := 840) (by decide +kernel) ?_
        refine oj_ld3 (pc := 841) (by decide +kernel) ?_
        refine oj_iconst (pc := 842) (v := 1) ⟨by decide, by decide⟩ (by decide +kernel) ?_
        refine oj_iadd (pc := 843) (by decide +kernel) ?_
        refine oj_sldL (pc := 844) (by decide +kernel) H (fun H => ?_)
        refine oj_ald0 (pc := 845) (by decide +kernel) ?_
        refine oj_ld3 (pc := 846) (by decide +kernel) ?_
        refine oj_iconst (pc := 847) (v := 2) ⟨by decide, by decide⟩ (by decide +kernel) ?_
        refine oj_iadd (pc := 848) (by decide +kernel) ?_
        refine oj_sldL (pc := 849) (by decide +kernel) H (fun H => ?_)
        refine oj_ald0 (pc := 850) (by decide +kernel) ?_
        refine oj_ld3 (pc := 851) (by decide +kernel) ?_
        refine oj_iconst (pc := 852) (v := 3) ⟨by decide, by decide⟩ (by decide +kernel) ?_
        refine oj_iadd (pc := 853) (by decide +kernel) ?_
        refine oj_sldL (pc := 854) (by decide +kernel) H (fun H => ?_)
        refine ofL_Vi (pc := 855) (as := [_, _, _]) v_W_111 o_0 rfl rfl (Nat.le_of_ble_eq_true rfl) (by decide +kernel) (by decide) rfl (c_O_wedding_0 (okp_bind H)) (Nat.le_of_ble_eq_true rfl) (Nat.le_of_ble_eq_true rfl) (fun r M H => ?_)
        refine oj_ald2 (pc := 858) (by decide +kernel) ?_
        refine oj_ald0 (pc := 859) (by decide +kernel) ?_
        refine oj_ld3 (pc := 860) (by decide +kernel) ?_
        refine oj_iconst (pc := 861) (v := 1) ⟨by decide, by decide⟩ (by decide +kernel) ?_
        refine oj_iadd (pc := 862) (by decide +kernel) ?_
        refine oj_sldL (pc := 863) (by decide +kernel) H (fun H => ?_)
        refine oj_ald0 (pc := 864) (by decide +kernel) ?_
        refine oj_ld3 (pc := 865) (by decide +kernel) ?_
        refine oj_iconst (pc := 866) (v := 2) ⟨by decide, by decide⟩ (by decide +kernel) ?_
        refine oj_iadd (pc := 867) (by decide +kernel) ?_
        refine oj_sldL (pc := 868) (by decide +kernel) H (fun H => ?_)
        refine oj_ald0 (pc := 869) (by decide +kernel) ?_
        refine oj_ld3 (pc := 870) (by decide +kernel) ?_
        refine oj_iconst (pc := 871) (v := 3) ⟨by decide, by decide⟩ (by decide +kernel) ?_
        refine oj_iadd (pc := 872) (by decide +kernel) ?_
        refine oj_sldL (pc := 873) (by decide +kernel) H (fun H => ?_)
        refine ofL_Vi (pc := 874) (as := [_, _, _]) v_W_115 o_57 rfl rfl (Nat.le_of_ble_eq_true rfl) (by decide +kernel) (by decide) rfl (c_M_wedding_0 (okp_bind H)) (Nat.le_of_ble_eq_true rfl) (Nat.le_of_ble_eq_true rfl) (fun r M H => ?_)
        refine oj_icmp_eq (pc := 877) (off := 192) (tgt := 1069) (by decide +kernel) (by decide) H (fun _ H => ?_) (fun _ H => ?_)
        · exact h1069 _ _ H
        · refine oj_iconst (pc := 880) (v := 0) ⟨by decide, by decide⟩ (by decide +kernel) ?_
          have H := e18 _ H
          exact oj_iret (pc := 881) (by decide +kernel) rfl rfl (Nat.le_of_ble_eq_true rfl) (Nat.le_of_ble_eq_true rfl) ⟨rfl, H⟩
      refine oj_case (c := _ = 24) H (fun c24 H => ?_) (fun c24 H => ?_)
      · refine oj_tin (pc := 33) (dflt := 1036) (lo := 0) (hi := 32) (offs := #[147, 190, 233, 256, 319, 342, 365, 388, 421, 454, 487, 520, 553, 576, 599, 622, 655, 678, 701, 724, 737, 760, 773, 806, 849, 862, 885, 908, 941, 964, 977, 990, 1013]) (len := 147) (off := 849) (tgt := 882) 24 c24 (by decide +kernel) ⟨by decide, by decide⟩ (by decide +kernel) (by decide) ?_
        refine oj_ald1 (pc := 882) (by decide +kernel) ?_
        refine ofL_Vi (pc := 883) (as := []) v_W_116 o_0 rfl rfl (Nat.le_of_ble_eq_true rfl) (by decide +kernel) (by decide) rfl (c_O_longest_0 (okp_bind H)) (Nat.le_of_ble_eq_true rfl) (Nat.le_of_ble_eq_true rfl) (fun r M H => ?_)
        refine oj_ald2 (pc := 886) (by decide +kernel) ?_
        refine ofL_Vi (pc := 887) (as := []) v_W_119 o_57 rfl rfl (Nat.le_of_ble_eq_true rfl) (by decide +kernel) (by decide) rfl (c_M_longest_0 (okp_bind H)) (Nat.le_of_ble_eq_true rfl) (Nat.le_of_ble_eq_true rfl) (fun r M H => ?_)
        refine oj_icmp_eq (pc := 890) (off := 179) (tgt := 1069) (by decide +kernel) (by decide) H (fun _ H => ?_) (fun _ H => ?_)
        · exact h1069 _ _ H
        · refine oj_iconst (pc := 893) (v := 0) ⟨by decide, by decide⟩ (by decide +kernel) ?_
          have H := e18 _ H
          exact oj_iret (pc := 894) (by decide +kernel) rfl rfl (Nat.le_of_ble_eq_true rfl) (Nat.le_of_ble_eq_true rfl) ⟨rfl, H⟩
      refine oj_case (c := _ = 25) H (fun c25 H => ?_) (fun c25 H => ?_)
      · refine oj_tin (pc := 33) (dflt := 1036) (lo := 0) (hi := 32) (offs := #[147, 190, 233, 256, 319, 342, 365, 388, 421, 454, 487, 520, 553, 576, 599, 622, 655, 678, 701, 724, 737, 760, 773, 806, 849, 862, 885, 908, 941, 964, 977, 990, 1013]) (len := 147) (off := 862) (tgt := 895) 25 c25 (by decide +kernel) ⟨by decide, by decide⟩ (by decide +kernel) (by decide) ?_
        refine oj_ald1 (pc := 895) (by decide +kernel) ?_
        refine oj_ald0 (pc := 896) (by decide +kernel) ?_
        refine oj_ld3 (pc := 897) (by decide +kernel) ?_
        refine oj_iconst (pc := 898) (v := 1) ⟨by decide, by decide⟩ (by decide +kernel) ?_
        refine oj_iadd (pc := 899) (by decide +kernel) ?_
        refine oj_sldL (pc := 900) (by decide +kernel) H (fun H => ?_)
        refine ofL_Vi (pc := 901) (as := [_]) v_W_120 o_0 rfl rfl (Nat.le_of_ble_eq_true rfl) (by decide +kernel) (by decide) rfl (c_O_chalk_0 (okp_bind H)) (Nat.le_of_ble_eq_true rfl) (Nat.le_of_ble_eq_true rfl) (fun r M H => ?_)
        refine oj_ald2 (pc := 904) (by decide +kernel) ?_
        refine oj_ald0 (pc := 905) (by decide +kernel) ?_
        refine oj_ld3 (pc := 906) (by decide +kernel) ?_
        refine oj_iconst (pc := 907) (v := 1) ⟨by decide, by decide⟩ (by decide +kernel) ?_
        refine oj_iadd (pc := 908) (by decide +kernel) ?_
        refine oj_sldL (pc := 909) (by decide +kernel) H (fun H => ?_)
        refine ofL_Vi (pc := 910) (as := [_]) v_W_123 o_57 rfl rfl (Nat.le_of_ble_eq_true rfl) (by decide +kernel) (by decide) rfl (c_M_chalk_0 (okp_bind H)) (Nat.le_of_ble_eq_true rfl) (Nat.le_of_ble_eq_true rfl) (fun r M H => ?_)
        refine oj_icmp_eq (pc := 913) (off := 156) (tgt := 1069) (by decide +kernel) (by decide) H (fun _ H => ?_) (fun _ H => ?_)
        · exact h1069 _ _ H
        · refine oj_iconst (pc := 916) (v := 0) ⟨by decide, by decide⟩ (by decide +kernel) ?_
          have H := e18 _ H
          exact oj_iret (pc := 917) (by decide +kernel) rfl rfl (Nat.le_of_ble_eq_true rfl) (Nat.le_of_ble_eq_true rfl) ⟨rfl, H⟩
      refine oj_case (c := _ = 26) H (fun c26 H => ?_) (fun c26 H => ?_)
      · refine oj_tin (pc := 33) (dflt := 1036) (lo := 0) (hi := 32) (offs := #[147, 190, 233, 256, 319, 342, 365, 388, 421, 454, 487, 520, 553, 576, 599, 622, 655, 678, 701, 724, 737, 760, 773, 806, 849, 862, 885, 908, 941, 964, 977, 990, 1013]) (len := 147) (off := 885) (tgt := 918) 26 c26 (by decide +kernel) ⟨by decide, by decide⟩ (by decide +kernel) (by decide) ?_
        refine oj_ald1 (pc := 918) (by decide +kernel) ?_
        refine oj_ald0 (pc := 919) (by decide +kernel) ?_
        refine oj_ld3 (pc := 920) (by decide +kernel) ?_
        refine oj_iconst (pc := 921) (v := 1) ⟨by decide, by decide⟩ (by decide +kernel) ?_
        refine oj_iadd (pc := 922) (by decide +kernel) ?_
        refine oj_sldL (pc := 923) (by decide +kernel) H (fun H => ?_)
        refine ofL_Vi (pc := 924) (as := [_]) v_W_124 o_0 rfl rfl (Nat.le_of_ble_eq_true rfl) (by decide +kernel) (by decide) rfl (c_O_two_0 (okp_bind H)) (Nat.le_of_ble_eq_true rfl) (Nat.le_of_ble_eq_true rfl) (fun r M H => ?_)
        refine oj_ald2 (pc := 927) (by decide +kernel) ?_
        refine oj_ald0 (pc := 928) (by decide +kernel) ?_
        refine oj_ld3 (pc := 929) (by decide +kernel) ?_
        refine oj_iconst (pc := 930) (v := 1) ⟨by decide, by decide⟩ (by decide +kernel) ?_
        refine oj_iadd (pc := 931) (by decide +kernel) ?_
        refine oj_sldL (pc := 932) (by decide +kernel) H (fun H => ?_)
        refine ofL_Vi (pc := 933) (as := [_]) v_W_127 o_57 rfl rfl (Nat.le_of_ble_eq_true rfl) (by decide +kernel) (by decide) rfl (c_M_two_0 (okp_bind H)) (Nat.le_of_ble_eq_true rfl) (Nat.le_of_ble_eq_true rfl) (fun r M H => ?_)
        refine oj_icmp_eq (pc := 936) (off := 133) (tgt := 1069) (by decide +kernel) (by decide) H (fun _ H => ?_) (fun _ H => ?_)
        · exact h1069 _ _ H
        · refine oj_iconst (pc := 939) (v := 0) ⟨by decide, by decide⟩ (by decide +kernel) ?_
          have H := e18 _ H
          exact oj_iret (pc := 940) (by decide +kernel) rfl rfl (Nat.le_of_ble_eq_true rfl) (Nat.le_of_ble_eq_true rfl) ⟨rfl, H⟩
      refine oj_case (c := _ = 27) H (fun c27 H => ?_) (fun c27 H => ?_)
      · refine oj_tin (pc := 33) (dflt := 1036) (lo := 0) (hi := 32) (offs := #[147, 190, 233, 256, 319, 342, 365, 388, 421, 454, 487, 520, 553, 576, 599, 622, 655, 678, 701, 724, 737, 760, 773, 806, 849, 862, 885, 908, 941, 964, 977, 990, 1013]) (len := 147) (off := 908) (tgt := 941) 27 c27 (by decide +kernel) ⟨by decide, by decide⟩ (by decide +kernel) (by decide) ?_
        refine oj_ald1 (pc := 941) (by decide +kernel) ?_
        refine oj_ald0 (pc := 942) (by decide +kernel) ?_
        refine oj_ld3 (pc := 943) (by decide +kernel) ?_
        refine oj_iconst (pc := 944) (v := 1) ⟨by decide, by decide⟩ (by decide +kernel) ?_
        refine oj_iadd (pc := 945) (by decide +kernel) ?_
        refine oj_sldL (pc := 946) (by decide +kernel) H (fun H => ?_)
        refine oj_ald0 (pc := 947) (by decide +kernel) ?_
        refine oj_ld3 (pc := 948) (by decide +kernel) ?_
        refine oj_iconst (pc := 949) (v := 2) ⟨by decide, by decide⟩ (by decide +kernel) ?_
        refine oj_iadd (pc := 950) (by decide +kernel) ?_
        refine oj_sldL (pc := 951) (by decide +kernel) H (fun H => ?_)
        refine ofL_Vi (pc := 952) (as := [_, _]) v_W_128 o_0 rfl rfl (Nat.le_of_ble_eq_true rfl) (by decide +kernel) (by decide) rfl (c_O_dry_0 (okp_bind H)) (Nat.le_of_ble_eq_true rfl) (Nat.le_of_ble_eq_true rfl) (fun r M H => ?_)
        refine oj_ald2 (pc := 955) (by decide +kernel) ?_
        refine oj_ald0 (pc := 956) (by decide +kernel) ?_
        refine oj_ld3 (pc := 957) (by decide +kernel) ?_
        refine oj_iconst (pc := 958) (v := 1) ⟨by decide, by decide⟩ (by decide +kernel) ?_
        refine oj_iadd (pc := 959) (by decide +kernel) ?_
        refine oj_sldL (pc := 960) (by decide +kernel) H (fun H => ?_)
        refine oj_ald0 (pc := 961) (by decide +kernel) ?_
        refine oj_ld3 (pc := 962) (by decide +kernel) ?_
        refine oj_iconst (pc := 963) (v := 2) ⟨by decide, by decide⟩ (by decide +kernel) ?_
        refine oj_iadd (pc := 964) (by decide +kernel) ?_
        refine oj_sldL (pc := 965) (by decide +kernel) H (fun H => ?_)
        refine ofL_Vi (pc := 966) (as := [_, _]) v_W_131 o_57 rfl rfl (Nat.le_of_ble_eq_true rfl) (by decide +kernel) (by decide) rfl (c_M_dry_0 (okp_bind H)) (Nat.le_of_ble_eq_true rfl) (Nat.le_of_ble_eq_true rfl) (fun r M H => ?_)
        refine oj_icmp_eq (pc := 969) (off := 100) (tgt := 1069) (by decide +kernel) (by decide) H (fun _ H => ?_) (fun _ H => ?_)
        · exact h1069 _ _ H
        · refine oj_iconst (pc := 972) (v := 0) ⟨by decide, by decide⟩ (by decide +kernel) ?_
          have H := e18 _ H
          exact oj_iret (pc := 973) (by decide +kernel) rfl rfl (Nat.le_of_ble_eq_true rfl) (Nat.le_of_ble_eq_true rfl) ⟨rfl, H⟩
      refine oj_case (c := _ = 28) H (fun c28 H => ?_) (fun c28 H => ?_)
      · refine oj_tin (pc := 33) (dflt := 1036) (lo := 0) (hi := 32) (offs := #[147, 190, 233, 256, 319, 342, 365, 388, 421, 454, 487, 520, 553, 576, 599, 622, 655, 678, 701, 724, 737, 760, 773, 806, 849, 862, 885, 908, 941, 964, 977, 990, 1013]) (len := 147) (off := 941) (tgt := 974) 28 c28 (by decide +kernel) ⟨by decide, by decide⟩ (by decide +kernel) (by decide) ?_
        refine oj_ald1 (pc := 974) (by decide +kernel) ?_
        refine oj_ald0 (pc := 975) (by decide +kernel) ?_
        refine oj_ld3 (pc := 976) (by decide +kernel) ?_
        refine oj_iconst (pc := 977) (v := 1) ⟨by decide, by decide⟩ (by decide +kernel) ?_
        refine oj_iadd (pc := 978) (by decide +kernel) ?_
        refine oj_sldL (pc := 979) (by decide +kernel) H (fun H => ?_)
        refine ofL_Vi (pc := 980) (as := [_]) v_W_132 o_0 rfl rfl (Nat.le_of_ble_eq_true rfl) (by decide +kernel) (by decide) rfl (c_O_seed_0 (okp_bind H)) (Nat.le_of_ble_eq_true rfl) (Nat.le_of_ble_eq_true rfl) (fun r M H => ?_)
        refine oj_ald2 (pc := 983) (by decide +kernel) ?_
        refine oj_ald0 (pc := 984) (by decide +kernel) ?_
        refine oj_ld3 (pc := 985) (by decide +kernel) ?_
        refine oj_iconst (pc := 986) (v := 1) ⟨by decide, by decide⟩ (by decide +kernel) ?_
        refine oj_iadd (pc := 987) (by decide +kernel) ?_
        refine oj_sldL (pc := 988) (by decide +kernel) H (fun H => ?_)
        refine ofL_Vi (pc := 989) (as := [_]) v_W_135 o_57 rfl rfl (Nat.le_of_ble_eq_true rfl) (by decide +kernel) (by decide) rfl (c_M_seed_0 (okp_bind H)) (Nat.le_of_ble_eq_true rfl) (Nat.le_of_ble_eq_true rfl) (fun r M H => ?_)
        refine oj_icmp_eq (pc := 992) (off := 77) (tgt := 1069) (by decide +kernel) (by decide) H (fun _ H => ?_) (fun _ H => ?_)
        · exact h1069 _ _ H
        · refine oj_iconst (pc := 995) (v := 0) ⟨by decide, by decide⟩ (by decide +kernel) ?_
          have H := e18 _ H
          exact oj_iret (pc := 996) (by decide +kernel) rfl rfl (Nat.le_of_ble_eq_true rfl) (Nat.le_of_ble_eq_true rfl) ⟨rfl, H⟩
      refine oj_case (c := _ = 29) H (fun c29 H => ?_) (fun c29 H => ?_)
      · refine oj_tin (pc := 33) (dflt := 1036) (lo := 0) (hi := 32) (offs := #[147, 190, 233, 256, 319, 342, 365, 388, 421, 454, 487, 520, 553, 576, 599, 622, 655, 678, 701, 724, 737, 760, 773, 806, 849, 862, 885, 908, 941, 964, 977, 990, 1013]) (len := 147) (off := 964) (tgt := 997) 29 c29 (by decide +kernel) ⟨by decide, by decide⟩ (by decide +kernel) (by decide) ?_
        refine oj_ald1 (pc := 997) (by decide +kernel) ?_
        refine ofL_Vi (pc := 998) (as := []) v_W_136 o_0 rfl rfl (Nat.le_of_ble_eq_true rfl) (by decide +kernel) (by decide) rfl (c_O_keep_0 (okp_bind H)) (Nat.le_of_ble_eq_true rfl) (Nat.le_of_ble_eq_true rfl) (fun r M H => ?_)
        refine oj_ald2 (pc := 1001) (by decide +kernel) ?_
        refine ofL_Vi (pc := 1002) (as := []) v_W_139 o_57 rfl rfl (Nat.le_of_ble_eq_true rfl) (by decide +kernel) (by decide) rfl (c_M_keep_0 (okp_bind H)) (Nat.le_of_ble_eq_true rfl) (Nat.le_of_ble_eq_true rfl) (fun r M H => ?_)
        refine oj_icmp_eq (pc := 1005) (off := 64) (tgt := 1069) (by decide +kernel) (by decide) H (fun _ H => ?_) (fun _ H => ?_)
        · exact h1069 _ _ H
        · refine oj_iconst (pc := 1008) (v := 0) ⟨by decide, by decide⟩ (by decide +kernel) ?_
          have H := e18 _ H
          exact oj_iret (pc := 1009) (by decide +kernel) rfl rfl (Nat.le_of_ble_eq_true rfl) (Nat.le_of_ble_eq_true rfl) ⟨rfl, H⟩
      refine oj_case (c := _ = 30) H (fun c30 H => ?_) (fun c30 H => ?_)
      · refine oj_tin (pc := 33) (dflt := 1036) (lo := 0) (hi := 32) (offs := #[147, 190, 233, 256, 319, 342, 365, 388, 421, 454, 487, 520, 553, 576, 599, 622, 655, 678, 701, 724, 737, 760, 773, 806, 849, 862, 885, 908, 941, 964, 977, 990, 1013]) (len := 147) (off := 977) (tgt := 1010) 30 c30 (by decide +kernel) ⟨by decide, by decide⟩ (by decide +kernel) (by decide) ?_
        refine oj_ald1 (pc := 1010) (by decide +kernel) ?_
        refine ofL_Vi (pc := 1011) (as := []) v_W_140 o_0 rfl rfl (Nat.le_of_ble_eq_true rfl) (by decide +kernel) (by decide) rfl (c_O_undo_0 (okp_bind H)) (Nat.le_of_ble_eq_true rfl) (Nat.le_of_ble_eq_true rfl) (fun r M H => ?_)
        refine oj_ald2 (pc := 1014) (by decide +kernel) ?_
        refine ofL_Vi (pc := 1015) (as := []) v_W_144 o_57 rfl rfl (Nat.le_of_ble_eq_true rfl) (by decide +kernel) (by decide) rfl (c_M_undo_0 (okp_bind H)) (Nat.le_of_ble_eq_true rfl) (Nat.le_of_ble_eq_true rfl) (fun r M H => ?_)
        refine oj_icmp_eq (pc := 1018) (off := 51) (tgt := 1069) (by decide +kernel) (by decide) H (fun _ H => ?_) (fun _ H => ?_)
        · exact h1069 _ _ H
        · refine oj_iconst (pc := 1021) (v := 0) ⟨by decide, by decide⟩ (by decide +kernel) ?_
          have H := e18 _ H
          exact oj_iret (pc := 1022) (by decide +kernel) rfl rfl (Nat.le_of_ble_eq_true rfl) (Nat.le_of_ble_eq_true rfl) ⟨rfl, H⟩
      refine oj_case (c := _ = 31) H (fun c31 H => ?_) (fun c31 H => ?_)
      · refine oj_tin (pc := 33) (dflt := 1036) (lo := 0) (hi := 32) (offs := #[147, 190, 233, 256, 319, 342, 365, 388, 421, 454, 487, 520, 553, 576, 599, 622, 655, 678, 701, 724, 737, 760, 773, 806, 849, 862, 885, 908, 941, 964, 977, 990, 1013]) (len := 147) (off := 990) (tgt := 1023) 31 c31 (by decide +kernel) ⟨by decide, by decide⟩ (by decide +kernel) (by decide) ?_
        refine oj_ald1 (pc := 1023) (by decide +kernel) ?_
        refine oj_ald0 (pc := 1024) (by decide +kernel) ?_
        refine oj_ld3 (pc := 1025) (by decide +kernel) ?_
        refine oj_iconst (pc := 1026) (v := 1) ⟨by decide, by decide⟩ (by decide +kernel) ?_
        refine oj_iadd (pc := 1027) (by decide +kernel) ?_
        refine oj_sldL (pc := 1028) (by decide +kernel) H (fun H => ?_)
        refine ofL_Vi (pc := 1029) (as := [_]) v_W_145 o_0 rfl rfl (Nat.le_of_ble_eq_true rfl) (by decide +kernel) (by decide) rfl (c_O_check_0 (okp_bind H)) (Nat.le_of_ble_eq_true rfl) (Nat.le_of_ble_eq_true rfl) (fun r M H => ?_)
        refine oj_ald2 (pc := 1032) (by decide +kernel) ?_
        refine oj_ald0 (pc := 1033) (by decide +kernel) ?_
        refine oj_ld3 (pc := 1034) (by decide +kernel) ?_
        refine oj_iconst (pc := 1035) (v := 1) ⟨by decide, by decide⟩ (by decide +kernel) ?_
        refine oj_iadd (pc := 1036) (by decide +kernel) ?_
        refine oj_sldL (pc := 1037) (by decide +kernel) H (fun H => ?_)
        refine ofL_Vi (pc := 1038) (as := [_]) v_W_148 o_57 rfl rfl (Nat.le_of_ble_eq_true rfl) (by decide +kernel) (by decide) rfl (c_M_check_0 (okp_bind H)) (Nat.le_of_ble_eq_true rfl) (Nat.le_of_ble_eq_true rfl) (fun r M H => ?_)
        refine oj_icmp_eq (pc := 1041) (off := 28) (tgt := 1069) (by decide +kernel) (by decide) H (fun _ H => ?_) (fun _ H => ?_)
        · exact h1069 _ _ H
        · refine oj_iconst (pc := 1044) (v := 0) ⟨by decide, by decide⟩ (by decide +kernel) ?_
          have H := e18 _ H
          exact oj_iret (pc := 1045) (by decide +kernel) rfl rfl (Nat.le_of_ble_eq_true rfl) (Nat.le_of_ble_eq_true rfl) ⟨rfl, H⟩
      refine oj_case (c := _ = 32) H (fun c32 H => ?_) (fun c32 H => ?_)
      · refine oj_tin (pc := 33) (dflt := 1036) (lo := 0) (hi := 32) (offs := #[147, 190, 233, 256, 319, 342, 365, 388, 421, 454, 487, 520, 553, 576, 599, 622, 655, 678, 701, 724, 737, 760, 773, 806, 849, 862, 885, 908, 941, 964, 977, 990, 1013]) (len := 147) (off := 1013) (tgt := 1046) 32 c32 (by decide +kernel) ⟨by decide, by decide⟩ (by decide +kernel) (by decide) ?_
        refine oj_ald1 (pc := 1046) (by decide +kernel) ?_
        refine oj_ald0 (pc := 1047) (by decide +kernel) ?_
        refine oj_ld3 (pc := 1048) (by decide +kernel) ?_
        refine oj_iconst (pc := 1049) (v := 1) ⟨by decide, by decide⟩ (by decide +kernel) ?_
        refine oj_iadd (pc := 1050) (by decide +kernel) ?_
        refine oj_sldL (pc := 1051) (by decide +kernel) H (fun H => ?_)
        refine ofL_Vi (pc := 1052) (as := [_]) v_W_149 o_0 rfl rfl (Nat.le_of_ble_eq_true rfl) (by decide +kernel) (by decide) rfl (c_O_count_0 (okp_bind H)) (Nat.le_of_ble_eq_true rfl) (Nat.le_of_ble_eq_true rfl) (fun r M H => ?_)
        refine oj_ald2 (pc := 1055) (by decide +kernel) ?_
        refine oj_ald0 (pc := 1056) (by decide +kernel) ?_
        refine oj_ld3 (pc := 1057) (by decide +kernel) ?_
        refine oj_iconst (pc := 1058) (v := 1) ⟨by decide, by decide⟩ (by decide +kernel) ?_
        refine oj_iadd (pc := 1059) (by decide +kernel) ?_
        refine oj_sldL (pc := 1060) (by decide +kernel) H (fun H => ?_)
        refine ofL_Vi (pc := 1061) (as := [_]) v_W_152 o_57 rfl rfl (Nat.le_of_ble_eq_true rfl) (by decide +kernel) (by decide) rfl (c_M_count_0 (okp_bind H)) (Nat.le_of_ble_eq_true rfl) (Nat.le_of_ble_eq_true rfl) (fun r M H => ?_)
        refine oj_icmp_eq (pc := 1064) (off := 5) (tgt := 1069) (by decide +kernel) (by decide) H (fun _ H => ?_) (fun _ H => ?_)
        · exact h1069 _ _ H
        · refine oj_iconst (pc := 1067) (v := 0) ⟨by decide, by decide⟩ (by decide +kernel) ?_
          have H := e18 _ H
          exact oj_iret (pc := 1068) (by decide +kernel) rfl rfl (Nat.le_of_ble_eq_true rfl) (Nat.le_of_ble_eq_true rfl) ⟨rfl, H⟩
      refine oj_tout (pc := 33) (dflt := 1036) (lo := 0) (hi := 32) (offs := #[147, 190, 233, 256, 319, 342, 365, 388, 421, 454, 487, 520, 553, 576, 599, 622, 655, 678, 701, 724, 737, 760, 773, 806, 849, 862, 885, 908, 941, 964, 977, 990, 1013]) (len := 147) (tgt := 1069) (by decide +kernel) (by omega) (by decide) ?_
      exact h1069 _ _ H
  exact h18 _ _ _ H
theorem df_10 : (∀ j, j < 14 → defaultValue (tyX10 j) = oDf ([some none, some none, some none, some none, some none, some none, some none, some none, some none, some none, some none, some none, some none, none] : List (Option (Option Nat)))[j]?) ∧ ∀ x ∈ ([some none, some none, some none, some none, some none, some none, some none, some none, some none, some none, some none, some none, some none, none] : List (Option (Option Nat))), x = none ∨ x = some none := ⟨by decide +kernel, by decide +kernel⟩
theorem df_11 : (∀ j, j < 62 → defaultValue (tyX11 j) = oDf ([some none, some none, some none, some none, some none, none, some none, none, none, none, none, none, none, none, none, none, none, some none, some none, some none, some none, some none, some none, some none, some none, some none, some none, some none, some none, some none, some none, none, none, none, none, none, some none, some none, some none, some none, none, none, none, none, none, none, some none, some none, some none, some none, none, some none, some none, some none, some none, some none, some none, some none, none, some none, some none, none] : List (Option (Option Nat)))[j]?) ∧ ∀ x ∈ ([some none, some none, some none, some none, some none, none, some none, none, none, none, none, none, none, none, none, none, none, some none, some none, some none, some none, some none, some none, some none, some none, some none, some none, some none, some none, some none, some none, none, none, none, none, none, some none, some none, some none, some none, none, none, none, none, none, none, some none, some none, some none, some none, none, some none, some none, some none, some none, some none, some none, some none, none, some none, some none, none] : List (Option (Option Nat))), x = none ∨ x = some none := ⟨by decide +kernel, by decide +kernel⟩
theorem n_W_7 : Cond.classLink "OneCoinLaw" 7 "OneCoin" ∈ oT ∧ Cond.instantiable "OneCoin" 14 ∈ oT ∧ Cond.initialized "OneCoin" ∈ oT := ⟨oT_mem 117 (by decide +kernel) rfl, oT_mem 118 (by decide +kernel) rfl, oT_mem 96 (by decide +kernel) rfl⟩
theorem n_W_10 : Cond.classLink "OneCoinLaw" 10 "OneCoinModel" ∈ oT ∧ Cond.instantiable "OneCoinModel" 62 ∈ oT ∧ Cond.initialized "OneCoinModel" ∈ oT := ⟨oT_mem 1091 (by decide +kernel) rfl, oT_mem 1092 (by decide +kernel) rfl, oT_mem 107 (by decide +kernel) rfl⟩
theorem co_m_O_init : oCo m_O_init 0 := ⟨oT_mem 121 (by decide +kernel) rfl, oT_mem 96 (by decide +kernel) rfl, ⟨by decide +kernel, by decide +kernel, by decide +kernel⟩, by decide⟩
theorem vi_W_9 : oClI "OneCoinLaw" 9 m_O_init 0 := ⟨Or.inl (oT_mem 119 (by decide +kernel) rfl), oT_mem 120 (by decide +kernel) rfl, co_m_O_init, rfl, rfl⟩
theorem co_m_M_init : oCo m_M_init 0 := ⟨oT_mem 1095 (by decide +kernel) rfl, oT_mem 107 (by decide +kernel) rfl, ⟨by decide +kernel, by decide +kernel, by decide +kernel⟩, by decide⟩
theorem vi_W_12 : oClI "OneCoinLaw" 12 m_M_init 0 := ⟨Or.inl (oT_mem 1093 (by decide +kernel) rfl), oT_mem 1094 (by decide +kernel) rfl, co_m_M_init, rfl, rfl⟩
/-- the memory at the loop's head -/
noncomputable def oM0 : oM := mi_M_57 (oZ (mi_O_0 (oZ (fun _ _ => 0) 0)) 57)
theorem c_W_law {l : Launch} {f L : Nat} {xs : Nat → Int} (H : okp (p_W_law f L xs 0 oM0) (fun q => q.1 = 1)) : oJ l m_W_law (oEL L xs) 0 0 0 [vr 1002, vu, vu, vu] [] [] (fun _ _ => 0) := by
  refine oj_new (pc := 0) (fs := [some none, some none, some none, some none, some none, some none, some none, some none, some none, some none, some none, some none, some none, none]) oC10 n_W_7.1 n_W_7.2.1 n_W_7.2.2 df_10.1 df_10.2 (Nat.le_of_ble_eq_true rfl) (Nat.le_of_ble_eq_true rfl) (Nat.le_of_ble_eq_true rfl) (by decide +kernel) ?_
  refine oj_dup (pc := 3) (by decide +kernel) ?_
  have hk := @ci_O_0 l
  refine oj_I (pc := 4) (as := []) (wd := WC1) vi_W_9 rfl rfl (Nat.le_of_ble_eq_true rfl) (by decide +kernel) (Nat.le_of_ble_eq_true rfl) (Nat.le_of_ble_eq_true rfl) (Nat.le_of_ble_eq_true rfl) (hk _) ?_
  rintro wd' M' ⟨rfl, rfl⟩
  refine oj_ast1 (pc := 7) (by decide +kernel) (by decide +kernel) ?_
  refine oj_new (pc := 8) (fs := [some none, some none, some none, some none, some none, none, some none, none, none, none, none, none, none, none, none, none, none, some none, some none, some none, some none, some none, some none, some none, some none, some none, some none, some none, some none, some none, some none, none, none, none, none, none, some none, some none, some none, some none, none, none, none, none, none, none, some none, some none, some none, some none, none, some none, some none, some none, some none, some none, some none, some none, none, some none, some none, none]) oC11 n_W_10.1 n_W_10.2.1 n_W_10.2.2 df_11.1 df_11.2 (Nat.le_of_ble_eq_true rfl) (Nat.le_of_ble_eq_true rfl) (Nat.le_of_ble_eq_true rfl) (by decide +kernel) ?_
  refine oj_dup (pc := 11) (by decide +kernel) ?_
  have hk2 := @ci_M_57 l
  refine oj_I (pc := 12) (as := []) (wd := WC46) vi_W_12 rfl rfl (Nat.le_of_ble_eq_true rfl) (by decide +kernel) (Nat.le_of_ble_eq_true rfl) (Nat.le_of_ble_eq_true rfl) (Nat.le_of_ble_eq_true rfl) (hk2 _) ?_
  rintro wd' M' ⟨rfl, rfl⟩
  refine oj_ast2 (pc := 15) (by decide +kernel) (by decide +kernel) ?_
  refine oj_iconst (pc := 16) (v := 0) ⟨by decide, by decide⟩ (by decide +kernel) ?_
  refine oj_st3 (pc := 17) (by decide +kernel) (by decide +kernel) ?_
  refine oj_wd (wd := WD) WC_WD ?_
  exact c_W_loop H
