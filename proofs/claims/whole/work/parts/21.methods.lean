set_option maxRecDepth 20000 in
theorem mw_X0_init : am_mw mt_X0_init := ⟨am_wat 401 rfl rfl, am_wat 78 rfl rfl, ⟨by decide +kernel, by decide +kernel⟩, by decide +kernel, by decide, fun h => absurd h (by decide), fun h => absurd h (by decide), fun _ => ⟨am_wat 400 rfl rfl, rfl⟩, by decide⟩
set_option maxRecDepth 20000 in
theorem mw_X0_bestSet : am_mw mt_X0_bestSet := ⟨am_wat 860 rfl rfl, am_wat 78 rfl rfl, ⟨by decide +kernel, by decide +kernel⟩, by decide +kernel, by decide, fun h => absurd h (by decide), fun _ => ⟨am_wat 858 rfl rfl, am_wat 859 rfl rfl⟩, fun h => absurd h (by decide), by decide⟩
set_option maxRecDepth 20000 in
theorem mw_X0_fill : am_mw mt_X0_fill := ⟨am_wat 916 rfl rfl, am_wat 78 rfl rfl, ⟨by decide +kernel, by decide +kernel⟩, by decide +kernel, by decide, fun h => absurd h (by decide), fun _ => ⟨am_wat 914 rfl rfl, am_wat 915 rfl rfl⟩, fun h => absurd h (by decide), by decide⟩
set_option maxRecDepth 20000 in
theorem mw_X0_countSupply : am_mw mt_X0_countSupply := ⟨am_wat 864 rfl rfl, am_wat 78 rfl rfl, ⟨by decide +kernel, by decide +kernel⟩, by decide +kernel, by decide, fun h => absurd h (by decide), fun _ => ⟨am_wat 863 rfl rfl, am_wat 26 rfl rfl⟩, fun h => absurd h (by decide), by decide⟩
set_option maxRecDepth 20000 in
theorem mw_X0_isAhead : am_mw mt_X0_isAhead := ⟨am_wat 886 rfl rfl, am_wat 78 rfl rfl, ⟨by decide +kernel, by decide +kernel⟩, by decide +kernel, by decide, fun h => absurd h (by decide), fun _ => ⟨am_wat 885 rfl rfl, am_wat 27 rfl rfl⟩, fun h => absurd h (by decide), by decide⟩
set_option maxRecDepth 20000 in
theorem mw_X0_canFill : am_mw mt_X0_canFill := ⟨am_wat 903 rfl rfl, am_wat 78 rfl rfl, ⟨by decide +kernel, by decide +kernel⟩, by decide +kernel, by decide, fun h => absurd h (by decide), fun _ => ⟨am_wat 902 rfl rfl, am_wat 28 rfl rfl⟩, fun h => absurd h (by decide), by decide⟩
set_option maxRecDepth 20000 in
theorem mw_X0_countDemand : am_mw mt_X0_countDemand := ⟨am_wat 907 rfl rfl, am_wat 78 rfl rfl, ⟨by decide +kernel, by decide +kernel⟩, by decide +kernel, by decide, fun h => absurd h (by decide), fun _ => ⟨am_wat 906 rfl rfl, am_wat 29 rfl rfl⟩, fun h => absurd h (by decide), by decide⟩
set_option maxRecDepth 20000 in
theorem mw_X0_fillNeeds : am_mw mt_X0_fillNeeds := ⟨am_wat 920 rfl rfl, am_wat 78 rfl rfl, ⟨by decide +kernel, by decide +kernel⟩, by decide +kernel, by decide, fun h => absurd h (by decide), fun _ => ⟨am_wat 919 rfl rfl, am_wat 30 rfl rfl⟩, fun h => absurd h (by decide), by decide⟩
set_option maxRecDepth 20000 in
theorem mw_X0_fillNeed : am_mw mt_X0_fillNeed := ⟨am_wat 924 rfl rfl, am_wat 78 rfl rfl, ⟨by decide +kernel, by decide +kernel⟩, by decide +kernel, by decide, fun h => absurd h (by decide), fun _ => ⟨am_wat 923 rfl rfl, am_wat 31 rfl rfl⟩, fun h => absurd h (by decide), by decide⟩
set_option maxRecDepth 20000 in
theorem mw_X0_row : am_mw mt_X0_row := ⟨am_wat 878 rfl rfl, am_wat 78 rfl rfl, ⟨by decide +kernel, by decide +kernel⟩, by decide +kernel, by decide, fun _ => am_wat 877 rfl rfl, fun h => absurd h (by decide), fun h => absurd h (by decide), by decide⟩
set_option maxRecDepth 20000 in
theorem mw_X0_clear : am_mw mt_X0_clear := ⟨am_wat 867 rfl rfl, am_wat 78 rfl rfl, ⟨by decide +kernel, by decide +kernel⟩, by decide +kernel, by decide, fun _ => am_wat 866 rfl rfl, fun h => absurd h (by decide), fun h => absurd h (by decide), by decide⟩
set_option maxRecDepth 20000 in
theorem mw_X1_init : am_mw mt_X1_init := ⟨am_wat 257 rfl rfl, am_wat 74 rfl rfl, ⟨by decide +kernel, by decide +kernel⟩, by decide +kernel, by decide, fun h => absurd h (by decide), fun h => absurd h (by decide), fun _ => ⟨am_wat 256 rfl rfl, rfl⟩, by decide⟩
set_option maxRecDepth 20000 in
theorem mw_X1_cut : am_mw mt_X1_cut := ⟨am_wat 704 rfl rfl, am_wat 74 rfl rfl, ⟨by decide +kernel, by decide +kernel⟩, by decide +kernel, by decide, fun h => absurd h (by decide), fun _ => ⟨am_wat 702 rfl rfl, am_wat 703 rfl rfl⟩, fun h => absurd h (by decide), by decide⟩
set_option maxRecDepth 20000 in
theorem mw_X1_ringsOfBest : am_mw mt_X1_ringsOfBest := ⟨am_wat 720 rfl rfl, am_wat 74 rfl rfl, ⟨by decide +kernel, by decide +kernel⟩, by decide +kernel, by decide, fun h => absurd h (by decide), fun _ => ⟨am_wat 718 rfl rfl, am_wat 719 rfl rfl⟩, fun h => absurd h (by decide), by decide⟩
set_option maxRecDepth 20000 in
theorem mw_X1_choiceAt : am_mw mt_X1_choiceAt := ⟨am_wat 732 rfl rfl, am_wat 74 rfl rfl, ⟨by decide +kernel, by decide +kernel⟩, by decide +kernel, by decide, fun h => absurd h (by decide), fun _ => ⟨am_wat 730 rfl rfl, am_wat 731 rfl rfl⟩, fun h => absurd h (by decide), by decide⟩
set_option maxRecDepth 20000 in
theorem mw_X1_fits : am_mw mt_X1_fits := ⟨am_wat 712 rfl rfl, am_wat 74 rfl rfl, ⟨by decide +kernel, by decide +kernel⟩, by decide +kernel, by decide, fun h => absurd h (by decide), fun _ => ⟨am_wat 711 rfl rfl, am_wat 13 rfl rfl⟩, fun h => absurd h (by decide), by decide⟩
set_option maxRecDepth 20000 in
theorem mw_X1_leaveOut : am_mw mt_X1_leaveOut := ⟨am_wat 708 rfl rfl, am_wat 74 rfl rfl, ⟨by decide +kernel, by decide +kernel⟩, by decide +kernel, by decide, fun h => absurd h (by decide), fun _ => ⟨am_wat 707 rfl rfl, am_wat 12 rfl rfl⟩, fun h => absurd h (by decide), by decide⟩
set_option maxRecDepth 20000 in
theorem mw_X1_tryRing : am_mw mt_X1_tryRing := ⟨am_wat 716 rfl rfl, am_wat 74 rfl rfl, ⟨by decide +kernel, by decide +kernel⟩, by decide +kernel, by decide, fun h => absurd h (by decide), fun _ => ⟨am_wat 715 rfl rfl, am_wat 14 rfl rfl⟩, fun h => absurd h (by decide), by decide⟩
set_option maxRecDepth 20000 in
theorem mw_X2_init : am_mw mt_X2_init := ⟨am_wat 220 rfl rfl, am_wat 73 rfl rfl, ⟨by decide +kernel, by decide +kernel⟩, by decide +kernel, by decide, fun h => absurd h (by decide), fun h => absurd h (by decide), fun _ => ⟨am_wat 219 rfl rfl, rfl⟩, by decide⟩
set_option maxRecDepth 20000 in
theorem mw_X2_has : am_mw mt_X2_has := ⟨am_wat 656 rfl rfl, am_wat 73 rfl rfl, ⟨by decide +kernel, by decide +kernel⟩, by decide +kernel, by decide, fun h => absurd h (by decide), fun _ => ⟨am_wat 654 rfl rfl, am_wat 655 rfl rfl⟩, fun h => absurd h (by decide), by decide⟩
set_option maxRecDepth 20000 in
theorem mw_X2_add : am_mw mt_X2_add := ⟨am_wat 648 rfl rfl, am_wat 73 rfl rfl, ⟨by decide +kernel, by decide +kernel⟩, by decide +kernel, by decide, fun h => absurd h (by decide), fun _ => ⟨am_wat 646 rfl rfl, am_wat 647 rfl rfl⟩, fun h => absurd h (by decide), by decide⟩
set_option maxRecDepth 20000 in
theorem mw_X2_owns : am_mw mt_X2_owns := ⟨am_wat 664 rfl rfl, am_wat 73 rfl rfl, ⟨by decide +kernel, by decide +kernel⟩, by decide +kernel, by decide, fun h => absurd h (by decide), fun _ => ⟨am_wat 662 rfl rfl, am_wat 663 rfl rfl⟩, fun h => absurd h (by decide), by decide⟩
set_option maxRecDepth 20000 in
theorem mw_X2_makeOwner : am_mw mt_X2_makeOwner := ⟨am_wat 668 rfl rfl, am_wat 73 rfl rfl, ⟨by decide +kernel, by decide +kernel⟩, by decide +kernel, by decide, fun h => absurd h (by decide), fun _ => ⟨am_wat 666 rfl rfl, am_wat 667 rfl rfl⟩, fun h => absurd h (by decide), by decide⟩
set_option maxRecDepth 20000 in
theorem mw_X2_addLending : am_mw mt_X2_addLending := ⟨am_wat 676 rfl rfl, am_wat 73 rfl rfl, ⟨by decide +kernel, by decide +kernel⟩, by decide +kernel, by decide, fun h => absurd h (by decide), fun _ => ⟨am_wat 674 rfl rfl, am_wat 675 rfl rfl⟩, fun h => absurd h (by decide), by decide⟩
set_option maxRecDepth 20000 in
theorem mw_X2_mayCarve : am_mw mt_X2_mayCarve := ⟨am_wat 687 rfl rfl, am_wat 73 rfl rfl, ⟨by decide +kernel, by decide +kernel⟩, by decide +kernel, by decide, fun h => absurd h (by decide), fun _ => ⟨am_wat 685 rfl rfl, am_wat 686 rfl rfl⟩, fun h => absurd h (by decide), by decide⟩
set_option maxRecDepth 20000 in
theorem mw_X2_carvable : am_mw mt_X2_carvable := ⟨am_wat 699 rfl rfl, am_wat 73 rfl rfl, ⟨by decide +kernel, by decide +kernel⟩, by decide +kernel, by decide, fun h => absurd h (by decide), fun _ => ⟨am_wat 697 rfl rfl, am_wat 698 rfl rfl⟩, fun h => absurd h (by decide), by decide⟩
set_option maxRecDepth 20000 in
theorem mw_X2_carvedIn : am_mw mt_X2_carvedIn := ⟨am_wat 752 rfl rfl, am_wat 73 rfl rfl, ⟨by decide +kernel, by decide +kernel⟩, by decide +kernel, by decide, fun h => absurd h (by decide), fun _ => ⟨am_wat 750 rfl rfl, am_wat 751 rfl rfl⟩, fun h => absurd h (by decide), by decide⟩
set_option maxRecDepth 20000 in
theorem mw_X2_addCarved : am_mw mt_X2_addCarved := ⟨am_wat 809 rfl rfl, am_wat 73 rfl rfl, ⟨by decide +kernel, by decide +kernel⟩, by decide +kernel, by decide, fun h => absurd h (by decide), fun _ => ⟨am_wat 807 rfl rfl, am_wat 808 rfl rfl⟩, fun h => absurd h (by decide), by decide⟩
set_option maxRecDepth 20000 in
theorem mw_X3_init : am_mw mt_X3_init := ⟨am_wat 317 rfl rfl, am_wat 76 rfl rfl, ⟨by decide +kernel, by decide +kernel⟩, by decide +kernel, by decide, fun h => absurd h (by decide), fun h => absurd h (by decide), fun _ => ⟨am_wat 316 rfl rfl, rfl⟩, by decide⟩
set_option maxRecDepth 20000 in
theorem mw_X3_has : am_mw mt_X3_has := ⟨am_wat 829 rfl rfl, am_wat 76 rfl rfl, ⟨by decide +kernel, by decide +kernel⟩, by decide +kernel, by decide, fun h => absurd h (by decide), fun _ => ⟨am_wat 827 rfl rfl, am_wat 828 rfl rfl⟩, fun h => absurd h (by decide), by decide⟩
set_option maxRecDepth 20000 in
theorem mw_X3_add : am_mw mt_X3_add := ⟨am_wat 805 rfl rfl, am_wat 76 rfl rfl, ⟨by decide +kernel, by decide +kernel⟩, by decide +kernel, by decide, fun h => absurd h (by decide), fun _ => ⟨am_wat 803 rfl rfl, am_wat 804 rfl rfl⟩, fun h => absurd h (by decide), by decide⟩
set_option maxRecDepth 20000 in
theorem mw_X3_kindOf : am_mw mt_X3_kindOf := ⟨am_wat 871 rfl rfl, am_wat 76 rfl rfl, ⟨by decide +kernel, by decide +kernel⟩, by decide +kernel, by decide, fun h => absurd h (by decide), fun _ => ⟨am_wat 869 rfl rfl, am_wat 870 rfl rfl⟩, fun h => absurd h (by decide), by decide⟩
set_option maxRecDepth 20000 in
theorem mw_X3_familyOf : am_mw mt_X3_familyOf := ⟨am_wat 938 rfl rfl, am_wat 76 rfl rfl, ⟨by decide +kernel, by decide +kernel⟩, by decide +kernel, by decide, fun h => absurd h (by decide), fun _ => ⟨am_wat 936 rfl rfl, am_wat 937 rfl rfl⟩, fun h => absurd h (by decide), by decide⟩
set_option maxRecDepth 20000 in
theorem mw_X3_colourOf : am_mw mt_X3_colourOf := ⟨am_wat 875 rfl rfl, am_wat 76 rfl rfl, ⟨by decide +kernel, by decide +kernel⟩, by decide +kernel, by decide, fun h => absurd h (by decide), fun _ => ⟨am_wat 873 rfl rfl, am_wat 874 rfl rfl⟩, fun h => absurd h (by decide), by decide⟩
set_option maxRecDepth 20000 in
theorem mw_X3_isFree : am_mw mt_X3_isFree := ⟨am_wat 928 rfl rfl, am_wat 76 rfl rfl, ⟨by decide +kernel, by decide +kernel⟩, by decide +kernel, by decide, fun h => absurd h (by decide), fun _ => ⟨am_wat 926 rfl rfl, am_wat 927 rfl rfl⟩, fun h => absurd h (by decide), by decide⟩
set_option maxRecDepth 20000 in
theorem mw_X3_boxed : am_mw mt_X3_boxed := ⟨am_wat 1010 rfl rfl, am_wat 76 rfl rfl, ⟨by decide +kernel, by decide +kernel⟩, by decide +kernel, by decide, fun h => absurd h (by decide), fun _ => ⟨am_wat 1008 rfl rfl, am_wat 1009 rfl rfl⟩, fun h => absurd h (by decide), by decide⟩
set_option maxRecDepth 20000 in
theorem mw_X3_hasLot : am_mw mt_X3_hasLot := ⟨am_wat 825 rfl rfl, am_wat 76 rfl rfl, ⟨by decide +kernel, by decide +kernel⟩, by decide +kernel, by decide, fun h => absurd h (by decide), fun _ => ⟨am_wat 823 rfl rfl, am_wat 824 rfl rfl⟩, fun h => absurd h (by decide), by decide⟩
set_option maxRecDepth 20000 in
theorem mw_X3_addLot : am_mw mt_X3_addLot := ⟨am_wat 817 rfl rfl, am_wat 76 rfl rfl, ⟨by decide +kernel, by decide +kernel⟩, by decide +kernel, by decide, fun h => absurd h (by decide), fun _ => ⟨am_wat 815 rfl rfl, am_wat 816 rfl rfl⟩, fun h => absurd h (by decide), by decide⟩
set_option maxRecDepth 20000 in
theorem mw_X3_isLotInBoxOf : am_mw mt_X3_isLotInBoxOf := ⟨am_wat 980 rfl rfl, am_wat 76 rfl rfl, ⟨by decide +kernel, by decide +kernel⟩, by decide +kernel, by decide, fun h => absurd h (by decide), fun _ => ⟨am_wat 978 rfl rfl, am_wat 979 rfl rfl⟩, fun h => absurd h (by decide), by decide⟩
set_option maxRecDepth 20000 in
theorem mw_X4_init : am_mw mt_X4_init := ⟨am_wat 193 rfl rfl, am_wat 72 rfl rfl, ⟨by decide +kernel, by decide +kernel⟩, by decide +kernel, by decide, fun h => absurd h (by decide), fun h => absurd h (by decide), fun _ => ⟨am_wat 192 rfl rfl, rfl⟩, by decide⟩
set_option maxRecDepth 20000 in
theorem mw_X4_has : am_mw mt_X4_has := ⟨am_wat 660 rfl rfl, am_wat 72 rfl rfl, ⟨by decide +kernel, by decide +kernel⟩, by decide +kernel, by decide, fun h => absurd h (by decide), fun _ => ⟨am_wat 658 rfl rfl, am_wat 659 rfl rfl⟩, fun h => absurd h (by decide), by decide⟩
set_option maxRecDepth 20000 in
theorem mw_X4_add : am_mw mt_X4_add := ⟨am_wat 640 rfl rfl, am_wat 72 rfl rfl, ⟨by decide +kernel, by decide +kernel⟩, by decide +kernel, by decide, fun h => absurd h (by decide), fun _ => ⟨am_wat 638 rfl rfl, am_wat 639 rfl rfl⟩, fun h => absurd h (by decide), by decide⟩
set_option maxRecDepth 20000 in
theorem mw_X5_init : am_mw mt_X5_init := ⟨am_wat 360 rfl rfl, am_wat 77 rfl rfl, ⟨by decide +kernel, by decide +kernel⟩, by decide +kernel, by decide, fun h => absurd h (by decide), fun h => absurd h (by decide), fun _ => ⟨am_wat 359 rfl rfl, rfl⟩, by decide⟩
set_option maxRecDepth 20000 in
theorem mw_X5_isIn : am_mw mt_X5_isIn := ⟨am_wat 893 rfl rfl, am_wat 77 rfl rfl, ⟨by decide +kernel, by decide +kernel⟩, by decide +kernel, by decide, fun _ => am_wat 892 rfl rfl, fun h => absurd h (by decide), fun h => absurd h (by decide), by decide⟩
set_option maxRecDepth 20000 in
theorem mw_X5_has : am_mw mt_X5_has := ⟨am_wat 845 rfl rfl, am_wat 77 rfl rfl, ⟨by decide +kernel, by decide +kernel⟩, by decide +kernel, by decide, fun h => absurd h (by decide), fun _ => ⟨am_wat 843 rfl rfl, am_wat 844 rfl rfl⟩, fun h => absurd h (by decide), by decide⟩
set_option maxRecDepth 20000 in
theorem mw_X5_add : am_mw mt_X5_add := ⟨am_wat 837 rfl rfl, am_wat 77 rfl rfl, ⟨by decide +kernel, by decide +kernel⟩, by decide +kernel, by decide, fun h => absurd h (by decide), fun _ => ⟨am_wat 835 rfl rfl, am_wat 836 rfl rfl⟩, fun h => absurd h (by decide), by decide⟩
set_option maxRecDepth 20000 in
theorem mw_X5_addNeed : am_mw mt_X5_addNeed := ⟨am_wat 852 rfl rfl, am_wat 77 rfl rfl, ⟨by decide +kernel, by decide +kernel⟩, by decide +kernel, by decide, fun h => absurd h (by decide), fun _ => ⟨am_wat 850 rfl rfl, am_wat 851 rfl rfl⟩, fun h => absurd h (by decide), by decide⟩
set_option maxRecDepth 20000 in
theorem mw_X5_figuresNeeded : am_mw mt_X5_figuresNeeded := ⟨am_wat 972 rfl rfl, am_wat 77 rfl rfl, ⟨by decide +kernel, by decide +kernel⟩, by decide +kernel, by decide, fun h => absurd h (by decide), fun _ => ⟨am_wat 970 rfl rfl, am_wat 971 rfl rfl⟩, fun h => absurd h (by decide), by decide⟩
set_option maxRecDepth 20000 in
theorem mw_X5_openOnes : am_mw mt_X5_openOnes := ⟨am_wat 882 rfl rfl, am_wat 77 rfl rfl, ⟨by decide +kernel, by decide +kernel⟩, by decide +kernel, by decide, fun h => absurd h (by decide), fun _ => ⟨am_wat 880 rfl rfl, am_wat 881 rfl rfl⟩, fun h => absurd h (by decide), by decide⟩
set_option maxRecDepth 20000 in
theorem mw_X5_worthOf : am_mw mt_X5_worthOf := ⟨am_wat 890 rfl rfl, am_wat 77 rfl rfl, ⟨by decide +kernel, by decide +kernel⟩, by decide +kernel, by decide, fun h => absurd h (by decide), fun _ => ⟨am_wat 888 rfl rfl, am_wat 889 rfl rfl⟩, fun h => absurd h (by decide), by decide⟩
set_option maxRecDepth 20000 in
theorem mw_X5_markBoxed : am_mw mt_X5_markBoxed := ⟨am_wat 912 rfl rfl, am_wat 77 rfl rfl, ⟨by decide +kernel, by decide +kernel⟩, by decide +kernel, by decide, fun h => absurd h (by decide), fun _ => ⟨am_wat 910 rfl rfl, am_wat 911 rfl rfl⟩, fun h => absurd h (by decide), by decide⟩
set_option maxRecDepth 20000 in
theorem mw_X6_init : am_mw mt_X6_init := ⟨am_wat 114 rfl rfl, am_wat 69 rfl rfl, ⟨by decide +kernel, by decide +kernel⟩, by decide +kernel, by decide, fun h => absurd h (by decide), fun h => absurd h (by decide), fun _ => ⟨am_wat 113 rfl rfl, rfl⟩, by decide⟩
set_option maxRecDepth 20000 in
theorem mw_X6_parseInto : am_mw mt_X6_parseInto := ⟨am_wat 478 rfl rfl, am_wat 69 rfl rfl, ⟨by decide +kernel, by decide +kernel⟩, by decide +kernel, by decide, fun h => absurd h (by decide), fun _ => ⟨am_wat 476 rfl rfl, am_wat 477 rfl rfl⟩, fun h => absurd h (by decide), by decide⟩
set_option maxRecDepth 20000 in
theorem mw_X6_reached : am_mw mt_X6_reached := ⟨am_wat 625 rfl rfl, am_wat 69 rfl rfl, ⟨by decide +kernel, by decide +kernel⟩, by decide +kernel, by decide, fun h => absurd h (by decide), fun _ => ⟨am_wat 623 rfl rfl, am_wat 624 rfl rfl⟩, fun h => absurd h (by decide), by decide⟩
set_option maxRecDepth 20000 in
theorem mw_X6_goesOnWith : am_mw mt_X6_goesOnWith := ⟨am_wat 597 rfl rfl, am_wat 69 rfl rfl, ⟨by decide +kernel, by decide +kernel⟩, by decide +kernel, by decide, fun h => absurd h (by decide), fun _ => ⟨am_wat 596 rfl rfl, am_wat 7 rfl rfl⟩, fun h => absurd h (by decide), by decide⟩
set_option maxRecDepth 20000 in
theorem mw_X6_goesOnBehindSide : am_mw mt_X6_goesOnBehindSide := ⟨am_wat 601 rfl rfl, am_wat 69 rfl rfl, ⟨by decide +kernel, by decide +kernel⟩, by decide +kernel, by decide, fun h => absurd h (by decide), fun _ => ⟨am_wat 600 rfl rfl, am_wat 8 rfl rfl⟩, fun h => absurd h (by decide), by decide⟩
set_option maxRecDepth 20000 in
theorem mw_X6_lacksRoomFor : am_mw mt_X6_lacksRoomFor := ⟨am_wat 605 rfl rfl, am_wat 69 rfl rfl, ⟨by decide +kernel, by decide +kernel⟩, by decide +kernel, by decide, fun h => absurd h (by decide), fun _ => ⟨am_wat 604 rfl rfl, am_wat 9 rfl rfl⟩, fun h => absurd h (by decide), by decide⟩
set_option maxRecDepth 20000 in
theorem mw_X6_moveBehind : am_mw mt_X6_moveBehind := ⟨am_wat 617 rfl rfl, am_wat 69 rfl rfl, ⟨by decide +kernel, by decide +kernel⟩, by decide +kernel, by decide, fun h => absurd h (by decide), fun _ => ⟨am_wat 616 rfl rfl, am_wat 10 rfl rfl⟩, fun h => absurd h (by decide), by decide⟩
set_option maxRecDepth 20000 in
theorem mw_X7_init : am_mw mt_X7_init := ⟨am_wat 276 rfl rfl, am_wat 75 rfl rfl, ⟨by decide +kernel, by decide +kernel⟩, by decide +kernel, by decide, fun h => absurd h (by decide), fun h => absurd h (by decide), fun _ => ⟨am_wat 275 rfl rfl, rfl⟩, by decide⟩
set_option maxRecDepth 20000 in
theorem mw_X7_has : am_mw mt_X7_has := ⟨am_wat 956 rfl rfl, am_wat 75 rfl rfl, ⟨by decide +kernel, by decide +kernel⟩, by decide +kernel, by decide, fun h => absurd h (by decide), fun _ => ⟨am_wat 954 rfl rfl, am_wat 955 rfl rfl⟩, fun h => absurd h (by decide), by decide⟩
set_option maxRecDepth 20000 in
theorem mw_X7_addLog : am_mw mt_X7_addLog := ⟨am_wat 728 rfl rfl, am_wat 75 rfl rfl, ⟨by decide +kernel, by decide +kernel⟩, by decide +kernel, by decide, fun h => absurd h (by decide), fun _ => ⟨am_wat 726 rfl rfl, am_wat 727 rfl rfl⟩, fun h => absurd h (by decide), by decide⟩
set_option maxRecDepth 20000 in
theorem mw_X7_add : am_mw mt_X7_add := ⟨am_wat 736 rfl rfl, am_wat 75 rfl rfl, ⟨by decide +kernel, by decide +kernel⟩, by decide +kernel, by decide, fun h => absurd h (by decide), fun _ => ⟨am_wat 734 rfl rfl, am_wat 735 rfl rfl⟩, fun h => absurd h (by decide), by decide⟩
set_option maxRecDepth 20000 in
theorem mw_X7_waiting : am_mw mt_X7_waiting := ⟨am_wat 1006 rfl rfl, am_wat 75 rfl rfl, ⟨by decide +kernel, by decide +kernel⟩, by decide +kernel, by decide, fun h => absurd h (by decide), fun _ => ⟨am_wat 1004 rfl rfl, am_wat 1005 rfl rfl⟩, fun h => absurd h (by decide), by decide⟩
set_option maxRecDepth 20000 in
theorem mw_X8_init : am_mw mt_X8_init := ⟨am_wat 158 rfl rfl, am_wat 71 rfl rfl, ⟨by decide +kernel, by decide +kernel⟩, by decide +kernel, by decide, fun h => absurd h (by decide), fun h => absurd h (by decide), fun _ => ⟨am_wat 157 rfl rfl, rfl⟩, by decide⟩
set_option maxRecDepth 20000 in
theorem mw_X8_clear : am_mw mt_X8_clear := ⟨am_wat 482 rfl rfl, am_wat 71 rfl rfl, ⟨by decide +kernel, by decide +kernel⟩, by decide +kernel, by decide, fun h => absurd h (by decide), fun _ => ⟨am_wat 480 rfl rfl, am_wat 481 rfl rfl⟩, fun h => absurd h (by decide), by decide⟩
set_option maxRecDepth 20000 in
theorem mw_X8_beginRule : am_mw mt_X8_beginRule := ⟨am_wat 609 rfl rfl, am_wat 71 rfl rfl, ⟨by decide +kernel, by decide +kernel⟩, by decide +kernel, by decide, fun h => absurd h (by decide), fun _ => ⟨am_wat 607 rfl rfl, am_wat 608 rfl rfl⟩, fun h => absurd h (by decide), by decide⟩
set_option maxRecDepth 20000 in
theorem mw_X8_addToken : am_mw mt_X8_addToken := ⟨am_wat 613 rfl rfl, am_wat 71 rfl rfl, ⟨by decide +kernel, by decide +kernel⟩, by decide +kernel, by decide, fun h => absurd h (by decide), fun _ => ⟨am_wat 611 rfl rfl, am_wat 612 rfl rfl⟩, fun h => absurd h (by decide), by decide⟩
set_option maxRecDepth 20000 in
theorem mw_X8_firstValue : am_mw mt_X8_firstValue := ⟨am_wat 756 rfl rfl, am_wat 71 rfl rfl, ⟨by decide +kernel, by decide +kernel⟩, by decide +kernel, by decide, fun h => absurd h (by decide), fun _ => ⟨am_wat 754 rfl rfl, am_wat 755 rfl rfl⟩, fun h => absurd h (by decide), by decide⟩
set_option maxRecDepth 20000 in
theorem mw_X8_bars : am_mw mt_X8_bars := ⟨am_wat 797 rfl rfl, am_wat 71 rfl rfl, ⟨by decide +kernel, by decide +kernel⟩, by decide +kernel, by decide, fun h => absurd h (by decide), fun _ => ⟨am_wat 795 rfl rfl, am_wat 796 rfl rfl⟩, fun h => absurd h (by decide), by decide⟩
set_option maxRecDepth 20000 in
theorem mw_X8_takeToken : am_mw mt_X8_takeToken := ⟨am_wat 760 rfl rfl, am_wat 71 rfl rfl, ⟨by decide +kernel, by decide +kernel⟩, by decide +kernel, by decide, fun h => absurd h (by decide), fun _ => ⟨am_wat 759 rfl rfl, am_wat 18 rfl rfl⟩, fun h => absurd h (by decide), by decide⟩
set_option maxRecDepth 20000 in
theorem mw_X8_condition : am_mw mt_X8_condition := ⟨am_wat 789 rfl rfl, am_wat 71 rfl rfl, ⟨by decide +kernel, by decide +kernel⟩, by decide +kernel, by decide, fun h => absurd h (by decide), fun _ => ⟨am_wat 788 rfl rfl, am_wat 23 rfl rfl⟩, fun h => absurd h (by decide), by decide⟩
set_option maxRecDepth 20000 in
theorem mw_X8_relation : am_mw mt_X8_relation := ⟨am_wat 793 rfl rfl, am_wat 71 rfl rfl, ⟨by decide +kernel, by decide +kernel⟩, by decide +kernel, by decide, fun h => absurd h (by decide), fun _ => ⟨am_wat 792 rfl rfl, am_wat 24 rfl rfl⟩, fun h => absurd h (by decide), by decide⟩
set_option maxRecDepth 20000 in
theorem mw_X8_expression : am_mw mt_X8_expression := ⟨am_wat 764 rfl rfl, am_wat 71 rfl rfl, ⟨by decide +kernel, by decide +kernel⟩, by decide +kernel, by decide, fun h => absurd h (by decide), fun _ => ⟨am_wat 763 rfl rfl, am_wat 19 rfl rfl⟩, fun h => absurd h (by decide), by decide⟩
set_option maxRecDepth 20000 in
theorem mw_X8_beginSum : am_mw mt_X8_beginSum := ⟨am_wat 768 rfl rfl, am_wat 71 rfl rfl, ⟨by decide +kernel, by decide +kernel⟩, by decide +kernel, by decide, fun h => absurd h (by decide), fun _ => ⟨am_wat 767 rfl rfl, am_wat 20 rfl rfl⟩, fun h => absurd h (by decide), by decide⟩
set_option maxRecDepth 20000 in
theorem mw_X8_beginPart : am_mw mt_X8_beginPart := ⟨am_wat 772 rfl rfl, am_wat 71 rfl rfl, ⟨by decide +kernel, by decide +kernel⟩, by decide +kernel, by decide, fun h => absurd h (by decide), fun _ => ⟨am_wat 771 rfl rfl, am_wat 21 rfl rfl⟩, fun h => absurd h (by decide), by decide⟩
set_option maxRecDepth 20000 in
theorem mw_X8_isFactor : am_mw mt_X8_isFactor := ⟨am_wat 781 rfl rfl, am_wat 71 rfl rfl, ⟨by decide +kernel, by decide +kernel⟩, by decide +kernel, by decide, fun _ => am_wat 780 rfl rfl, fun h => absurd h (by decide), fun h => absurd h (by decide), by decide⟩
set_option maxRecDepth 20000 in
theorem mw_X8_factor : am_mw mt_X8_factor := ⟨am_wat 785 rfl rfl, am_wat 71 rfl rfl, ⟨by decide +kernel, by decide +kernel⟩, by decide +kernel, by decide, fun h => absurd h (by decide), fun _ => ⟨am_wat 784 rfl rfl, am_wat 22 rfl rfl⟩, fun h => absurd h (by decide), by decide⟩
set_option maxRecDepth 20000 in
theorem mw_X9_init : am_mw mt_X9_init := ⟨am_wat 120 rfl rfl, am_wat 70 rfl rfl, ⟨by decide +kernel, by decide +kernel⟩, by decide +kernel, by decide, fun h => absurd h (by decide), fun h => absurd h (by decide), fun _ => ⟨am_wat 119 rfl rfl, rfl⟩, by decide⟩
set_option maxRecDepth 20000 in
theorem mw_X9_restart : am_mw mt_X9_restart := ⟨am_wat 486 rfl rfl, am_wat 70 rfl rfl, ⟨by decide +kernel, by decide +kernel⟩, by decide +kernel, by decide, fun h => absurd h (by decide), fun _ => ⟨am_wat 484 rfl rfl, am_wat 485 rfl rfl⟩, fun h => absurd h (by decide), by decide⟩
set_option maxRecDepth 20000 in
theorem mw_X9_step : am_mw mt_X9_step := ⟨am_wat 490 rfl rfl, am_wat 70 rfl rfl, ⟨by decide +kernel, by decide +kernel⟩, by decide +kernel, by decide, fun h => absurd h (by decide), fun _ => ⟨am_wat 488 rfl rfl, am_wat 489 rfl rfl⟩, fun h => absurd h (by decide), by decide⟩
set_option maxRecDepth 20000 in
theorem mw_X9_isBlank : am_mw mt_X9_isBlank := ⟨am_wat 497 rfl rfl, am_wat 70 rfl rfl, ⟨by decide +kernel, by decide +kernel⟩, by decide +kernel, by decide, fun _ => am_wat 496 rfl rfl, fun h => absurd h (by decide), fun h => absurd h (by decide), by decide⟩
set_option maxRecDepth 20000 in
theorem mw_X9_isLetter : am_mw mt_X9_isLetter := ⟨am_wat 500 rfl rfl, am_wat 70 rfl rfl, ⟨by decide +kernel, by decide +kernel⟩, by decide +kernel, by decide, fun _ => am_wat 499 rfl rfl, fun h => absurd h (by decide), fun h => absurd h (by decide), by decide⟩
set_option maxRecDepth 20000 in
theorem mw_X9_isDigit : am_mw mt_X9_isDigit := ⟨am_wat 581 rfl rfl, am_wat 70 rfl rfl, ⟨by decide +kernel, by decide +kernel⟩, by decide +kernel, by decide, fun _ => am_wat 580 rfl rfl, fun h => absurd h (by decide), fun h => absurd h (by decide), by decide⟩
set_option maxRecDepth 20000 in
theorem mw_X9_word : am_mw mt_X9_word := ⟨am_wat 504 rfl rfl, am_wat 70 rfl rfl, ⟨by decide +kernel, by decide +kernel⟩, by decide +kernel, by decide, fun h => absurd h (by decide), fun _ => ⟨am_wat 503 rfl rfl, am_wat 0 rfl rfl⟩, fun h => absurd h (by decide), by decide⟩
set_option maxRecDepth 20000 in
theorem mw_X9_variable : am_mw mt_X9_variable := ⟨am_wat 508 rfl rfl, am_wat 70 rfl rfl, ⟨by decide +kernel, by decide +kernel⟩, by decide +kernel, by decide, fun h => absurd h (by decide), fun _ => ⟨am_wat 507 rfl rfl, am_wat 1 rfl rfl⟩, fun h => absurd h (by decide), by decide⟩
set_option maxRecDepth 20000 in
theorem mw_X9_keyword : am_mw mt_X9_keyword := ⟨am_wat 572 rfl rfl, am_wat 70 rfl rfl, ⟨by decide +kernel, by decide +kernel⟩, by decide +kernel, by decide, fun h => absurd h (by decide), fun _ => ⟨am_wat 571 rfl rfl, am_wat 3 rfl rfl⟩, fun h => absurd h (by decide), by decide⟩
set_option maxRecDepth 20000 in
theorem mw_X9_spells : am_mw mt_X9_spells := ⟨am_wat 513 rfl rfl, am_wat 70 rfl rfl, ⟨by decide +kernel, by decide +kernel⟩, by decide +kernel, by decide, fun h => absurd h (by decide), fun _ => ⟨am_wat 512 rfl rfl, am_wat 2 rfl rfl⟩, fun h => absurd h (by decide), by decide⟩
set_option maxRecDepth 20000 in
theorem mw_X9_number : am_mw mt_X9_number := ⟨am_wat 585 rfl rfl, am_wat 70 rfl rfl, ⟨by decide +kernel, by decide +kernel⟩, by decide +kernel, by decide, fun h => absurd h (by decide), fun _ => ⟨am_wat 584 rfl rfl, am_wat 4 rfl rfl⟩, fun h => absurd h (by decide), by decide⟩
set_option maxRecDepth 20000 in
theorem mw_X9_sign : am_mw mt_X9_sign := ⟨am_wat 589 rfl rfl, am_wat 70 rfl rfl, ⟨by decide +kernel, by decide +kernel⟩, by decide +kernel, by decide, fun h => absurd h (by decide), fun _ => ⟨am_wat 588 rfl rfl, am_wat 5 rfl rfl⟩, fun h => absurd h (by decide), by decide⟩
set_option maxRecDepth 20000 in
theorem mw_X9_tookEqualSign : am_mw mt_X9_tookEqualSign := ⟨am_wat 593 rfl rfl, am_wat 70 rfl rfl, ⟨by decide +kernel, by decide +kernel⟩, by decide +kernel, by decide, fun h => absurd h (by decide), fun _ => ⟨am_wat 592 rfl rfl, am_wat 6 rfl rfl⟩, fun h => absurd h (by decide), by decide⟩
set_option maxRecDepth 20000 in
theorem mw_X10_init : am_mw mt_X10_init := ⟨am_wat 98 rfl rfl, am_wat 68 rfl rfl, ⟨by decide +kernel, by decide +kernel⟩, by decide +kernel, by decide, fun h => absurd h (by decide), fun h => absurd h (by decide), fun _ => ⟨am_wat 97 rfl rfl, rfl⟩, by decide⟩
set_option maxRecDepth 20000 in
theorem mw_X10_append : am_mw mt_X10_append := ⟨am_wat 466 rfl rfl, am_wat 68 rfl rfl, ⟨by decide +kernel, by decide +kernel⟩, by decide +kernel, by decide, fun h => absurd h (by decide), fun _ => ⟨am_wat 464 rfl rfl, am_wat 465 rfl rfl⟩, fun h => absurd h (by decide), by decide⟩
set_option maxRecDepth 20000 in
theorem mw_X10_at : am_mw mt_X10_at := ⟨am_wat 494 rfl rfl, am_wat 68 rfl rfl, ⟨by decide +kernel, by decide +kernel⟩, by decide +kernel, by decide, fun h => absurd h (by decide), fun _ => ⟨am_wat 492 rfl rfl, am_wat 493 rfl rfl⟩, fun h => absurd h (by decide), by decide⟩
set_option maxRecDepth 20000 in
theorem mw_X11_init : am_mw mt_X11_init := ⟨am_wat 90 rfl rfl, am_wat 67 rfl rfl, ⟨by decide +kernel, by decide +kernel⟩, by decide +kernel, by decide, fun h => absurd h (by decide), fun h => absurd h (by decide), fun _ => ⟨am_wat 89 rfl rfl, rfl⟩, by decide⟩
set_option maxRecDepth 20000 in
theorem mw_X11_feed : am_mw mt_X11_feed := ⟨am_wat 462 rfl rfl, am_wat 67 rfl rfl, ⟨by decide +kernel, by decide +kernel⟩, by decide +kernel, by decide, fun h => absurd h (by decide), fun _ => ⟨am_wat 460 rfl rfl, am_wat 461 rfl rfl⟩, fun h => absurd h (by decide), by decide⟩
set_option maxRecDepth 20000 in
theorem mw_X11_back : am_mw mt_X11_back := ⟨am_wat 470 rfl rfl, am_wat 67 rfl rfl, ⟨by decide +kernel, by decide +kernel⟩, by decide +kernel, by decide, fun h => absurd h (by decide), fun _ => ⟨am_wat 468 rfl rfl, am_wat 469 rfl rfl⟩, fun h => absurd h (by decide), by decide⟩
set_option maxRecDepth 20000 in
theorem mw_X11_read : am_mw mt_X11_read := ⟨am_wat 474 rfl rfl, am_wat 67 rfl rfl, ⟨by decide +kernel, by decide +kernel⟩, by decide +kernel, by decide, fun h => absurd h (by decide), fun _ => ⟨am_wat 472 rfl rfl, am_wat 473 rfl rfl⟩, fun h => absurd h (by decide), by decide⟩
set_option maxRecDepth 20000 in
theorem mw_X11_place : am_mw mt_X11_place := ⟨am_wat 629 rfl rfl, am_wat 67 rfl rfl, ⟨by decide +kernel, by decide +kernel⟩, by decide +kernel, by decide, fun h => absurd h (by decide), fun _ => ⟨am_wat 627 rfl rfl, am_wat 628 rfl rfl⟩, fun h => absurd h (by decide), by decide⟩
set_option maxRecDepth 20000 in
theorem mw_X11_kind : am_mw mt_X11_kind := ⟨am_wat 633 rfl rfl, am_wat 67 rfl rfl, ⟨by decide +kernel, by decide +kernel⟩, by decide +kernel, by decide, fun h => absurd h (by decide), fun _ => ⟨am_wat 631 rfl rfl, am_wat 632 rfl rfl⟩, fun h => absurd h (by decide), by decide⟩
set_option maxRecDepth 20000 in
theorem mw_X11_family : am_mw mt_X11_family := ⟨am_wat 644 rfl rfl, am_wat 67 rfl rfl, ⟨by decide +kernel, by decide +kernel⟩, by decide +kernel, by decide, fun h => absurd h (by decide), fun _ => ⟨am_wat 642 rfl rfl, am_wat 643 rfl rfl⟩, fun h => absurd h (by decide), by decide⟩
set_option maxRecDepth 20000 in
theorem mw_X11_own : am_mw mt_X11_own := ⟨am_wat 652 rfl rfl, am_wat 67 rfl rfl, ⟨by decide +kernel, by decide +kernel⟩, by decide +kernel, by decide, fun h => absurd h (by decide), fun _ => ⟨am_wat 650 rfl rfl, am_wat 651 rfl rfl⟩, fun h => absurd h (by decide), by decide⟩
set_option maxRecDepth 20000 in
theorem mw_X11_lend : am_mw mt_X11_lend := ⟨am_wat 672 rfl rfl, am_wat 67 rfl rfl, ⟨by decide +kernel, by decide +kernel⟩, by decide +kernel, by decide, fun h => absurd h (by decide), fun _ => ⟨am_wat 670 rfl rfl, am_wat 671 rfl rfl⟩, fun h => absurd h (by decide), by decide⟩
set_option maxRecDepth 20000 in
theorem mw_X11_may : am_mw mt_X11_may := ⟨am_wat 680 rfl rfl, am_wat 67 rfl rfl, ⟨by decide +kernel, by decide +kernel⟩, by decide +kernel, by decide, fun h => absurd h (by decide), fun _ => ⟨am_wat 678 rfl rfl, am_wat 679 rfl rfl⟩, fun h => absurd h (by decide), by decide⟩
set_option maxRecDepth 20000 in
theorem mw_X11_season : am_mw mt_X11_season := ⟨am_wat 691 rfl rfl, am_wat 67 rfl rfl, ⟨by decide +kernel, by decide +kernel⟩, by decide +kernel, by decide, fun h => absurd h (by decide), fun _ => ⟨am_wat 689 rfl rfl, am_wat 690 rfl rfl⟩, fun h => absurd h (by decide), by decide⟩
set_option maxRecDepth 20000 in
theorem mw_X11_log : am_mw mt_X11_log := ⟨am_wat 695 rfl rfl, am_wat 67 rfl rfl, ⟨by decide +kernel, by decide +kernel⟩, by decide +kernel, by decide, fun h => absurd h (by decide), fun _ => ⟨am_wat 693 rfl rfl, am_wat 694 rfl rfl⟩, fun h => absurd h (by decide), by decide⟩
set_option maxRecDepth 20000 in
theorem mw_X11_give : am_mw mt_X11_give := ⟨am_wat 740 rfl rfl, am_wat 67 rfl rfl, ⟨by decide +kernel, by decide +kernel⟩, by decide +kernel, by decide, fun h => absurd h (by decide), fun _ => ⟨am_wat 738 rfl rfl, am_wat 739 rfl rfl⟩, fun h => absurd h (by decide), by decide⟩
set_option maxRecDepth 20000 in
theorem mw_X11_lot : am_mw mt_X11_lot := ⟨am_wat 813 rfl rfl, am_wat 67 rfl rfl, ⟨by decide +kernel, by decide +kernel⟩, by decide +kernel, by decide, fun h => absurd h (by decide), fun _ => ⟨am_wat 811 rfl rfl, am_wat 812 rfl rfl⟩, fun h => absurd h (by decide), by decide⟩
set_option maxRecDepth 20000 in
theorem mw_X11_paint : am_mw mt_X11_paint := ⟨am_wat 821 rfl rfl, am_wat 67 rfl rfl, ⟨by decide +kernel, by decide +kernel⟩, by decide +kernel, by decide, fun h => absurd h (by decide), fun _ => ⟨am_wat 819 rfl rfl, am_wat 820 rfl rfl⟩, fun h => absurd h (by decide), by decide⟩
set_option maxRecDepth 20000 in
theorem mw_X11_order : am_mw mt_X11_order := ⟨am_wat 833 rfl rfl, am_wat 67 rfl rfl, ⟨by decide +kernel, by decide +kernel⟩, by decide +kernel, by decide, fun h => absurd h (by decide), fun _ => ⟨am_wat 831 rfl rfl, am_wat 832 rfl rfl⟩, fun h => absurd h (by decide), by decide⟩
set_option maxRecDepth 20000 in
theorem mw_X11_need : am_mw mt_X11_need := ⟨am_wat 841 rfl rfl, am_wat 67 rfl rfl, ⟨by decide +kernel, by decide +kernel⟩, by decide +kernel, by decide, fun h => absurd h (by decide), fun _ => ⟨am_wat 839 rfl rfl, am_wat 840 rfl rfl⟩, fun h => absurd h (by decide), by decide⟩
set_option maxRecDepth 20000 in
theorem mw_X11_box : am_mw mt_X11_box := ⟨am_wat 856 rfl rfl, am_wat 67 rfl rfl, ⟨by decide +kernel, by decide +kernel⟩, by decide +kernel, by decide, fun h => absurd h (by decide), fun _ => ⟨am_wat 854 rfl rfl, am_wat 855 rfl rfl⟩, fun h => absurd h (by decide), by decide⟩
set_option maxRecDepth 20000 in
theorem mw_X11_refuse : am_mw mt_X11_refuse := ⟨am_wat 944 rfl rfl, am_wat 67 rfl rfl, ⟨by decide +kernel, by decide +kernel⟩, by decide +kernel, by decide, fun h => absurd h (by decide), fun _ => ⟨am_wat 942 rfl rfl, am_wat 943 rfl rfl⟩, fun h => absurd h (by decide), by decide⟩
set_option maxRecDepth 20000 in
theorem mw_X11_ring : am_mw mt_X11_ring := ⟨am_wat 952 rfl rfl, am_wat 67 rfl rfl, ⟨by decide +kernel, by decide +kernel⟩, by decide +kernel, by decide, fun h => absurd h (by decide), fun _ => ⟨am_wat 950 rfl rfl, am_wat 951 rfl rfl⟩, fun h => absurd h (by decide), by decide⟩
set_option maxRecDepth 20000 in
theorem mw_X11_figure : am_mw mt_X11_figure := ⟨am_wat 960 rfl rfl, am_wat 67 rfl rfl, ⟨by decide +kernel, by decide +kernel⟩, by decide +kernel, by decide, fun h => absurd h (by decide), fun _ => ⟨am_wat 958 rfl rfl, am_wat 959 rfl rfl⟩, fun h => absurd h (by decide), by decide⟩
set_option maxRecDepth 20000 in
theorem mw_X11_packed : am_mw mt_X11_packed := ⟨am_wat 964 rfl rfl, am_wat 67 rfl rfl, ⟨by decide +kernel, by decide +kernel⟩, by decide +kernel, by decide, fun h => absurd h (by decide), fun _ => ⟨am_wat 962 rfl rfl, am_wat 963 rfl rfl⟩, fun h => absurd h (by decide), by decide⟩
set_option maxRecDepth 20000 in
theorem mw_X11_told : am_mw mt_X11_told := ⟨am_wat 968 rfl rfl, am_wat 67 rfl rfl, ⟨by decide +kernel, by decide +kernel⟩, by decide +kernel, by decide, fun h => absurd h (by decide), fun _ => ⟨am_wat 966 rfl rfl, am_wat 967 rfl rfl⟩, fun h => absurd h (by decide), by decide⟩
set_option maxRecDepth 20000 in
theorem mw_X11_found : am_mw mt_X11_found := ⟨am_wat 976 rfl rfl, am_wat 67 rfl rfl, ⟨by decide +kernel, by decide +kernel⟩, by decide +kernel, by decide, fun h => absurd h (by decide), fun _ => ⟨am_wat 974 rfl rfl, am_wat 975 rfl rfl⟩, fun h => absurd h (by decide), by decide⟩
set_option maxRecDepth 20000 in
theorem mw_X11_rest : am_mw mt_X11_rest := ⟨am_wat 984 rfl rfl, am_wat 67 rfl rfl, ⟨by decide +kernel, by decide +kernel⟩, by decide +kernel, by decide, fun h => absurd h (by decide), fun _ => ⟨am_wat 982 rfl rfl, am_wat 983 rfl rfl⟩, fun h => absurd h (by decide), by decide⟩
set_option maxRecDepth 20000 in
theorem mw_X11_money : am_mw mt_X11_money := ⟨am_wat 990 rfl rfl, am_wat 67 rfl rfl, ⟨by decide +kernel, by decide +kernel⟩, by decide +kernel, by decide, fun h => absurd h (by decide), fun _ => ⟨am_wat 988 rfl rfl, am_wat 989 rfl rfl⟩, fun h => absurd h (by decide), by decide⟩
set_option maxRecDepth 20000 in
theorem mw_X11_load : am_mw mt_X11_load := ⟨am_wat 994 rfl rfl, am_wat 67 rfl rfl, ⟨by decide +kernel, by decide +kernel⟩, by decide +kernel, by decide, fun h => absurd h (by decide), fun _ => ⟨am_wat 992 rfl rfl, am_wat 993 rfl rfl⟩, fun h => absurd h (by decide), by decide⟩
set_option maxRecDepth 20000 in
theorem mw_X11_waste : am_mw mt_X11_waste := ⟨am_wat 998 rfl rfl, am_wat 67 rfl rfl, ⟨by decide +kernel, by decide +kernel⟩, by decide +kernel, by decide, fun h => absurd h (by decide), fun _ => ⟨am_wat 996 rfl rfl, am_wat 997 rfl rfl⟩, fun h => absurd h (by decide), by decide⟩
set_option maxRecDepth 20000 in
theorem mw_X11_count : am_mw mt_X11_count := ⟨am_wat 1002 rfl rfl, am_wat 67 rfl rfl, ⟨by decide +kernel, by decide +kernel⟩, by decide +kernel, by decide, fun h => absurd h (by decide), fun _ => ⟨am_wat 1000 rfl rfl, am_wat 1001 rfl rfl⟩, fun h => absurd h (by decide), by decide⟩
set_option maxRecDepth 20000 in
theorem mw_X11_isWithin : am_mw mt_X11_isWithin := ⟨am_wat 636 rfl rfl, am_wat 67 rfl rfl, ⟨by decide +kernel, by decide +kernel⟩, by decide +kernel, by decide, fun _ => am_wat 635 rfl rfl, fun h => absurd h (by decide), fun h => absurd h (by decide), by decide⟩
set_option maxRecDepth 20000 in
theorem mw_X11_isSeason : am_mw mt_X11_isSeason := ⟨am_wat 683 rfl rfl, am_wat 67 rfl rfl, ⟨by decide +kernel, by decide +kernel⟩, by decide +kernel, by decide, fun _ => am_wat 682 rfl rfl, fun h => absurd h (by decide), fun h => absurd h (by decide), by decide⟩
set_option maxRecDepth 20000 in
theorem mw_X11_isColourOrNone : am_mw mt_X11_isColourOrNone := ⟨am_wat 848 rfl rfl, am_wat 67 rfl rfl, ⟨by decide +kernel, by decide +kernel⟩, by decide +kernel, by decide, fun _ => am_wat 847 rfl rfl, fun h => absurd h (by decide), fun h => absurd h (by decide), by decide⟩
set_option maxRecDepth 20000 in
theorem mw_X11_putDraftInForce : am_mw mt_X11_putDraftInForce := ⟨am_wat 621 rfl rfl, am_wat 67 rfl rfl, ⟨by decide +kernel, by decide +kernel⟩, by decide +kernel, by decide, fun h => absurd h (by decide), fun _ => ⟨am_wat 620 rfl rfl, am_wat 11 rfl rfl⟩, fun h => absurd h (by decide), by decide⟩
set_option maxRecDepth 20000 in
theorem mw_X11_storeCutLog : am_mw mt_X11_storeCutLog := ⟨am_wat 724 rfl rfl, am_wat 67 rfl rfl, ⟨by decide +kernel, by decide +kernel⟩, by decide +kernel, by decide, fun h => absurd h (by decide), fun _ => ⟨am_wat 723 rfl rfl, am_wat 15 rfl rfl⟩, fun h => absurd h (by decide), by decide⟩
set_option maxRecDepth 20000 in
theorem mw_X11_takerOf : am_mw mt_X11_takerOf := ⟨am_wat 744 rfl rfl, am_wat 67 rfl rfl, ⟨by decide +kernel, by decide +kernel⟩, by decide +kernel, by decide, fun h => absurd h (by decide), fun _ => ⟨am_wat 743 rfl rfl, am_wat 16 rfl rfl⟩, fun h => absurd h (by decide), by decide⟩
set_option maxRecDepth 20000 in
theorem mw_X11_carve : am_mw mt_X11_carve := ⟨am_wat 801 rfl rfl, am_wat 67 rfl rfl, ⟨by decide +kernel, by decide +kernel⟩, by decide +kernel, by decide, fun h => absurd h (by decide), fun _ => ⟨am_wat 800 rfl rfl, am_wat 25 rfl rfl⟩, fun h => absurd h (by decide), by decide⟩
set_option maxRecDepth 20000 in
theorem mw_X11_tellFacts : am_mw mt_X11_tellFacts := ⟨am_wat 748 rfl rfl, am_wat 67 rfl rfl, ⟨by decide +kernel, by decide +kernel⟩, by decide +kernel, by decide, fun h => absurd h (by decide), fun _ => ⟨am_wat 747 rfl rfl, am_wat 17 rfl rfl⟩, fun h => absurd h (by decide), by decide⟩
set_option maxRecDepth 20000 in
theorem mw_X11_payFor : am_mw mt_X11_payFor := ⟨am_wat 933 rfl rfl, am_wat 67 rfl rfl, ⟨by decide +kernel, by decide +kernel⟩, by decide +kernel, by decide, fun h => absurd h (by decide), fun _ => ⟨am_wat 932 rfl rfl, am_wat 32 rfl rfl⟩, fun h => absurd h (by decide), by decide⟩
set_option maxRecDepth 20000 in
theorem mw_X11_unbox : am_mw mt_X11_unbox := ⟨am_wat 948 rfl rfl, am_wat 67 rfl rfl, ⟨by decide +kernel, by decide +kernel⟩, by decide +kernel, by decide, fun h => absurd h (by decide), fun _ => ⟨am_wat 947 rfl rfl, am_wat 33 rfl rfl⟩, fun h => absurd h (by decide), by decide⟩
set_option maxRecDepth 20000 in
theorem mw_X12_init : am_mw mt_X12_init := ⟨am_wat 1015 rfl rfl, am_wat 79 rfl rfl, ⟨by decide +kernel, by decide +kernel⟩, by decide +kernel, by decide, fun h => absurd h (by decide), fun h => absurd h (by decide), fun _ => ⟨am_wat 1014 rfl rfl, rfl⟩, by decide⟩
set_option maxRecDepth 20000 in
theorem mw_X12_feed : am_mw mt_X12_feed := ⟨am_wat 1281 rfl rfl, am_wat 79 rfl rfl, ⟨by decide +kernel, by decide +kernel⟩, by decide +kernel, by decide, fun h => absurd h (by decide), fun _ => ⟨am_wat 1279 rfl rfl, am_wat 1280 rfl rfl⟩, fun h => absurd h (by decide), by decide⟩
set_option maxRecDepth 20000 in
theorem mw_X12_put : am_mw mt_X12_put := ⟨am_wat 1285 rfl rfl, am_wat 79 rfl rfl, ⟨by decide +kernel, by decide +kernel⟩, by decide +kernel, by decide, fun h => absurd h (by decide), fun _ => ⟨am_wat 1284 rfl rfl, am_wat 34 rfl rfl⟩, fun h => absurd h (by decide), by decide⟩
set_option maxRecDepth 20000 in
theorem mw_X12_back : am_mw mt_X12_back := ⟨am_wat 1289 rfl rfl, am_wat 79 rfl rfl, ⟨by decide +kernel, by decide +kernel⟩, by decide +kernel, by decide, fun h => absurd h (by decide), fun _ => ⟨am_wat 1287 rfl rfl, am_wat 1288 rfl rfl⟩, fun h => absurd h (by decide), by decide⟩
set_option maxRecDepth 20000 in
theorem mw_X12_at : am_mw mt_X12_at := ⟨am_wat 1301 rfl rfl, am_wat 79 rfl rfl, ⟨by decide +kernel, by decide +kernel⟩, by decide +kernel, by decide, fun h => absurd h (by decide), fun _ => ⟨am_wat 1300 rfl rfl, am_wat 36 rfl rfl⟩, fun h => absurd h (by decide), by decide⟩
set_option maxRecDepth 20000 in
theorem mw_X12_isDigit : am_mw mt_X12_isDigit := ⟨am_wat 1311 rfl rfl, am_wat 79 rfl rfl, ⟨by decide +kernel, by decide +kernel⟩, by decide +kernel, by decide, fun _ => am_wat 1310 rfl rfl, fun h => absurd h (by decide), fun h => absurd h (by decide), by decide⟩
set_option maxRecDepth 20000 in
theorem mw_X12_isLetter : am_mw mt_X12_isLetter := ⟨am_wat 1308 rfl rfl, am_wat 79 rfl rfl, ⟨by decide +kernel, by decide +kernel⟩, by decide +kernel, by decide, fun _ => am_wat 1307 rfl rfl, fun h => absurd h (by decide), fun h => absurd h (by decide), by decide⟩
set_option maxRecDepth 20000 in
theorem mw_X12_more : am_mw mt_X12_more := ⟨am_wat 1022 rfl rfl, am_wat 79 rfl rfl, ⟨by decide +kernel, by decide +kernel⟩, by decide +kernel, by decide, fun _ => am_wat 1021 rfl rfl, fun h => absurd h (by decide), fun h => absurd h (by decide), by decide⟩
set_option maxRecDepth 20000 in
theorem mw_X12_word : am_mw mt_X12_word := ⟨am_wat 1019 rfl rfl, am_wat 79 rfl rfl, ⟨by decide +kernel, by decide +kernel⟩, by decide +kernel, by decide, fun _ => am_wat 1018 rfl rfl, fun h => absurd h (by decide), fun h => absurd h (by decide), by decide⟩
set_option maxRecDepth 20000 in
theorem mw_X12_token : am_mw mt_X12_token := ⟨am_wat 1305 rfl rfl, am_wat 79 rfl rfl, ⟨by decide +kernel, by decide +kernel⟩, by decide +kernel, by decide, fun h => absurd h (by decide), fun _ => ⟨am_wat 1304 rfl rfl, am_wat 37 rfl rfl⟩, fun h => absurd h (by decide), by decide⟩
set_option maxRecDepth 20000 in
theorem mw_X12_cut : am_mw mt_X12_cut := ⟨am_wat 1297 rfl rfl, am_wat 79 rfl rfl, ⟨by decide +kernel, by decide +kernel⟩, by decide +kernel, by decide, fun h => absurd h (by decide), fun _ => ⟨am_wat 1296 rfl rfl, am_wat 35 rfl rfl⟩, fun h => absurd h (by decide), by decide⟩
set_option maxRecDepth 20000 in
theorem mw_X12_sign : am_mw mt_X12_sign := ⟨am_wat 1315 rfl rfl, am_wat 79 rfl rfl, ⟨by decide +kernel, by decide +kernel⟩, by decide +kernel, by decide, fun h => absurd h (by decide), fun _ => ⟨am_wat 1314 rfl rfl, am_wat 38 rfl rfl⟩, fun h => absurd h (by decide), by decide⟩
set_option maxRecDepth 20000 in
theorem mw_X12_is : am_mw mt_X12_is := ⟨am_wat 1319 rfl rfl, am_wat 79 rfl rfl, ⟨by decide +kernel, by decide +kernel⟩, by decide +kernel, by decide, fun h => absurd h (by decide), fun _ => ⟨am_wat 1318 rfl rfl, am_wat 39 rfl rfl⟩, fun h => absurd h (by decide), by decide⟩
set_option maxRecDepth 20000 in
theorem mw_X12_fail : am_mw mt_X12_fail := ⟨am_wat 1327 rfl rfl, am_wat 79 rfl rfl, ⟨by decide +kernel, by decide +kernel⟩, by decide +kernel, by decide, fun h => absurd h (by decide), fun _ => ⟨am_wat 1326 rfl rfl, am_wat 41 rfl rfl⟩, fun h => absurd h (by decide), by decide⟩
set_option maxRecDepth 20000 in
theorem mw_X12_next : am_mw mt_X12_next := ⟨am_wat 1331 rfl rfl, am_wat 79 rfl rfl, ⟨by decide +kernel, by decide +kernel⟩, by decide +kernel, by decide, fun h => absurd h (by decide), fun _ => ⟨am_wat 1330 rfl rfl, am_wat 42 rfl rfl⟩, fun h => absurd h (by decide), by decide⟩
set_option maxRecDepth 20000 in
theorem mw_X12_must : am_mw mt_X12_must := ⟨am_wat 1351 rfl rfl, am_wat 79 rfl rfl, ⟨by decide +kernel, by decide +kernel⟩, by decide +kernel, by decide, fun h => absurd h (by decide), fun _ => ⟨am_wat 1350 rfl rfl, am_wat 47 rfl rfl⟩, fun h => absurd h (by decide), by decide⟩
set_option maxRecDepth 20000 in
theorem mw_X12_read : am_mw mt_X12_read := ⟨am_wat 1293 rfl rfl, am_wat 79 rfl rfl, ⟨by decide +kernel, by decide +kernel⟩, by decide +kernel, by decide, fun h => absurd h (by decide), fun _ => ⟨am_wat 1291 rfl rfl, am_wat 1292 rfl rfl⟩, fun h => absurd h (by decide), by decide⟩
set_option maxRecDepth 20000 in
theorem mw_X12_place : am_mw mt_X12_place := ⟨am_wat 1355 rfl rfl, am_wat 79 rfl rfl, ⟨by decide +kernel, by decide +kernel⟩, by decide +kernel, by decide, fun h => absurd h (by decide), fun _ => ⟨am_wat 1353 rfl rfl, am_wat 1354 rfl rfl⟩, fun h => absurd h (by decide), by decide⟩
set_option maxRecDepth 20000 in
theorem mw_X12_tellRule : am_mw mt_X12_tellRule := ⟨am_wat 1323 rfl rfl, am_wat 79 rfl rfl, ⟨by decide +kernel, by decide +kernel⟩, by decide +kernel, by decide, fun h => absurd h (by decide), fun _ => ⟨am_wat 1322 rfl rfl, am_wat 40 rfl rfl⟩, fun h => absurd h (by decide), by decide⟩
set_option maxRecDepth 20000 in
theorem mw_X12_relation : am_mw mt_X12_relation := ⟨am_wat 1347 rfl rfl, am_wat 79 rfl rfl, ⟨by decide +kernel, by decide +kernel⟩, by decide +kernel, by decide, fun h => absurd h (by decide), fun _ => ⟨am_wat 1346 rfl rfl, am_wat 46 rfl rfl⟩, fun h => absurd h (by decide), by decide⟩
set_option maxRecDepth 20000 in
theorem mw_X12_emit : am_mw mt_X12_emit := ⟨am_wat 1339 rfl rfl, am_wat 79 rfl rfl, ⟨by decide +kernel, by decide +kernel⟩, by decide +kernel, by decide, fun h => absurd h (by decide), fun _ => ⟨am_wat 1338 rfl rfl, am_wat 44 rfl rfl⟩, fun h => absurd h (by decide), by decide⟩
set_option maxRecDepth 20000 in
theorem mw_X12_comesOut : am_mw mt_X12_comesOut := ⟨am_wat 1343 rfl rfl, am_wat 79 rfl rfl, ⟨by decide +kernel, by decide +kernel⟩, by decide +kernel, by decide, fun h => absurd h (by decide), fun _ => ⟨am_wat 1342 rfl rfl, am_wat 45 rfl rfl⟩, fun h => absurd h (by decide), by decide⟩
set_option maxRecDepth 20000 in
theorem mw_X12_expression : am_mw mt_X12_expression := ⟨am_wat 1335 rfl rfl, am_wat 79 rfl rfl, ⟨by decide +kernel, by decide +kernel⟩, by decide +kernel, by decide, fun h => absurd h (by decide), fun _ => ⟨am_wat 1334 rfl rfl, am_wat 43 rfl rfl⟩, fun h => absurd h (by decide), by decide⟩
set_option maxRecDepth 20000 in
theorem mw_X12_isKind : am_mw mt_X12_isKind := ⟨am_wat 1375 rfl rfl, am_wat 79 rfl rfl, ⟨by decide +kernel, by decide +kernel⟩, by decide +kernel, by decide, fun h => absurd h (by decide), fun _ => ⟨am_wat 1374 rfl rfl, am_wat 49 rfl rfl⟩, fun h => absurd h (by decide), by decide⟩
set_option maxRecDepth 20000 in
theorem mw_X12_isFamily : am_mw mt_X12_isFamily := ⟨am_wat 1371 rfl rfl, am_wat 79 rfl rfl, ⟨by decide +kernel, by decide +kernel⟩, by decide +kernel, by decide, fun h => absurd h (by decide), fun _ => ⟨am_wat 1370 rfl rfl, am_wat 48 rfl rfl⟩, fun h => absurd h (by decide), by decide⟩
set_option maxRecDepth 20000 in
theorem mw_X12_kind : am_mw mt_X12_kind := ⟨am_wat 1359 rfl rfl, am_wat 79 rfl rfl, ⟨by decide +kernel, by decide +kernel⟩, by decide +kernel, by decide, fun h => absurd h (by decide), fun _ => ⟨am_wat 1357 rfl rfl, am_wat 1358 rfl rfl⟩, fun h => absurd h (by decide), by decide⟩
set_option maxRecDepth 20000 in
theorem mw_X12_family : am_mw mt_X12_family := ⟨am_wat 1363 rfl rfl, am_wat 79 rfl rfl, ⟨by decide +kernel, by decide +kernel⟩, by decide +kernel, by decide, fun h => absurd h (by decide), fun _ => ⟨am_wat 1361 rfl rfl, am_wat 1362 rfl rfl⟩, fun h => absurd h (by decide), by decide⟩
set_option maxRecDepth 20000 in
theorem mw_X12_own : am_mw mt_X12_own := ⟨am_wat 1367 rfl rfl, am_wat 79 rfl rfl, ⟨by decide +kernel, by decide +kernel⟩, by decide +kernel, by decide, fun h => absurd h (by decide), fun _ => ⟨am_wat 1365 rfl rfl, am_wat 1366 rfl rfl⟩, fun h => absurd h (by decide), by decide⟩
set_option maxRecDepth 20000 in
theorem mw_X12_lend : am_mw mt_X12_lend := ⟨am_wat 1379 rfl rfl, am_wat 79 rfl rfl, ⟨by decide +kernel, by decide +kernel⟩, by decide +kernel, by decide, fun h => absurd h (by decide), fun _ => ⟨am_wat 1377 rfl rfl, am_wat 1378 rfl rfl⟩, fun h => absurd h (by decide), by decide⟩
set_option maxRecDepth 20000 in
theorem mw_X12_mayCarve : am_mw mt_X12_mayCarve := ⟨am_wat 1387 rfl rfl, am_wat 79 rfl rfl, ⟨by decide +kernel, by decide +kernel⟩, by decide +kernel, by decide, fun h => absurd h (by decide), fun _ => ⟨am_wat 1386 rfl rfl, am_wat 50 rfl rfl⟩, fun h => absurd h (by decide), by decide⟩
set_option maxRecDepth 20000 in
theorem mw_X12_may : am_mw mt_X12_may := ⟨am_wat 1383 rfl rfl, am_wat 79 rfl rfl, ⟨by decide +kernel, by decide +kernel⟩, by decide +kernel, by decide, fun h => absurd h (by decide), fun _ => ⟨am_wat 1381 rfl rfl, am_wat 1382 rfl rfl⟩, fun h => absurd h (by decide), by decide⟩
set_option maxRecDepth 20000 in
theorem mw_X12_season : am_mw mt_X12_season := ⟨am_wat 1391 rfl rfl, am_wat 79 rfl rfl, ⟨by decide +kernel, by decide +kernel⟩, by decide +kernel, by decide, fun h => absurd h (by decide), fun _ => ⟨am_wat 1389 rfl rfl, am_wat 1390 rfl rfl⟩, fun h => absurd h (by decide), by decide⟩
set_option maxRecDepth 20000 in
theorem mw_X12_log : am_mw mt_X12_log := ⟨am_wat 1395 rfl rfl, am_wat 79 rfl rfl, ⟨by decide +kernel, by decide +kernel⟩, by decide +kernel, by decide, fun h => absurd h (by decide), fun _ => ⟨am_wat 1393 rfl rfl, am_wat 1394 rfl rfl⟩, fun h => absurd h (by decide), by decide⟩
set_option maxRecDepth 20000 in
theorem mw_X12_waste : am_mw mt_X12_waste := ⟨am_wat 1399 rfl rfl, am_wat 79 rfl rfl, ⟨by decide +kernel, by decide +kernel⟩, by decide +kernel, by decide, fun h => absurd h (by decide), fun _ => ⟨am_wat 1397 rfl rfl, am_wat 1398 rfl rfl⟩, fun h => absurd h (by decide), by decide⟩
set_option maxRecDepth 20000 in
theorem mw_X12_asks : am_mw mt_X12_asks := ⟨am_wat 1411 rfl rfl, am_wat 79 rfl rfl, ⟨by decide +kernel, by decide +kernel⟩, by decide +kernel, by decide, fun h => absurd h (by decide), fun _ => ⟨am_wat 1410 rfl rfl, am_wat 52 rfl rfl⟩, fun h => absurd h (by decide), by decide⟩
set_option maxRecDepth 20000 in
theorem mw_X12_value : am_mw mt_X12_value := ⟨am_wat 1419 rfl rfl, am_wat 79 rfl rfl, ⟨by decide +kernel, by decide +kernel⟩, by decide +kernel, by decide, fun h => absurd h (by decide), fun _ => ⟨am_wat 1418 rfl rfl, am_wat 54 rfl rfl⟩, fun h => absurd h (by decide), by decide⟩
set_option maxRecDepth 20000 in
theorem mw_X12_holds : am_mw mt_X12_holds := ⟨am_wat 1415 rfl rfl, am_wat 79 rfl rfl, ⟨by decide +kernel, by decide +kernel⟩, by decide +kernel, by decide, fun h => absurd h (by decide), fun _ => ⟨am_wat 1414 rfl rfl, am_wat 53 rfl rfl⟩, fun h => absurd h (by decide), by decide⟩
set_option maxRecDepth 20000 in
theorem mw_X12_says : am_mw mt_X12_says := ⟨am_wat 1423 rfl rfl, am_wat 79 rfl rfl, ⟨by decide +kernel, by decide +kernel⟩, by decide +kernel, by decide, fun h => absurd h (by decide), fun _ => ⟨am_wat 1422 rfl rfl, am_wat 55 rfl rfl⟩, fun h => absurd h (by decide), by decide⟩
set_option maxRecDepth 20000 in
theorem mw_X12_isBarred : am_mw mt_X12_isBarred := ⟨am_wat 1407 rfl rfl, am_wat 79 rfl rfl, ⟨by decide +kernel, by decide +kernel⟩, by decide +kernel, by decide, fun h => absurd h (by decide), fun _ => ⟨am_wat 1406 rfl rfl, am_wat 51 rfl rfl⟩, fun h => absurd h (by decide), by decide⟩
set_option maxRecDepth 20000 in
theorem mw_X12_give : am_mw mt_X12_give := ⟨am_wat 1403 rfl rfl, am_wat 79 rfl rfl, ⟨by decide +kernel, by decide +kernel⟩, by decide +kernel, by decide, fun h => absurd h (by decide), fun _ => ⟨am_wat 1401 rfl rfl, am_wat 1402 rfl rfl⟩, fun h => absurd h (by decide), by decide⟩
set_option maxRecDepth 20000 in
theorem mw_X12_lot : am_mw mt_X12_lot := ⟨am_wat 1427 rfl rfl, am_wat 79 rfl rfl, ⟨by decide +kernel, by decide +kernel⟩, by decide +kernel, by decide, fun h => absurd h (by decide), fun _ => ⟨am_wat 1425 rfl rfl, am_wat 1426 rfl rfl⟩, fun h => absurd h (by decide), by decide⟩
set_option maxRecDepth 20000 in
theorem mw_X12_isFigure : am_mw mt_X12_isFigure := ⟨am_wat 1435 rfl rfl, am_wat 79 rfl rfl, ⟨by decide +kernel, by decide +kernel⟩, by decide +kernel, by decide, fun h => absurd h (by decide), fun _ => ⟨am_wat 1434 rfl rfl, am_wat 56 rfl rfl⟩, fun h => absurd h (by decide), by decide⟩
set_option maxRecDepth 20000 in
theorem mw_X12_paint : am_mw mt_X12_paint := ⟨am_wat 1431 rfl rfl, am_wat 79 rfl rfl, ⟨by decide +kernel, by decide +kernel⟩, by decide +kernel, by decide, fun h => absurd h (by decide), fun _ => ⟨am_wat 1429 rfl rfl, am_wat 1430 rfl rfl⟩, fun h => absurd h (by decide), by decide⟩
set_option maxRecDepth 20000 in
theorem mw_X12_kindOf : am_mw mt_X12_kindOf := ⟨am_wat 1459 rfl rfl, am_wat 79 rfl rfl, ⟨by decide +kernel, by decide +kernel⟩, by decide +kernel, by decide, fun h => absurd h (by decide), fun _ => ⟨am_wat 1458 rfl rfl, am_wat 59 rfl rfl⟩, fun h => absurd h (by decide), by decide⟩
set_option maxRecDepth 20000 in
theorem mw_X12_colourOf : am_mw mt_X12_colourOf := ⟨am_wat 1463 rfl rfl, am_wat 79 rfl rfl, ⟨by decide +kernel, by decide +kernel⟩, by decide +kernel, by decide, fun h => absurd h (by decide), fun _ => ⟨am_wat 1462 rfl rfl, am_wat 60 rfl rfl⟩, fun h => absurd h (by decide), by decide⟩
set_option maxRecDepth 20000 in
theorem mw_X12_order : am_mw mt_X12_order := ⟨am_wat 1439 rfl rfl, am_wat 79 rfl rfl, ⟨by decide +kernel, by decide +kernel⟩, by decide +kernel, by decide, fun h => absurd h (by decide), fun _ => ⟨am_wat 1437 rfl rfl, am_wat 1438 rfl rfl⟩, fun h => absurd h (by decide), by decide⟩
set_option maxRecDepth 20000 in
theorem mw_X12_isOrder : am_mw mt_X12_isOrder := ⟨am_wat 1447 rfl rfl, am_wat 79 rfl rfl, ⟨by decide +kernel, by decide +kernel⟩, by decide +kernel, by decide, fun h => absurd h (by decide), fun _ => ⟨am_wat 1446 rfl rfl, am_wat 57 rfl rfl⟩, fun h => absurd h (by decide), by decide⟩
set_option maxRecDepth 20000 in
theorem mw_X12_need : am_mw mt_X12_need := ⟨am_wat 1443 rfl rfl, am_wat 79 rfl rfl, ⟨by decide +kernel, by decide +kernel⟩, by decide +kernel, by decide, fun h => absurd h (by decide), fun _ => ⟨am_wat 1441 rfl rfl, am_wat 1442 rfl rfl⟩, fun h => absurd h (by decide), by decide⟩
set_option maxRecDepth 20000 in
theorem mw_X12_counts : am_mw mt_X12_counts := ⟨am_wat 1455 rfl rfl, am_wat 79 rfl rfl, ⟨by decide +kernel, by decide +kernel⟩, by decide +kernel, by decide, fun h => absurd h (by decide), fun _ => ⟨am_wat 1454 rfl rfl, am_wat 58 rfl rfl⟩, fun h => absurd h (by decide), by decide⟩
set_option maxRecDepth 20000 in
theorem mw_X12_fills : am_mw mt_X12_fills := ⟨am_wat 1478 rfl rfl, am_wat 79 rfl rfl, ⟨by decide +kernel, by decide +kernel⟩, by decide +kernel, by decide, fun h => absurd h (by decide), fun _ => ⟨am_wat 1477 rfl rfl, am_wat 63 rfl rfl⟩, fun h => absurd h (by decide), by decide⟩
set_option maxRecDepth 20000 in
theorem mw_X12_takesOf : am_mw mt_X12_takesOf := ⟨am_wat 1482 rfl rfl, am_wat 79 rfl rfl, ⟨by decide +kernel, by decide +kernel⟩, by decide +kernel, by decide, fun h => absurd h (by decide), fun _ => ⟨am_wat 1481 rfl rfl, am_wat 64 rfl rfl⟩, fun h => absurd h (by decide), by decide⟩
set_option maxRecDepth 20000 in
theorem mw_X12_bits : am_mw mt_X12_bits := ⟨am_wat 1474 rfl rfl, am_wat 79 rfl rfl, ⟨by decide +kernel, by decide +kernel⟩, by decide +kernel, by decide, fun _ => am_wat 1473 rfl rfl, fun h => absurd h (by decide), fun h => absurd h (by decide), by decide⟩
set_option maxRecDepth 20000 in
theorem mw_X12_worthOf : am_mw mt_X12_worthOf := ⟨am_wat 1471 rfl rfl, am_wat 79 rfl rfl, ⟨by decide +kernel, by decide +kernel⟩, by decide +kernel, by decide, fun h => absurd h (by decide), fun _ => ⟨am_wat 1470 rfl rfl, am_wat 62 rfl rfl⟩, fun h => absurd h (by decide), by decide⟩
set_option maxRecDepth 20000 in
theorem mw_X12_isAhead : am_mw mt_X12_isAhead := ⟨am_wat 1467 rfl rfl, am_wat 79 rfl rfl, ⟨by decide +kernel, by decide +kernel⟩, by decide +kernel, by decide, fun h => absurd h (by decide), fun _ => ⟨am_wat 1466 rfl rfl, am_wat 61 rfl rfl⟩, fun h => absurd h (by decide), by decide⟩
set_option maxRecDepth 20000 in
theorem mw_X12_box : am_mw mt_X12_box := ⟨am_wat 1451 rfl rfl, am_wat 79 rfl rfl, ⟨by decide +kernel, by decide +kernel⟩, by decide +kernel, by decide, fun h => absurd h (by decide), fun _ => ⟨am_wat 1449 rfl rfl, am_wat 1450 rfl rfl⟩, fun h => absurd h (by decide), by decide⟩
set_option maxRecDepth 20000 in
theorem mw_X12_packs : am_mw mt_X12_packs := ⟨am_wat 1486 rfl rfl, am_wat 79 rfl rfl, ⟨by decide +kernel, by decide +kernel⟩, by decide +kernel, by decide, fun h => absurd h (by decide), fun _ => ⟨am_wat 1485 rfl rfl, am_wat 65 rfl rfl⟩, fun h => absurd h (by decide), by decide⟩
set_option maxRecDepth 20000 in
theorem mw_X12_refuse : am_mw mt_X12_refuse := ⟨am_wat 1490 rfl rfl, am_wat 79 rfl rfl, ⟨by decide +kernel, by decide +kernel⟩, by decide +kernel, by decide, fun h => absurd h (by decide), fun _ => ⟨am_wat 1488 rfl rfl, am_wat 1489 rfl rfl⟩, fun h => absurd h (by decide), by decide⟩
set_option maxRecDepth 20000 in
theorem mw_X12_ring : am_mw mt_X12_ring := ⟨am_wat 1494 rfl rfl, am_wat 79 rfl rfl, ⟨by decide +kernel, by decide +kernel⟩, by decide +kernel, by decide, fun h => absurd h (by decide), fun _ => ⟨am_wat 1492 rfl rfl, am_wat 1493 rfl rfl⟩, fun h => absurd h (by decide), by decide⟩
set_option maxRecDepth 20000 in
theorem mw_X12_figure : am_mw mt_X12_figure := ⟨am_wat 1498 rfl rfl, am_wat 79 rfl rfl, ⟨by decide +kernel, by decide +kernel⟩, by decide +kernel, by decide, fun h => absurd h (by decide), fun _ => ⟨am_wat 1496 rfl rfl, am_wat 1497 rfl rfl⟩, fun h => absurd h (by decide), by decide⟩
set_option maxRecDepth 20000 in
theorem mw_X12_packed : am_mw mt_X12_packed := ⟨am_wat 1502 rfl rfl, am_wat 79 rfl rfl, ⟨by decide +kernel, by decide +kernel⟩, by decide +kernel, by decide, fun h => absurd h (by decide), fun _ => ⟨am_wat 1500 rfl rfl, am_wat 1501 rfl rfl⟩, fun h => absurd h (by decide), by decide⟩
set_option maxRecDepth 20000 in
theorem mw_X12_told : am_mw mt_X12_told := ⟨am_wat 1506 rfl rfl, am_wat 79 rfl rfl, ⟨by decide +kernel, by decide +kernel⟩, by decide +kernel, by decide, fun h => absurd h (by decide), fun _ => ⟨am_wat 1504 rfl rfl, am_wat 1505 rfl rfl⟩, fun h => absurd h (by decide), by decide⟩
set_option maxRecDepth 20000 in
theorem mw_X12_found : am_mw mt_X12_found := ⟨am_wat 1510 rfl rfl, am_wat 79 rfl rfl, ⟨by decide +kernel, by decide +kernel⟩, by decide +kernel, by decide, fun h => absurd h (by decide), fun _ => ⟨am_wat 1508 rfl rfl, am_wat 1509 rfl rfl⟩, fun h => absurd h (by decide), by decide⟩
set_option maxRecDepth 20000 in
theorem mw_X12_rest : am_mw mt_X12_rest := ⟨am_wat 1514 rfl rfl, am_wat 79 rfl rfl, ⟨by decide +kernel, by decide +kernel⟩, by decide +kernel, by decide, fun h => absurd h (by decide), fun _ => ⟨am_wat 1512 rfl rfl, am_wat 1513 rfl rfl⟩, fun h => absurd h (by decide), by decide⟩
set_option maxRecDepth 20000 in
theorem mw_X12_money : am_mw mt_X12_money := ⟨am_wat 1518 rfl rfl, am_wat 79 rfl rfl, ⟨by decide +kernel, by decide +kernel⟩, by decide +kernel, by decide, fun h => absurd h (by decide), fun _ => ⟨am_wat 1516 rfl rfl, am_wat 1517 rfl rfl⟩, fun h => absurd h (by decide), by decide⟩
set_option maxRecDepth 20000 in
theorem mw_X12_load : am_mw mt_X12_load := ⟨am_wat 1522 rfl rfl, am_wat 79 rfl rfl, ⟨by decide +kernel, by decide +kernel⟩, by decide +kernel, by decide, fun h => absurd h (by decide), fun _ => ⟨am_wat 1520 rfl rfl, am_wat 1521 rfl rfl⟩, fun h => absurd h (by decide), by decide⟩
set_option maxRecDepth 20000 in
theorem mw_X12_count : am_mw mt_X12_count := ⟨am_wat 1526 rfl rfl, am_wat 79 rfl rfl, ⟨by decide +kernel, by decide +kernel⟩, by decide +kernel, by decide, fun h => absurd h (by decide), fun _ => ⟨am_wat 1524 rfl rfl, am_wat 1525 rfl rfl⟩, fun h => absurd h (by decide), by decide⟩
set_option maxRecDepth 20000 in
theorem mw_J6_bitCount_0f7a4 : am_mw mt_J6_bitCount_0f7a4 := ⟨am_wat 896 rfl rfl, am_wat 85 rfl rfl, ⟨by decide +kernel, by decide +kernel⟩, by decide +kernel, by decide, fun _ => am_wat 895 rfl rfl, fun h => absurd h (by decide), fun h => absurd h (by decide), by decide⟩
set_option maxRecDepth 20000 in
theorem mw_J9_max_7cf53 : am_mw mt_J9_max_7cf53 := ⟨am_wat 778 rfl rfl, am_wat 84 rfl rfl, ⟨by decide +kernel, by decide +kernel⟩, by decide +kernel, by decide, fun _ => am_wat 777 rfl rfl, fun h => absurd h (by decide), fun h => absurd h (by decide), by decide⟩
set_option maxRecDepth 20000 in
theorem mw_J9_min_7cf53 : am_mw mt_J9_min_7cf53 := ⟨am_wat 775 rfl rfl, am_wat 84 rfl rfl, ⟨by decide +kernel, by decide +kernel⟩, by decide +kernel, by decide, fun _ => am_wat 774 rfl rfl, fun h => absurd h (by decide), fun h => absurd h (by decide), by decide⟩
set_option maxRecDepth 20000 in
theorem mw_J0_length_8abf5 : am_mw mt_J0_length_8abf5 := ⟨am_wat 517 rfl rfl, am_wat 80 rfl rfl, ⟨by decide +kernel, by decide +kernel⟩, by decide +kernel, by decide, fun h => absurd h (by decide), fun _ => ⟨am_wat 515 rfl rfl, am_wat 516 rfl rfl⟩, fun h => absurd h (by decide), by decide⟩
set_option maxRecDepth 20000 in
theorem mw_J0_charAt_5068e : am_mw mt_J0_charAt_5068e := ⟨am_wat 527 rfl rfl, am_wat 80 rfl rfl, ⟨by decide +kernel, by decide +kernel⟩, by decide +kernel, by decide, fun h => absurd h (by decide), fun _ => ⟨am_wat 525 rfl rfl, am_wat 526 rfl rfl⟩, fun h => absurd h (by decide), by decide⟩

