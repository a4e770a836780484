
abbrev mX0_init : Md := (yX0_init, cX0_init, 1, none)
set_option maxRecDepth 20000 in
theorem miX0_init : MI mX0_init 0 := ⟨gw 342 rfl rfl, gw 13 rfl rfl, ⟨by decide, by decide, by decide +kernel⟩, by decide⟩
set_option maxRecDepth 20000 in
theorem mvX0_init : Cond.instanceMethod yX0_init ∈ lw_good := gw 341 rfl rfl
abbrev mX0_copyFrom : Md := (yX0_copyFrom, cX0_copyFrom, 2, none)
set_option maxRecDepth 20000 in
theorem miX0_copyFrom : MI mX0_copyFrom 1 := ⟨gw 864 rfl rfl, gw 13 rfl rfl, ⟨by decide, by decide, by decide +kernel⟩, by decide⟩
set_option maxRecDepth 20000 in
theorem mvX0_copyFrom : MV mX0_copyFrom := ⟨gw 862 rfl rfl, gw 863 rfl rfl⟩
abbrev mX0_add : Md := (yX0_add, cX0_add, 6, none)
set_option maxRecDepth 20000 in
theorem miX0_add : MI mX0_add 5 := ⟨gw 950 rfl rfl, gw 13 rfl rfl, ⟨by decide, by decide, by decide +kernel⟩, by decide⟩
set_option maxRecDepth 20000 in
theorem mvX0_add : MV mX0_add := ⟨gw 948 rfl rfl, gw 949 rfl rfl⟩
abbrev mX0_tidy : Md := (yX0_tidy, cX0_tidy, 4, none)
set_option maxRecDepth 20000 in
theorem miX0_tidy : MI mX0_tidy 1 := ⟨gw 979 rfl rfl, gw 13 rfl rfl, ⟨by decide, by decide, by decide +kernel⟩, by decide⟩
set_option maxRecDepth 20000 in
theorem mvX0_tidy : MV mX0_tidy := ⟨gw 977 rfl rfl, gw 978 rfl rfl⟩
abbrev mX1_init : Md := (yX1_init, cX1_init, 1, none)
set_option maxRecDepth 20000 in
theorem miX1_init : MI mX1_init 0 := ⟨gw 32 rfl rfl, gw 2 rfl rfl, ⟨by decide, by decide, by decide +kernel⟩, by decide⟩
set_option maxRecDepth 20000 in
theorem mvX1_init : Cond.instanceMethod yX1_init ∈ lw_good := gw 31 rfl rfl
abbrev mX1_drawOf : Md := (yX1_drawOf, cX1_drawOf, 2, (some .int))
set_option maxRecDepth 20000 in
theorem miX1_drawOf : MI mX1_drawOf 1 := ⟨gw 1026 rfl rfl, gw 2 rfl rfl, ⟨by decide, by decide, by decide +kernel⟩, by decide⟩
set_option maxRecDepth 20000 in
theorem mvX1_drawOf : MV mX1_drawOf := ⟨gw 1024 rfl rfl, gw 1025 rfl rfl⟩
abbrev mX2_init : Md := (yX2_init, cX2_init, 1, none)
set_option maxRecDepth 20000 in
theorem miX2_init : MI mX2_init 0 := ⟨gw 293 rfl rfl, gw 12 rfl rfl, ⟨by decide, by decide, by decide +kernel⟩, by decide⟩
set_option maxRecDepth 20000 in
theorem mvX2_init : Cond.instanceMethod yX2_init ∈ lw_good := gw 292 rfl rfl
abbrev mX2_copyFrom : Md := (yX2_copyFrom, cX2_copyFrom, 3, none)
set_option maxRecDepth 20000 in
theorem miX2_copyFrom : MI mX2_copyFrom 1 := ⟨gw 859 rfl rfl, gw 12 rfl rfl, ⟨by decide, by decide, by decide +kernel⟩, by decide⟩
set_option maxRecDepth 20000 in
theorem mvX2_copyFrom : MV mX2_copyFrom := ⟨gw 857 rfl rfl, gw 858 rfl rfl⟩
abbrev mX2_add : Md := (yX2_add, cX2_add, 8, none)
set_option maxRecDepth 20000 in
theorem miX2_add : MI mX2_add 7 := ⟨gw 1033 rfl rfl, gw 12 rfl rfl, ⟨by decide, by decide, by decide +kernel⟩, by decide⟩
set_option maxRecDepth 20000 in
theorem mvX2_add : MV mX2_add := ⟨gw 1031 rfl rfl, gw 1032 rfl rfl⟩
abbrev mX2_flyingRow : Md := (yX2_flyingRow, cX2_flyingRow, 4, (some .int))
set_option maxRecDepth 20000 in
theorem miX2_flyingRow : MI mX2_flyingRow 1 := ⟨gw 824 rfl rfl, gw 12 rfl rfl, ⟨by decide, by decide, by decide +kernel⟩, by decide⟩
set_option maxRecDepth 20000 in
theorem mvX2_flyingRow : MV mX2_flyingRow := ⟨gw 822 rfl rfl, gw 823 rfl rfl⟩
abbrev mX2_rowOf : Md := (yX2_rowOf, cX2_rowOf, 4, (some .int))
set_option maxRecDepth 20000 in
theorem miX2_rowOf : MI mX2_rowOf 2 := ⟨gw 907 rfl rfl, gw 12 rfl rfl, ⟨by decide, by decide, by decide +kernel⟩, by decide⟩
set_option maxRecDepth 20000 in
theorem mvX2_rowOf : MV mX2_rowOf := ⟨gw 905 rfl rfl, gw 906 rfl rfl⟩
abbrev mX2_firstOn : Md := (yX2_firstOn, cX2_firstOn, 3, (some .int))
set_option maxRecDepth 20000 in
theorem miX2_firstOn : MI mX2_firstOn 1 := ⟨gw 987 rfl rfl, gw 12 rfl rfl, ⟨by decide, by decide, by decide +kernel⟩, by decide⟩
set_option maxRecDepth 20000 in
theorem mvX2_firstOn : MV mX2_firstOn := ⟨gw 985 rfl rfl, gw 986 rfl rfl⟩
abbrev mX2_firstWith : Md := (yX2_firstWith, cX2_firstWith, 3, (some .int))
set_option maxRecDepth 20000 in
theorem miX2_firstWith : MI mX2_firstWith 1 := ⟨gw 1045 rfl rfl, gw 12 rfl rfl, ⟨by decide, by decide, by decide +kernel⟩, by decide⟩
set_option maxRecDepth 20000 in
theorem mvX2_firstWith : MV mX2_firstWith := ⟨gw 1043 rfl rfl, gw 1044 rfl rfl⟩
abbrev mX2_tidy : Md := (yX2_tidy, cX2_tidy, 4, none)
set_option maxRecDepth 20000 in
theorem miX2_tidy : MI mX2_tidy 1 := ⟨gw 997 rfl rfl, gw 12 rfl rfl, ⟨by decide, by decide, by decide +kernel⟩, by decide⟩
set_option maxRecDepth 20000 in
theorem mvX2_tidy : MV mX2_tidy := ⟨gw 995 rfl rfl, gw 996 rfl rfl⟩
abbrev mX2_move : Md := (yX2_move, cX2_move, 3, none)
set_option maxRecDepth 20000 in
theorem miX2_move : MI mX2_move 2 := ⟨gw 1001 rfl rfl, gw 12 rfl rfl, ⟨by decide, by decide, by decide +kernel⟩, by decide⟩
set_option maxRecDepth 20000 in
theorem mvX2_move : MV mX2_move := ⟨gw 1000 rfl rfl, gwp 45 rfl rfl⟩
abbrev mX3_init : Md := (yX3_init, cX3_init, 1, none)
set_option maxRecDepth 20000 in
theorem miX3_init : MI mX3_init 0 := ⟨gw 50 rfl rfl, gw 4 rfl rfl, ⟨by decide, by decide, by decide +kernel⟩, by decide⟩
set_option maxRecDepth 20000 in
theorem mvX3_init : Cond.instanceMethod yX3_init ∈ lw_good := gw 49 rfl rfl
abbrev mX3_isTold : Md := (yX3_isTold, cX3_isTold, 1, (some .boolean))
set_option maxRecDepth 20000 in
theorem miX3_isTold : MI mX3_isTold 0 := ⟨gw 674 rfl rfl, gw 4 rfl rfl, ⟨by decide, by decide, by decide +kernel⟩, by decide⟩
set_option maxRecDepth 20000 in
theorem mvX3_isTold : MV mX3_isTold := ⟨gw 672 rfl rfl, gw 673 rfl rfl⟩
abbrev mX3_put : Md := (yX3_put, cX3_put, 3, none)
set_option maxRecDepth 20000 in
theorem miX3_put : MI mX3_put 2 := ⟨gw 694 rfl rfl, gw 4 rfl rfl, ⟨by decide, by decide, by decide +kernel⟩, by decide⟩
set_option maxRecDepth 20000 in
theorem mvX3_put : MV mX3_put := ⟨gw 692 rfl rfl, gw 693 rfl rfl⟩
abbrev mX3_valueBy : Md := (yX3_valueBy, cX3_valueBy, 6, (some .int))
set_option maxRecDepth 20000 in
theorem miX3_valueBy : MI mX3_valueBy 1 := ⟨gw 798 rfl rfl, gw 4 rfl rfl, ⟨by decide, by decide, by decide +kernel⟩, by decide⟩
set_option maxRecDepth 20000 in
theorem mvX3_valueBy : MV mX3_valueBy := ⟨gw 796 rfl rfl, gw 797 rfl rfl⟩
abbrev mX3_joinedBy : Md := (yX3_joinedBy, cX3_joinedBy, 5, (some .int))
set_option maxRecDepth 20000 in
theorem miX3_joinedBy : MI mX3_joinedBy 3 := ⟨gw 802 rfl rfl, gw 4 rfl rfl, ⟨by decide, by decide, by decide +kernel⟩, by decide⟩
set_option maxRecDepth 20000 in
theorem mvX3_joinedBy : Cond.static yX3_joinedBy ∈ lw_good := gw 801 rfl rfl
abbrev mX4_init : Md := (yX4_init, cX4_init, 1, none)
set_option maxRecDepth 20000 in
theorem miX4_init : MI mX4_init 0 := ⟨gw 393 rfl rfl, gw 15 rfl rfl, ⟨by decide, by decide, by decide +kernel⟩, by decide⟩
set_option maxRecDepth 20000 in
theorem mvX4_init : Cond.instanceMethod yX4_init ∈ lw_good := gw 392 rfl rfl
abbrev mX4_clear : Md := (yX4_clear, cX4_clear, 1, none)
set_option maxRecDepth 20000 in
theorem miX4_clear : MI mX4_clear 0 := ⟨gw 738 rfl rfl, gw 15 rfl rfl, ⟨by decide, by decide, by decide +kernel⟩, by decide⟩
set_option maxRecDepth 20000 in
theorem mvX4_clear : MV mX4_clear := ⟨gw 736 rfl rfl, gw 737 rfl rfl⟩
abbrev mX4_copyFrom : Md := (yX4_copyFrom, cX4_copyFrom, 2, none)
set_option maxRecDepth 20000 in
theorem miX4_copyFrom : MI mX4_copyFrom 1 := ⟨gw 874 rfl rfl, gw 15 rfl rfl, ⟨by decide, by decide, by decide +kernel⟩, by decide⟩
set_option maxRecDepth 20000 in
theorem mvX4_copyFrom : MV mX4_copyFrom := ⟨gw 872 rfl rfl, gw 873 rfl rfl⟩
abbrev mX4_add : Md := (yX4_add, cX4_add, 4, none)
set_option maxRecDepth 20000 in
theorem miX4_add : MI mX4_add 3 := ⟨gw 966 rfl rfl, gw 15 rfl rfl, ⟨by decide, by decide, by decide +kernel⟩, by decide⟩
set_option maxRecDepth 20000 in
theorem mvX4_add : MV mX4_add := ⟨gw 964 rfl rfl, gw 965 rfl rfl⟩
abbrev mX4_rowOf : Md := (yX4_rowOf, cX4_rowOf, 2, (some .int))
set_option maxRecDepth 20000 in
theorem miX4_rowOf : MI mX4_rowOf 1 := ⟨gw 1164 rfl rfl, gw 15 rfl rfl, ⟨by decide, by decide, by decide +kernel⟩, by decide⟩
set_option maxRecDepth 20000 in
theorem mvX4_rowOf : MV mX4_rowOf := ⟨gw 1162 rfl rfl, gw 1163 rfl rfl⟩
abbrev mX5_init : Md := (yX5_init, cX5_init, 1, none)
set_option maxRecDepth 20000 in
theorem miX5_init : MI mX5_init 0 := ⟨gw 374 rfl rfl, gw 14 rfl rfl, ⟨by decide, by decide, by decide +kernel⟩, by decide⟩
set_option maxRecDepth 20000 in
theorem mvX5_init : Cond.instanceMethod yX5_init ∈ lw_good := gw 373 rfl rfl
abbrev mX5_copyFrom : Md := (yX5_copyFrom, cX5_copyFrom, 2, none)
set_option maxRecDepth 20000 in
theorem miX5_copyFrom : MI mX5_copyFrom 1 := ⟨gw 869 rfl rfl, gw 14 rfl rfl, ⟨by decide, by decide, by decide +kernel⟩, by decide⟩
set_option maxRecDepth 20000 in
theorem mvX5_copyFrom : MV mX5_copyFrom := ⟨gw 867 rfl rfl, gw 868 rfl rfl⟩
abbrev mX5_add : Md := (yX5_add, cX5_add, 3, none)
set_option maxRecDepth 20000 in
theorem miX5_add : MI mX5_add 2 := ⟨gw 975 rfl rfl, gw 14 rfl rfl, ⟨by decide, by decide, by decide +kernel⟩, by decide⟩
set_option maxRecDepth 20000 in
theorem mvX5_add : MV mX5_add := ⟨gw 973 rfl rfl, gw 974 rfl rfl⟩
abbrev mX5_countFrom : Md := (yX5_countFrom, cX5_countFrom, 4, (some .int))
set_option maxRecDepth 20000 in
theorem miX5_countFrom : MI mX5_countFrom 1 := ⟨gw 774 rfl rfl, gw 14 rfl rfl, ⟨by decide, by decide, by decide +kernel⟩, by decide⟩
set_option maxRecDepth 20000 in
theorem mvX5_countFrom : MV mX5_countFrom := ⟨gw 772 rfl rfl, gw 773 rfl rfl⟩
abbrev mX5_tidy : Md := (yX5_tidy, cX5_tidy, 4, none)
set_option maxRecDepth 20000 in
theorem miX5_tidy : MI mX5_tidy 1 := ⟨gw 1009 rfl rfl, gw 14 rfl rfl, ⟨by decide, by decide, by decide +kernel⟩, by decide⟩
set_option maxRecDepth 20000 in
theorem mvX5_tidy : MV mX5_tidy := ⟨gw 1007 rfl rfl, gw 1008 rfl rfl⟩
abbrev mX5_removeFirst : Md := (yX5_removeFirst, cX5_removeFirst, 1, none)
set_option maxRecDepth 20000 in
theorem miX5_removeFirst : MI mX5_removeFirst 0 := ⟨gw 1037 rfl rfl, gw 14 rfl rfl, ⟨by decide, by decide, by decide +kernel⟩, by decide⟩
set_option maxRecDepth 20000 in
theorem mvX5_removeFirst : MV mX5_removeFirst := ⟨gw 1035 rfl rfl, gw 1036 rfl rfl⟩
abbrev mX6_init : Md := (yX6_init, cX6_init, 1, none)
set_option maxRecDepth 20000 in
theorem miX6_init : MI mX6_init 0 := ⟨gw 44 rfl rfl, gw 3 rfl rfl, ⟨by decide, by decide, by decide +kernel⟩, by decide⟩
set_option maxRecDepth 20000 in
theorem mvX6_init : Cond.instanceMethod yX6_init ∈ lw_good := gw 43 rfl rfl
abbrev mX6_clear : Md := (yX6_clear, cX6_clear, 2, none)
set_option maxRecDepth 20000 in
theorem miX6_clear : MI mX6_clear 0 := ⟨gw 602 rfl rfl, gw 3 rfl rfl, ⟨by decide, by decide, by decide +kernel⟩, by decide⟩
set_option maxRecDepth 20000 in
theorem mvX6_clear : MV mX6_clear := ⟨gw 600 rfl rfl, gw 601 rfl rfl⟩
abbrev mX6_pathNamed : Md := (yX6_pathNamed, cX6_pathNamed, 3, (some .int))
set_option maxRecDepth 20000 in
theorem miX6_pathNamed : MI mX6_pathNamed 1 := ⟨gw 662 rfl rfl, gw 3 rfl rfl, ⟨by decide, by decide, by decide +kernel⟩, by decide⟩
set_option maxRecDepth 20000 in
theorem mvX6_pathNamed : MV mX6_pathNamed := ⟨gw 660 rfl rfl, gw 661 rfl rfl⟩
abbrev mX6_rightToken : Md := (yX6_rightToken, cX6_rightToken, 1, (some .int))
set_option maxRecDepth 20000 in
theorem miX6_rightToken : MI mX6_rightToken 0 := ⟨gw 899 rfl rfl, gw 3 rfl rfl, ⟨by decide, by decide, by decide +kernel⟩, by decide⟩
set_option maxRecDepth 20000 in
theorem mvX6_rightToken : MV mX6_rightToken := ⟨gw 897 rfl rfl, gw 898 rfl rfl⟩
abbrev mX6_sumOf : Md := (yX6_sumOf, cX6_sumOf, 5, (some .int))
set_option maxRecDepth 20000 in
theorem miX6_sumOf : MI mX6_sumOf 2 := ⟨gw 828 rfl rfl, gw 3 rfl rfl, ⟨by decide, by decide, by decide +kernel⟩, by decide⟩
set_option maxRecDepth 20000 in
theorem mvX6_sumOf : MV mX6_sumOf := ⟨gw 826 rfl rfl, gw 827 rfl rfl⟩
abbrev mX7_init : Md := (yX7_init, cX7_init, 1, none)
set_option maxRecDepth 20000 in
theorem miX7_init : MI mX7_init 0 := ⟨gw 258 rfl rfl, gw 11 rfl rfl, ⟨by decide, by decide, by decide +kernel⟩, by decide⟩
set_option maxRecDepth 20000 in
theorem mvX7_init : Cond.instanceMethod yX7_init ∈ lw_good := gw 257 rfl rfl
abbrev mX7_begin : Md := (yX7_begin, cX7_begin, 3, none)
set_option maxRecDepth 20000 in
theorem miX7_begin : MI mX7_begin 1 := ⟨gw 734 rfl rfl, gw 11 rfl rfl, ⟨by decide, by decide, by decide +kernel⟩, by decide⟩
set_option maxRecDepth 20000 in
theorem mvX7_begin : MV mX7_begin := ⟨gw 732 rfl rfl, gw 733 rfl rfl⟩
abbrev mX7_copyFrom : Md := (yX7_copyFrom, cX7_copyFrom, 2, none)
set_option maxRecDepth 20000 in
theorem miX7_copyFrom : MI mX7_copyFrom 1 := ⟨gw 852 rfl rfl, gw 11 rfl rfl, ⟨by decide, by decide, by decide +kernel⟩, by decide⟩
set_option maxRecDepth 20000 in
theorem mvX7_copyFrom : MV mX7_copyFrom := ⟨gw 850 rfl rfl, gw 851 rfl rfl⟩
abbrev mX7_arrive : Md := (yX7_arrive, cX7_arrive, 4, none)
set_option maxRecDepth 20000 in
theorem miX7_arrive : MI mX7_arrive 3 := ⟨gw 926 rfl rfl, gw 11 rfl rfl, ⟨by decide, by decide, by decide +kernel⟩, by decide⟩
set_option maxRecDepth 20000 in
theorem mvX7_arrive : MV mX7_arrive := ⟨gw 924 rfl rfl, gw 925 rfl rfl⟩
abbrev mX7_take : Md := (yX7_take, cX7_take, 5, (some .int))
set_option maxRecDepth 20000 in
theorem miX7_take : MI mX7_take 2 := ⟨gw 930 rfl rfl, gw 11 rfl rfl, ⟨by decide, by decide, by decide +kernel⟩, by decide⟩
set_option maxRecDepth 20000 in
theorem mvX7_take : MV mX7_take := ⟨gw 929 rfl rfl, gwp 37 rfl rfl⟩
abbrev mX7_missing : Md := (yX7_missing, cX7_missing, 2, (some .int))
set_option maxRecDepth 20000 in
theorem miX7_missing : MI mX7_missing 0 := ⟨gw 934 rfl rfl, gw 11 rfl rfl, ⟨by decide, by decide, by decide +kernel⟩, by decide⟩
set_option maxRecDepth 20000 in
theorem mvX7_missing : MV mX7_missing := ⟨gw 932 rfl rfl, gw 933 rfl rfl⟩
abbrev mX8_init : Md := (yX8_init, cX8_init, 1, none)
set_option maxRecDepth 20000 in
theorem miX8_init : MI mX8_init 0 := ⟨gw 418 rfl rfl, gw 16 rfl rfl, ⟨by decide, by decide, by decide +kernel⟩, by decide⟩
set_option maxRecDepth 20000 in
theorem mvX8_init : Cond.instanceMethod yX8_init ∈ lw_good := gw 417 rfl rfl
abbrev mX8_begin : Md := (yX8_begin, cX8_begin, 2, none)
set_option maxRecDepth 20000 in
theorem miX8_begin : MI mX8_begin 1 := ⟨gw 742 rfl rfl, gw 16 rfl rfl, ⟨by decide, by decide, by decide +kernel⟩, by decide⟩
set_option maxRecDepth 20000 in
theorem mvX8_begin : MV mX8_begin := ⟨gw 740 rfl rfl, gw 741 rfl rfl⟩
abbrev mX8_copyFrom : Md := (yX8_copyFrom, cX8_copyFrom, 2, none)
set_option maxRecDepth 20000 in
theorem miX8_copyFrom : MI mX8_copyFrom 1 := ⟨gw 879 rfl rfl, gw 16 rfl rfl, ⟨by decide, by decide, by decide +kernel⟩, by decide⟩
set_option maxRecDepth 20000 in
theorem mvX8_copyFrom : MV mX8_copyFrom := ⟨gw 877 rfl rfl, gw 878 rfl rfl⟩
abbrev mX8_isNew : Md := (yX8_isNew, cX8_isNew, 1, (some .boolean))
set_option maxRecDepth 20000 in
theorem miX8_isNew : MI mX8_isNew 0 := ⟨gw 895 rfl rfl, gw 16 rfl rfl, ⟨by decide, by decide, by decide +kernel⟩, by decide⟩
set_option maxRecDepth 20000 in
theorem mvX8_isNew : MV mX8_isNew := ⟨gw 893 rfl rfl, gw 894 rfl rfl⟩
abbrev mX8_isAlive : Md := (yX8_isAlive, cX8_isAlive, 1, (some .boolean))
set_option maxRecDepth 20000 in
theorem miX8_isAlive : MI mX8_isAlive 0 := ⟨gw 766 rfl rfl, gw 16 rfl rfl, ⟨by decide, by decide, by decide +kernel⟩, by decide⟩
set_option maxRecDepth 20000 in
theorem mvX8_isAlive : MV mX8_isAlive := ⟨gw 764 rfl rfl, gw 765 rfl rfl⟩
abbrev mX8_hasRoom : Md := (yX8_hasRoom, cX8_hasRoom, 1, (some .boolean))
set_option maxRecDepth 20000 in
theorem miX8_hasRoom : MI mX8_hasRoom 0 := ⟨gw 1017 rfl rfl, gw 16 rfl rfl, ⟨by decide, by decide, by decide +kernel⟩, by decide⟩
set_option maxRecDepth 20000 in
theorem mvX8_hasRoom : MV mX8_hasRoom := ⟨gw 1015 rfl rfl, gw 1016 rfl rfl⟩
abbrev mX8_enter : Md := (yX8_enter, cX8_enter, 1, none)
set_option maxRecDepth 20000 in
theorem miX8_enter : MI mX8_enter 0 := ⟨gw 746 rfl rfl, gw 16 rfl rfl, ⟨by decide, by decide, by decide +kernel⟩, by decide⟩
set_option maxRecDepth 20000 in
theorem mvX8_enter : MV mX8_enter := ⟨gw 744 rfl rfl, gw 745 rfl rfl⟩
abbrev mX8_grow : Md := (yX8_grow, cX8_grow, 2, none)
set_option maxRecDepth 20000 in
theorem miX8_grow : MI mX8_grow 1 := ⟨gw 916 rfl rfl, gw 16 rfl rfl, ⟨by decide, by decide, by decide +kernel⟩, by decide⟩
set_option maxRecDepth 20000 in
theorem mvX8_grow : MV mX8_grow := ⟨gw 914 rfl rfl, gw 915 rfl rfl⟩
abbrev mX8_halve : Md := (yX8_halve, cX8_halve, 1, none)
set_option maxRecDepth 20000 in
theorem miX8_halve : MI mX8_halve 0 := ⟨gw 992 rfl rfl, gw 16 rfl rfl, ⟨by decide, by decide, by decide +kernel⟩, by decide⟩
set_option maxRecDepth 20000 in
theorem mvX8_halve : MV mX8_halve := ⟨gw 990 rfl rfl, gw 991 rfl rfl⟩
abbrev mX9_init : Md := (yX9_init, cX9_init, 8, none)
set_option maxRecDepth 20000 in
theorem miX9_init : MI mX9_init 2 := ⟨gw 146 rfl rfl, gw 5 rfl rfl, ⟨by decide, by decide, by decide +kernel⟩, by decide⟩
set_option maxRecDepth 20000 in
theorem mvX9_init : Cond.instanceMethod yX9_init ∈ lw_good := gw 145 rfl rfl
abbrev mX9_letterOf : Md := (yX9_letterOf, cX9_letterOf, 2, (some .int))
set_option maxRecDepth 20000 in
theorem miX9_letterOf : MI mX9_letterOf 2 := ⟨gw 785 rfl rfl, gw 5 rfl rfl, ⟨by decide, by decide, by decide +kernel⟩, by decide⟩
set_option maxRecDepth 20000 in
theorem mvX9_letterOf : Cond.static yX9_letterOf ∈ lw_good := gw 784 rfl rfl
abbrev mX9_readText : Md := (yX9_readText, cX9_readText, 4, none)
set_option maxRecDepth 20000 in
theorem miX9_readText : MI mX9_readText 2 := ⟨gw 598 rfl rfl, gw 5 rfl rfl, ⟨by decide, by decide, by decide +kernel⟩, by decide⟩
set_option maxRecDepth 20000 in
theorem mvX9_readText : MV mX9_readText := ⟨gw 596 rfl rfl, gw 597 rfl rfl⟩
abbrev mX9_blame : Md := (yX9_blame, cX9_blame, 3, none)
set_option maxRecDepth 20000 in
theorem miX9_blame : MI mX9_blame 2 := ⟨gw 646 rfl rfl, gw 5 rfl rfl, ⟨by decide, by decide, by decide +kernel⟩, by decide⟩
set_option maxRecDepth 20000 in
theorem mvX9_blame : MV mX9_blame := ⟨gw 645 rfl rfl, gwp 12 rfl rfl⟩
abbrev mX9_blameHere : Md := (yX9_blameHere, cX9_blameHere, 1, none)
set_option maxRecDepth 20000 in
theorem miX9_blameHere : MI mX9_blameHere 0 := ⟨gw 642 rfl rfl, gw 5 rfl rfl, ⟨by decide, by decide, by decide +kernel⟩, by decide⟩
set_option maxRecDepth 20000 in
theorem mvX9_blameHere : MV mX9_blameHere := ⟨gw 641 rfl rfl, gwp 11 rfl rfl⟩
abbrev mX9_advance : Md := (yX9_advance, cX9_advance, 3, none)
set_option maxRecDepth 20000 in
theorem miX9_advance : MI mX9_advance 0 := ⟨gw 606 rfl rfl, gw 5 rfl rfl, ⟨by decide, by decide, by decide +kernel⟩, by decide⟩
set_option maxRecDepth 20000 in
theorem mvX9_advance : MV mX9_advance := ⟨gw 605 rfl rfl, gwp 2 rfl rfl⟩
abbrev mX9_isLetter : Md := (yX9_isLetter, cX9_isLetter, 2, (some .boolean))
set_option maxRecDepth 20000 in
theorem miX9_isLetter : MI mX9_isLetter 1 := ⟨gw 610 rfl rfl, gw 5 rfl rfl, ⟨by decide, by decide, by decide +kernel⟩, by decide⟩
set_option maxRecDepth 20000 in
theorem mvX9_isLetter : MV mX9_isLetter := ⟨gw 609 rfl rfl, gwp 3 rfl rfl⟩
abbrev mX9_isDigit : Md := (yX9_isDigit, cX9_isDigit, 2, (some .boolean))
set_option maxRecDepth 20000 in
theorem miX9_isDigit : MI mX9_isDigit 1 := ⟨gw 618 rfl rfl, gw 5 rfl rfl, ⟨by decide, by decide, by decide +kernel⟩, by decide⟩
set_option maxRecDepth 20000 in
theorem mvX9_isDigit : MV mX9_isDigit := ⟨gw 617 rfl rfl, gwp 5 rfl rfl⟩
abbrev mX9_takeWord : Md := (yX9_takeWord, cX9_takeWord, 4, none)
set_option maxRecDepth 20000 in
theorem miX9_takeWord : MI mX9_takeWord 0 := ⟨gw 614 rfl rfl, gw 5 rfl rfl, ⟨by decide, by decide, by decide +kernel⟩, by decide⟩
set_option maxRecDepth 20000 in
theorem mvX9_takeWord : MV mX9_takeWord := ⟨gw 613 rfl rfl, gwp 4 rfl rfl⟩
abbrev mX9_takeNumber : Md := (yX9_takeNumber, cX9_takeNumber, 2, none)
set_option maxRecDepth 20000 in
theorem miX9_takeNumber : MI mX9_takeNumber 0 := ⟨gw 622 rfl rfl, gw 5 rfl rfl, ⟨by decide, by decide, by decide +kernel⟩, by decide⟩
set_option maxRecDepth 20000 in
theorem mvX9_takeNumber : MV mX9_takeNumber := ⟨gw 621 rfl rfl, gwp 6 rfl rfl⟩
abbrev mX9_isWord : Md := (yX9_isWord, cX9_isWord, 2, (some .boolean))
set_option maxRecDepth 20000 in
theorem miX9_isWord : MI mX9_isWord 1 := ⟨gw 638 rfl rfl, gw 5 rfl rfl, ⟨by decide, by decide, by decide +kernel⟩, by decide⟩
set_option maxRecDepth 20000 in
theorem mvX9_isWord : MV mX9_isWord := ⟨gw 637 rfl rfl, gwp 10 rfl rfl⟩
abbrev mX9_isSign : Md := (yX9_isSign, cX9_isSign, 2, (some .boolean))
set_option maxRecDepth 20000 in
theorem miX9_isSign : MI mX9_isSign 1 := ⟨gw 698 rfl rfl, gw 5 rfl rfl, ⟨by decide, by decide, by decide +kernel⟩, by decide⟩
set_option maxRecDepth 20000 in
theorem mvX9_isSign : MV mX9_isSign := ⟨gw 697 rfl rfl, gwp 22 rfl rfl⟩
abbrev mX9_expectWord : Md := (yX9_expectWord, cX9_expectWord, 2, none)
set_option maxRecDepth 20000 in
theorem miX9_expectWord : MI mX9_expectWord 1 := ⟨gw 634 rfl rfl, gw 5 rfl rfl, ⟨by decide, by decide, by decide +kernel⟩, by decide⟩
set_option maxRecDepth 20000 in
theorem mvX9_expectWord : MV mX9_expectWord := ⟨gw 633 rfl rfl, gwp 9 rfl rfl⟩
abbrev mX9_expectSign : Md := (yX9_expectSign, cX9_expectSign, 2, none)
set_option maxRecDepth 20000 in
theorem miX9_expectSign : MI mX9_expectSign 1 := ⟨gw 702 rfl rfl, gw 5 rfl rfl, ⟨by decide, by decide, by decide +kernel⟩, by decide⟩
set_option maxRecDepth 20000 in
theorem mvX9_expectSign : MV mX9_expectSign := ⟨gw 701 rfl rfl, gwp 23 rfl rfl⟩
abbrev mX9_expectNumber : Md := (yX9_expectNumber, cX9_expectNumber, 4, (some .int))
set_option maxRecDepth 20000 in
theorem miX9_expectNumber : MI mX9_expectNumber 2 := ⟨gw 650 rfl rfl, gw 5 rfl rfl, ⟨by decide, by decide, by decide +kernel⟩, by decide⟩
set_option maxRecDepth 20000 in
theorem mvX9_expectNumber : MV mX9_expectNumber := ⟨gw 649 rfl rfl, gwp 13 rfl rfl⟩
abbrev mX9_readStatement : Md := (yX9_readStatement, cX9_readStatement, 2, none)
set_option maxRecDepth 20000 in
theorem miX9_readStatement : MI mX9_readStatement 1 := ⟨gw 626 rfl rfl, gw 5 rfl rfl, ⟨by decide, by decide, by decide +kernel⟩, by decide⟩
set_option maxRecDepth 20000 in
theorem mvX9_readStatement : MV mX9_readStatement := ⟨gw 625 rfl rfl, gwp 7 rfl rfl⟩
abbrev mX9_readStream : Md := (yX9_readStream, cX9_readStream, 1, none)
set_option maxRecDepth 20000 in
theorem miX9_readStream : MI mX9_readStream 0 := ⟨gw 630 rfl rfl, gw 5 rfl rfl, ⟨by decide, by decide, by decide +kernel⟩, by decide⟩
set_option maxRecDepth 20000 in
theorem mvX9_readStream : MV mX9_readStream := ⟨gw 629 rfl rfl, gwp 8 rfl rfl⟩
abbrev mX9_readPath : Md := (yX9_readPath, cX9_readPath, 3, none)
set_option maxRecDepth 20000 in
theorem miX9_readPath : MI mX9_readPath 0 := ⟨gw 654 rfl rfl, gw 5 rfl rfl, ⟨by decide, by decide, by decide +kernel⟩, by decide⟩
set_option maxRecDepth 20000 in
theorem mvX9_readPath : MV mX9_readPath := ⟨gw 653 rfl rfl, gwp 14 rfl rfl⟩
abbrev mX9_expectName : Md := (yX9_expectName, cX9_expectName, 1, none)
set_option maxRecDepth 20000 in
theorem miX9_expectName : MI mX9_expectName 0 := ⟨gw 658 rfl rfl, gw 5 rfl rfl, ⟨by decide, by decide, by decide +kernel⟩, by decide⟩
set_option maxRecDepth 20000 in
theorem mvX9_expectName : MV mX9_expectName := ⟨gw 657 rfl rfl, gwp 15 rfl rfl⟩
abbrev mX9_readJoin : Md := (yX9_readJoin, cX9_readJoin, 3, none)
set_option maxRecDepth 20000 in
theorem miX9_readJoin : MI mX9_readJoin 0 := ⟨gw 666 rfl rfl, gw 5 rfl rfl, ⟨by decide, by decide, by decide +kernel⟩, by decide⟩
set_option maxRecDepth 20000 in
theorem mvX9_readJoin : MV mX9_readJoin := ⟨gw 665 rfl rfl, gwp 16 rfl rfl⟩
abbrev mX9_readFormula : Md := (yX9_readFormula, cX9_readFormula, 2, none)
set_option maxRecDepth 20000 in
theorem miX9_readFormula : MI mX9_readFormula 1 := ⟨gw 670 rfl rfl, gw 5 rfl rfl, ⟨by decide, by decide, by decide +kernel⟩, by decide⟩
set_option maxRecDepth 20000 in
theorem mvX9_readFormula : MV mX9_readFormula := ⟨gw 669 rfl rfl, gwp 17 rfl rfl⟩
abbrev mX9_openSign : Md := (yX9_openSign, cX9_openSign, 1, none)
set_option maxRecDepth 20000 in
theorem miX9_openSign : MI mX9_openSign 0 := ⟨gw 690 rfl rfl, gw 5 rfl rfl, ⟨by decide, by decide, by decide +kernel⟩, by decide⟩
set_option maxRecDepth 20000 in
theorem mvX9_openSign : MV mX9_openSign := ⟨gw 689 rfl rfl, gwp 21 rfl rfl⟩
abbrev mX9_readTest : Md := (yX9_readTest, cX9_readTest, 2, none)
set_option maxRecDepth 20000 in
theorem miX9_readTest : MI mX9_readTest 0 := ⟨gw 678 rfl rfl, gw 5 rfl rfl, ⟨by decide, by decide, by decide +kernel⟩, by decide⟩
set_option maxRecDepth 20000 in
theorem mvX9_readTest : MV mX9_readTest := ⟨gw 677 rfl rfl, gwp 18 rfl rfl⟩
abbrev mX9_readBoth : Md := (yX9_readBoth, cX9_readBoth, 2, none)
set_option maxRecDepth 20000 in
theorem miX9_readBoth : MI mX9_readBoth 0 := ⟨gw 682 rfl rfl, gw 5 rfl rfl, ⟨by decide, by decide, by decide +kernel⟩, by decide⟩
set_option maxRecDepth 20000 in
theorem mvX9_readBoth : MV mX9_readBoth := ⟨gw 681 rfl rfl, gwp 19 rfl rfl⟩
abbrev mX9_readFact : Md := (yX9_readFact, cX9_readFact, 2, none)
set_option maxRecDepth 20000 in
theorem miX9_readFact : MI mX9_readFact 0 := ⟨gw 686 rfl rfl, gw 5 rfl rfl, ⟨by decide, by decide, by decide +kernel⟩, by decide⟩
set_option maxRecDepth 20000 in
theorem mvX9_readFact : MV mX9_readFact := ⟨gw 685 rfl rfl, gwp 20 rfl rfl⟩
abbrev mX9_readSum : Md := (yX9_readSum, cX9_readSum, 3, none)
set_option maxRecDepth 20000 in
theorem miX9_readSum : MI mX9_readSum 0 := ⟨gw 706 rfl rfl, gw 5 rfl rfl, ⟨by decide, by decide, by decide +kernel⟩, by decide⟩
set_option maxRecDepth 20000 in
theorem mvX9_readSum : MV mX9_readSum := ⟨gw 705 rfl rfl, gwp 24 rfl rfl⟩
abbrev mX9_readProduct : Md := (yX9_readProduct, cX9_readProduct, 3, none)
set_option maxRecDepth 20000 in
theorem miX9_readProduct : MI mX9_readProduct 0 := ⟨gw 710 rfl rfl, gw 5 rfl rfl, ⟨by decide, by decide, by decide +kernel⟩, by decide⟩
set_option maxRecDepth 20000 in
theorem mvX9_readProduct : MV mX9_readProduct := ⟨gw 709 rfl rfl, gwp 25 rfl rfl⟩
abbrev mX9_readPart : Md := (yX9_readPart, cX9_readPart, 2, none)
set_option maxRecDepth 20000 in
theorem miX9_readPart : MI mX9_readPart 0 := ⟨gw 714 rfl rfl, gw 5 rfl rfl, ⟨by decide, by decide, by decide +kernel⟩, by decide⟩
set_option maxRecDepth 20000 in
theorem mvX9_readPart : MV mX9_readPart := ⟨gw 713 rfl rfl, gwp 26 rfl rfl⟩
abbrev mX9_readChoice : Md := (yX9_readChoice, cX9_readChoice, 1, none)
set_option maxRecDepth 20000 in
theorem miX9_readChoice : MI mX9_readChoice 0 := ⟨gw 718 rfl rfl, gw 5 rfl rfl, ⟨by decide, by decide, by decide +kernel⟩, by decide⟩
set_option maxRecDepth 20000 in
theorem mvX9_readChoice : MV mX9_readChoice := ⟨gw 717 rfl rfl, gwp 27 rfl rfl⟩
abbrev mX9_readPair : Md := (yX9_readPair, cX9_readPair, 2, none)
set_option maxRecDepth 20000 in
theorem miX9_readPair : MI mX9_readPair 1 := ⟨gw 722 rfl rfl, gw 5 rfl rfl, ⟨by decide, by decide, by decide +kernel⟩, by decide⟩
set_option maxRecDepth 20000 in
theorem mvX9_readPair : MV mX9_readPair := ⟨gw 721 rfl rfl, gwp 28 rfl rfl⟩
abbrev mX9_factOf : Md := (yX9_factOf, cX9_factOf, 2, (some .int))
set_option maxRecDepth 20000 in
theorem miX9_factOf : MI mX9_factOf 1 := ⟨gw 726 rfl rfl, gw 5 rfl rfl, ⟨by decide, by decide, by decide +kernel⟩, by decide⟩
set_option maxRecDepth 20000 in
theorem mvX9_factOf : MV mX9_factOf := ⟨gw 725 rfl rfl, gwp 29 rfl rfl⟩
abbrev mX10_init : Md := (yX10_init, cX10_init, 3, none)
set_option maxRecDepth 20000 in
theorem miX10_init : MI mX10_init 1 := ⟨gw 250 rfl rfl, gw 10 rfl rfl, ⟨by decide, by decide, by decide +kernel⟩, by decide⟩
set_option maxRecDepth 20000 in
theorem mvX10_init : Cond.instanceMethod yX10_init ∈ lw_good := gw 249 rfl rfl
abbrev mX10_begin : Md := (yX10_begin, cX10_begin, 3, none)
set_option maxRecDepth 20000 in
theorem miX10_begin : MI mX10_begin 1 := ⟨gw 730 rfl rfl, gw 10 rfl rfl, ⟨by decide, by decide, by decide +kernel⟩, by decide⟩
set_option maxRecDepth 20000 in
theorem mvX10_begin : MV mX10_begin := ⟨gw 728 rfl rfl, gw 729 rfl rfl⟩
abbrev mX10_copyFrom : Md := (yX10_copyFrom, cX10_copyFrom, 3, none)
set_option maxRecDepth 20000 in
theorem miX10_copyFrom : MI mX10_copyFrom 1 := ⟨gw 848 rfl rfl, gw 10 rfl rfl, ⟨by decide, by decide, by decide +kernel⟩, by decide⟩
set_option maxRecDepth 20000 in
theorem mvX10_copyFrom : MV mX10_copyFrom := ⟨gw 846 rfl rfl, gw 847 rfl rfl⟩
abbrev mX10_isFinished : Md := (yX10_isFinished, cX10_isFinished, 1, (some .boolean))
set_option maxRecDepth 20000 in
theorem miX10_isFinished : MI mX10_isFinished 0 := ⟨gw 1057 rfl rfl, gw 10 rfl rfl, ⟨by decide, by decide, by decide +kernel⟩, by decide⟩
set_option maxRecDepth 20000 in
theorem mvX10_isFinished : MV mX10_isFinished := ⟨gw 1055 rfl rfl, gw 1056 rfl rfl⟩
abbrev mX10_alive : Md := (yX10_alive, cX10_alive, 3, (some .int))
set_option maxRecDepth 20000 in
theorem miX10_alive : MI mX10_alive 0 := ⟨gw 762 rfl rfl, gw 10 rfl rfl, ⟨by decide, by decide, by decide +kernel⟩, by decide⟩
set_option maxRecDepth 20000 in
theorem mvX10_alive : MV mX10_alive := ⟨gw 760 rfl rfl, gw 761 rfl rfl⟩
abbrev mX10_flying : Md := (yX10_flying, cX10_flying, 3, (some .int))
set_option maxRecDepth 20000 in
theorem miX10_flying : MI mX10_flying 0 := ⟨gw 770 rfl rfl, gw 10 rfl rfl, ⟨by decide, by decide, by decide +kernel⟩, by decide⟩
set_option maxRecDepth 20000 in
theorem mvX10_flying : MV mX10_flying := ⟨gw 768 rfl rfl, gw 769 rfl rfl⟩
abbrev mX10_waitOn : Md := (yX10_waitOn, cX10_waitOn, 4, (some .int))
set_option maxRecDepth 20000 in
theorem miX10_waitOn : MI mX10_waitOn 1 := ⟨gw 793 rfl rfl, gw 10 rfl rfl, ⟨by decide, by decide, by decide +kernel⟩, by decide⟩
set_option maxRecDepth 20000 in
theorem mvX10_waitOn : MV mX10_waitOn := ⟨gw 791 rfl rfl, gw 792 rfl rfl⟩
abbrev mX10_tryToken : Md := (yX10_tryToken, cX10_tryToken, 3, (some .boolean))
set_option maxRecDepth 20000 in
theorem miX10_tryToken : MI mX10_tryToken 2 := ⟨gw 891 rfl rfl, gw 10 rfl rfl, ⟨by decide, by decide, by decide +kernel⟩, by decide⟩
set_option maxRecDepth 20000 in
theorem mvX10_tryToken : MV mX10_tryToken := ⟨gw 889 rfl rfl, gw 890 rfl rfl⟩
abbrev mX10_bury : Md := (yX10_bury, cX10_bury, 4, none)
set_option maxRecDepth 20000 in
theorem miX10_bury : MI mX10_bury 1 := ⟨gw 962 rfl rfl, gw 10 rfl rfl, ⟨by decide, by decide, by decide +kernel⟩, by decide⟩
set_option maxRecDepth 20000 in
theorem mvX10_bury : MV mX10_bury := ⟨gw 960 rfl rfl, gw 961 rfl rfl⟩
abbrev mX10_sendAgain : Md := (yX10_sendAgain, cX10_sendAgain, 2, none)
set_option maxRecDepth 20000 in
theorem miX10_sendAgain : MI mX10_sendAgain 1 := ⟨gw 971 rfl rfl, gw 10 rfl rfl, ⟨by decide, by decide, by decide +kernel⟩, by decide⟩
set_option maxRecDepth 20000 in
theorem mvX10_sendAgain : MV mX10_sendAgain := ⟨gw 970 rfl rfl, gwp 43 rfl rfl⟩
abbrev mX10_step : Md := (yX10_step, cX10_step, 3, none)
set_option maxRecDepth 20000 in
theorem miX10_step : MI mX10_step 1 := ⟨gw 883 rfl rfl, gw 10 rfl rfl, ⟨by decide, by decide, by decide +kernel⟩, by decide⟩
set_option maxRecDepth 20000 in
theorem mvX10_step : MV mX10_step := ⟨gw 881 rfl rfl, gw 882 rfl rfl⟩
abbrev mX10_joinTold : Md := (yX10_joinTold, cX10_joinTold, 2, none)
set_option maxRecDepth 20000 in
theorem miX10_joinTold : MI mX10_joinTold 0 := ⟨gw 887 rfl rfl, gw 10 rfl rfl, ⟨by decide, by decide, by decide +kernel⟩, by decide⟩
set_option maxRecDepth 20000 in
theorem mvX10_joinTold : MV mX10_joinTold := ⟨gw 886 rfl rfl, gwp 33 rfl rfl⟩
abbrev mX10_hearAnswers : Md := (yX10_hearAnswers, cX10_hearAnswers, 3, none)
set_option maxRecDepth 20000 in
theorem miX10_hearAnswers : MI mX10_hearAnswers 0 := ⟨gw 903 rfl rfl, gw 10 rfl rfl, ⟨by decide, by decide, by decide +kernel⟩, by decide⟩
set_option maxRecDepth 20000 in
theorem mvX10_hearAnswers : MV mX10_hearAnswers := ⟨gw 902 rfl rfl, gwp 34 rfl rfl⟩
abbrev mX10_settle : Md := (yX10_settle, cX10_settle, 5, none)
set_option maxRecDepth 20000 in
theorem miX10_settle : MI mX10_settle 1 := ⟨gw 911 rfl rfl, gw 10 rfl rfl, ⟨by decide, by decide, by decide +kernel⟩, by decide⟩
set_option maxRecDepth 20000 in
theorem mvX10_settle : MV mX10_settle := ⟨gw 910 rfl rfl, gwp 35 rfl rfl⟩
abbrev mX10_receive : Md := (yX10_receive, cX10_receive, 5, none)
set_option maxRecDepth 20000 in
theorem miX10_receive : MI mX10_receive 0 := ⟨gw 922 rfl rfl, gw 10 rfl rfl, ⟨by decide, by decide, by decide +kernel⟩, by decide⟩
set_option maxRecDepth 20000 in
theorem mvX10_receive : MV mX10_receive := ⟨gw 921 rfl rfl, gwp 36 rfl rfl⟩
abbrev mX10_answerRight : Md := (yX10_answerRight, cX10_answerRight, 3, none)
set_option maxRecDepth 20000 in
theorem miX10_answerRight : MI mX10_answerRight 1 := ⟨gw 942 rfl rfl, gw 10 rfl rfl, ⟨by decide, by decide, by decide +kernel⟩, by decide⟩
set_option maxRecDepth 20000 in
theorem mvX10_answerRight : MV mX10_answerRight := ⟨gw 941 rfl rfl, gwp 39 rfl rfl⟩
abbrev mX10_buryWrong : Md := (yX10_buryWrong, cX10_buryWrong, 2, none)
set_option maxRecDepth 20000 in
theorem miX10_buryWrong : MI mX10_buryWrong 0 := ⟨gw 958 rfl rfl, gw 10 rfl rfl, ⟨by decide, by decide, by decide +kernel⟩, by decide⟩
set_option maxRecDepth 20000 in
theorem mvX10_buryWrong : MV mX10_buryWrong := ⟨gw 957 rfl rfl, gwp 42 rfl rfl⟩
abbrev mX10_amountToRead : Md := (yX10_amountToRead, cX10_amountToRead, 3, (some .int))
set_option maxRecDepth 20000 in
theorem miX10_amountToRead : MI mX10_amountToRead 1 := ⟨gw 938 rfl rfl, gw 10 rfl rfl, ⟨by decide, by decide, by decide +kernel⟩, by decide⟩
set_option maxRecDepth 20000 in
theorem mvX10_amountToRead : MV mX10_amountToRead := ⟨gw 937 rfl rfl, gwp 38 rfl rfl⟩
abbrev mX10_answer : Md := (yX10_answer, cX10_answer, 5, none)
set_option maxRecDepth 20000 in
theorem miX10_answer : MI mX10_answer 3 := ⟨gw 946 rfl rfl, gw 10 rfl rfl, ⟨by decide, by decide, by decide +kernel⟩, by decide⟩
set_option maxRecDepth 20000 in
theorem mvX10_answer : MV mX10_answer := ⟨gw 945 rfl rfl, gwp 40 rfl rfl⟩
abbrev mX10_answerOnFirst : Md := (yX10_answerOnFirst, cX10_answerOnFirst, 3, none)
set_option maxRecDepth 20000 in
theorem miX10_answerOnFirst : MI mX10_answerOnFirst 1 := ⟨gw 954 rfl rfl, gw 10 rfl rfl, ⟨by decide, by decide, by decide +kernel⟩, by decide⟩
set_option maxRecDepth 20000 in
theorem mvX10_answerOnFirst : MV mX10_answerOnFirst := ⟨gw 953 rfl rfl, gwp 41 rfl rfl⟩
abbrev mX10_failLate : Md := (yX10_failLate, cX10_failLate, 4, none)
set_option maxRecDepth 20000 in
theorem miX10_failLate : MI mX10_failLate 1 := ⟨gw 983 rfl rfl, gw 10 rfl rfl, ⟨by decide, by decide, by decide +kernel⟩, by decide⟩
set_option maxRecDepth 20000 in
theorem mvX10_failLate : MV mX10_failLate := ⟨gw 982 rfl rfl, gwp 44 rfl rfl⟩
abbrev mX10_sendPieces : Md := (yX10_sendPieces, cX10_sendPieces, 6, (some .boolean))
set_option maxRecDepth 20000 in
theorem miX10_sendPieces : MI mX10_sendPieces 1 := ⟨gw 1005 rfl rfl, gw 10 rfl rfl, ⟨by decide, by decide, by decide +kernel⟩, by decide⟩
set_option maxRecDepth 20000 in
theorem mvX10_sendPieces : MV mX10_sendPieces := ⟨gw 1004 rfl rfl, gwp 46 rfl rfl⟩
abbrev mX10_penalise : Md := (yX10_penalise, cX10_penalise, 5, none)
set_option maxRecDepth 20000 in
theorem miX10_penalise : MI mX10_penalise 1 := ⟨gw 1041 rfl rfl, gw 10 rfl rfl, ⟨by decide, by decide, by decide +kernel⟩, by decide⟩
set_option maxRecDepth 20000 in
theorem mvX10_penalise : MV mX10_penalise := ⟨gw 1040 rfl rfl, gwp 49 rfl rfl⟩
abbrev mX10_pick : Md := (yX10_pick, cX10_pick, 7, (some .int))
set_option maxRecDepth 20000 in
theorem miX10_pick : MI mX10_pick 1 := ⟨gw 1013 rfl rfl, gw 10 rfl rfl, ⟨by decide, by decide, by decide +kernel⟩, by decide⟩
set_option maxRecDepth 20000 in
theorem mvX10_pick : MV mX10_pick := ⟨gw 1012 rfl rfl, gwp 47 rfl rfl⟩
abbrev mX10_send : Md := (yX10_send, cX10_send, 8, none)
set_option maxRecDepth 20000 in
theorem miX10_send : MI mX10_send 4 := ⟨gw 1022 rfl rfl, gw 10 rfl rfl, ⟨by decide, by decide, by decide +kernel⟩, by decide⟩
set_option maxRecDepth 20000 in
theorem mvX10_send : MV mX10_send := ⟨gw 1021 rfl rfl, gwp 48 rfl rfl⟩
abbrev mX11_init : Md := (yX11_init, cX11_init, 1, none)
set_option maxRecDepth 20000 in
theorem miX11_init : MI mX11_init 0 := ⟨gw 24 rfl rfl, gw 1 rfl rfl, ⟨by decide, by decide, by decide +kernel⟩, by decide⟩
set_option maxRecDepth 20000 in
theorem mvX11_init : Cond.instanceMethod yX11_init ∈ lw_good := gw 23 rfl rfl
abbrev mX11_feed : Md := (yX11_feed, cX11_feed, 6, (some .int))
set_option maxRecDepth 20000 in
theorem miX11_feed : MI mX11_feed 5 := ⟨gw 578 rfl rfl, gw 1 rfl rfl, ⟨by decide, by decide, by decide +kernel⟩, by decide⟩
set_option maxRecDepth 20000 in
theorem mvX11_feed : MV mX11_feed := ⟨gw 576 rfl rfl, gw 577 rfl rfl⟩
abbrev mX11_putNumber : Md := (yX11_putNumber, cX11_putNumber, 3, none)
set_option maxRecDepth 20000 in
theorem miX11_putNumber : MI mX11_putNumber 1 := ⟨gw 586 rfl rfl, gw 1 rfl rfl, ⟨by decide, by decide, by decide +kernel⟩, by decide⟩
set_option maxRecDepth 20000 in
theorem mvX11_putNumber : MV mX11_putNumber := ⟨gw 585 rfl rfl, gwp 1 rfl rfl⟩
abbrev mX11_end : Md := (yX11_end, cX11_end, 2, (some .boolean))
set_option maxRecDepth 20000 in
theorem miX11_end : MI mX11_end 1 := ⟨gw 590 rfl rfl, gw 1 rfl rfl, ⟨by decide, by decide, by decide +kernel⟩, by decide⟩
set_option maxRecDepth 20000 in
theorem mvX11_end : MV mX11_end := ⟨gw 588 rfl rfl, gw 589 rfl rfl⟩
abbrev mX11_stream : Md := (yX11_stream, cX11_stream, 2, (some .int))
set_option maxRecDepth 20000 in
theorem miX11_stream : MI mX11_stream 0 := ⟨gw 594 rfl rfl, gw 1 rfl rfl, ⟨by decide, by decide, by decide +kernel⟩, by decide⟩
set_option maxRecDepth 20000 in
theorem mvX11_stream : MV mX11_stream := ⟨gw 592 rfl rfl, gw 593 rfl rfl⟩
abbrev mX11_fault : Md := (yX11_fault, cX11_fault, 2, (some .int))
set_option maxRecDepth 20000 in
theorem miX11_fault : MI mX11_fault 1 := ⟨gw 750 rfl rfl, gw 1 rfl rfl, ⟨by decide, by decide, by decide +kernel⟩, by decide⟩
set_option maxRecDepth 20000 in
theorem mvX11_fault : MV mX11_fault := ⟨gw 748 rfl rfl, gw 749 rfl rfl⟩
abbrev mX11_refuse : Md := (yX11_refuse, cX11_refuse, 2, (some .int))
set_option maxRecDepth 20000 in
theorem miX11_refuse : MI mX11_refuse 1 := ⟨gw 582 rfl rfl, gw 1 rfl rfl, ⟨by decide, by decide, by decide +kernel⟩, by decide⟩
set_option maxRecDepth 20000 in
theorem mvX11_refuse : MV mX11_refuse := ⟨gw 581 rfl rfl, gwp 0 rfl rfl⟩
abbrev mX11_has : Md := (yX11_has, cX11_has, 2, (some .int))
set_option maxRecDepth 20000 in
theorem miX11_has : MI mX11_has 1 := ⟨gw 754 rfl rfl, gw 1 rfl rfl, ⟨by decide, by decide, by decide +kernel⟩, by decide⟩
set_option maxRecDepth 20000 in
theorem mvX11_has : MV mX11_has := ⟨gw 752 rfl rfl, gw 753 rfl rfl⟩
abbrev mX11_countOf : Md := (yX11_countOf, cX11_countOf, 2, (some .int))
set_option maxRecDepth 20000 in
theorem miX11_countOf : MI mX11_countOf 1 := ⟨gw 758 rfl rfl, gw 1 rfl rfl, ⟨by decide, by decide, by decide +kernel⟩, by decide⟩
set_option maxRecDepth 20000 in
theorem mvX11_countOf : MV mX11_countOf := ⟨gw 757 rfl rfl, gwp 30 rfl rfl⟩
abbrev mX11_isPath : Md := (yX11_isPath, cX11_isPath, 2, (some .boolean))
set_option maxRecDepth 20000 in
theorem miX11_isPath : MI mX11_isPath 1 := ⟨gw 782 rfl rfl, gw 1 rfl rfl, ⟨by decide, by decide, by decide +kernel⟩, by decide⟩
set_option maxRecDepth 20000 in
theorem mvX11_isPath : MV mX11_isPath := ⟨gw 781 rfl rfl, gwp 31 rfl rfl⟩
abbrev mX11_letter : Md := (yX11_letter, cX11_letter, 3, (some .int))
set_option maxRecDepth 20000 in
theorem miX11_letter : MI mX11_letter 2 := ⟨gw 778 rfl rfl, gw 1 rfl rfl, ⟨by decide, by decide, by decide +kernel⟩, by decide⟩
set_option maxRecDepth 20000 in
theorem mvX11_letter : MV mX11_letter := ⟨gw 776 rfl rfl, gw 777 rfl rfl⟩
abbrev mX11_path : Md := (yX11_path, cX11_path, 4, (some .int))
set_option maxRecDepth 20000 in
theorem miX11_path : MI mX11_path 2 := ⟨gw 789 rfl rfl, gw 1 rfl rfl, ⟨by decide, by decide, by decide +kernel⟩, by decide⟩
set_option maxRecDepth 20000 in
theorem mvX11_path : MV mX11_path := ⟨gw 787 rfl rfl, gw 788 rfl rfl⟩
abbrev mX11_segment : Md := (yX11_segment, cX11_segment, 5, (some .int))
set_option maxRecDepth 20000 in
theorem miX11_segment : MI mX11_segment 2 := ⟨gw 820 rfl rfl, gw 1 rfl rfl, ⟨by decide, by decide, by decide +kernel⟩, by decide⟩
set_option maxRecDepth 20000 in
theorem mvX11_segment : MV mX11_segment := ⟨gw 818 rfl rfl, gw 819 rfl rfl⟩
abbrev mX11_octet : Md := (yX11_octet, cX11_octet, 2, (some .int))
set_option maxRecDepth 20000 in
theorem miX11_octet : MI mX11_octet 1 := ⟨gw 832 rfl rfl, gw 1 rfl rfl, ⟨by decide, by decide, by decide +kernel⟩, by decide⟩
set_option maxRecDepth 20000 in
theorem mvX11_octet : MV mX11_octet := ⟨gw 830 rfl rfl, gw 831 rfl rfl⟩
abbrev mX11_refusals : Md := (yX11_refusals, cX11_refusals, 2, (some .int))
set_option maxRecDepth 20000 in
theorem miX11_refusals : MI mX11_refusals 1 := ⟨gw 836 rfl rfl, gw 1 rfl rfl, ⟨by decide, by decide, by decide +kernel⟩, by decide⟩
set_option maxRecDepth 20000 in
theorem mvX11_refusals : MV mX11_refusals := ⟨gw 834 rfl rfl, gw 835 rfl rfl⟩
abbrev mX11_later : Md := (yX11_later, cX11_later, 4, (some .int))
set_option maxRecDepth 20000 in
theorem miX11_later : MI mX11_later 2 := ⟨gw 840 rfl rfl, gw 1 rfl rfl, ⟨by decide, by decide, by decide +kernel⟩, by decide⟩
set_option maxRecDepth 20000 in
theorem mvX11_later : MV mX11_later := ⟨gw 838 rfl rfl, gw 839 rfl rfl⟩
abbrev mX11_canGo : Md := (yX11_canGo, cX11_canGo, 2, (some .boolean))
set_option maxRecDepth 20000 in
theorem miX11_canGo : MI mX11_canGo 1 := ⟨gw 844 rfl rfl, gw 1 rfl rfl, ⟨by decide, by decide, by decide +kernel⟩, by decide⟩
set_option maxRecDepth 20000 in
theorem mvX11_canGo : MV mX11_canGo := ⟨gw 843 rfl rfl, gwp 32 rfl rfl⟩
abbrev mX11_finish : Md := (yX11_finish, cX11_finish, 1, (some .int))
set_option maxRecDepth 20000 in
theorem miX11_finish : MI mX11_finish 0 := ⟨gw 1049 rfl rfl, gw 1 rfl rfl, ⟨by decide, by decide, by decide +kernel⟩, by decide⟩
set_option maxRecDepth 20000 in
theorem mvX11_finish : MV mX11_finish := ⟨gw 1047 rfl rfl, gw 1048 rfl rfl⟩
abbrev mX11_ticksToFinish : Md := (yX11_ticksToFinish, cX11_ticksToFinish, 3, (some .int))
set_option maxRecDepth 20000 in
theorem miX11_ticksToFinish : MI mX11_ticksToFinish 1 := ⟨gw 1053 rfl rfl, gw 1 rfl rfl, ⟨by decide, by decide, by decide +kernel⟩, by decide⟩
set_option maxRecDepth 20000 in
theorem mvX11_ticksToFinish : MV mX11_ticksToFinish := ⟨gw 1052 rfl rfl, gwp 50 rfl rfl⟩
abbrev mX11_without : Md := (yX11_without, cX11_without, 2, (some .int))
set_option maxRecDepth 20000 in
theorem miX11_without : MI mX11_without 1 := ⟨gw 1061 rfl rfl, gw 1 rfl rfl, ⟨by decide, by decide, by decide +kernel⟩, by decide⟩
set_option maxRecDepth 20000 in
theorem mvX11_without : MV mX11_without := ⟨gw 1059 rfl rfl, gw 1060 rfl rfl⟩
abbrev mX11_alone : Md := (yX11_alone, cX11_alone, 3, (some .int))
set_option maxRecDepth 20000 in
theorem miX11_alone : MI mX11_alone 1 := ⟨gw 1066 rfl rfl, gw 1 rfl rfl, ⟨by decide, by decide, by decide +kernel⟩, by decide⟩
set_option maxRecDepth 20000 in
theorem mvX11_alone : MV mX11_alone := ⟨gw 1064 rfl rfl, gw 1065 rfl rfl⟩
abbrev mX11_window : Md := (yX11_window, cX11_window, 3, (some .int))
set_option maxRecDepth 20000 in
theorem miX11_window : MI mX11_window 1 := ⟨gw 1070 rfl rfl, gw 1 rfl rfl, ⟨by decide, by decide, by decide +kernel⟩, by decide⟩
set_option maxRecDepth 20000 in
theorem mvX11_window : MV mX11_window := ⟨gw 1068 rfl rfl, gw 1069 rfl rfl⟩
abbrev mX11_odds : Md := (yX11_odds, cX11_odds, 2, (some .int))
set_option maxRecDepth 20000 in
theorem miX11_odds : MI mX11_odds 1 := ⟨gw 1074 rfl rfl, gw 1 rfl rfl, ⟨by decide, by decide, by decide +kernel⟩, by decide⟩
set_option maxRecDepth 20000 in
theorem mvX11_odds : MV mX11_odds := ⟨gw 1072 rfl rfl, gw 1073 rfl rfl⟩
abbrev mX11_meet : Md := (yX11_meet, cX11_meet, 2, (some .int))
set_option maxRecDepth 20000 in
theorem miX11_meet : MI mX11_meet 0 := ⟨gw 1078 rfl rfl, gw 1 rfl rfl, ⟨by decide, by decide, by decide +kernel⟩, by decide⟩
set_option maxRecDepth 20000 in
theorem mvX11_meet : MV mX11_meet := ⟨gw 1076 rfl rfl, gw 1077 rfl rfl⟩
abbrev mX11_isMet : Md := (yX11_isMet, cX11_isMet, 3, (some .boolean))
set_option maxRecDepth 20000 in
theorem miX11_isMet : MI mX11_isMet 1 := ⟨gw 1082 rfl rfl, gw 1 rfl rfl, ⟨by decide, by decide, by decide +kernel⟩, by decide⟩
set_option maxRecDepth 20000 in
theorem mvX11_isMet : MV mX11_isMet := ⟨gw 1081 rfl rfl, gwp 51 rfl rfl⟩
abbrev mX11_delays : Md := (yX11_delays, cX11_delays, 3, (some .int))
set_option maxRecDepth 20000 in
theorem miX11_delays : MI mX11_delays 1 := ⟨gw 1087 rfl rfl, gw 1 rfl rfl, ⟨by decide, by decide, by decide +kernel⟩, by decide⟩
set_option maxRecDepth 20000 in
theorem mvX11_delays : MV mX11_delays := ⟨gw 1085 rfl rfl, gw 1086 rfl rfl⟩
abbrev mX11_ticksComing : Md := (yX11_ticksComing, cX11_ticksComing, 2, (some .int))
set_option maxRecDepth 20000 in
theorem miX11_ticksComing : MI mX11_ticksComing 1 := ⟨gw 1096 rfl rfl, gw 1 rfl rfl, ⟨by decide, by decide, by decide +kernel⟩, by decide⟩
set_option maxRecDepth 20000 in
theorem mvX11_ticksComing : MV mX11_ticksComing := ⟨gw 1095 rfl rfl, gwp 53 rfl rfl⟩
abbrev mX11_lastMetTick : Md := (yX11_lastMetTick, cX11_lastMetTick, 3, (some .int))
set_option maxRecDepth 20000 in
theorem miX11_lastMetTick : MI mX11_lastMetTick 0 := ⟨gw 1091 rfl rfl, gw 1 rfl rfl, ⟨by decide, by decide, by decide +kernel⟩, by decide⟩
set_option maxRecDepth 20000 in
theorem mvX11_lastMetTick : MV mX11_lastMetTick := ⟨gw 1090 rfl rfl, gwp 52 rfl rfl⟩
abbrev mX11_foresee : Md := (yX11_foresee, cX11_foresee, 6, none)
set_option maxRecDepth 20000 in
theorem miX11_foresee : MI mX11_foresee 2 := ⟨gw 1101 rfl rfl, gw 1 rfl rfl, ⟨by decide, by decide, by decide +kernel⟩, by decide⟩
set_option maxRecDepth 20000 in
theorem mvX11_foresee : MV mX11_foresee := ⟨gw 1100 rfl rfl, gwp 54 rfl rfl⟩
abbrev mX11_delaysLeft : Md := (yX11_delaysLeft, cX11_delaysLeft, 4, (some .int))
set_option maxRecDepth 20000 in
theorem miX11_delaysLeft : MI mX11_delaysLeft 1 := ⟨gw 1105 rfl rfl, gw 1 rfl rfl, ⟨by decide, by decide, by decide +kernel⟩, by decide⟩
set_option maxRecDepth 20000 in
theorem mvX11_delaysLeft : MV mX11_delaysLeft := ⟨gw 1104 rfl rfl, gwp 55 rfl rfl⟩
abbrev mX11_fitsMet : Md := (yX11_fitsMet, cX11_fitsMet, 4, (some .boolean))
set_option maxRecDepth 20000 in
theorem miX11_fitsMet : MI mX11_fitsMet 2 := ⟨gw 1109 rfl rfl, gw 1 rfl rfl, ⟨by decide, by decide, by decide +kernel⟩, by decide⟩
set_option maxRecDepth 20000 in
theorem mvX11_fitsMet : MV mX11_fitsMet := ⟨gw 1108 rfl rfl, gwp 56 rfl rfl⟩
abbrev mX11_tells : Md := (yX11_tells, cX11_tells, 9, (some .int))
set_option maxRecDepth 20000 in
theorem miX11_tells : MI mX11_tells 2 := ⟨gw 1113 rfl rfl, gw 1 rfl rfl, ⟨by decide, by decide, by decide +kernel⟩, by decide⟩
set_option maxRecDepth 20000 in
theorem mvX11_tells : MV mX11_tells := ⟨gw 1111 rfl rfl, gw 1112 rfl rfl⟩
abbrev mX11_mostAlike : Md := (yX11_mostAlike, cX11_mostAlike, 8, (some .int))
set_option maxRecDepth 20000 in
theorem miX11_mostAlike : MI mX11_mostAlike 2 := ⟨gw 1117 rfl rfl, gw 1 rfl rfl, ⟨by decide, by decide, by decide +kernel⟩, by decide⟩
set_option maxRecDepth 20000 in
theorem mvX11_mostAlike : MV mX11_mostAlike := ⟨gw 1116 rfl rfl, gwp 57 rfl rfl⟩
abbrev mX11_ticks : Md := (yX11_ticks, cX11_ticks, 4, (some .int))
set_option maxRecDepth 20000 in
theorem miX11_ticks : MI mX11_ticks 1 := ⟨gw 1121 rfl rfl, gw 1 rfl rfl, ⟨by decide, by decide, by decide +kernel⟩, by decide⟩
set_option maxRecDepth 20000 in
theorem mvX11_ticks : MV mX11_ticks := ⟨gw 1119 rfl rfl, gw 1120 rfl rfl⟩
abbrev mX11_chance : Md := (yX11_chance, cX11_chance, 4, (some .int))
set_option maxRecDepth 20000 in
theorem miX11_chance : MI mX11_chance 1 := ⟨gw 1129 rfl rfl, gw 1 rfl rfl, ⟨by decide, by decide, by decide +kernel⟩, by decide⟩
set_option maxRecDepth 20000 in
theorem mvX11_chance : MV mX11_chance := ⟨gw 1127 rfl rfl, gw 1128 rfl rfl⟩
abbrev mX11_beginAct : Md := (yX11_beginAct, cX11_beginAct, 1, none)
set_option maxRecDepth 20000 in
theorem miX11_beginAct : MI mX11_beginAct 0 := ⟨gw 1125 rfl rfl, gw 1 rfl rfl, ⟨by decide, by decide, by decide +kernel⟩, by decide⟩
set_option maxRecDepth 20000 in
theorem mvX11_beginAct : MV mX11_beginAct := ⟨gw 1124 rfl rfl, gwp 58 rfl rfl⟩
abbrev mX11_join : Md := (yX11_join, cX11_join, 3, (some .boolean))
set_option maxRecDepth 20000 in
theorem miX11_join : MI mX11_join 2 := ⟨gw 1133 rfl rfl, gw 1 rfl rfl, ⟨by decide, by decide, by decide +kernel⟩, by decide⟩
set_option maxRecDepth 20000 in
theorem mvX11_join : MV mX11_join := ⟨gw 1131 rfl rfl, gw 1132 rfl rfl⟩
abbrev mX11_refusePath : Md := (yX11_refusePath, cX11_refusePath, 1, (some .boolean))
set_option maxRecDepth 20000 in
theorem miX11_refusePath : MI mX11_refusePath 0 := ⟨gw 1138 rfl rfl, gw 1 rfl rfl, ⟨by decide, by decide, by decide +kernel⟩, by decide⟩
set_option maxRecDepth 20000 in
theorem mvX11_refusePath : MV mX11_refusePath := ⟨gw 1137 rfl rfl, gwp 59 rfl rfl⟩
abbrev mX11_kill : Md := (yX11_kill, cX11_kill, 2, (some .boolean))
set_option maxRecDepth 20000 in
theorem miX11_kill : MI mX11_kill 1 := ⟨gw 1143 rfl rfl, gw 1 rfl rfl, ⟨by decide, by decide, by decide +kernel⟩, by decide⟩
set_option maxRecDepth 20000 in
theorem mvX11_kill : MV mX11_kill := ⟨gw 1141 rfl rfl, gw 1142 rfl rfl⟩
abbrev mX11_spoil : Md := (yX11_spoil, cX11_spoil, 2, (some .boolean))
set_option maxRecDepth 20000 in
theorem miX11_spoil : MI mX11_spoil 1 := ⟨gw 1148 rfl rfl, gw 1 rfl rfl, ⟨by decide, by decide, by decide +kernel⟩, by decide⟩
set_option maxRecDepth 20000 in
theorem mvX11_spoil : MV mX11_spoil := ⟨gw 1146 rfl rfl, gw 1147 rfl rfl⟩
abbrev mX11_undo : Md := (yX11_undo, cX11_undo, 2, (some .boolean))
set_option maxRecDepth 20000 in
theorem miX11_undo : MI mX11_undo 0 := ⟨gw 1152 rfl rfl, gw 1 rfl rfl, ⟨by decide, by decide, by decide +kernel⟩, by decide⟩
set_option maxRecDepth 20000 in
theorem mvX11_undo : MV mX11_undo := ⟨gw 1150 rfl rfl, gw 1151 rfl rfl⟩
abbrev mX11_seed : Md := (yX11_seed, cX11_seed, 2, (some .boolean))
set_option maxRecDepth 20000 in
theorem miX11_seed : MI mX11_seed 1 := ⟨gw 1156 rfl rfl, gw 1 rfl rfl, ⟨by decide, by decide, by decide +kernel⟩, by decide⟩
set_option maxRecDepth 20000 in
theorem mvX11_seed : MV mX11_seed := ⟨gw 1154 rfl rfl, gw 1155 rfl rfl⟩
abbrev mX11_kept : Md := (yX11_kept, cX11_kept, 4, (some .int))
set_option maxRecDepth 20000 in
theorem miX11_kept : MI mX11_kept 2 := ⟨gw 1160 rfl rfl, gw 1 rfl rfl, ⟨by decide, by decide, by decide +kernel⟩, by decide⟩
set_option maxRecDepth 20000 in
theorem mvX11_kept : MV mX11_kept := ⟨gw 1158 rfl rfl, gw 1159 rfl rfl⟩
abbrev mX11_status : Md := (yX11_status, cX11_status, 2, (some .int))
set_option maxRecDepth 20000 in
theorem miX11_status : MI mX11_status 1 := ⟨gw 1168 rfl rfl, gw 1 rfl rfl, ⟨by decide, by decide, by decide +kernel⟩, by decide⟩
set_option maxRecDepth 20000 in
theorem mvX11_status : MV mX11_status := ⟨gw 1166 rfl rfl, gw 1167 rfl rfl⟩
abbrev mX12_init : Md := (yX12_init, cX12_init, 2, none)
set_option maxRecDepth 20000 in
theorem miX12_init : MI mX12_init 0 := ⟨gw 1173 rfl rfl, gw 17 rfl rfl, ⟨by decide, by decide, by decide +kernel⟩, by decide⟩
set_option maxRecDepth 20000 in
theorem mvX12_init : Cond.instanceMethod yX12_init ∈ lw_good := gw 1172 rfl rfl
abbrev mX12_is : Md := (yX12_is, cX12_is, 3, (some .boolean))
set_option maxRecDepth 20000 in
theorem miX12_is : MI mX12_is 3 := ⟨gw 1443 rfl rfl, gw 17 rfl rfl, ⟨by decide, by decide, by decide +kernel⟩, by decide⟩
set_option maxRecDepth 20000 in
theorem mvX12_is : Cond.static yX12_is ∈ lw_good := gw 1442 rfl rfl
abbrev mX12_put : Md := (yX12_put, cX12_put, 3, none)
set_option maxRecDepth 20000 in
theorem miX12_put : MI mX12_put 1 := ⟨gw 1397 rfl rfl, gw 17 rfl rfl, ⟨by decide, by decide, by decide +kernel⟩, by decide⟩
set_option maxRecDepth 20000 in
theorem mvX12_put : MV mX12_put := ⟨gw 1396 rfl rfl, gwp 61 rfl rfl⟩
abbrev mX12_feed : Md := (yX12_feed, cX12_feed, 6, (some .int))
set_option maxRecDepth 20000 in
theorem miX12_feed : MI mX12_feed 5 := ⟨gw 1389 rfl rfl, gw 17 rfl rfl, ⟨by decide, by decide, by decide +kernel⟩, by decide⟩
set_option maxRecDepth 20000 in
theorem mvX12_feed : MV mX12_feed := ⟨gw 1387 rfl rfl, gw 1388 rfl rfl⟩
abbrev mX12_end : Md := (yX12_end, cX12_end, 2, (some .boolean))
set_option maxRecDepth 20000 in
theorem miX12_end : MI mX12_end 1 := ⟨gw 1401 rfl rfl, gw 17 rfl rfl, ⟨by decide, by decide, by decide +kernel⟩, by decide⟩
set_option maxRecDepth 20000 in
theorem mvX12_end : MV mX12_end := ⟨gw 1399 rfl rfl, gw 1400 rfl rfl⟩
abbrev mX12_blame : Md := (yX12_blame, cX12_blame, 3, none)
set_option maxRecDepth 20000 in
theorem miX12_blame : MI mX12_blame 2 := ⟨gw 1432 rfl rfl, gw 17 rfl rfl, ⟨by decide, by decide, by decide +kernel⟩, by decide⟩
set_option maxRecDepth 20000 in
theorem mvX12_blame : MV mX12_blame := ⟨gw 1431 rfl rfl, gwp 66 rfl rfl⟩
abbrev mX12_isLetter : Md := (yX12_isLetter, cX12_isLetter, 1, (some .boolean))
set_option maxRecDepth 20000 in
theorem miX12_isLetter : MI mX12_isLetter 1 := ⟨gw 1412 rfl rfl, gw 17 rfl rfl, ⟨by decide, by decide, by decide +kernel⟩, by decide⟩
set_option maxRecDepth 20000 in
theorem mvX12_isLetter : Cond.static yX12_isLetter ∈ lw_good := gw 1411 rfl rfl
abbrev mX12_isDigit : Md := (yX12_isDigit, cX12_isDigit, 1, (some .boolean))
set_option maxRecDepth 20000 in
theorem miX12_isDigit : MI mX12_isDigit 1 := ⟨gw 1415 rfl rfl, gw 17 rfl rfl, ⟨by decide, by decide, by decide +kernel⟩, by decide⟩
set_option maxRecDepth 20000 in
theorem mvX12_isDigit : Cond.static yX12_isDigit ∈ lw_good := gw 1414 rfl rfl
abbrev mX12_lex : Md := (yX12_lex, cX12_lex, 1, none)
set_option maxRecDepth 20000 in
theorem miX12_lex : MI mX12_lex 0 := ⟨gw 1428 rfl rfl, gw 17 rfl rfl, ⟨by decide, by decide, by decide +kernel⟩, by decide⟩
set_option maxRecDepth 20000 in
theorem mvX12_lex : MV mX12_lex := ⟨gw 1427 rfl rfl, gwp 65 rfl rfl⟩
abbrev mX12_ahead : Md := (yX12_ahead, cX12_ahead, 6, none)
set_option maxRecDepth 20000 in
theorem miX12_ahead : MI mX12_ahead 0 := ⟨gw 1409 rfl rfl, gw 17 rfl rfl, ⟨by decide, by decide, by decide +kernel⟩, by decide⟩
set_option maxRecDepth 20000 in
theorem mvX12_ahead : MV mX12_ahead := ⟨gw 1408 rfl rfl, gwp 62 rfl rfl⟩
abbrev mX12_isSign : Md := (yX12_isSign, cX12_isSign, 2, (some .boolean))
set_option maxRecDepth 20000 in
theorem miX12_isSign : MI mX12_isSign 1 := ⟨gw 1454 rfl rfl, gw 17 rfl rfl, ⟨by decide, by decide, by decide +kernel⟩, by decide⟩
set_option maxRecDepth 20000 in
theorem mvX12_isSign : MV mX12_isSign := ⟨gw 1453 rfl rfl, gwp 70 rfl rfl⟩
abbrev mX12_isWord : Md := (yX12_isWord, cX12_isWord, 3, (some .boolean))
set_option maxRecDepth 20000 in
theorem miX12_isWord : MI mX12_isWord 1 := ⟨gw 1436 rfl rfl, gw 17 rfl rfl, ⟨by decide, by decide, by decide +kernel⟩, by decide⟩
set_option maxRecDepth 20000 in
theorem mvX12_isWord : MV mX12_isWord := ⟨gw 1435 rfl rfl, gwp 67 rfl rfl⟩
abbrev mX12_must : Md := (yX12_must, cX12_must, 2, none)
set_option maxRecDepth 20000 in
theorem miX12_must : MI mX12_must 1 := ⟨gw 1458 rfl rfl, gw 17 rfl rfl, ⟨by decide, by decide, by decide +kernel⟩, by decide⟩
set_option maxRecDepth 20000 in
theorem mvX12_must : MV mX12_must := ⟨gw 1457 rfl rfl, gwp 71 rfl rfl⟩
abbrev mX12_isOwn : Md := (yX12_isOwn, cX12_isOwn, 3, (some .boolean))
set_option maxRecDepth 20000 in
theorem miX12_isOwn : MI mX12_isOwn 1 := ⟨gw 1475 rfl rfl, gw 17 rfl rfl, ⟨by decide, by decide, by decide +kernel⟩, by decide⟩
set_option maxRecDepth 20000 in
theorem mvX12_isOwn : MV mX12_isOwn := ⟨gw 1474 rfl rfl, gwp 75 rfl rfl⟩
abbrev mX12_askedIn : Md := (yX12_askedIn, cX12_askedIn, 1, (some .int))
set_option maxRecDepth 20000 in
theorem miX12_askedIn : MI mX12_askedIn 1 := ⟨gw 1545 rfl rfl, gw 17 rfl rfl, ⟨by decide, by decide, by decide +kernel⟩, by decide⟩
set_option maxRecDepth 20000 in
theorem mvX12_askedIn : Cond.static yX12_askedIn ∈ lw_good := gw 1544 rfl rfl
abbrev mX12_pathNamed : Md := (yX12_pathNamed, cX12_pathNamed, 4, (some .int))
set_option maxRecDepth 20000 in
theorem miX12_pathNamed : MI mX12_pathNamed 1 := ⟨gw 1503 rfl rfl, gw 17 rfl rfl, ⟨by decide, by decide, by decide +kernel⟩, by decide⟩
set_option maxRecDepth 20000 in
theorem mvX12_pathNamed : MV mX12_pathNamed := ⟨gw 1502 rfl rfl, gwp 76 rfl rfl⟩
abbrev mX12_number : Md := (yX12_number, cX12_number, 4, (some .int))
set_option maxRecDepth 20000 in
theorem miX12_number : MI mX12_number 2 := ⟨gw 1440 rfl rfl, gw 17 rfl rfl, ⟨by decide, by decide, by decide +kernel⟩, by decide⟩
set_option maxRecDepth 20000 in
theorem mvX12_number : MV mX12_number := ⟨gw 1439 rfl rfl, gwp 68 rfl rfl⟩
abbrev mX12_add : Md := (yX12_add, cX12_add, 3, none)
set_option maxRecDepth 20000 in
theorem miX12_add : MI mX12_add 2 := ⟨gw 1542 rfl rfl, gw 17 rfl rfl, ⟨by decide, by decide, by decide +kernel⟩, by decide⟩
set_option maxRecDepth 20000 in
theorem mvX12_add : MV mX12_add := ⟨gw 1541 rfl rfl, gwp 85 rfl rfl⟩
abbrev mX12_rank : Md := (yX12_rank, cX12_rank, 1, (some .int))
set_option maxRecDepth 20000 in
theorem miX12_rank : MI mX12_rank 1 := ⟨gw 1559 rfl rfl, gw 17 rfl rfl, ⟨by decide, by decide, by decide +kernel⟩, by decide⟩
set_option maxRecDepth 20000 in
theorem mvX12_rank : Cond.static yX12_rank ∈ lw_good := gw 1558 rfl rfl
abbrev mX12_joins : Md := (yX12_joins, cX12_joins, 2, none)
set_option maxRecDepth 20000 in
theorem miX12_joins : MI mX12_joins 1 := ⟨gw 1556 rfl rfl, gw 17 rfl rfl, ⟨by decide, by decide, by decide +kernel⟩, by decide⟩
set_option maxRecDepth 20000 in
theorem mvX12_joins : MV mX12_joins := ⟨gw 1555 rfl rfl, gwp 87 rfl rfl⟩
abbrev mX12_holdsBack : Md := (yX12_holdsBack, cX12_holdsBack, 2, none)
set_option maxRecDepth 20000 in
theorem miX12_holdsBack : MI mX12_holdsBack 1 := ⟨gw 1534 rfl rfl, gw 17 rfl rfl, ⟨by decide, by decide, by decide +kernel⟩, by decide⟩
set_option maxRecDepth 20000 in
theorem mvX12_holdsBack : MV mX12_holdsBack := ⟨gw 1533 rfl rfl, gwp 83 rfl rfl⟩
abbrev mX12_pushes : Md := (yX12_pushes, cX12_pushes, 2, none)
set_option maxRecDepth 20000 in
theorem miX12_pushes : MI mX12_pushes 1 := ⟨gw 1523 rfl rfl, gw 17 rfl rfl, ⟨by decide, by decide, by decide +kernel⟩, by decide⟩
set_option maxRecDepth 20000 in
theorem mvX12_pushes : MV mX12_pushes := ⟨gw 1522 rfl rfl, gwp 81 rfl rfl⟩
abbrev mX12_opens : Md := (yX12_opens, cX12_opens, 2, none)
set_option maxRecDepth 20000 in
theorem miX12_opens : MI mX12_opens 1 := ⟨gw 1538 rfl rfl, gw 17 rfl rfl, ⟨by decide, by decide, by decide +kernel⟩, by decide⟩
set_option maxRecDepth 20000 in
theorem mvX12_opens : MV mX12_opens := ⟨gw 1537 rfl rfl, gwp 84 rfl rfl⟩
abbrev mX12_isTest : Md := (yX12_isTest, cX12_isTest, 1, (some .boolean))
set_option maxRecDepth 20000 in
theorem miX12_isTest : MI mX12_isTest 1 := ⟨gw 1530 rfl rfl, gw 17 rfl rfl, ⟨by decide, by decide, by decide +kernel⟩, by decide⟩
set_option maxRecDepth 20000 in
theorem mvX12_isTest : Cond.static yX12_isTest ∈ lw_good := gw 1529 rfl rfl
abbrev mX12_operand : Md := (yX12_operand, cX12_operand, 4, (some .boolean))
set_option maxRecDepth 20000 in
theorem miX12_operand : MI mX12_operand 0 := ⟨gw 1527 rfl rfl, gw 17 rfl rfl, ⟨by decide, by decide, by decide +kernel⟩, by decide⟩
set_option maxRecDepth 20000 in
theorem mvX12_operand : MV mX12_operand := ⟨gw 1526 rfl rfl, gwp 82 rfl rfl⟩
abbrev mX12_goesOn : Md := (yX12_goesOn, cX12_goesOn, 5, (some .boolean))
set_option maxRecDepth 20000 in
theorem miX12_goesOn : MI mX12_goesOn 0 := ⟨gw 1552 rfl rfl, gw 17 rfl rfl, ⟨by decide, by decide, by decide +kernel⟩, by decide⟩
set_option maxRecDepth 20000 in
theorem mvX12_goesOn : MV mX12_goesOn := ⟨gw 1551 rfl rfl, gwp 86 rfl rfl⟩
abbrev mX12_reads : Md := (yX12_reads, cX12_reads, 3, none)
set_option maxRecDepth 20000 in
theorem miX12_reads : MI mX12_reads 1 := ⟨gw 1519 rfl rfl, gw 17 rfl rfl, ⟨by decide, by decide, by decide +kernel⟩, by decide⟩
set_option maxRecDepth 20000 in
theorem mvX12_reads : MV mX12_reads := ⟨gw 1518 rfl rfl, gwp 80 rfl rfl⟩
abbrev mX12_isCounted : Md := (yX12_isCounted, cX12_isCounted, 2, (some .boolean))
set_option maxRecDepth 20000 in
theorem miX12_isCounted : MI mX12_isCounted 1 := ⟨gw 1471 rfl rfl, gw 17 rfl rfl, ⟨by decide, by decide, by decide +kernel⟩, by decide⟩
set_option maxRecDepth 20000 in
theorem mvX12_isCounted : MV mX12_isCounted := ⟨gw 1470 rfl rfl, gwp 74 rfl rfl⟩
abbrev mX12_mustWord : Md := (yX12_mustWord, cX12_mustWord, 3, none)
set_option maxRecDepth 20000 in
theorem miX12_mustWord : MI mX12_mustWord 1 := ⟨gw 1424 rfl rfl, gw 17 rfl rfl, ⟨by decide, by decide, by decide +kernel⟩, by decide⟩
set_option maxRecDepth 20000 in
theorem mvX12_mustWord : MV mX12_mustWord := ⟨gw 1423 rfl rfl, gwp 64 rfl rfl⟩
abbrev mX12_has2 : Md := (yX12_has2, cX12_has2, 2, (some .boolean))
set_option maxRecDepth 20000 in
theorem miX12_has2 : MI mX12_has2 2 := ⟨gw 1548 rfl rfl, gw 17 rfl rfl, ⟨by decide, by decide, by decide +kernel⟩, by decide⟩
set_option maxRecDepth 20000 in
theorem mvX12_has2 : Cond.static yX12_has2 ∈ lw_good := gw 1547 rfl rfl
abbrev mX12_streamIs : Md := (yX12_streamIs, cX12_streamIs, 1, none)
set_option maxRecDepth 20000 in
theorem miX12_streamIs : MI mX12_streamIs 0 := ⟨gw 1419 rfl rfl, gw 17 rfl rfl, ⟨by decide, by decide, by decide +kernel⟩, by decide⟩
set_option maxRecDepth 20000 in
theorem mvX12_streamIs : MV mX12_streamIs := ⟨gw 1418 rfl rfl, gwp 63 rfl rfl⟩
abbrev mX12_pathIs : Md := (yX12_pathIs, cX12_pathIs, 2, none)
set_option maxRecDepth 20000 in
theorem miX12_pathIs : MI mX12_pathIs 0 := ⟨gw 1467 rfl rfl, gw 17 rfl rfl, ⟨by decide, by decide, by decide +kernel⟩, by decide⟩
set_option maxRecDepth 20000 in
theorem mvX12_pathIs : MV mX12_pathIs := ⟨gw 1466 rfl rfl, gwp 73 rfl rfl⟩
abbrev mX12_joinIs : Md := (yX12_joinIs, cX12_joinIs, 4, none)
set_option maxRecDepth 20000 in
theorem miX12_joinIs : MI mX12_joinIs 0 := ⟨gw 1507 rfl rfl, gw 17 rfl rfl, ⟨by decide, by decide, by decide +kernel⟩, by decide⟩
set_option maxRecDepth 20000 in
theorem mvX12_joinIs : MV mX12_joinIs := ⟨gw 1506 rfl rfl, gwp 77 rfl rfl⟩
abbrev mX12_lossIs : Md := (yX12_lossIs, cX12_lossIs, 1, none)
set_option maxRecDepth 20000 in
theorem miX12_lossIs : MI mX12_lossIs 0 := ⟨gw 1511 rfl rfl, gw 17 rfl rfl, ⟨by decide, by decide, by decide +kernel⟩, by decide⟩
set_option maxRecDepth 20000 in
theorem mvX12_lossIs : MV mX12_lossIs := ⟨gw 1510 rfl rfl, gwp 78 rfl rfl⟩
abbrev mX12_reading : Md := (yX12_reading, cX12_reading, 3, none)
set_option maxRecDepth 20000 in
theorem miX12_reading : MI mX12_reading 1 := ⟨gw 1515 rfl rfl, gw 17 rfl rfl, ⟨by decide, by decide, by decide +kernel⟩, by decide⟩
set_option maxRecDepth 20000 in
theorem mvX12_reading : MV mX12_reading := ⟨gw 1514 rfl rfl, gwp 79 rfl rfl⟩
abbrev mX12_statement : Md := (yX12_statement, cX12_statement, 1, none)
set_option maxRecDepth 20000 in
theorem miX12_statement : MI mX12_statement 0 := ⟨gw 1462 rfl rfl, gw 17 rfl rfl, ⟨by decide, by decide, by decide +kernel⟩, by decide⟩
set_option maxRecDepth 20000 in
theorem mvX12_statement : MV mX12_statement := ⟨gw 1461 rfl rfl, gwp 72 rfl rfl⟩
abbrev mX12_finishes : Md := (yX12_finishes, cX12_finishes, 3, none)
set_option maxRecDepth 20000 in
theorem miX12_finishes : MI mX12_finishes 1 := ⟨gw 1450 rfl rfl, gw 17 rfl rfl, ⟨by decide, by decide, by decide +kernel⟩, by decide⟩
set_option maxRecDepth 20000 in
theorem mvX12_finishes : MV mX12_finishes := ⟨gw 1449 rfl rfl, gwp 69 rfl rfl⟩
abbrev mX12_stream : Md := (yX12_stream, cX12_stream, 2, (some .int))
set_option maxRecDepth 20000 in
theorem miX12_stream : MI mX12_stream 0 := ⟨gw 1405 rfl rfl, gw 17 rfl rfl, ⟨by decide, by decide, by decide +kernel⟩, by decide⟩
set_option maxRecDepth 20000 in
theorem mvX12_stream : MV mX12_stream := ⟨gw 1403 rfl rfl, gw 1404 rfl rfl⟩
abbrev mX12_fault : Md := (yX12_fault, cX12_fault, 2, (some .int))
set_option maxRecDepth 20000 in
theorem miX12_fault : MI mX12_fault 1 := ⟨gw 1579 rfl rfl, gw 17 rfl rfl, ⟨by decide, by decide, by decide +kernel⟩, by decide⟩
set_option maxRecDepth 20000 in
theorem mvX12_fault : MV mX12_fault := ⟨gw 1577 rfl rfl, gw 1578 rfl rfl⟩
abbrev mX12_refuses : Md := (yX12_refuses, cX12_refuses, 2, (some .int))
set_option maxRecDepth 20000 in
theorem miX12_refuses : MI mX12_refuses 1 := ⟨gw 1393 rfl rfl, gw 17 rfl rfl, ⟨by decide, by decide, by decide +kernel⟩, by decide⟩
set_option maxRecDepth 20000 in
theorem mvX12_refuses : MV mX12_refuses := ⟨gw 1392 rfl rfl, gwp 60 rfl rfl⟩
abbrev mX12_status : Md := (yX12_status, cX12_status, 2, (some .int))
set_option maxRecDepth 20000 in
theorem miX12_status : MI mX12_status 1 := ⟨gw 1583 rfl rfl, gw 17 rfl rfl, ⟨by decide, by decide, by decide +kernel⟩, by decide⟩
set_option maxRecDepth 20000 in
theorem mvX12_status : MV mX12_status := ⟨gw 1581 rfl rfl, gw 1582 rfl rfl⟩
abbrev mX12_n : Md := (yX12_n, cX12_n, 3, (some .int))
set_option maxRecDepth 20000 in
theorem miX12_n : MI mX12_n 2 := ⟨gw 1599 rfl rfl, gw 17 rfl rfl, ⟨by decide, by decide, by decide +kernel⟩, by decide⟩
set_option maxRecDepth 20000 in
theorem mvX12_n : MV mX12_n := ⟨gw 1598 rfl rfl, gwp 94 rfl rfl⟩
abbrev mX12_sets : Md := (yX12_sets, cX12_sets, 4, none)
set_option maxRecDepth 20000 in
theorem miX12_sets : MI mX12_sets 3 := ⟨gw 1567 rfl rfl, gw 17 rfl rfl, ⟨by decide, by decide, by decide +kernel⟩, by decide⟩
set_option maxRecDepth 20000 in
theorem mvX12_sets : MV mX12_sets := ⟨gw 1566 rfl rfl, gwp 89 rfl rfl⟩
abbrev mX12_p : Md := (yX12_p, cX12_p, 4, (some .int))
set_option maxRecDepth 20000 in
theorem miX12_p : MI mX12_p 3 := ⟨gw 1615 rfl rfl, gw 17 rfl rfl, ⟨by decide, by decide, by decide +kernel⟩, by decide⟩
set_option maxRecDepth 20000 in
theorem mvX12_p : MV mX12_p := ⟨gw 1614 rfl rfl, gwp 97 rfl rfl⟩
abbrev mX12_setsPath : Md := (yX12_setsPath, cX12_setsPath, 5, none)
set_option maxRecDepth 20000 in
theorem miX12_setsPath : MI mX12_setsPath 4 := ⟨gw 1575 rfl rfl, gw 17 rfl rfl, ⟨by decide, by decide, by decide +kernel⟩, by decide⟩
set_option maxRecDepth 20000 in
theorem mvX12_setsPath : MV mX12_setsPath := ⟨gw 1574 rfl rfl, gwp 91 rfl rfl⟩
abbrev mX12_s : Md := (yX12_s, cX12_s, 4, (some .int))
set_option maxRecDepth 20000 in
theorem miX12_s : MI mX12_s 3 := ⟨gw 1627 rfl rfl, gw 17 rfl rfl, ⟨by decide, by decide, by decide +kernel⟩, by decide⟩
set_option maxRecDepth 20000 in
theorem mvX12_s : MV mX12_s := ⟨gw 1626 rfl rfl, gwp 100 rfl rfl⟩
abbrev mX12_setsSegment : Md := (yX12_setsSegment, cX12_setsSegment, 5, none)
set_option maxRecDepth 20000 in
theorem miX12_setsSegment : MI mX12_setsSegment 4 := ⟨gw 1735 rfl rfl, gw 17 rfl rfl, ⟨by decide, by decide, by decide +kernel⟩, by decide⟩
set_option maxRecDepth 20000 in
theorem mvX12_setsSegment : MV mX12_setsSegment := ⟨gw 1734 rfl rfl, gwp 116 rfl rfl⟩
abbrev mX12_a : Md := (yX12_a, cX12_a, 4, (some .int))
set_option maxRecDepth 20000 in
theorem miX12_a : MI mX12_a 3 := ⟨gw 1727 rfl rfl, gw 17 rfl rfl, ⟨by decide, by decide, by decide +kernel⟩, by decide⟩
set_option maxRecDepth 20000 in
theorem mvX12_a : MV mX12_a := ⟨gw 1726 rfl rfl, gwp 114 rfl rfl⟩
abbrev mX12_copies : Md := (yX12_copies, cX12_copies, 4, none)
set_option maxRecDepth 20000 in
theorem miX12_copies : MI mX12_copies 2 := ⟨gw 1595 rfl rfl, gw 17 rfl rfl, ⟨by decide, by decide, by decide +kernel⟩, by decide⟩
set_option maxRecDepth 20000 in
theorem mvX12_copies : MV mX12_copies := ⟨gw 1594 rfl rfl, gwp 93 rfl rfl⟩
abbrev mX12_begin : Md := (yX12_begin, cX12_begin, 2, none)
set_option maxRecDepth 20000 in
theorem miX12_begin : MI mX12_begin 0 := ⟨gw 1563 rfl rfl, gw 17 rfl rfl, ⟨by decide, by decide, by decide +kernel⟩, by decide⟩
set_option maxRecDepth 20000 in
theorem mvX12_begin : MV mX12_begin := ⟨gw 1562 rfl rfl, gwp 88 rfl rfl⟩
abbrev mX12_enters : Md := (yX12_enters, cX12_enters, 3, none)
set_option maxRecDepth 20000 in
theorem miX12_enters : MI mX12_enters 2 := ⟨gw 1571 rfl rfl, gw 17 rfl rfl, ⟨by decide, by decide, by decide +kernel⟩, by decide⟩
set_option maxRecDepth 20000 in
theorem mvX12_enters : MV mX12_enters := ⟨gw 1570 rfl rfl, gwp 90 rfl rfl⟩
abbrev mX12_slot : Md := (yX12_slot, cX12_slot, 2, (some .int))
set_option maxRecDepth 20000 in
theorem miX12_slot : MI mX12_slot 1 := ⟨gw 1591 rfl rfl, gw 17 rfl rfl, ⟨by decide, by decide, by decide +kernel⟩, by decide⟩
set_option maxRecDepth 20000 in
theorem mvX12_slot : MV mX12_slot := ⟨gw 1590 rfl rfl, gwp 92 rfl rfl⟩
abbrev mX12_keeps : Md := (yX12_keeps, cX12_keeps, 1, none)
set_option maxRecDepth 20000 in
theorem miX12_keeps : MI mX12_keeps 0 := ⟨gw 1889 rfl rfl, gw 17 rfl rfl, ⟨by decide, by decide, by decide +kernel⟩, by decide⟩
set_option maxRecDepth 20000 in
theorem mvX12_keeps : MV mX12_keeps := ⟨gw 1888 rfl rfl, gwp 143 rfl rfl⟩
abbrev mX12_undo : Md := (yX12_undo, cX12_undo, 1, (some .boolean))
set_option maxRecDepth 20000 in
theorem miX12_undo : MI mX12_undo 0 := ⟨gw 1587 rfl rfl, gw 17 rfl rfl, ⟨by decide, by decide, by decide +kernel⟩, by decide⟩
set_option maxRecDepth 20000 in
theorem mvX12_undo : MV mX12_undo := ⟨gw 1585 rfl rfl, gw 1586 rfl rfl⟩
abbrev mX12_within : Md := (yX12_within, cX12_within, 2, (some .long))
set_option maxRecDepth 20000 in
theorem miX12_within : MI mX12_within 1 := ⟨gw 1672 rfl rfl, gw 17 rfl rfl, ⟨by decide, by decide, by decide +kernel⟩, by decide⟩
set_option maxRecDepth 20000 in
theorem mvX12_within : Cond.static yX12_within ∈ lw_good := gw 1671 rfl rfl
abbrev mX12_floor : Md := (yX12_floor, cX12_floor, 6, (some .long))
set_option maxRecDepth 20000 in
theorem miX12_floor : MI mX12_floor 2 := ⟨gw 1677 rfl rfl, gw 17 rfl rfl, ⟨by decide, by decide, by decide +kernel⟩, by decide⟩
set_option maxRecDepth 20000 in
theorem mvX12_floor : Cond.static yX12_floor ∈ lw_good := gw 1676 rfl rfl
abbrev mX12_two : Md := (yX12_two, cX12_two, 5, (some .long))
set_option maxRecDepth 20000 in
theorem miX12_two : MI mX12_two 3 := ⟨gw 1669 rfl rfl, gw 17 rfl rfl, ⟨by decide, by decide, by decide +kernel⟩, by decide⟩
set_option maxRecDepth 20000 in
theorem mvX12_two : Cond.static yX12_two ∈ lw_good := gw 1668 rfl rfl
abbrev mX12_reckons : Md := (yX12_reckons, cX12_reckons, 5, (some .long))
set_option maxRecDepth 20000 in
theorem miX12_reckons : MI mX12_reckons 1 := ⟨gw 1666 rfl rfl, gw 17 rfl rfl, ⟨by decide, by decide, by decide +kernel⟩, by decide⟩
set_option maxRecDepth 20000 in
theorem mvX12_reckons : MV mX12_reckons := ⟨gw 1665 rfl rfl, gwp 107 rfl rfl⟩
abbrev mX12_isTold : Md := (yX12_isTold, cX12_isTold, 2, (some .boolean))
set_option maxRecDepth 20000 in
theorem miX12_isTold : MI mX12_isTold 1 := ⟨gw 1658 rfl rfl, gw 17 rfl rfl, ⟨by decide, by decide, by decide +kernel⟩, by decide⟩
set_option maxRecDepth 20000 in
theorem mvX12_isTold : MV mX12_isTold := ⟨gw 1657 rfl rfl, gwp 105 rfl rfl⟩
abbrev mX12_lays : Md := (yX12_lays, cX12_lays, 3, none)
set_option maxRecDepth 20000 in
theorem miX12_lays : MI mX12_lays 2 := ⟨gw 1662 rfl rfl, gw 17 rfl rfl, ⟨by decide, by decide, by decide +kernel⟩, by decide⟩
set_option maxRecDepth 20000 in
theorem mvX12_lays : MV mX12_lays := ⟨gw 1661 rfl rfl, gwp 106 rfl rfl⟩
abbrev mX12_isFree : Md := (yX12_isFree, cX12_isFree, 3, (some .boolean))
set_option maxRecDepth 20000 in
theorem miX12_isFree : MI mX12_isFree 2 := ⟨gw 1611 rfl rfl, gw 17 rfl rfl, ⟨by decide, by decide, by decide +kernel⟩, by decide⟩
set_option maxRecDepth 20000 in
theorem mvX12_isFree : MV mX12_isFree := ⟨gw 1610 rfl rfl, gwp 96 rfl rfl⟩
abbrev mX12_flyingOn : Md := (yX12_flyingOn, cX12_flyingOn, 5, (some .int))
set_option maxRecDepth 20000 in
theorem miX12_flyingOn : MI mX12_flyingOn 2 := ⟨gw 1648 rfl rfl, gw 17 rfl rfl, ⟨by decide, by decide, by decide +kernel⟩, by decide⟩
set_option maxRecDepth 20000 in
theorem mvX12_flyingOn : MV mX12_flyingOn := ⟨gw 1647 rfl rfl, gwp 103 rfl rfl⟩
abbrev mX12_waitOf : Md := (yX12_waitOf, cX12_waitOf, 5, (some .int))
set_option maxRecDepth 20000 in
theorem miX12_waitOf : MI mX12_waitOf 2 := ⟨gw 1652 rfl rfl, gw 17 rfl rfl, ⟨by decide, by decide, by decide +kernel⟩, by decide⟩
set_option maxRecDepth 20000 in
theorem mvX12_waitOf : MV mX12_waitOf := ⟨gw 1651 rfl rfl, gwp 104 rfl rfl⟩
abbrev mX12_writesDown : Md := (yX12_writesDown, cX12_writesDown, 6, none)
set_option maxRecDepth 20000 in
theorem miX12_writesDown : MI mX12_writesDown 4 := ⟨gw 1777 rfl rfl, gw 17 rfl rfl, ⟨by decide, by decide, by decide +kernel⟩, by decide⟩
set_option maxRecDepth 20000 in
theorem mvX12_writesDown : MV mX12_writesDown := ⟨gw 1776 rfl rfl, gwp 126 rfl rfl⟩
abbrev mX12_refusesIn : Md := (yX12_refusesIn, cX12_refusesIn, 3, none)
set_option maxRecDepth 20000 in
theorem miX12_refusesIn : MI mX12_refusesIn 2 := ⟨gw 1719 rfl rfl, gw 17 rfl rfl, ⟨by decide, by decide, by decide +kernel⟩, by decide⟩
set_option maxRecDepth 20000 in
theorem mvX12_refusesIn : MV mX12_refusesIn := ⟨gw 1718 rfl rfl, gwp 112 rfl rfl⟩
abbrev mX12_tokenFor : Md := (yX12_tokenFor, cX12_tokenFor, 1, (some .int))
set_option maxRecDepth 20000 in
theorem miX12_tokenFor : MI mX12_tokenFor 1 := ⟨gw 1715 rfl rfl, gw 17 rfl rfl, ⟨by decide, by decide, by decide +kernel⟩, by decide⟩
set_option maxRecDepth 20000 in
theorem mvX12_tokenFor : Cond.static yX12_tokenFor ∈ lw_good := gw 1714 rfl rfl
abbrev mX12_isJoining : Md := (yX12_isJoining, cX12_isJoining, 4, (some .boolean))
set_option maxRecDepth 20000 in
theorem miX12_isJoining : MI mX12_isJoining 3 := ⟨gw 1712 rfl rfl, gw 17 rfl rfl, ⟨by decide, by decide, by decide +kernel⟩, by decide⟩
set_option maxRecDepth 20000 in
theorem mvX12_isJoining : MV mX12_isJoining := ⟨gw 1711 rfl rfl, gwp 111 rfl rfl⟩
abbrev mX12_flyingAt : Md := (yX12_flyingAt, cX12_flyingAt, 5, (some .int))
set_option maxRecDepth 20000 in
theorem miX12_flyingAt : MI mX12_flyingAt 3 := ⟨gw 1731 rfl rfl, gw 17 rfl rfl, ⟨by decide, by decide, by decide +kernel⟩, by decide⟩
set_option maxRecDepth 20000 in
theorem mvX12_flyingAt : MV mX12_flyingAt := ⟨gw 1730 rfl rfl, gwp 115 rfl rfl⟩
abbrev mX12_grows : Md := (yX12_grows, cX12_grows, 7, none)
set_option maxRecDepth 20000 in
theorem miX12_grows : MI mX12_grows 2 := ⟨gw 1739 rfl rfl, gw 17 rfl rfl, ⟨by decide, by decide, by decide +kernel⟩, by decide⟩
set_option maxRecDepth 20000 in
theorem mvX12_grows : MV mX12_grows := ⟨gw 1738 rfl rfl, gwp 117 rfl rfl⟩
abbrev mX12_hears : Md := (yX12_hears, cX12_hears, 6, none)
set_option maxRecDepth 20000 in
theorem miX12_hears : MI mX12_hears 1 := ⟨gw 1723 rfl rfl, gw 17 rfl rfl, ⟨by decide, by decide, by decide +kernel⟩, by decide⟩
set_option maxRecDepth 20000 in
theorem mvX12_hears : MV mX12_hears := ⟨gw 1722 rfl rfl, gwp 113 rfl rfl⟩
abbrev mX12_areTaken : Md := (yX12_areTaken, cX12_areTaken, 6, (some .boolean))
set_option maxRecDepth 20000 in
theorem miX12_areTaken : MI mX12_areTaken 3 := ⟨gw 1749 rfl rfl, gw 17 rfl rfl, ⟨by decide, by decide, by decide +kernel⟩, by decide⟩
set_option maxRecDepth 20000 in
theorem mvX12_areTaken : MV mX12_areTaken := ⟨gw 1748 rfl rfl, gwp 119 rfl rfl⟩
abbrev mX12_arrives : Md := (yX12_arrives, cX12_arrives, 3, none)
set_option maxRecDepth 20000 in
theorem miX12_arrives : MI mX12_arrives 1 := ⟨gw 1745 rfl rfl, gw 17 rfl rfl, ⟨by decide, by decide, by decide +kernel⟩, by decide⟩
set_option maxRecDepth 20000 in
theorem mvX12_arrives : MV mX12_arrives := ⟨gw 1744 rfl rfl, gwp 118 rfl rfl⟩
abbrev mX12_firstLacking : Md := (yX12_firstLacking, cX12_firstLacking, 3, (some .int))
set_option maxRecDepth 20000 in
theorem miX12_firstLacking : MI mX12_firstLacking 1 := ⟨gw 1757 rfl rfl, gw 17 rfl rfl, ⟨by decide, by decide, by decide +kernel⟩, by decide⟩
set_option maxRecDepth 20000 in
theorem mvX12_firstLacking : MV mX12_firstLacking := ⟨gw 1756 rfl rfl, gwp 121 rfl rfl⟩
abbrev mX12_takenAll : Md := (yX12_takenAll, cX12_takenAll, 4, (some .int))
set_option maxRecDepth 20000 in
theorem miX12_takenAll : MI mX12_takenAll 1 := ⟨gw 1619 rfl rfl, gw 17 rfl rfl, ⟨by decide, by decide, by decide +kernel⟩, by decide⟩
set_option maxRecDepth 20000 in
theorem mvX12_takenAll : MV mX12_takenAll := ⟨gw 1618 rfl rfl, gwp 98 rfl rfl⟩
abbrev mX12_readsOn : Md := (yX12_readsOn, cX12_readsOn, 6, (some .int))
set_option maxRecDepth 20000 in
theorem miX12_readsOn : MI mX12_readsOn 1 := ⟨gw 1753 rfl rfl, gw 17 rfl rfl, ⟨by decide, by decide, by decide +kernel⟩, by decide⟩
set_option maxRecDepth 20000 in
theorem mvX12_readsOn : MV mX12_readsOn := ⟨gw 1752 rfl rfl, gwp 120 rfl rfl⟩
abbrev mX12_answers : Md := (yX12_answers, cX12_answers, 5, none)
set_option maxRecDepth 20000 in
theorem miX12_answers : MI mX12_answers 3 := ⟨gw 1765 rfl rfl, gw 17 rfl rfl, ⟨by decide, by decide, by decide +kernel⟩, by decide⟩
set_option maxRecDepth 20000 in
theorem mvX12_answers : MV mX12_answers := ⟨gw 1764 rfl rfl, gwp 123 rfl rfl⟩
abbrev mX12_firstOpen : Md := (yX12_firstOpen, cX12_firstOpen, 3, (some .int))
set_option maxRecDepth 20000 in
theorem miX12_firstOpen : MI mX12_firstOpen 1 := ⟨gw 1769 rfl rfl, gw 17 rfl rfl, ⟨by decide, by decide, by decide +kernel⟩, by decide⟩
set_option maxRecDepth 20000 in
theorem mvX12_firstOpen : MV mX12_firstOpen := ⟨gw 1768 rfl rfl, gwp 124 rfl rfl⟩
abbrev mX12_setsOut : Md := (yX12_setsOut, cX12_setsOut, 4, none)
set_option maxRecDepth 20000 in
theorem miX12_setsOut : MI mX12_setsOut 2 := ⟨gw 1761 rfl rfl, gw 17 rfl rfl, ⟨by decide, by decide, by decide +kernel⟩, by decide⟩
set_option maxRecDepth 20000 in
theorem mvX12_setsOut : MV mX12_setsOut := ⟨gw 1760 rfl rfl, gwp 122 rfl rfl⟩
abbrev mX12_again : Md := (yX12_again, cX12_again, 4, none)
set_option maxRecDepth 20000 in
theorem miX12_again : MI mX12_again 2 := ⟨gw 1781 rfl rfl, gw 17 rfl rfl, ⟨by decide, by decide, by decide +kernel⟩, by decide⟩
set_option maxRecDepth 20000 in
theorem mvX12_again : MV mX12_again := ⟨gw 1780 rfl rfl, gwp 127 rfl rfl⟩
abbrev mX12_dies : Md := (yX12_dies, cX12_dies, 4, none)
set_option maxRecDepth 20000 in
theorem miX12_dies : MI mX12_dies 2 := ⟨gw 1773 rfl rfl, gw 17 rfl rfl, ⟨by decide, by decide, by decide +kernel⟩, by decide⟩
set_option maxRecDepth 20000 in
theorem mvX12_dies : MV mX12_dies := ⟨gw 1772 rfl rfl, gwp 125 rfl rfl⟩
abbrev mX12_halved : Md := (yX12_halved, cX12_halved, 1, (some .int))
set_option maxRecDepth 20000 in
theorem miX12_halved : MI mX12_halved 1 := ⟨gw 1788 rfl rfl, gw 17 rfl rfl, ⟨by decide, by decide, by decide +kernel⟩, by decide⟩
set_option maxRecDepth 20000 in
theorem mvX12_halved : Cond.static yX12_halved ∈ lw_good := gw 1787 rfl rfl
abbrev mX12_fails : Md := (yX12_fails, cX12_fails, 5, none)
set_option maxRecDepth 20000 in
theorem miX12_fails : MI mX12_fails 2 := ⟨gw 1785 rfl rfl, gw 17 rfl rfl, ⟨by decide, by decide, by decide +kernel⟩, by decide⟩
set_option maxRecDepth 20000 in
theorem mvX12_fails : MV mX12_fails := ⟨gw 1784 rfl rfl, gwp 128 rfl rfl⟩
abbrev mX12_picked : Md := (yX12_picked, cX12_picked, 9, (some .int))
set_option maxRecDepth 20000 in
theorem miX12_picked : MI mX12_picked 2 := ⟨gw 1816 rfl rfl, gw 17 rfl rfl, ⟨by decide, by decide, by decide +kernel⟩, by decide⟩
set_option maxRecDepth 20000 in
theorem mvX12_picked : MV mX12_picked := ⟨gw 1815 rfl rfl, gwp 135 rfl rfl⟩
abbrev mX12_sends : Md := (yX12_sends, cX12_sends, 8, none)
set_option maxRecDepth 20000 in
theorem miX12_sends : MI mX12_sends 4 := ⟨gw 1820 rfl rfl, gw 17 rfl rfl, ⟨by decide, by decide, by decide +kernel⟩, by decide⟩
set_option maxRecDepth 20000 in
theorem mvX12_sends : MV mX12_sends := ⟨gw 1819 rfl rfl, gwp 136 rfl rfl⟩
abbrev mX12_isPiece : Md := (yX12_isPiece, cX12_isPiece, 5, (some .boolean))
set_option maxRecDepth 20000 in
theorem miX12_isPiece : MI mX12_isPiece 1 := ⟨gw 1800 rfl rfl, gw 17 rfl rfl, ⟨by decide, by decide, by decide +kernel⟩, by decide⟩
set_option maxRecDepth 20000 in
theorem mvX12_isPiece : MV mX12_isPiece := ⟨gw 1799 rfl rfl, gwp 131 rfl rfl⟩
abbrev mX12_shifts : Md := (yX12_shifts, cX12_shifts, 6, none)
set_option maxRecDepth 20000 in
theorem miX12_shifts : MI mX12_shifts 2 := ⟨gw 1804 rfl rfl, gw 17 rfl rfl, ⟨by decide, by decide, by decide +kernel⟩, by decide⟩
set_option maxRecDepth 20000 in
theorem mvX12_shifts : MV mX12_shifts := ⟨gw 1803 rfl rfl, gwp 132 rfl rfl⟩
abbrev mX12_blocking : Md := (yX12_blocking, cX12_blocking, 3, (some .int))
set_option maxRecDepth 20000 in
theorem miX12_blocking : MI mX12_blocking 1 := ⟨gw 1812 rfl rfl, gw 17 rfl rfl, ⟨by decide, by decide, by decide +kernel⟩, by decide⟩
set_option maxRecDepth 20000 in
theorem mvX12_blocking : MV mX12_blocking := ⟨gw 1811 rfl rfl, gwp 134 rfl rfl⟩
abbrev mX12_isPenalised : Md := (yX12_isPenalised, cX12_isPenalised, 6, (some .boolean))
set_option maxRecDepth 20000 in
theorem miX12_isPenalised : MI mX12_isPenalised 1 := ⟨gw 1808 rfl rfl, gw 17 rfl rfl, ⟨by decide, by decide, by decide +kernel⟩, by decide⟩
set_option maxRecDepth 20000 in
theorem mvX12_isPenalised : MV mX12_isPenalised := ⟨gw 1807 rfl rfl, gwp 133 rfl rfl⟩
abbrev mX12_sendsAll : Md := (yX12_sendsAll, cX12_sendsAll, 9, none)
set_option maxRecDepth 20000 in
theorem miX12_sendsAll : MI mX12_sendsAll 1 := ⟨gw 1796 rfl rfl, gw 17 rfl rfl, ⟨by decide, by decide, by decide +kernel⟩, by decide⟩
set_option maxRecDepth 20000 in
theorem mvX12_sendsAll : MV mX12_sendsAll := ⟨gw 1795 rfl rfl, gwp 130 rfl rfl⟩
abbrev mX12_clears : Md := (yX12_clears, cX12_clears, 5, none)
set_option maxRecDepth 20000 in
theorem miX12_clears : MI mX12_clears 1 := ⟨gw 1792 rfl rfl, gw 17 rfl rfl, ⟨by decide, by decide, by decide +kernel⟩, by decide⟩
set_option maxRecDepth 20000 in
theorem mvX12_clears : MV mX12_clears := ⟨gw 1791 rfl rfl, gwp 129 rfl rfl⟩
abbrev mX12_ticksOn : Md := (yX12_ticksOn, cX12_ticksOn, 3, none)
set_option maxRecDepth 20000 in
theorem miX12_ticksOn : MI mX12_ticksOn 1 := ⟨gw 1708 rfl rfl, gw 17 rfl rfl, ⟨by decide, by decide, by decide +kernel⟩, by decide⟩
set_option maxRecDepth 20000 in
theorem mvX12_ticksOn : MV mX12_ticksOn := ⟨gw 1707 rfl rfl, gwp 110 rfl rfl⟩
abbrev mX12_isPath : Md := (yX12_isPath, cX12_isPath, 2, (some .boolean))
set_option maxRecDepth 20000 in
theorem miX12_isPath : MI mX12_isPath 1 := ⟨gw 1639 rfl rfl, gw 17 rfl rfl, ⟨by decide, by decide, by decide +kernel⟩, by decide⟩
set_option maxRecDepth 20000 in
theorem mvX12_isPath : MV mX12_isPath := ⟨gw 1638 rfl rfl, gwp 102 rfl rfl⟩
abbrev mX12_flying : Md := (yX12_flying, cX12_flying, 4, (some .int))
set_option maxRecDepth 20000 in
theorem miX12_flying : MI mX12_flying 1 := ⟨gw 1623 rfl rfl, gw 17 rfl rfl, ⟨by decide, by decide, by decide +kernel⟩, by decide⟩
set_option maxRecDepth 20000 in
theorem mvX12_flying : MV mX12_flying := ⟨gw 1622 rfl rfl, gwp 99 rfl rfl⟩
abbrev mX12_open : Md := (yX12_open, cX12_open, 3, (some .int))
set_option maxRecDepth 20000 in
theorem miX12_open : MI mX12_open 0 := ⟨gw 1607 rfl rfl, gw 17 rfl rfl, ⟨by decide, by decide, by decide +kernel⟩, by decide⟩
set_option maxRecDepth 20000 in
theorem mvX12_open : MV mX12_open := ⟨gw 1606 rfl rfl, gwp 95 rfl rfl⟩
abbrev mX12_needed : Md := (yX12_needed, cX12_needed, 4, (some .int))
set_option maxRecDepth 20000 in
theorem miX12_needed : MI mX12_needed 1 := ⟨gw 1631 rfl rfl, gw 17 rfl rfl, ⟨by decide, by decide, by decide +kernel⟩, by decide⟩
set_option maxRecDepth 20000 in
theorem mvX12_needed : MV mX12_needed := ⟨gw 1630 rfl rfl, gwp 101 rfl rfl⟩
abbrev mX12_has : Md := (yX12_has, cX12_has, 2, (some .int))
set_option maxRecDepth 20000 in
theorem miX12_has : MI mX12_has 1 := ⟨gw 1603 rfl rfl, gw 17 rfl rfl, ⟨by decide, by decide, by decide +kernel⟩, by decide⟩
set_option maxRecDepth 20000 in
theorem mvX12_has : MV mX12_has := ⟨gw 1601 rfl rfl, gw 1602 rfl rfl⟩
abbrev mX12_letter : Md := (yX12_letter, cX12_letter, 8, (some .int))
set_option maxRecDepth 20000 in
theorem miX12_letter : MI mX12_letter 2 := ⟨gw 1635 rfl rfl, gw 17 rfl rfl, ⟨by decide, by decide, by decide +kernel⟩, by decide⟩
set_option maxRecDepth 20000 in
theorem mvX12_letter : MV mX12_letter := ⟨gw 1633 rfl rfl, gw 1634 rfl rfl⟩
abbrev mX12_path : Md := (yX12_path, cX12_path, 3, (some .int))
set_option maxRecDepth 20000 in
theorem miX12_path : MI mX12_path 2 := ⟨gw 1644 rfl rfl, gw 17 rfl rfl, ⟨by decide, by decide, by decide +kernel⟩, by decide⟩
set_option maxRecDepth 20000 in
theorem mvX12_path : MV mX12_path := ⟨gw 1642 rfl rfl, gw 1643 rfl rfl⟩
abbrev mX12_sumOf : Md := (yX12_sumOf, cX12_sumOf, 7, (some .int))
set_option maxRecDepth 20000 in
theorem miX12_sumOf : MI mX12_sumOf 2 := ⟨gw 1686 rfl rfl, gw 17 rfl rfl, ⟨by decide, by decide, by decide +kernel⟩, by decide⟩
set_option maxRecDepth 20000 in
theorem mvX12_sumOf : MV mX12_sumOf := ⟨gw 1685 rfl rfl, gwp 108 rfl rfl⟩
abbrev mX12_segment : Md := (yX12_segment, cX12_segment, 6, (some .int))
set_option maxRecDepth 20000 in
theorem miX12_segment : MI mX12_segment 2 := ⟨gw 1682 rfl rfl, gw 17 rfl rfl, ⟨by decide, by decide, by decide +kernel⟩, by decide⟩
set_option maxRecDepth 20000 in
theorem mvX12_segment : MV mX12_segment := ⟨gw 1680 rfl rfl, gw 1681 rfl rfl⟩
abbrev mX12_octet : Md := (yX12_octet, cX12_octet, 2, (some .int))
set_option maxRecDepth 20000 in
theorem miX12_octet : MI mX12_octet 1 := ⟨gw 1692 rfl rfl, gw 17 rfl rfl, ⟨by decide, by decide, by decide +kernel⟩, by decide⟩
set_option maxRecDepth 20000 in
theorem mvX12_octet : MV mX12_octet := ⟨gw 1690 rfl rfl, gw 1691 rfl rfl⟩
abbrev mX12_refusals : Md := (yX12_refusals, cX12_refusals, 2, (some .int))
set_option maxRecDepth 20000 in
theorem miX12_refusals : MI mX12_refusals 1 := ⟨gw 1696 rfl rfl, gw 17 rfl rfl, ⟨by decide, by decide, by decide +kernel⟩, by decide⟩
set_option maxRecDepth 20000 in
theorem mvX12_refusals : MV mX12_refusals := ⟨gw 1694 rfl rfl, gw 1695 rfl rfl⟩
abbrev mX12_isAhead : Md := (yX12_isAhead, cX12_isAhead, 4, (some .boolean))
set_option maxRecDepth 20000 in
theorem miX12_isAhead : MI mX12_isAhead 3 := ⟨gw 1704 rfl rfl, gw 17 rfl rfl, ⟨by decide, by decide, by decide +kernel⟩, by decide⟩
set_option maxRecDepth 20000 in
theorem mvX12_isAhead : MV mX12_isAhead := ⟨gw 1703 rfl rfl, gwp 109 rfl rfl⟩
abbrev mX12_later : Md := (yX12_later, cX12_later, 4, (some .int))
set_option maxRecDepth 20000 in
theorem miX12_later : MI mX12_later 2 := ⟨gw 1700 rfl rfl, gw 17 rfl rfl, ⟨by decide, by decide, by decide +kernel⟩, by decide⟩
set_option maxRecDepth 20000 in
theorem mvX12_later : MV mX12_later := ⟨gw 1698 rfl rfl, gw 1699 rfl rfl⟩
abbrev mX12_finished : Md := (yX12_finished, cX12_finished, 2, (some .int))
set_option maxRecDepth 20000 in
theorem miX12_finished : MI mX12_finished 0 := ⟨gw 1836 rfl rfl, gw 17 rfl rfl, ⟨by decide, by decide, by decide +kernel⟩, by decide⟩
set_option maxRecDepth 20000 in
theorem mvX12_finished : MV mX12_finished := ⟨gw 1835 rfl rfl, gwp 138 rfl rfl⟩
abbrev mX12_finish : Md := (yX12_finish, cX12_finish, 1, (some .int))
set_option maxRecDepth 20000 in
theorem miX12_finish : MI mX12_finish 0 := ⟨gw 1832 rfl rfl, gw 17 rfl rfl, ⟨by decide, by decide, by decide +kernel⟩, by decide⟩
set_option maxRecDepth 20000 in
theorem mvX12_finish : MV mX12_finish := ⟨gw 1830 rfl rfl, gw 1831 rfl rfl⟩
abbrev mX12_without : Md := (yX12_without, cX12_without, 2, (some .int))
set_option maxRecDepth 20000 in
theorem miX12_without : MI mX12_without 1 := ⟨gw 1840 rfl rfl, gw 17 rfl rfl, ⟨by decide, by decide, by decide +kernel⟩, by decide⟩
set_option maxRecDepth 20000 in
theorem mvX12_without : MV mX12_without := ⟨gw 1838 rfl rfl, gw 1839 rfl rfl⟩
abbrev mX12_alone : Md := (yX12_alone, cX12_alone, 3, (some .int))
set_option maxRecDepth 20000 in
theorem miX12_alone : MI mX12_alone 1 := ⟨gw 1844 rfl rfl, gw 17 rfl rfl, ⟨by decide, by decide, by decide +kernel⟩, by decide⟩
set_option maxRecDepth 20000 in
theorem mvX12_alone : MV mX12_alone := ⟨gw 1842 rfl rfl, gw 1843 rfl rfl⟩
abbrev mX12_isFinishedBy : Md := (yX12_isFinishedBy, cX12_isFinishedBy, 4, (some .boolean))
set_option maxRecDepth 20000 in
theorem miX12_isFinishedBy : MI mX12_isFinishedBy 2 := ⟨gw 1852 rfl rfl, gw 17 rfl rfl, ⟨by decide, by decide, by decide +kernel⟩, by decide⟩
set_option maxRecDepth 20000 in
theorem mvX12_isFinishedBy : MV mX12_isFinishedBy := ⟨gw 1851 rfl rfl, gwp 139 rfl rfl⟩
abbrev mX12_window : Md := (yX12_window, cX12_window, 3, (some .int))
set_option maxRecDepth 20000 in
theorem miX12_window : MI mX12_window 1 := ⟨gw 1848 rfl rfl, gw 17 rfl rfl, ⟨by decide, by decide, by decide +kernel⟩, by decide⟩
set_option maxRecDepth 20000 in
theorem mvX12_window : MV mX12_window := ⟨gw 1846 rfl rfl, gw 1847 rfl rfl⟩
abbrev mX12_odds : Md := (yX12_odds, cX12_odds, 2, (some .int))
set_option maxRecDepth 20000 in
theorem miX12_odds : MI mX12_odds 1 := ⟨gw 1856 rfl rfl, gw 17 rfl rfl, ⟨by decide, by decide, by decide +kernel⟩, by decide⟩
set_option maxRecDepth 20000 in
theorem mvX12_odds : MV mX12_odds := ⟨gw 1854 rfl rfl, gw 1855 rfl rfl⟩
abbrev mX12_meet : Md := (yX12_meet, cX12_meet, 4, (some .int))
set_option maxRecDepth 20000 in
theorem miX12_meet : MI mX12_meet 0 := ⟨gw 1860 rfl rfl, gw 17 rfl rfl, ⟨by decide, by decide, by decide +kernel⟩, by decide⟩
set_option maxRecDepth 20000 in
theorem mvX12_meet : MV mX12_meet := ⟨gw 1858 rfl rfl, gw 1859 rfl rfl⟩
abbrev mX12_canBe : Md := (yX12_canBe, cX12_canBe, 6, (some .boolean))
set_option maxRecDepth 20000 in
theorem miX12_canBe : MI mX12_canBe 2 := ⟨gw 1872 rfl rfl, gw 17 rfl rfl, ⟨by decide, by decide, by decide +kernel⟩, by decide⟩
set_option maxRecDepth 20000 in
theorem mvX12_canBe : MV mX12_canBe := ⟨gw 1871 rfl rfl, gwp 141 rfl rfl⟩
abbrev mX12_delayBits : Md := (yX12_delayBits, cX12_delayBits, 4, (some .int))
set_option maxRecDepth 20000 in
theorem miX12_delayBits : MI mX12_delayBits 1 := ⟨gw 1868 rfl rfl, gw 17 rfl rfl, ⟨by decide, by decide, by decide +kernel⟩, by decide⟩
set_option maxRecDepth 20000 in
theorem mvX12_delayBits : MV mX12_delayBits := ⟨gw 1867 rfl rfl, gwp 140 rfl rfl⟩
abbrev mX12_delays : Md := (yX12_delays, cX12_delays, 2, (some .int))
set_option maxRecDepth 20000 in
theorem miX12_delays : MI mX12_delays 1 := ⟨gw 1864 rfl rfl, gw 17 rfl rfl, ⟨by decide, by decide, by decide +kernel⟩, by decide⟩
set_option maxRecDepth 20000 in
theorem mvX12_delays : MV mX12_delays := ⟨gw 1862 rfl rfl, gw 1863 rfl rfl⟩
abbrev mX12_mostBy : Md := (yX12_mostBy, cX12_mostBy, 8, (some .int))
set_option maxRecDepth 20000 in
theorem miX12_mostBy : MI mX12_mostBy 3 := ⟨gw 1881 rfl rfl, gw 17 rfl rfl, ⟨by decide, by decide, by decide +kernel⟩, by decide⟩
set_option maxRecDepth 20000 in
theorem mvX12_mostBy : MV mX12_mostBy := ⟨gw 1880 rfl rfl, gwp 142 rfl rfl⟩
abbrev mX12_tells : Md := (yX12_tells, cX12_tells, 9, (some .int))
set_option maxRecDepth 20000 in
theorem miX12_tells : MI mX12_tells 2 := ⟨gw 1876 rfl rfl, gw 17 rfl rfl, ⟨by decide, by decide, by decide +kernel⟩, by decide⟩
set_option maxRecDepth 20000 in
theorem mvX12_tells : MV mX12_tells := ⟨gw 1874 rfl rfl, gw 1875 rfl rfl⟩
abbrev mX12_ticks : Md := (yX12_ticks, cX12_ticks, 4, (some .int))
set_option maxRecDepth 20000 in
theorem miX12_ticks : MI mX12_ticks 1 := ⟨gw 1885 rfl rfl, gw 17 rfl rfl, ⟨by decide, by decide, by decide +kernel⟩, by decide⟩
set_option maxRecDepth 20000 in
theorem mvX12_ticks : MV mX12_ticks := ⟨gw 1883 rfl rfl, gw 1884 rfl rfl⟩
abbrev mX12_draw : Md := (yX12_draw, cX12_draw, 2, (some .int))
set_option maxRecDepth 20000 in
theorem miX12_draw : MI mX12_draw 1 := ⟨gw 1824 rfl rfl, gw 17 rfl rfl, ⟨by decide, by decide, by decide +kernel⟩, by decide⟩
set_option maxRecDepth 20000 in
theorem mvX12_draw : MV mX12_draw := ⟨gw 1823 rfl rfl, gwp 137 rfl rfl⟩
abbrev mX12_chance : Md := (yX12_chance, cX12_chance, 4, (some .int))
set_option maxRecDepth 20000 in
theorem miX12_chance : MI mX12_chance 1 := ⟨gw 1893 rfl rfl, gw 17 rfl rfl, ⟨by decide, by decide, by decide +kernel⟩, by decide⟩
set_option maxRecDepth 20000 in
theorem mvX12_chance : MV mX12_chance := ⟨gw 1891 rfl rfl, gw 1892 rfl rfl⟩
abbrev mX12_join : Md := (yX12_join, cX12_join, 3, (some .boolean))
set_option maxRecDepth 20000 in
theorem miX12_join : MI mX12_join 2 := ⟨gw 1897 rfl rfl, gw 17 rfl rfl, ⟨by decide, by decide, by decide +kernel⟩, by decide⟩
set_option maxRecDepth 20000 in
theorem mvX12_join : MV mX12_join := ⟨gw 1895 rfl rfl, gw 1896 rfl rfl⟩
abbrev mX12_kill : Md := (yX12_kill, cX12_kill, 2, (some .boolean))
set_option maxRecDepth 20000 in
theorem miX12_kill : MI mX12_kill 1 := ⟨gw 1901 rfl rfl, gw 17 rfl rfl, ⟨by decide, by decide, by decide +kernel⟩, by decide⟩
set_option maxRecDepth 20000 in
theorem mvX12_kill : MV mX12_kill := ⟨gw 1899 rfl rfl, gw 1900 rfl rfl⟩
abbrev mX12_spoil : Md := (yX12_spoil, cX12_spoil, 2, (some .boolean))
set_option maxRecDepth 20000 in
theorem miX12_spoil : MI mX12_spoil 1 := ⟨gw 1905 rfl rfl, gw 17 rfl rfl, ⟨by decide, by decide, by decide +kernel⟩, by decide⟩
set_option maxRecDepth 20000 in
theorem mvX12_spoil : MV mX12_spoil := ⟨gw 1903 rfl rfl, gw 1904 rfl rfl⟩
abbrev mX12_seed : Md := (yX12_seed, cX12_seed, 2, (some .boolean))
set_option maxRecDepth 20000 in
theorem miX12_seed : MI mX12_seed 1 := ⟨gw 1909 rfl rfl, gw 17 rfl rfl, ⟨by decide, by decide, by decide +kernel⟩, by decide⟩
set_option maxRecDepth 20000 in
theorem mvX12_seed : MV mX12_seed := ⟨gw 1907 rfl rfl, gw 1908 rfl rfl⟩
abbrev mX12_kept : Md := (yX12_kept, cX12_kept, 3, (some .int))
set_option maxRecDepth 20000 in
theorem miX12_kept : MI mX12_kept 2 := ⟨gw 1913 rfl rfl, gw 17 rfl rfl, ⟨by decide, by decide, by decide +kernel⟩, by decide⟩
set_option maxRecDepth 20000 in
theorem mvX12_kept : MV mX12_kept := ⟨gw 1911 rfl rfl, gw 1912 rfl rfl⟩
set_option maxRecDepth 20000 in
theorem flX0_9 : FLk RX0 9 0 0 := ⟨(RX0, TX0, 6), rfl, by decide, gw 344 rfl rfl⟩
set_option maxRecDepth 20000 in
theorem flX0_13 : FLk RX0 13 0 1 := ⟨(RX0, TX0, 6), rfl, by decide, gw 346 rfl rfl⟩
set_option maxRecDepth 20000 in
theorem flX0_16 : FLk RX0 16 0 2 := ⟨(RX0, TX0, 6), rfl, by decide, gw 348 rfl rfl⟩
set_option maxRecDepth 20000 in
theorem flX0_19 : FLk RX0 19 0 3 := ⟨(RX0, TX0, 6), rfl, by decide, gw 350 rfl rfl⟩
set_option maxRecDepth 20000 in
theorem flX0_22 : FLk RX0 22 0 4 := ⟨(RX0, TX0, 6), rfl, by decide, gw 352 rfl rfl⟩
set_option maxRecDepth 20000 in
theorem flX0_25 : FLk RX0 25 0 5 := ⟨(RX0, TX0, 6), rfl, by decide, gw 354 rfl rfl⟩
set_option maxRecDepth 20000 in
theorem flX1_7 : FLk RX1 7 1 0 := ⟨(RX1, TX1, 1), rfl, by decide, gw 34 rfl rfl⟩
set_option maxRecDepth 20000 in
theorem flX2_11 : FLk RX2 11 2 0 := ⟨(RX2, TX2, 9), rfl, by decide, gw 295 rfl rfl⟩
set_option maxRecDepth 20000 in
theorem flX2_15 : FLk RX2 15 2 1 := ⟨(RX2, TX2, 9), rfl, by decide, gw 298 rfl rfl⟩
set_option maxRecDepth 20000 in
theorem flX2_18 : FLk RX2 18 2 2 := ⟨(RX2, TX2, 9), rfl, by decide, gw 301 rfl rfl⟩
set_option maxRecDepth 20000 in
theorem flX2_21 : FLk RX2 21 2 3 := ⟨(RX2, TX2, 9), rfl, by decide, gw 304 rfl rfl⟩
set_option maxRecDepth 20000 in
theorem flX2_24 : FLk RX2 24 2 4 := ⟨(RX2, TX2, 9), rfl, by decide, gw 307 rfl rfl⟩
set_option maxRecDepth 20000 in
theorem flX2_27 : FLk RX2 27 2 5 := ⟨(RX2, TX2, 9), rfl, by decide, gw 310 rfl rfl⟩
set_option maxRecDepth 20000 in
theorem flX2_30 : FLk RX2 30 2 6 := ⟨(RX2, TX2, 9), rfl, by decide, gw 312 rfl rfl⟩
set_option maxRecDepth 20000 in
theorem flX2_34 : FLk RX2 34 2 7 := ⟨(RX2, TX2, 9), rfl, by decide, gw 314 rfl rfl⟩
set_option maxRecDepth 20000 in
theorem flX2_37 : FLk RX2 37 2 8 := ⟨(RX2, TX2, 9), rfl, by decide, gw 316 rfl rfl⟩
set_option maxRecDepth 20000 in
theorem mlX2_47 : Cond.methodLink RX2 47 yX2_move ∈ lw_good := gw 998 rfl rfl
set_option maxRecDepth 20000 in
theorem flX3_9 : FLk RX3 9 3 0 := ⟨(RX3, TX3, 3), rfl, by decide, gw 52 rfl rfl⟩
set_option maxRecDepth 20000 in
theorem flX3_15 : FLk RX3 15 3 1 := ⟨(RX3, TX3, 3), rfl, by decide, gw 53 rfl rfl⟩
set_option maxRecDepth 20000 in
theorem flX3_18 : FLk RX3 18 3 2 := ⟨(RX3, TX3, 3), rfl, by decide, gw 54 rfl rfl⟩
set_option maxRecDepth 20000 in
theorem mlX3_23 : Cond.methodLink RX3 23 yX3_joinedBy ∈ lw_good := gw 800 rfl rfl
set_option maxRecDepth 20000 in
theorem flX4_9 : FLk RX4 9 4 0 := ⟨(RX4, TX4, 5), rfl, by decide, gw 395 rfl rfl⟩
set_option maxRecDepth 20000 in
theorem flX4_13 : FLk RX4 13 4 1 := ⟨(RX4, TX4, 5), rfl, by decide, gw 397 rfl rfl⟩
set_option maxRecDepth 20000 in
theorem flX4_16 : FLk RX4 16 4 2 := ⟨(RX4, TX4, 5), rfl, by decide, gw 399 rfl rfl⟩
set_option maxRecDepth 20000 in
theorem flX4_19 : FLk RX4 19 4 3 := ⟨(RX4, TX4, 5), rfl, by decide, gw 401 rfl rfl⟩
set_option maxRecDepth 20000 in
theorem flX4_23 : FLk RX4 23 4 4 := ⟨(RX4, TX4, 5), rfl, by decide, gw 403 rfl rfl⟩
set_option maxRecDepth 20000 in
theorem flX5_9 : FLk RX5 9 5 0 := ⟨(RX5, TX5, 3), rfl, by decide, gw 376 rfl rfl⟩
set_option maxRecDepth 20000 in
theorem flX5_13 : FLk RX5 13 5 1 := ⟨(RX5, TX5, 3), rfl, by decide, gw 378 rfl rfl⟩
set_option maxRecDepth 20000 in
theorem flX5_16 : FLk RX5 16 5 2 := ⟨(RX5, TX5, 3), rfl, by decide, gw 380 rfl rfl⟩
set_option maxRecDepth 20000 in
theorem flX6_9 : FLk RX6 9 6 7 := ⟨(RX6, TX6, 15), rfl, by decide, gw 87 rfl rfl⟩
set_option maxRecDepth 20000 in
theorem flX6_15 : FLk RX6 15 6 8 := ⟨(RX6, TX6, 15), rfl, by decide, gw 90 rfl rfl⟩
set_option maxRecDepth 20000 in
theorem flX6_18 : FLk RX6 18 6 9 := ⟨(RX6, TX6, 15), rfl, by decide, gw 93 rfl rfl⟩
set_option maxRecDepth 20000 in
theorem flX6_21 : FLk RX6 21 6 10 := ⟨(RX6, TX6, 15), rfl, by decide, gw 96 rfl rfl⟩
set_option maxRecDepth 20000 in
theorem flX6_27 : FLk RX6 27 6 11 := ⟨(RX6, TX6, 15), rfl, by decide, gw 100 rfl rfl⟩
set_option maxRecDepth 20000 in
theorem flX6_31 : FLk RX6 31 6 12 := ⟨(RX6, TX6, 15), rfl, by decide, gw 102 rfl rfl⟩
set_option maxRecDepth 20000 in
theorem flX6_34 : FLk RX6 34 6 13 := ⟨(RX6, TX6, 15), rfl, by decide, gw 105 rfl rfl⟩
set_option maxRecDepth 20000 in
theorem flX6_37 : FLk RX6 37 6 14 := ⟨(RX6, TX6, 15), rfl, by decide, gw 108 rfl rfl⟩
set_option maxRecDepth 20000 in
theorem flX6_40 : FLk RX6 40 6 0 := ⟨(RX6, TX6, 15), rfl, by decide, gw 63 rfl rfl⟩
set_option maxRecDepth 20000 in
theorem flX6_44 : FLk RX6 44 6 1 := ⟨(RX6, TX6, 15), rfl, by decide, gw 66 rfl rfl⟩
set_option maxRecDepth 20000 in
theorem flX6_47 : FLk RX6 47 6 5 := ⟨(RX6, TX6, 15), rfl, by decide, gw 79 rfl rfl⟩
set_option maxRecDepth 20000 in
theorem flX6_50 : FLk RX6 50 6 6 := ⟨(RX6, TX6, 15), rfl, by decide, gw 83 rfl rfl⟩
set_option maxRecDepth 20000 in
theorem flX6_53 : FLk RX6 53 3 2 := ⟨(RX3, TX3, 3), rfl, by decide, gw 55 rfl rfl⟩
set_option maxRecDepth 20000 in
theorem flX6_54 : FLk RX6 54 6 4 := ⟨(RX6, TX6, 15), rfl, by decide, gw 77 rfl rfl⟩
set_option maxRecDepth 20000 in
theorem flX7_9 : FLk RX7 9 7 0 := ⟨(RX7, TX7, 6), rfl, by decide, gw 260 rfl rfl⟩
set_option maxRecDepth 20000 in
theorem flX7_15 : FLk RX7 15 7 1 := ⟨(RX7, TX7, 6), rfl, by decide, gw 262 rfl rfl⟩
set_option maxRecDepth 20000 in
theorem flX7_19 : FLk RX7 19 6 1 := ⟨(RX6, TX6, 15), rfl, by decide, gw 67 rfl rfl⟩
set_option maxRecDepth 20000 in
theorem flX7_25 : FLk RX7 25 7 2 := ⟨(RX7, TX7, 6), rfl, by decide, gw 265 rfl rfl⟩
set_option maxRecDepth 20000 in
theorem flX7_26 : FLk RX7 26 6 3 := ⟨(RX6, TX6, 15), rfl, by decide, gw 75 rfl rfl⟩
set_option maxRecDepth 20000 in
theorem flX7_29 : FLk RX7 29 7 3 := ⟨(RX7, TX7, 6), rfl, by decide, gw 267 rfl rfl⟩
set_option maxRecDepth 20000 in
theorem flX7_30 : FLk RX7 30 7 4 := ⟨(RX7, TX7, 6), rfl, by decide, gw 270 rfl rfl⟩
set_option maxRecDepth 20000 in
theorem flX7_33 : FLk RX7 33 7 5 := ⟨(RX7, TX7, 6), rfl, by decide, gw 273 rfl rfl⟩
set_option maxRecDepth 20000 in
theorem mlX7_42 : Cond.methodLink RX7 42 yX7_take ∈ lw_good := gw 927 rfl rfl
set_option maxRecDepth 20000 in
theorem flX8_7 : FLk RX8 7 8 0 := ⟨(RX8, TX8, 8), rfl, by decide, gw 420 rfl rfl⟩
set_option maxRecDepth 20000 in
theorem flX8_13 : FLk RX8 13 8 1 := ⟨(RX8, TX8, 8), rfl, by decide, gw 423 rfl rfl⟩
set_option maxRecDepth 20000 in
theorem flX8_17 : FLk RX8 17 8 2 := ⟨(RX8, TX8, 8), rfl, by decide, gw 425 rfl rfl⟩
set_option maxRecDepth 20000 in
theorem flX8_20 : FLk RX8 20 8 3 := ⟨(RX8, TX8, 8), rfl, by decide, gw 428 rfl rfl⟩
set_option maxRecDepth 20000 in
theorem flX8_23 : FLk RX8 23 8 4 := ⟨(RX8, TX8, 8), rfl, by decide, gw 431 rfl rfl⟩
set_option maxRecDepth 20000 in
theorem flX8_26 : FLk RX8 26 8 5 := ⟨(RX8, TX8, 8), rfl, by decide, gw 434 rfl rfl⟩
set_option maxRecDepth 20000 in
theorem flX8_29 : FLk RX8 29 8 6 := ⟨(RX8, TX8, 8), rfl, by decide, gw 437 rfl rfl⟩
set_option maxRecDepth 20000 in
theorem flX8_32 : FLk RX8 32 8 7 := ⟨(RX8, TX8, 8), rfl, by decide, gw 440 rfl rfl⟩
set_option maxRecDepth 20000 in
theorem mlX8_35 : Cond.methodLink RX8 35 yX8_isAlive ∈ lw_good := gw 1018 rfl rfl
set_option maxRecDepth 20000 in
theorem flX9_11 : FLk RX9 11 9 0 := ⟨(RX9, TX9, 15), rfl, by decide, gw 197 rfl rfl⟩
set_option maxRecDepth 20000 in
theorem flX9_15 : FLk RX9 15 9 3 := ⟨(RX9, TX9, 15), rfl, by decide, gw 202 rfl rfl⟩
set_option maxRecDepth 20000 in
theorem flX9_18 : FLk RX9 18 9 6 := ⟨(RX9, TX9, 15), rfl, by decide, gw 205 rfl rfl⟩
set_option maxRecDepth 20000 in
theorem flX9_22 : FLk RX9 22 6 11 := ⟨(RX6, TX6, 15), rfl, by decide, gw 99 rfl rfl⟩
set_option maxRecDepth 20000 in
theorem flX9_28 : FLk RX9 28 9 7 := ⟨(RX9, TX9, 15), rfl, by decide, gw 206 rfl rfl⟩
set_option maxRecDepth 20000 in
theorem flX9_43 : FLk RX9 43 9 4 := ⟨(RX9, TX9, 15), rfl, by decide, gw 203 rfl rfl⟩
set_option maxRecDepth 20000 in
theorem flX9_46 : FLk RX9 46 9 5 := ⟨(RX9, TX9, 15), rfl, by decide, gw 204 rfl rfl⟩
set_option maxRecDepth 20000 in
theorem flX9_49 : FLk RX9 49 9 9 := ⟨(RX9, TX9, 15), rfl, by decide, gw 208 rfl rfl⟩
set_option maxRecDepth 20000 in
theorem flX9_52 : FLk RX9 52 9 1 := ⟨(RX9, TX9, 15), rfl, by decide, gw 198 rfl rfl⟩
set_option maxRecDepth 20000 in
theorem flX9_55 : FLk RX9 55 9 2 := ⟨(RX9, TX9, 15), rfl, by decide, gw 200 rfl rfl⟩
set_option maxRecDepth 20000 in
theorem flX9_58 : FLk RX9 58 9 10 := ⟨(RX9, TX9, 15), rfl, by decide, gw 209 rfl rfl⟩
set_option maxRecDepth 20000 in
theorem flX9_74 : FLk RX9 74 6 0 := ⟨(RX6, TX6, 15), rfl, by decide, gw 64 rfl rfl⟩
set_option maxRecDepth 20000 in
theorem flX9_77 : FLk RX9 77 9 12 := ⟨(RX9, TX9, 15), rfl, by decide, gw 211 rfl rfl⟩
set_option maxRecDepth 20000 in
theorem flX9_80 : FLk RX9 80 9 11 := ⟨(RX9, TX9, 15), rfl, by decide, gw 210 rfl rfl⟩
set_option maxRecDepth 20000 in
theorem flX9_100 : FLk RX9 100 9 13 := ⟨(RX9, TX9, 15), rfl, by decide, gw 212 rfl rfl⟩
set_option maxRecDepth 20000 in
theorem flX9_103 : FLk RX9 103 9 14 := ⟨(RX9, TX9, 15), rfl, by decide, gw 213 rfl rfl⟩
set_option maxRecDepth 20000 in
theorem flX9_128 : FLk RX9 128 6 5 := ⟨(RX6, TX6, 15), rfl, by decide, gw 80 rfl rfl⟩
set_option maxRecDepth 20000 in
theorem flX9_135 : FLk RX9 135 6 12 := ⟨(RX6, TX6, 15), rfl, by decide, gw 103 rfl rfl⟩
set_option maxRecDepth 20000 in
theorem flX9_138 : FLk RX9 138 6 13 := ⟨(RX6, TX6, 15), rfl, by decide, gw 106 rfl rfl⟩
set_option maxRecDepth 20000 in
theorem flX9_141 : FLk RX9 141 6 14 := ⟨(RX6, TX6, 15), rfl, by decide, gw 110 rfl rfl⟩
set_option maxRecDepth 20000 in
theorem flX9_147 : FLk RX9 147 6 1 := ⟨(RX6, TX6, 15), rfl, by decide, gw 69 rfl rfl⟩
set_option maxRecDepth 20000 in
theorem flX9_148 : FLk RX9 148 6 2 := ⟨(RX6, TX6, 15), rfl, by decide, gw 71 rfl rfl⟩
set_option maxRecDepth 20000 in
theorem flX9_151 : FLk RX9 151 6 3 := ⟨(RX6, TX6, 15), rfl, by decide, gw 76 rfl rfl⟩
set_option maxRecDepth 20000 in
theorem flX9_154 : FLk RX9 154 6 4 := ⟨(RX6, TX6, 15), rfl, by decide, gw 78 rfl rfl⟩
set_option maxRecDepth 20000 in
theorem flX9_157 : FLk RX9 157 6 6 := ⟨(RX6, TX6, 15), rfl, by decide, gw 86 rfl rfl⟩
set_option maxRecDepth 20000 in
theorem flX9_167 : FLk RX9 167 6 7 := ⟨(RX6, TX6, 15), rfl, by decide, gw 89 rfl rfl⟩
set_option maxRecDepth 20000 in
theorem flX9_170 : FLk RX9 170 6 8 := ⟨(RX6, TX6, 15), rfl, by decide, gw 92 rfl rfl⟩
set_option maxRecDepth 20000 in
theorem flX9_173 : FLk RX9 173 6 9 := ⟨(RX6, TX6, 15), rfl, by decide, gw 95 rfl rfl⟩
set_option maxRecDepth 20000 in
theorem flX9_176 : FLk RX9 176 6 10 := ⟨(RX6, TX6, 15), rfl, by decide, gw 98 rfl rfl⟩
set_option maxRecDepth 20000 in
theorem flX9_185 : FLk RX9 185 9 8 := ⟨(RX9, TX9, 15), rfl, by decide, gw 207 rfl rfl⟩
set_option maxRecDepth 20000 in
theorem mlX9_61 : Cond.methodLink RX9 61 yX6_clear ∈ lw_good := gw 599 rfl rfl
set_option maxRecDepth 20000 in
theorem mlX9_64 : Cond.methodLink RX9 64 yX9_advance ∈ lw_good := gw 603 rfl rfl
set_option maxRecDepth 20000 in
theorem mlX9_67 : Cond.methodLink RX9 67 yX9_readStatement ∈ lw_good := gw 623 rfl rfl
set_option maxRecDepth 20000 in
theorem mlX9_71 : Cond.methodLink RX9 71 yX9_expectSign ∈ lw_good := gw 699 rfl rfl
set_option maxRecDepth 20000 in
theorem mlX9_83 : Cond.methodLink RX9 83 yX9_blame ∈ lw_good := gw 643 rfl rfl
set_option maxRecDepth 20000 in
theorem mlX9_87 : Cond.methodLink RX9 87 yX9_isLetter ∈ lw_good := gw 607 rfl rfl
set_option maxRecDepth 20000 in
theorem mlX9_91 : Cond.methodLink RX9 91 yX9_takeWord ∈ lw_good := gw 611 rfl rfl
set_option maxRecDepth 20000 in
theorem mlX9_94 : Cond.methodLink RX9 94 yX9_isDigit ∈ lw_good := gw 615 rfl rfl
set_option maxRecDepth 20000 in
theorem mlX9_97 : Cond.methodLink RX9 97 yX9_takeNumber ∈ lw_good := gw 619 rfl rfl
set_option maxRecDepth 20000 in
theorem mlX9_106 : Cond.methodLink RX9 106 yX9_isWord ∈ lw_good := gw 635 rfl rfl
set_option maxRecDepth 20000 in
theorem mlX9_109 : Cond.methodLink RX9 109 yX9_blameHere ∈ lw_good := gw 639 rfl rfl
set_option maxRecDepth 20000 in
theorem mlX9_112 : Cond.methodLink RX9 112 yX9_isSign ∈ lw_good := gw 695 rfl rfl
set_option maxRecDepth 20000 in
theorem mlX9_115 : Cond.methodLink RX9 115 yX9_readStream ∈ lw_good := gw 627 rfl rfl
set_option maxRecDepth 20000 in
theorem mlX9_118 : Cond.methodLink RX9 118 yX9_readPath ∈ lw_good := gw 651 rfl rfl
set_option maxRecDepth 20000 in
theorem mlX9_121 : Cond.methodLink RX9 121 yX9_readJoin ∈ lw_good := gw 663 rfl rfl
set_option maxRecDepth 20000 in
theorem mlX9_124 : Cond.methodLink RX9 124 yX9_expectNumber ∈ lw_good := gw 647 rfl rfl
set_option maxRecDepth 20000 in
theorem mlX9_131 : Cond.methodLink RX9 131 yX9_readFormula ∈ lw_good := gw 667 rfl rfl
set_option maxRecDepth 20000 in
theorem mlX9_144 : Cond.methodLink RX9 144 yX9_expectWord ∈ lw_good := gw 631 rfl rfl
set_option maxRecDepth 20000 in
theorem mlX9_160 : Cond.methodLink RX9 160 yX9_expectName ∈ lw_good := gw 655 rfl rfl
set_option maxRecDepth 20000 in
theorem mlX9_163 : Cond.methodLink RX9 163 yX6_pathNamed ∈ lw_good := gw 659 rfl rfl
set_option maxRecDepth 20000 in
theorem mlX9_179 : Cond.methodLink RX9 179 yX3_isTold ∈ lw_good := gw 671 rfl rfl
set_option maxRecDepth 20000 in
theorem mlX9_188 : Cond.methodLink RX9 188 yX9_readTest ∈ lw_good := gw 675 rfl rfl
set_option maxRecDepth 20000 in
theorem mlX9_191 : Cond.methodLink RX9 191 yX9_readSum ∈ lw_good := gw 703 rfl rfl
set_option maxRecDepth 20000 in
theorem mlX9_194 : Cond.methodLink RX9 194 yX9_readBoth ∈ lw_good := gw 679 rfl rfl
set_option maxRecDepth 20000 in
theorem mlX9_197 : Cond.methodLink RX9 197 yX3_put ∈ lw_good := gw 691 rfl rfl
set_option maxRecDepth 20000 in
theorem mlX9_200 : Cond.methodLink RX9 200 yX9_readFact ∈ lw_good := gw 683 rfl rfl
set_option maxRecDepth 20000 in
theorem mlX9_203 : Cond.methodLink RX9 203 yX9_openSign ∈ lw_good := gw 687 rfl rfl
set_option maxRecDepth 20000 in
theorem mlX9_206 : Cond.methodLink RX9 206 yX9_readProduct ∈ lw_good := gw 707 rfl rfl
set_option maxRecDepth 20000 in
theorem mlX9_209 : Cond.methodLink RX9 209 yX9_readPart ∈ lw_good := gw 711 rfl rfl
set_option maxRecDepth 20000 in
theorem mlX9_212 : Cond.methodLink RX9 212 yX9_readChoice ∈ lw_good := gw 715 rfl rfl
set_option maxRecDepth 20000 in
theorem mlX9_215 : Cond.methodLink RX9 215 yX9_readPair ∈ lw_good := gw 719 rfl rfl
set_option maxRecDepth 20000 in
theorem mlX9_218 : Cond.methodLink RX9 218 yX9_factOf ∈ lw_good := gw 723 rfl rfl
set_option maxRecDepth 20000 in
theorem flX10_11 : FLk RX10 11 10 0 := ⟨(RX10, TX10, 16), rfl, by decide, gw 460 rfl rfl⟩
set_option maxRecDepth 20000 in
theorem flX10_20 : FLk RX10 20 10 1 := ⟨(RX10, TX10, 16), rfl, by decide, gw 462 rfl rfl⟩
set_option maxRecDepth 20000 in
theorem flX10_27 : FLk RX10 27 10 2 := ⟨(RX10, TX10, 16), rfl, by decide, gw 464 rfl rfl⟩
set_option maxRecDepth 20000 in
theorem flX10_34 : FLk RX10 34 10 3 := ⟨(RX10, TX10, 16), rfl, by decide, gw 466 rfl rfl⟩
set_option maxRecDepth 20000 in
theorem flX10_41 : FLk RX10 41 10 4 := ⟨(RX10, TX10, 16), rfl, by decide, gw 468 rfl rfl⟩
set_option maxRecDepth 20000 in
theorem flX10_48 : FLk RX10 48 10 5 := ⟨(RX10, TX10, 16), rfl, by decide, gw 470 rfl rfl⟩
set_option maxRecDepth 20000 in
theorem flX10_54 : FLk RX10 54 10 6 := ⟨(RX10, TX10, 16), rfl, by decide, gw 472 rfl rfl⟩
set_option maxRecDepth 20000 in
theorem flX10_58 : FLk RX10 58 10 7 := ⟨(RX10, TX10, 16), rfl, by decide, gw 473 rfl rfl⟩
set_option maxRecDepth 20000 in
theorem flX10_63 : FLk RX10 63 10 8 := ⟨(RX10, TX10, 16), rfl, by decide, gw 474 rfl rfl⟩
set_option maxRecDepth 20000 in
theorem flX10_67 : FLk RX10 67 10 9 := ⟨(RX10, TX10, 16), rfl, by decide, gw 476 rfl rfl⟩
set_option maxRecDepth 20000 in
theorem flX10_70 : FLk RX10 70 10 10 := ⟨(RX10, TX10, 16), rfl, by decide, gw 478 rfl rfl⟩
set_option maxRecDepth 20000 in
theorem flX10_73 : FLk RX10 73 6 3 := ⟨(RX6, TX6, 15), rfl, by decide, gw 74 rfl rfl⟩
set_option maxRecDepth 20000 in
theorem flX10_78 : FLk RX10 78 10 11 := ⟨(RX10, TX10, 16), rfl, by decide, gw 480 rfl rfl⟩
set_option maxRecDepth 20000 in
theorem flX10_81 : FLk RX10 81 10 12 := ⟨(RX10, TX10, 16), rfl, by decide, gw 482 rfl rfl⟩
set_option maxRecDepth 20000 in
theorem flX10_88 : FLk RX10 88 2 8 := ⟨(RX2, TX2, 9), rfl, by decide, gw 317 rfl rfl⟩
set_option maxRecDepth 20000 in
theorem flX10_91 : FLk RX10 91 0 5 := ⟨(RX0, TX0, 6), rfl, by decide, gw 355 rfl rfl⟩
set_option maxRecDepth 20000 in
theorem flX10_92 : FLk RX10 92 5 2 := ⟨(RX5, TX5, 3), rfl, by decide, gw 381 rfl rfl⟩
set_option maxRecDepth 20000 in
theorem flX10_96 : FLk RX10 96 6 8 := ⟨(RX6, TX6, 15), rfl, by decide, gw 91 rfl rfl⟩
set_option maxRecDepth 20000 in
theorem flX10_102 : FLk RX10 102 6 6 := ⟨(RX6, TX6, 15), rfl, by decide, gw 84 rfl rfl⟩
set_option maxRecDepth 20000 in
theorem flX10_127 : FLk RX10 127 7 2 := ⟨(RX7, TX7, 6), rfl, by decide, gw 266 rfl rfl⟩
set_option maxRecDepth 20000 in
theorem flX10_134 : FLk RX10 134 8 5 := ⟨(RX8, TX8, 8), rfl, by decide, gw 435 rfl rfl⟩
set_option maxRecDepth 20000 in
theorem flX10_137 : FLk RX10 137 8 0 := ⟨(RX8, TX8, 8), rfl, by decide, gw 421 rfl rfl⟩
set_option maxRecDepth 20000 in
theorem flX10_139 : FLk RX10 139 6 14 := ⟨(RX6, TX6, 15), rfl, by decide, gw 109 rfl rfl⟩
set_option maxRecDepth 20000 in
theorem flX10_146 : FLk RX10 146 8 3 := ⟨(RX8, TX8, 8), rfl, by decide, gw 429 rfl rfl⟩
set_option maxRecDepth 20000 in
theorem flX10_149 : FLk RX10 149 8 4 := ⟨(RX8, TX8, 8), rfl, by decide, gw 432 rfl rfl⟩
set_option maxRecDepth 20000 in
theorem flX10_172 : FLk RX10 172 7 1 := ⟨(RX7, TX7, 6), rfl, by decide, gw 263 rfl rfl⟩
set_option maxRecDepth 20000 in
theorem flX10_175 : FLk RX10 175 8 2 := ⟨(RX8, TX8, 8), rfl, by decide, gw 426 rfl rfl⟩
set_option maxRecDepth 20000 in
theorem flX10_183 : FLk RX10 183 2 7 := ⟨(RX2, TX2, 9), rfl, by decide, gw 315 rfl rfl⟩
set_option maxRecDepth 20000 in
theorem flX10_187 : FLk RX10 187 2 0 := ⟨(RX2, TX2, 9), rfl, by decide, gw 296 rfl rfl⟩
set_option maxRecDepth 20000 in
theorem flX10_193 : FLk RX10 193 2 2 := ⟨(RX2, TX2, 9), rfl, by decide, gw 302 rfl rfl⟩
set_option maxRecDepth 20000 in
theorem flX10_196 : FLk RX10 196 2 3 := ⟨(RX2, TX2, 9), rfl, by decide, gw 305 rfl rfl⟩
set_option maxRecDepth 20000 in
theorem flX10_202 : FLk RX10 202 10 13 := ⟨(RX10, TX10, 16), rfl, by decide, gw 484 rfl rfl⟩
set_option maxRecDepth 20000 in
theorem flX10_205 : FLk RX10 205 10 14 := ⟨(RX10, TX10, 16), rfl, by decide, gw 486 rfl rfl⟩
set_option maxRecDepth 20000 in
theorem flX10_208 : FLk RX10 208 10 15 := ⟨(RX10, TX10, 16), rfl, by decide, gw 488 rfl rfl⟩
set_option maxRecDepth 20000 in
theorem flX10_235 : FLk RX10 235 6 9 := ⟨(RX6, TX6, 15), rfl, by decide, gw 94 rfl rfl⟩
set_option maxRecDepth 20000 in
theorem flX10_238 : FLk RX10 238 6 10 := ⟨(RX6, TX6, 15), rfl, by decide, gw 97 rfl rfl⟩
set_option maxRecDepth 20000 in
theorem flX10_245 : FLk RX10 245 0 4 := ⟨(RX0, TX0, 6), rfl, by decide, gw 353 rfl rfl⟩
set_option maxRecDepth 20000 in
theorem flX10_248 : FLk RX10 248 0 2 := ⟨(RX0, TX0, 6), rfl, by decide, gw 349 rfl rfl⟩
set_option maxRecDepth 20000 in
theorem flX10_250 : FLk RX10 250 0 3 := ⟨(RX0, TX0, 6), rfl, by decide, gw 351 rfl rfl⟩
set_option maxRecDepth 20000 in
theorem flX10_252 : FLk RX10 252 0 0 := ⟨(RX0, TX0, 6), rfl, by decide, gw 345 rfl rfl⟩
set_option maxRecDepth 20000 in
theorem flX10_253 : FLk RX10 253 0 1 := ⟨(RX0, TX0, 6), rfl, by decide, gw 347 rfl rfl⟩
set_option maxRecDepth 20000 in
theorem flX10_266 : FLk RX10 266 2 5 := ⟨(RX2, TX2, 9), rfl, by decide, gw 311 rfl rfl⟩
set_option maxRecDepth 20000 in
theorem flX10_267 : FLk RX10 267 2 6 := ⟨(RX2, TX2, 9), rfl, by decide, gw 313 rfl rfl⟩
set_option maxRecDepth 20000 in
theorem flX10_281 : FLk RX10 281 7 5 := ⟨(RX7, TX7, 6), rfl, by decide, gw 275 rfl rfl⟩
set_option maxRecDepth 20000 in
theorem flX10_293 : FLk RX10 293 2 1 := ⟨(RX2, TX2, 9), rfl, by decide, gw 300 rfl rfl⟩
set_option maxRecDepth 20000 in
theorem flX10_300 : FLk RX10 300 6 13 := ⟨(RX6, TX6, 15), rfl, by decide, gw 107 rfl rfl⟩
set_option maxRecDepth 20000 in
theorem flX10_303 : FLk RX10 303 7 4 := ⟨(RX7, TX7, 6), rfl, by decide, gw 272 rfl rfl⟩
set_option maxRecDepth 20000 in
theorem flX10_306 : FLk RX10 306 7 3 := ⟨(RX7, TX7, 6), rfl, by decide, gw 268 rfl rfl⟩
set_option maxRecDepth 20000 in
theorem flX10_313 : FLk RX10 313 2 4 := ⟨(RX2, TX2, 9), rfl, by decide, gw 309 rfl rfl⟩
set_option maxRecDepth 20000 in
theorem flX10_323 : FLk RX10 323 6 1 := ⟨(RX6, TX6, 15), rfl, by decide, gw 70 rfl rfl⟩
set_option maxRecDepth 20000 in
theorem flX10_327 : FLk RX10 327 5 0 := ⟨(RX5, TX5, 3), rfl, by decide, gw 377 rfl rfl⟩
set_option maxRecDepth 20000 in
theorem flX10_328 : FLk RX10 328 5 1 := ⟨(RX5, TX5, 3), rfl, by decide, gw 379 rfl rfl⟩
set_option maxRecDepth 20000 in
theorem flX10_336 : FLk RX10 336 6 2 := ⟨(RX6, TX6, 15), rfl, by decide, gw 73 rfl rfl⟩
set_option maxRecDepth 20000 in
theorem flX10_345 : FLk RX10 345 6 12 := ⟨(RX6, TX6, 15), rfl, by decide, gw 104 rfl rfl⟩
set_option maxRecDepth 20000 in
theorem flX10_348 : FLk RX10 348 8 6 := ⟨(RX8, TX8, 8), rfl, by decide, gw 439 rfl rfl⟩
set_option maxRecDepth 20000 in
theorem flX10_349 : FLk RX10 349 6 11 := ⟨(RX6, TX6, 15), rfl, by decide, gw 101 rfl rfl⟩
set_option maxRecDepth 20000 in
theorem flX10_357 : FLk RX10 357 6 5 := ⟨(RX6, TX6, 15), rfl, by decide, gw 82 rfl rfl⟩
set_option maxRecDepth 20000 in
theorem flX10_360 : FLk RX10 360 8 7 := ⟨(RX8, TX8, 8), rfl, by decide, gw 442 rfl rfl⟩
set_option maxRecDepth 20000 in
theorem mlX10_84 : Cond.methodLink RX10 84 yX7_begin ∈ lw_good := gw 731 rfl rfl
set_option maxRecDepth 20000 in
theorem mlX10_93 : Cond.methodLink RX10 93 yX4_clear ∈ lw_good := gw 735 rfl rfl
set_option maxRecDepth 20000 in
theorem mlX10_99 : Cond.methodLink RX10 99 yX8_begin ∈ lw_good := gw 739 rfl rfl
set_option maxRecDepth 20000 in
theorem mlX10_105 : Cond.methodLink RX10 105 yX8_enter ∈ lw_good := gw 743 rfl rfl
set_option maxRecDepth 20000 in
theorem mlX10_108 : Cond.methodLink RX10 108 yX7_copyFrom ∈ lw_good := gw 849 rfl rfl
set_option maxRecDepth 20000 in
theorem mlX10_112 : Cond.methodLink RX10 112 yX2_copyFrom ∈ lw_good := gw 856 rfl rfl
set_option maxRecDepth 20000 in
theorem mlX10_115 : Cond.methodLink RX10 115 yX0_copyFrom ∈ lw_good := gw 861 rfl rfl
set_option maxRecDepth 20000 in
theorem mlX10_118 : Cond.methodLink RX10 118 yX5_copyFrom ∈ lw_good := gw 866 rfl rfl
set_option maxRecDepth 20000 in
theorem mlX10_121 : Cond.methodLink RX10 121 yX4_copyFrom ∈ lw_good := gw 871 rfl rfl
set_option maxRecDepth 20000 in
theorem mlX10_124 : Cond.methodLink RX10 124 yX8_copyFrom ∈ lw_good := gw 876 rfl rfl
set_option maxRecDepth 20000 in
theorem mlX10_130 : Cond.methodLink RX10 130 yX8_isAlive ∈ lw_good := gw 763 rfl rfl
set_option maxRecDepth 20000 in
theorem mlX10_143 : Cond.methodLink RX10 143 yX3_isTold ∈ lw_good := gw 794 rfl rfl
set_option maxRecDepth 20000 in
theorem mlX10_152 : Cond.methodLink RX10 152 yX3_valueBy ∈ lw_good := gw 795 rfl rfl
set_option maxRecDepth 20000 in
theorem mlX10_165 : Cond.methodLink RX10 165 yX8_isNew ∈ lw_good := gw 892 rfl rfl
set_option maxRecDepth 20000 in
theorem mlX10_168 : Cond.methodLink RX10 168 yX6_rightToken ∈ lw_good := gw 896 rfl rfl
set_option maxRecDepth 20000 in
theorem mlX10_179 : Cond.methodLink RX10 179 yX4_add ∈ lw_good := gw 963 rfl rfl
set_option maxRecDepth 20000 in
theorem mlX10_190 : Cond.methodLink RX10 190 yX10_sendAgain ∈ lw_good := gw 968 rfl rfl
set_option maxRecDepth 20000 in
theorem mlX10_199 : Cond.methodLink RX10 199 yX5_add ∈ lw_good := gw 972 rfl rfl
set_option maxRecDepth 20000 in
theorem mlX10_211 : Cond.methodLink RX10 211 yX10_joinTold ∈ lw_good := gw 884 rfl rfl
set_option maxRecDepth 20000 in
theorem mlX10_214 : Cond.methodLink RX10 214 yX10_hearAnswers ∈ lw_good := gw 900 rfl rfl
set_option maxRecDepth 20000 in
theorem mlX10_217 : Cond.methodLink RX10 217 yX10_receive ∈ lw_good := gw 919 rfl rfl
set_option maxRecDepth 20000 in
theorem mlX10_220 : Cond.methodLink RX10 220 yX0_tidy ∈ lw_good := gw 976 rfl rfl
set_option maxRecDepth 20000 in
theorem mlX10_223 : Cond.methodLink RX10 223 yX10_failLate ∈ lw_good := gw 980 rfl rfl
set_option maxRecDepth 20000 in
theorem mlX10_226 : Cond.methodLink RX10 226 yX2_tidy ∈ lw_good := gw 994 rfl rfl
set_option maxRecDepth 20000 in
theorem mlX10_227 : Cond.methodLink RX10 227 yX10_sendPieces ∈ lw_good := gw 1002 rfl rfl
set_option maxRecDepth 20000 in
theorem mlX10_231 : Cond.methodLink RX10 231 yX10_penalise ∈ lw_good := gw 1038 rfl rfl
set_option maxRecDepth 20000 in
theorem mlX10_241 : Cond.methodLink RX10 241 yX10_tryToken ∈ lw_good := gw 888 rfl rfl
set_option maxRecDepth 20000 in
theorem mlX10_256 : Cond.methodLink RX10 256 yX2_rowOf ∈ lw_good := gw 904 rfl rfl
set_option maxRecDepth 20000 in
theorem mlX10_259 : Cond.methodLink RX10 259 yX10_settle ∈ lw_good := gw 908 rfl rfl
set_option maxRecDepth 20000 in
theorem mlX10_263 : Cond.methodLink RX10 263 yX8_grow ∈ lw_good := gw 913 rfl rfl
set_option maxRecDepth 20000 in
theorem mlX10_270 : Cond.methodLink RX10 270 yX7_arrive ∈ lw_good := gw 923 rfl rfl
set_option maxRecDepth 20000 in
theorem mlX10_274 : Cond.methodLink RX10 274 yX7_missing ∈ lw_good := gw 931 rfl rfl
set_option maxRecDepth 20000 in
theorem mlX10_277 : Cond.methodLink RX10 277 yX10_amountToRead ∈ lw_good := gw 935 rfl rfl
set_option maxRecDepth 20000 in
theorem mlX10_284 : Cond.methodLink RX10 284 yX10_answerRight ∈ lw_good := gw 939 rfl rfl
set_option maxRecDepth 20000 in
theorem mlX10_287 : Cond.methodLink RX10 287 yX10_answerOnFirst ∈ lw_good := gw 951 rfl rfl
set_option maxRecDepth 20000 in
theorem mlX10_290 : Cond.methodLink RX10 290 yX10_buryWrong ∈ lw_good := gw 955 rfl rfl
set_option maxRecDepth 20000 in
theorem mlX10_294 : Cond.methodLink RX10 294 yX10_answer ∈ lw_good := gw 943 rfl rfl
set_option maxRecDepth 20000 in
theorem mlX10_297 : Cond.methodLink RX10 297 yX10_bury ∈ lw_good := gw 959 rfl rfl
set_option maxRecDepth 20000 in
theorem mlX10_307 : Cond.methodLink RX10 307 yX0_add ∈ lw_good := gw 947 rfl rfl
set_option maxRecDepth 20000 in
theorem mlX10_310 : Cond.methodLink RX10 310 yX2_firstOn ∈ lw_good := gw 984 rfl rfl
set_option maxRecDepth 20000 in
theorem mlX10_316 : Cond.methodLink RX10 316 yX10_waitOn ∈ lw_good := gw 988 rfl rfl
set_option maxRecDepth 20000 in
theorem mlX10_319 : Cond.methodLink RX10 319 yX8_halve ∈ lw_good := gw 989 rfl rfl
set_option maxRecDepth 20000 in
theorem mlX10_322 : Cond.methodLink RX10 322 yX5_tidy ∈ lw_good := gw 1006 rfl rfl
set_option maxRecDepth 20000 in
theorem mlX10_324 : Cond.methodLink RX10 324 yX10_pick ∈ lw_good := gw 1010 rfl rfl
set_option maxRecDepth 20000 in
theorem mlX10_329 : Cond.methodLink RX10 329 yX10_send ∈ lw_good := gw 1019 rfl rfl
set_option maxRecDepth 20000 in
theorem mlX10_333 : Cond.methodLink RX10 333 yX5_removeFirst ∈ lw_good := gw 1034 rfl rfl
set_option maxRecDepth 20000 in
theorem mlX10_339 : Cond.methodLink RX10 339 yX2_firstWith ∈ lw_good := gw 1042 rfl rfl
set_option maxRecDepth 20000 in
theorem mlX10_342 : Cond.methodLink RX10 342 yX8_hasRoom ∈ lw_good := gw 1014 rfl rfl
set_option maxRecDepth 20000 in
theorem mlX10_352 : Cond.methodLink RX10 352 yX1_drawOf ∈ lw_good := gw 1023 rfl rfl
set_option maxRecDepth 20000 in
theorem mlX10_363 : Cond.methodLink RX10 363 yX2_add ∈ lw_good := gw 1030 rfl rfl
set_option maxRecDepth 20000 in
theorem flX11_9 : FLk RX11 9 11 0 := ⟨(RX11, TX11, 16), rfl, by decide, gw 526 rfl rfl⟩
set_option maxRecDepth 20000 in
theorem flX11_13 : FLk RX11 13 11 2 := ⟨(RX11, TX11, 16), rfl, by decide, gw 528 rfl rfl⟩
set_option maxRecDepth 20000 in
theorem flX11_19 : FLk RX11 19 11 3 := ⟨(RX11, TX11, 16), rfl, by decide, gw 529 rfl rfl⟩
set_option maxRecDepth 20000 in
theorem flX11_26 : FLk RX11 26 11 5 := ⟨(RX11, TX11, 16), rfl, by decide, gw 531 rfl rfl⟩
set_option maxRecDepth 20000 in
theorem flX11_30 : FLk RX11 30 11 6 := ⟨(RX11, TX11, 16), rfl, by decide, gw 532 rfl rfl⟩
set_option maxRecDepth 20000 in
theorem flX11_38 : FLk RX11 38 11 7 := ⟨(RX11, TX11, 16), rfl, by decide, gw 533 rfl rfl⟩
set_option maxRecDepth 20000 in
theorem flX11_47 : FLk RX11 47 11 8 := ⟨(RX11, TX11, 16), rfl, by decide, gw 534 rfl rfl⟩
set_option maxRecDepth 20000 in
theorem flX11_51 : FLk RX11 51 11 9 := ⟨(RX11, TX11, 16), rfl, by decide, gw 535 rfl rfl⟩
set_option maxRecDepth 20000 in
theorem flX11_54 : FLk RX11 54 11 10 := ⟨(RX11, TX11, 16), rfl, by decide, gw 536 rfl rfl⟩
set_option maxRecDepth 20000 in
theorem flX11_58 : FLk RX11 58 11 13 := ⟨(RX11, TX11, 16), rfl, by decide, gw 539 rfl rfl⟩
set_option maxRecDepth 20000 in
theorem flX11_63 : FLk RX11 63 11 15 := ⟨(RX11, TX11, 16), rfl, by decide, gw 541 rfl rfl⟩
set_option maxRecDepth 20000 in
theorem flX11_66 : FLk RX11 66 11 1 := ⟨(RX11, TX11, 16), rfl, by decide, gw 527 rfl rfl⟩
set_option maxRecDepth 20000 in
theorem flX11_82 : FLk RX11 82 9 1 := ⟨(RX9, TX9, 15), rfl, by decide, gw 199 rfl rfl⟩
set_option maxRecDepth 20000 in
theorem flX11_85 : FLk RX11 85 11 4 := ⟨(RX11, TX11, 16), rfl, by decide, gw 530 rfl rfl⟩
set_option maxRecDepth 20000 in
theorem flX11_92 : FLk RX11 92 11 14 := ⟨(RX11, TX11, 16), rfl, by decide, gw 540 rfl rfl⟩
set_option maxRecDepth 20000 in
theorem flX11_95 : FLk RX11 95 11 12 := ⟨(RX11, TX11, 16), rfl, by decide, gw 538 rfl rfl⟩
set_option maxRecDepth 20000 in
theorem flX11_98 : FLk RX11 98 6 0 := ⟨(RX6, TX6, 15), rfl, by decide, gw 65 rfl rfl⟩
set_option maxRecDepth 20000 in
theorem flX11_101 : FLk RX11 101 9 2 := ⟨(RX9, TX9, 15), rfl, by decide, gw 201 rfl rfl⟩
set_option maxRecDepth 20000 in
theorem flX11_104 : FLk RX11 104 1 0 := ⟨(RX1, TX1, 1), rfl, by decide, gw 35 rfl rfl⟩
set_option maxRecDepth 20000 in
theorem flX11_110 : FLk RX11 110 6 1 := ⟨(RX6, TX6, 15), rfl, by decide, gw 68 rfl rfl⟩
set_option maxRecDepth 20000 in
theorem flX11_113 : FLk RX11 113 6 6 := ⟨(RX6, TX6, 15), rfl, by decide, gw 85 rfl rfl⟩
set_option maxRecDepth 20000 in
theorem flX11_120 : FLk RX11 120 10 8 := ⟨(RX10, TX10, 16), rfl, by decide, gw 475 rfl rfl⟩
set_option maxRecDepth 20000 in
theorem flX11_123 : FLk RX11 123 10 9 := ⟨(RX10, TX10, 16), rfl, by decide, gw 477 rfl rfl⟩
set_option maxRecDepth 20000 in
theorem flX11_126 : FLk RX11 126 10 10 := ⟨(RX10, TX10, 16), rfl, by decide, gw 479 rfl rfl⟩
set_option maxRecDepth 20000 in
theorem flX11_129 : FLk RX11 129 10 11 := ⟨(RX10, TX10, 16), rfl, by decide, gw 481 rfl rfl⟩
set_option maxRecDepth 20000 in
theorem flX11_132 : FLk RX11 132 10 1 := ⟨(RX10, TX10, 16), rfl, by decide, gw 463 rfl rfl⟩
set_option maxRecDepth 20000 in
theorem flX11_136 : FLk RX11 136 7 4 := ⟨(RX7, TX7, 6), rfl, by decide, gw 271 rfl rfl⟩
set_option maxRecDepth 20000 in
theorem flX11_141 : FLk RX11 141 7 5 := ⟨(RX7, TX7, 6), rfl, by decide, gw 274 rfl rfl⟩
set_option maxRecDepth 20000 in
theorem flX11_147 : FLk RX11 147 10 3 := ⟨(RX10, TX10, 16), rfl, by decide, gw 467 rfl rfl⟩
set_option maxRecDepth 20000 in
theorem flX11_151 : FLk RX11 151 0 5 := ⟨(RX0, TX0, 6), rfl, by decide, gw 356 rfl rfl⟩
set_option maxRecDepth 20000 in
theorem flX11_156 : FLk RX11 156 10 4 := ⟨(RX10, TX10, 16), rfl, by decide, gw 469 rfl rfl⟩
set_option maxRecDepth 20000 in
theorem flX11_165 : FLk RX11 165 10 12 := ⟨(RX10, TX10, 16), rfl, by decide, gw 483 rfl rfl⟩
set_option maxRecDepth 20000 in
theorem flX11_168 : FLk RX11 168 10 5 := ⟨(RX10, TX10, 16), rfl, by decide, gw 471 rfl rfl⟩
set_option maxRecDepth 20000 in
theorem flX11_172 : FLk RX11 172 4 3 := ⟨(RX4, TX4, 5), rfl, by decide, gw 402 rfl rfl⟩
set_option maxRecDepth 20000 in
theorem flX11_179 : FLk RX11 179 6 7 := ⟨(RX6, TX6, 15), rfl, by decide, gw 88 rfl rfl⟩
set_option maxRecDepth 20000 in
theorem flX11_186 : FLk RX11 186 10 0 := ⟨(RX10, TX10, 16), rfl, by decide, gw 461 rfl rfl⟩
set_option maxRecDepth 20000 in
theorem flX11_190 : FLk RX11 190 8 0 := ⟨(RX8, TX8, 8), rfl, by decide, gw 422 rfl rfl⟩
set_option maxRecDepth 20000 in
theorem flX11_195 : FLk RX11 195 8 1 := ⟨(RX8, TX8, 8), rfl, by decide, gw 424 rfl rfl⟩
set_option maxRecDepth 20000 in
theorem flX11_198 : FLk RX11 198 8 2 := ⟨(RX8, TX8, 8), rfl, by decide, gw 427 rfl rfl⟩
set_option maxRecDepth 20000 in
theorem flX11_201 : FLk RX11 201 8 3 := ⟨(RX8, TX8, 8), rfl, by decide, gw 430 rfl rfl⟩
set_option maxRecDepth 20000 in
theorem flX11_204 : FLk RX11 204 8 4 := ⟨(RX8, TX8, 8), rfl, by decide, gw 433 rfl rfl⟩
set_option maxRecDepth 20000 in
theorem flX11_207 : FLk RX11 207 8 5 := ⟨(RX8, TX8, 8), rfl, by decide, gw 436 rfl rfl⟩
set_option maxRecDepth 20000 in
theorem flX11_209 : FLk RX11 209 8 6 := ⟨(RX8, TX8, 8), rfl, by decide, gw 438 rfl rfl⟩
set_option maxRecDepth 20000 in
theorem flX11_210 : FLk RX11 210 8 7 := ⟨(RX8, TX8, 8), rfl, by decide, gw 441 rfl rfl⟩
set_option maxRecDepth 20000 in
theorem flX11_216 : FLk RX11 216 10 2 := ⟨(RX10, TX10, 16), rfl, by decide, gw 465 rfl rfl⟩
set_option maxRecDepth 20000 in
theorem flX11_225 : FLk RX11 225 2 0 := ⟨(RX2, TX2, 9), rfl, by decide, gw 297 rfl rfl⟩
set_option maxRecDepth 20000 in
theorem flX11_228 : FLk RX11 228 2 1 := ⟨(RX2, TX2, 9), rfl, by decide, gw 299 rfl rfl⟩
set_option maxRecDepth 20000 in
theorem flX11_231 : FLk RX11 231 2 2 := ⟨(RX2, TX2, 9), rfl, by decide, gw 303 rfl rfl⟩
set_option maxRecDepth 20000 in
theorem flX11_234 : FLk RX11 234 2 3 := ⟨(RX2, TX2, 9), rfl, by decide, gw 306 rfl rfl⟩
set_option maxRecDepth 20000 in
theorem flX11_237 : FLk RX11 237 2 4 := ⟨(RX2, TX2, 9), rfl, by decide, gw 308 rfl rfl⟩
set_option maxRecDepth 20000 in
theorem flX11_243 : FLk RX11 243 7 0 := ⟨(RX7, TX7, 6), rfl, by decide, gw 261 rfl rfl⟩
set_option maxRecDepth 20000 in
theorem flX11_247 : FLk RX11 247 7 1 := ⟨(RX7, TX7, 6), rfl, by decide, gw 264 rfl rfl⟩
set_option maxRecDepth 20000 in
theorem flX11_269 : FLk RX11 269 6 2 := ⟨(RX6, TX6, 15), rfl, by decide, gw 72 rfl rfl⟩
set_option maxRecDepth 20000 in
theorem flX11_272 : FLk RX11 272 7 3 := ⟨(RX7, TX7, 6), rfl, by decide, gw 269 rfl rfl⟩
set_option maxRecDepth 20000 in
theorem flX11_275 : FLk RX11 275 10 13 := ⟨(RX10, TX10, 16), rfl, by decide, gw 485 rfl rfl⟩
set_option maxRecDepth 20000 in
theorem flX11_278 : FLk RX11 278 10 15 := ⟨(RX10, TX10, 16), rfl, by decide, gw 489 rfl rfl⟩
set_option maxRecDepth 20000 in
theorem flX11_281 : FLk RX11 281 6 5 := ⟨(RX6, TX6, 15), rfl, by decide, gw 81 rfl rfl⟩
set_option maxRecDepth 20000 in
theorem flX11_324 : FLk RX11 324 10 14 := ⟨(RX10, TX10, 16), rfl, by decide, gw 487 rfl rfl⟩
set_option maxRecDepth 20000 in
theorem flX11_327 : FLk RX11 327 11 11 := ⟨(RX11, TX11, 16), rfl, by decide, gw 537 rfl rfl⟩
set_option maxRecDepth 20000 in
theorem flX11_346 : FLk RX11 346 4 0 := ⟨(RX4, TX4, 5), rfl, by decide, gw 396 rfl rfl⟩
set_option maxRecDepth 20000 in
theorem flX11_349 : FLk RX11 349 4 1 := ⟨(RX4, TX4, 5), rfl, by decide, gw 398 rfl rfl⟩
set_option maxRecDepth 20000 in
theorem flX11_350 : FLk RX11 350 4 2 := ⟨(RX4, TX4, 5), rfl, by decide, gw 400 rfl rfl⟩
set_option maxRecDepth 20000 in
theorem mlX11_35 : Cond.methodLink RX11 35 yX9_init ∈ lw_good := gw 144 rfl rfl
set_option maxRecDepth 20000 in
theorem mlX11_44 : Cond.methodLink RX11 44 yX10_init ∈ lw_good := gw 248 rfl rfl
set_option maxRecDepth 20000 in
theorem mlX11_70 : Cond.methodLink RX11 70 yX11_refuse ∈ lw_good := gw 579 rfl rfl
set_option maxRecDepth 20000 in
theorem mlX11_74 : Cond.methodLink RX11 74 yX11_putNumber ∈ lw_good := gw 583 rfl rfl
set_option maxRecDepth 20000 in
theorem mlX11_78 : Cond.methodLink RX11 78 yX9_readText ∈ lw_good := gw 595 rfl rfl
set_option maxRecDepth 20000 in
theorem mlX11_89 : Cond.methodLink RX11 89 yX10_begin ∈ lw_good := gw 727 rfl rfl
set_option maxRecDepth 20000 in
theorem mlX11_107 : Cond.methodLink RX11 107 yX11_countOf ∈ lw_good := gw 755 rfl rfl
set_option maxRecDepth 20000 in
theorem mlX11_116 : Cond.methodLink RX11 116 yX10_alive ∈ lw_good := gw 759 rfl rfl
set_option maxRecDepth 20000 in
theorem mlX11_144 : Cond.methodLink RX11 144 yX10_flying ∈ lw_good := gw 767 rfl rfl
set_option maxRecDepth 20000 in
theorem mlX11_160 : Cond.methodLink RX11 160 yX5_countFrom ∈ lw_good := gw 771 rfl rfl
set_option maxRecDepth 20000 in
theorem mlX11_175 : Cond.methodLink RX11 175 yX11_isPath ∈ lw_good := gw 779 rfl rfl
set_option maxRecDepth 20000 in
theorem mlX11_182 : Cond.methodLink RX11 182 yX9_letterOf ∈ lw_good := gw 783 rfl rfl
set_option maxRecDepth 20000 in
theorem mlX11_213 : Cond.methodLink RX11 213 yX10_waitOn ∈ lw_good := gw 790 rfl rfl
set_option maxRecDepth 20000 in
theorem mlX11_220 : Cond.methodLink RX11 220 yX2_flyingRow ∈ lw_good := gw 821 rfl rfl
set_option maxRecDepth 20000 in
theorem mlX11_240 : Cond.methodLink RX11 240 yX6_sumOf ∈ lw_good := gw 825 rfl rfl
set_option maxRecDepth 20000 in
theorem mlX11_248 : Cond.methodLink RX11 248 yX11_canGo ∈ lw_good := gw 841 rfl rfl
set_option maxRecDepth 20000 in
theorem mlX11_251 : Cond.methodLink RX11 251 yX10_copyFrom ∈ lw_good := gw 845 rfl rfl
set_option maxRecDepth 20000 in
theorem mlX11_255 : Cond.methodLink RX11 255 yX10_step ∈ lw_good := gw 880 rfl rfl
set_option maxRecDepth 20000 in
theorem mlX11_259 : Cond.methodLink RX11 259 yX11_ticksToFinish ∈ lw_good := gw 1050 rfl rfl
set_option maxRecDepth 20000 in
theorem mlX11_262 : Cond.methodLink RX11 262 yX10_isFinished ∈ lw_good := gw 1054 rfl rfl
set_option maxRecDepth 20000 in
theorem mlX11_266 : Cond.methodLink RX11 266 yX10_bury ∈ lw_good := gw 1062 rfl rfl
set_option maxRecDepth 20000 in
theorem mlX11_284 : Cond.methodLink RX11 284 yX11_isMet ∈ lw_good := gw 1079 rfl rfl
set_option maxRecDepth 20000 in
theorem mlX11_293 : Cond.methodLink RX11 293 yX11_lastMetTick ∈ lw_good := gw 1088 rfl rfl
set_option maxRecDepth 20000 in
theorem mlX11_296 : Cond.methodLink RX11 296 yX11_ticksComing ∈ lw_good := gw 1093 rfl rfl
set_option maxRecDepth 20000 in
theorem mlX11_299 : Cond.methodLink RX11 299 yX11_foresee ∈ lw_good := gw 1098 rfl rfl
set_option maxRecDepth 20000 in
theorem mlX11_303 : Cond.methodLink RX11 303 yX11_delaysLeft ∈ lw_good := gw 1102 rfl rfl
set_option maxRecDepth 20000 in
theorem mlX11_314 : Cond.methodLink RX11 314 yX11_fitsMet ∈ lw_good := gw 1106 rfl rfl
set_option maxRecDepth 20000 in
theorem mlX11_318 : Cond.methodLink RX11 318 yX11_mostAlike ∈ lw_good := gw 1114 rfl rfl
set_option maxRecDepth 20000 in
theorem mlX11_321 : Cond.methodLink RX11 321 yX11_beginAct ∈ lw_good := gw 1122 rfl rfl
set_option maxRecDepth 20000 in
theorem mlX11_330 : Cond.methodLink RX11 330 yX8_isNew ∈ lw_good := gw 1134 rfl rfl
set_option maxRecDepth 20000 in
theorem mlX11_333 : Cond.methodLink RX11 333 yX11_refusePath ∈ lw_good := gw 1135 rfl rfl
set_option maxRecDepth 20000 in
theorem mlX11_336 : Cond.methodLink RX11 336 yX10_tryToken ∈ lw_good := gw 1139 rfl rfl
set_option maxRecDepth 20000 in
theorem mlX11_340 : Cond.methodLink RX11 340 yX8_isAlive ∈ lw_good := gw 1144 rfl rfl
set_option maxRecDepth 20000 in
theorem mlX11_343 : Cond.methodLink RX11 343 yX4_rowOf ∈ lw_good := gw 1161 rfl rfl
set_option maxRecDepth 20000 in
theorem flX12_7 : FLk RX12 7 12 0 := ⟨(RX12, TX12, 69), rfl, by decide, gw 1177 rfl rfl⟩
set_option maxRecDepth 20000 in
theorem flX12_13 : FLk RX12 13 12 1 := ⟨(RX12, TX12, 69), rfl, by decide, gw 1178 rfl rfl⟩
set_option maxRecDepth 20000 in
theorem flX12_17 : FLk RX12 17 12 2 := ⟨(RX12, TX12, 69), rfl, by decide, gw 1179 rfl rfl⟩
set_option maxRecDepth 20000 in
theorem flX12_20 : FLk RX12 20 12 3 := ⟨(RX12, TX12, 69), rfl, by decide, gw 1180 rfl rfl⟩
set_option maxRecDepth 20000 in
theorem flX12_23 : FLk RX12 23 12 4 := ⟨(RX12, TX12, 69), rfl, by decide, gw 1181 rfl rfl⟩
set_option maxRecDepth 20000 in
theorem flX12_26 : FLk RX12 26 12 5 := ⟨(RX12, TX12, 69), rfl, by decide, gw 1182 rfl rfl⟩
set_option maxRecDepth 20000 in
theorem flX12_29 : FLk RX12 29 12 6 := ⟨(RX12, TX12, 69), rfl, by decide, gw 1183 rfl rfl⟩
set_option maxRecDepth 20000 in
theorem flX12_32 : FLk RX12 32 12 7 := ⟨(RX12, TX12, 69), rfl, by decide, gw 1184 rfl rfl⟩
set_option maxRecDepth 20000 in
theorem flX12_36 : FLk RX12 36 12 8 := ⟨(RX12, TX12, 69), rfl, by decide, gw 1185 rfl rfl⟩
set_option maxRecDepth 20000 in
theorem flX12_39 : FLk RX12 39 12 9 := ⟨(RX12, TX12, 69), rfl, by decide, gw 1186 rfl rfl⟩
set_option maxRecDepth 20000 in
theorem flX12_42 : FLk RX12 42 12 10 := ⟨(RX12, TX12, 69), rfl, by decide, gw 1187 rfl rfl⟩
set_option maxRecDepth 20000 in
theorem flX12_45 : FLk RX12 45 12 11 := ⟨(RX12, TX12, 69), rfl, by decide, gw 1188 rfl rfl⟩
set_option maxRecDepth 20000 in
theorem flX12_48 : FLk RX12 48 12 12 := ⟨(RX12, TX12, 69), rfl, by decide, gw 1189 rfl rfl⟩
set_option maxRecDepth 20000 in
theorem flX12_51 : FLk RX12 51 12 13 := ⟨(RX12, TX12, 69), rfl, by decide, gw 1190 rfl rfl⟩
set_option maxRecDepth 20000 in
theorem flX12_54 : FLk RX12 54 12 14 := ⟨(RX12, TX12, 69), rfl, by decide, gw 1191 rfl rfl⟩
set_option maxRecDepth 20000 in
theorem flX12_57 : FLk RX12 57 12 15 := ⟨(RX12, TX12, 69), rfl, by decide, gw 1192 rfl rfl⟩
set_option maxRecDepth 20000 in
theorem flX12_60 : FLk RX12 60 12 16 := ⟨(RX12, TX12, 69), rfl, by decide, gw 1193 rfl rfl⟩
set_option maxRecDepth 20000 in
theorem flX12_63 : FLk RX12 63 12 17 := ⟨(RX12, TX12, 69), rfl, by decide, gw 1194 rfl rfl⟩
set_option maxRecDepth 20000 in
theorem flX12_66 : FLk RX12 66 12 18 := ⟨(RX12, TX12, 69), rfl, by decide, gw 1195 rfl rfl⟩
set_option maxRecDepth 20000 in
theorem flX12_69 : FLk RX12 69 12 19 := ⟨(RX12, TX12, 69), rfl, by decide, gw 1196 rfl rfl⟩
set_option maxRecDepth 20000 in
theorem flX12_72 : FLk RX12 72 12 20 := ⟨(RX12, TX12, 69), rfl, by decide, gw 1197 rfl rfl⟩
set_option maxRecDepth 20000 in
theorem flX12_75 : FLk RX12 75 12 21 := ⟨(RX12, TX12, 69), rfl, by decide, gw 1198 rfl rfl⟩
set_option maxRecDepth 20000 in
theorem flX12_78 : FLk RX12 78 12 22 := ⟨(RX12, TX12, 69), rfl, by decide, gw 1199 rfl rfl⟩
set_option maxRecDepth 20000 in
theorem flX12_81 : FLk RX12 81 12 23 := ⟨(RX12, TX12, 69), rfl, by decide, gw 1200 rfl rfl⟩
set_option maxRecDepth 20000 in
theorem flX12_84 : FLk RX12 84 12 24 := ⟨(RX12, TX12, 69), rfl, by decide, gw 1201 rfl rfl⟩
set_option maxRecDepth 20000 in
theorem flX12_87 : FLk RX12 87 12 25 := ⟨(RX12, TX12, 69), rfl, by decide, gw 1202 rfl rfl⟩
set_option maxRecDepth 20000 in
theorem flX12_90 : FLk RX12 90 12 26 := ⟨(RX12, TX12, 69), rfl, by decide, gw 1203 rfl rfl⟩
set_option maxRecDepth 20000 in
theorem flX12_93 : FLk RX12 93 12 27 := ⟨(RX12, TX12, 69), rfl, by decide, gw 1204 rfl rfl⟩
set_option maxRecDepth 20000 in
theorem flX12_97 : FLk RX12 97 12 28 := ⟨(RX12, TX12, 69), rfl, by decide, gw 1205 rfl rfl⟩
set_option maxRecDepth 20000 in
theorem flX12_100 : FLk RX12 100 12 29 := ⟨(RX12, TX12, 69), rfl, by decide, gw 1206 rfl rfl⟩
set_option maxRecDepth 20000 in
theorem flX12_103 : FLk RX12 103 12 30 := ⟨(RX12, TX12, 69), rfl, by decide, gw 1207 rfl rfl⟩
set_option maxRecDepth 20000 in
theorem flX12_106 : FLk RX12 106 12 31 := ⟨(RX12, TX12, 69), rfl, by decide, gw 1208 rfl rfl⟩
set_option maxRecDepth 20000 in
theorem flX12_109 : FLk RX12 109 12 32 := ⟨(RX12, TX12, 69), rfl, by decide, gw 1209 rfl rfl⟩
set_option maxRecDepth 20000 in
theorem flX12_112 : FLk RX12 112 12 33 := ⟨(RX12, TX12, 69), rfl, by decide, gw 1210 rfl rfl⟩
set_option maxRecDepth 20000 in
theorem flX12_116 : FLk RX12 116 12 34 := ⟨(RX12, TX12, 69), rfl, by decide, gw 1211 rfl rfl⟩
set_option maxRecDepth 20000 in
theorem flX12_119 : FLk RX12 119 12 35 := ⟨(RX12, TX12, 69), rfl, by decide, gw 1212 rfl rfl⟩
set_option maxRecDepth 20000 in
theorem flX12_122 : FLk RX12 122 12 36 := ⟨(RX12, TX12, 69), rfl, by decide, gw 1213 rfl rfl⟩
set_option maxRecDepth 20000 in
theorem flX12_125 : FLk RX12 125 12 37 := ⟨(RX12, TX12, 69), rfl, by decide, gw 1214 rfl rfl⟩
set_option maxRecDepth 20000 in
theorem flX12_128 : FLk RX12 128 12 38 := ⟨(RX12, TX12, 69), rfl, by decide, gw 1215 rfl rfl⟩
set_option maxRecDepth 20000 in
theorem flX12_131 : FLk RX12 131 12 39 := ⟨(RX12, TX12, 69), rfl, by decide, gw 1216 rfl rfl⟩
set_option maxRecDepth 20000 in
theorem flX12_134 : FLk RX12 134 12 40 := ⟨(RX12, TX12, 69), rfl, by decide, gw 1217 rfl rfl⟩
set_option maxRecDepth 20000 in
theorem flX12_138 : FLk RX12 138 12 41 := ⟨(RX12, TX12, 69), rfl, by decide, gw 1218 rfl rfl⟩
set_option maxRecDepth 20000 in
theorem flX12_141 : FLk RX12 141 12 42 := ⟨(RX12, TX12, 69), rfl, by decide, gw 1219 rfl rfl⟩
set_option maxRecDepth 20000 in
theorem flX12_144 : FLk RX12 144 12 43 := ⟨(RX12, TX12, 69), rfl, by decide, gw 1220 rfl rfl⟩
set_option maxRecDepth 20000 in
theorem flX12_148 : FLk RX12 148 12 44 := ⟨(RX12, TX12, 69), rfl, by decide, gw 1221 rfl rfl⟩
set_option maxRecDepth 20000 in
theorem flX12_151 : FLk RX12 151 12 45 := ⟨(RX12, TX12, 69), rfl, by decide, gw 1222 rfl rfl⟩
set_option maxRecDepth 20000 in
theorem flX12_155 : FLk RX12 155 12 46 := ⟨(RX12, TX12, 69), rfl, by decide, gw 1223 rfl rfl⟩
set_option maxRecDepth 20000 in
theorem flX12_158 : FLk RX12 158 12 47 := ⟨(RX12, TX12, 69), rfl, by decide, gw 1224 rfl rfl⟩
set_option maxRecDepth 20000 in
theorem flX12_161 : FLk RX12 161 12 48 := ⟨(RX12, TX12, 69), rfl, by decide, gw 1225 rfl rfl⟩
set_option maxRecDepth 20000 in
theorem flX12_164 : FLk RX12 164 12 49 := ⟨(RX12, TX12, 69), rfl, by decide, gw 1226 rfl rfl⟩
set_option maxRecDepth 20000 in
theorem flX12_167 : FLk RX12 167 12 50 := ⟨(RX12, TX12, 69), rfl, by decide, gw 1227 rfl rfl⟩
set_option maxRecDepth 20000 in
theorem flX12_170 : FLk RX12 170 12 51 := ⟨(RX12, TX12, 69), rfl, by decide, gw 1228 rfl rfl⟩
set_option maxRecDepth 20000 in
theorem flX12_173 : FLk RX12 173 12 52 := ⟨(RX12, TX12, 69), rfl, by decide, gw 1229 rfl rfl⟩
set_option maxRecDepth 20000 in
theorem flX12_176 : FLk RX12 176 12 53 := ⟨(RX12, TX12, 69), rfl, by decide, gw 1230 rfl rfl⟩
set_option maxRecDepth 20000 in
theorem flX12_179 : FLk RX12 179 12 54 := ⟨(RX12, TX12, 69), rfl, by decide, gw 1231 rfl rfl⟩
set_option maxRecDepth 20000 in
theorem flX12_182 : FLk RX12 182 12 55 := ⟨(RX12, TX12, 69), rfl, by decide, gw 1232 rfl rfl⟩
set_option maxRecDepth 20000 in
theorem flX12_185 : FLk RX12 185 12 56 := ⟨(RX12, TX12, 69), rfl, by decide, gw 1233 rfl rfl⟩
set_option maxRecDepth 20000 in
theorem flX12_188 : FLk RX12 188 12 57 := ⟨(RX12, TX12, 69), rfl, by decide, gw 1234 rfl rfl⟩
set_option maxRecDepth 20000 in
theorem flX12_191 : FLk RX12 191 12 58 := ⟨(RX12, TX12, 69), rfl, by decide, gw 1235 rfl rfl⟩
set_option maxRecDepth 20000 in
theorem flX12_194 : FLk RX12 194 12 59 := ⟨(RX12, TX12, 69), rfl, by decide, gw 1236 rfl rfl⟩
set_option maxRecDepth 20000 in
theorem flX12_197 : FLk RX12 197 12 60 := ⟨(RX12, TX12, 69), rfl, by decide, gw 1237 rfl rfl⟩
set_option maxRecDepth 20000 in
theorem flX12_200 : FLk RX12 200 12 61 := ⟨(RX12, TX12, 69), rfl, by decide, gw 1238 rfl rfl⟩
set_option maxRecDepth 20000 in
theorem flX12_203 : FLk RX12 203 12 62 := ⟨(RX12, TX12, 69), rfl, by decide, gw 1239 rfl rfl⟩
set_option maxRecDepth 20000 in
theorem flX12_206 : FLk RX12 206 12 63 := ⟨(RX12, TX12, 69), rfl, by decide, gw 1240 rfl rfl⟩
set_option maxRecDepth 20000 in
theorem flX12_209 : FLk RX12 209 12 64 := ⟨(RX12, TX12, 69), rfl, by decide, gw 1241 rfl rfl⟩
set_option maxRecDepth 20000 in
theorem flX12_212 : FLk RX12 212 12 65 := ⟨(RX12, TX12, 69), rfl, by decide, gw 1242 rfl rfl⟩
set_option maxRecDepth 20000 in
theorem flX12_215 : FLk RX12 215 12 66 := ⟨(RX12, TX12, 69), rfl, by decide, gw 1243 rfl rfl⟩
set_option maxRecDepth 20000 in
theorem flX12_218 : FLk RX12 218 12 67 := ⟨(RX12, TX12, 69), rfl, by decide, gw 1244 rfl rfl⟩
set_option maxRecDepth 20000 in
theorem flX12_221 : FLk RX12 221 12 68 := ⟨(RX12, TX12, 69), rfl, by decide, gw 1245 rfl rfl⟩
set_option maxRecDepth 20000 in
theorem mlX12_224 : Cond.methodLink RX12 224 yX12_refuses ∈ lw_good := gw 1390 rfl rfl
set_option maxRecDepth 20000 in
theorem mlX12_228 : Cond.methodLink RX12 228 yX12_put ∈ lw_good := gw 1394 rfl rfl
set_option maxRecDepth 20000 in
theorem mlX12_232 : Cond.methodLink RX12 232 yX12_blame ∈ lw_good := gw 1429 rfl rfl
set_option maxRecDepth 20000 in
theorem mlX12_236 : Cond.methodLink RX12 236 yX12_isLetter ∈ lw_good := gw 1410 rfl rfl
set_option maxRecDepth 20000 in
theorem mlX12_240 : Cond.methodLink RX12 240 yX12_isDigit ∈ lw_good := gw 1413 rfl rfl
set_option maxRecDepth 20000 in
theorem mlX12_243 : Cond.methodLink RX12 243 yX12_lex ∈ lw_good := gw 1425 rfl rfl
set_option maxRecDepth 20000 in
theorem mlX12_246 : Cond.methodLink RX12 246 yX12_isSign ∈ lw_good := gw 1451 rfl rfl
set_option maxRecDepth 20000 in
theorem mlX12_249 : Cond.methodLink RX12 249 yX12_ahead ∈ lw_good := gw 1406 rfl rfl
set_option maxRecDepth 20000 in
theorem mlX12_310 : Cond.methodLink RX12 310 yX12_is ∈ lw_good := gw 1441 rfl rfl
set_option maxRecDepth 20000 in
theorem mlX12_314 : Cond.methodLink RX12 314 yX12_rank ∈ lw_good := gw 1557 rfl rfl
set_option maxRecDepth 20000 in
theorem mlX12_317 : Cond.methodLink RX12 317 yX12_add ∈ lw_good := gw 1539 rfl rfl
set_option maxRecDepth 20000 in
theorem mlX12_320 : Cond.methodLink RX12 320 yX12_pushes ∈ lw_good := gw 1520 rfl rfl
set_option maxRecDepth 20000 in
theorem mlX12_323 : Cond.methodLink RX12 323 yX12_isTest ∈ lw_good := gw 1528 rfl rfl
set_option maxRecDepth 20000 in
theorem mlX12_326 : Cond.methodLink RX12 326 yX12_isWord ∈ lw_good := gw 1433 rfl rfl
set_option maxRecDepth 20000 in
theorem mlX12_330 : Cond.methodLink RX12 330 yX12_holdsBack ∈ lw_good := gw 1531 rfl rfl
set_option maxRecDepth 20000 in
theorem mlX12_333 : Cond.methodLink RX12 333 yX12_opens ∈ lw_good := gw 1535 rfl rfl
set_option maxRecDepth 20000 in
theorem mlX12_336 : Cond.methodLink RX12 336 yX12_askedIn ∈ lw_good := gw 1543 rfl rfl
set_option maxRecDepth 20000 in
theorem mlX12_339 : Cond.methodLink RX12 339 yX12_has2 ∈ lw_good := gw 1546 rfl rfl
set_option maxRecDepth 20000 in
theorem mlX12_343 : Cond.methodLink RX12 343 yX12_joins ∈ lw_good := gw 1553 rfl rfl
set_option maxRecDepth 20000 in
theorem mlX12_346 : Cond.methodLink RX12 346 yX12_operand ∈ lw_good := gw 1524 rfl rfl
set_option maxRecDepth 20000 in
theorem mlX12_349 : Cond.methodLink RX12 349 yX12_goesOn ∈ lw_good := gw 1549 rfl rfl
set_option maxRecDepth 20000 in
theorem mlX12_352 : Cond.methodLink RX12 352 yX12_mustWord ∈ lw_good := gw 1421 rfl rfl
set_option maxRecDepth 20000 in
theorem mlX12_356 : Cond.methodLink RX12 356 yX12_number ∈ lw_good := gw 1437 rfl rfl
set_option maxRecDepth 20000 in
theorem mlX12_360 : Cond.methodLink RX12 360 yX12_isCounted ∈ lw_good := gw 1468 rfl rfl
set_option maxRecDepth 20000 in
theorem mlX12_364 : Cond.methodLink RX12 364 yX12_isOwn ∈ lw_good := gw 1472 rfl rfl
set_option maxRecDepth 20000 in
theorem mlX12_367 : Cond.methodLink RX12 367 yX12_pathNamed ∈ lw_good := gw 1500 rfl rfl
set_option maxRecDepth 20000 in
theorem mlX12_371 : Cond.methodLink RX12 371 yX12_reads ∈ lw_good := gw 1516 rfl rfl
set_option maxRecDepth 20000 in
theorem mlX12_375 : Cond.methodLink RX12 375 yX12_pathIs ∈ lw_good := gw 1464 rfl rfl
set_option maxRecDepth 20000 in
theorem mlX12_378 : Cond.methodLink RX12 378 yX12_joinIs ∈ lw_good := gw 1504 rfl rfl
set_option maxRecDepth 20000 in
theorem mlX12_381 : Cond.methodLink RX12 381 yX12_lossIs ∈ lw_good := gw 1508 rfl rfl
set_option maxRecDepth 20000 in
theorem mlX12_384 : Cond.methodLink RX12 384 yX12_reading ∈ lw_good := gw 1512 rfl rfl
set_option maxRecDepth 20000 in
theorem mlX12_387 : Cond.methodLink RX12 387 yX12_must ∈ lw_good := gw 1455 rfl rfl
set_option maxRecDepth 20000 in
theorem mlX12_390 : Cond.methodLink RX12 390 yX12_streamIs ∈ lw_good := gw 1416 rfl rfl
set_option maxRecDepth 20000 in
theorem mlX12_393 : Cond.methodLink RX12 393 yX12_finishes ∈ lw_good := gw 1447 rfl rfl
set_option maxRecDepth 20000 in
theorem mlX12_396 : Cond.methodLink RX12 396 yX12_statement ∈ lw_good := gw 1459 rfl rfl
set_option maxRecDepth 20000 in
theorem mlX12_399 : Cond.methodLink RX12 399 yX12_begin ∈ lw_good := gw 1560 rfl rfl
set_option maxRecDepth 20000 in
theorem mlX12_402 : Cond.methodLink RX12 402 yX12_n ∈ lw_good := gw 1596 rfl rfl
set_option maxRecDepth 20000 in
theorem mlX12_405 : Cond.methodLink RX12 405 yX12_sets ∈ lw_good := gw 1564 rfl rfl
set_option maxRecDepth 20000 in
theorem mlX12_409 : Cond.methodLink RX12 409 yX12_enters ∈ lw_good := gw 1568 rfl rfl
set_option maxRecDepth 20000 in
theorem mlX12_412 : Cond.methodLink RX12 412 yX12_setsPath ∈ lw_good := gw 1572 rfl rfl
set_option maxRecDepth 20000 in
theorem mlX12_416 : Cond.methodLink RX12 416 yX12_slot ∈ lw_good := gw 1588 rfl rfl
set_option maxRecDepth 20000 in
theorem mlX12_419 : Cond.methodLink RX12 419 yX12_copies ∈ lw_good := gw 1592 rfl rfl
set_option maxRecDepth 20000 in
theorem mlX12_426 : Cond.methodLink RX12 426 yX12_within ∈ lw_good := gw 1670 rfl rfl
set_option maxRecDepth 20000 in
theorem mlX12_430 : Cond.methodLink RX12 430 yX12_floor ∈ lw_good := gw 1675 rfl rfl
set_option maxRecDepth 20000 in
theorem mlX12_434 : Cond.methodLink RX12 434 yX12_two ∈ lw_good := gw 1667 rfl rfl
set_option maxRecDepth 20000 in
theorem mlX12_438 : Cond.methodLink RX12 438 yX12_p ∈ lw_good := gw 1612 rfl rfl
set_option maxRecDepth 20000 in
theorem mlX12_442 : Cond.methodLink RX12 442 yX12_flyingOn ∈ lw_good := gw 1645 rfl rfl
set_option maxRecDepth 20000 in
theorem mlX12_445 : Cond.methodLink RX12 445 yX12_s ∈ lw_good := gw 1624 rfl rfl
set_option maxRecDepth 20000 in
theorem mlX12_452 : Cond.methodLink RX12 452 yX12_isTold ∈ lw_good := gw 1655 rfl rfl
set_option maxRecDepth 20000 in
theorem mlX12_455 : Cond.methodLink RX12 455 yX12_lays ∈ lw_good := gw 1659 rfl rfl
set_option maxRecDepth 20000 in
theorem mlX12_458 : Cond.methodLink RX12 458 yX12_reckons ∈ lw_good := gw 1663 rfl rfl
set_option maxRecDepth 20000 in
theorem mlX12_464 : Cond.methodLink RX12 464 yX12_tokenFor ∈ lw_good := gw 1713 rfl rfl
set_option maxRecDepth 20000 in
theorem mlX12_467 : Cond.methodLink RX12 467 yX12_refusesIn ∈ lw_good := gw 1716 rfl rfl
set_option maxRecDepth 20000 in
theorem mlX12_470 : Cond.methodLink RX12 470 yX12_isFree ∈ lw_good := gw 1608 rfl rfl
set_option maxRecDepth 20000 in
theorem mlX12_476 : Cond.methodLink RX12 476 yX12_a ∈ lw_good := gw 1724 rfl rfl
set_option maxRecDepth 20000 in
theorem mlX12_479 : Cond.methodLink RX12 479 yX12_flyingAt ∈ lw_good := gw 1728 rfl rfl
set_option maxRecDepth 20000 in
theorem mlX12_482 : Cond.methodLink RX12 482 yX12_setsSegment ∈ lw_good := gw 1732 rfl rfl
set_option maxRecDepth 20000 in
theorem mlX12_485 : Cond.methodLink RX12 485 yX12_grows ∈ lw_good := gw 1736 rfl rfl
set_option maxRecDepth 20000 in
theorem mlX12_488 : Cond.methodLink RX12 488 yX12_areTaken ∈ lw_good := gw 1746 rfl rfl
set_option maxRecDepth 20000 in
theorem mlX12_492 : Cond.methodLink RX12 492 yX12_firstLacking ∈ lw_good := gw 1754 rfl rfl
set_option maxRecDepth 20000 in
theorem mlX12_495 : Cond.methodLink RX12 495 yX12_takenAll ∈ lw_good := gw 1616 rfl rfl
set_option maxRecDepth 20000 in
theorem mlX12_498 : Cond.methodLink RX12 498 yX12_answers ∈ lw_good := gw 1762 rfl rfl
set_option maxRecDepth 20000 in
theorem mlX12_501 : Cond.methodLink RX12 501 yX12_firstOpen ∈ lw_good := gw 1766 rfl rfl
set_option maxRecDepth 20000 in
theorem mlX12_504 : Cond.methodLink RX12 504 yX12_writesDown ∈ lw_good := gw 1774 rfl rfl
set_option maxRecDepth 20000 in
theorem mlX12_507 : Cond.methodLink RX12 507 yX12_again ∈ lw_good := gw 1778 rfl rfl
set_option maxRecDepth 20000 in
theorem mlX12_510 : Cond.methodLink RX12 510 yX12_waitOf ∈ lw_good := gw 1649 rfl rfl
set_option maxRecDepth 20000 in
theorem mlX12_513 : Cond.methodLink RX12 513 yX12_halved ∈ lw_good := gw 1786 rfl rfl
set_option maxRecDepth 20000 in
theorem mlX12_516 : Cond.methodLink RX12 516 yX12_dies ∈ lw_good := gw 1770 rfl rfl
set_option maxRecDepth 20000 in
theorem mlX12_519 : Cond.methodLink RX12 519 yX12_draw ∈ lw_good := gw 1821 rfl rfl
set_option maxRecDepth 20000 in
theorem mlX12_522 : Cond.methodLink RX12 522 yX12_shifts ∈ lw_good := gw 1801 rfl rfl
set_option maxRecDepth 20000 in
theorem mlX12_525 : Cond.methodLink RX12 525 yX12_blocking ∈ lw_good := gw 1809 rfl rfl
set_option maxRecDepth 20000 in
theorem mlX12_528 : Cond.methodLink RX12 528 yX12_picked ∈ lw_good := gw 1813 rfl rfl
set_option maxRecDepth 20000 in
theorem mlX12_531 : Cond.methodLink RX12 531 yX12_sends ∈ lw_good := gw 1817 rfl rfl
set_option maxRecDepth 20000 in
theorem mlX12_534 : Cond.methodLink RX12 534 yX12_isPiece ∈ lw_good := gw 1797 rfl rfl
set_option maxRecDepth 20000 in
theorem mlX12_537 : Cond.methodLink RX12 537 yX12_isPenalised ∈ lw_good := gw 1805 rfl rfl
set_option maxRecDepth 20000 in
theorem mlX12_540 : Cond.methodLink RX12 540 yX12_isJoining ∈ lw_good := gw 1709 rfl rfl
set_option maxRecDepth 20000 in
theorem mlX12_543 : Cond.methodLink RX12 543 yX12_hears ∈ lw_good := gw 1720 rfl rfl
set_option maxRecDepth 20000 in
theorem mlX12_546 : Cond.methodLink RX12 546 yX12_arrives ∈ lw_good := gw 1742 rfl rfl
set_option maxRecDepth 20000 in
theorem mlX12_549 : Cond.methodLink RX12 549 yX12_readsOn ∈ lw_good := gw 1750 rfl rfl
set_option maxRecDepth 20000 in
theorem mlX12_552 : Cond.methodLink RX12 552 yX12_setsOut ∈ lw_good := gw 1758 rfl rfl
set_option maxRecDepth 20000 in
theorem mlX12_555 : Cond.methodLink RX12 555 yX12_fails ∈ lw_good := gw 1782 rfl rfl
set_option maxRecDepth 20000 in
theorem mlX12_558 : Cond.methodLink RX12 558 yX12_clears ∈ lw_good := gw 1789 rfl rfl
set_option maxRecDepth 20000 in
theorem mlX12_561 : Cond.methodLink RX12 561 yX12_sendsAll ∈ lw_good := gw 1793 rfl rfl
set_option maxRecDepth 20000 in
theorem mlX12_564 : Cond.methodLink RX12 564 yX12_open ∈ lw_good := gw 1604 rfl rfl
set_option maxRecDepth 20000 in
theorem mlX12_567 : Cond.methodLink RX12 567 yX12_flying ∈ lw_good := gw 1620 rfl rfl
set_option maxRecDepth 20000 in
theorem mlX12_570 : Cond.methodLink RX12 570 yX12_needed ∈ lw_good := gw 1628 rfl rfl
set_option maxRecDepth 20000 in
theorem mlX12_573 : Cond.methodLink RX12 573 yX12_isPath ∈ lw_good := gw 1636 rfl rfl
set_option maxRecDepth 20000 in
theorem mlX12_582 : Cond.methodLink RX12 582 yX12_sumOf ∈ lw_good := gw 1683 rfl rfl
set_option maxRecDepth 20000 in
theorem mlX12_585 : Cond.methodLink RX12 585 yX12_isAhead ∈ lw_good := gw 1701 rfl rfl
set_option maxRecDepth 20000 in
theorem mlX12_588 : Cond.methodLink RX12 588 yX12_ticksOn ∈ lw_good := gw 1705 rfl rfl
set_option maxRecDepth 20000 in
theorem mlX12_591 : Cond.methodLink RX12 591 yX12_finished ∈ lw_good := gw 1833 rfl rfl
set_option maxRecDepth 20000 in
theorem mlX12_594 : Cond.methodLink RX12 594 yX12_isFinishedBy ∈ lw_good := gw 1849 rfl rfl
set_option maxRecDepth 20000 in
theorem mlX12_597 : Cond.methodLink RX12 597 yX12_canBe ∈ lw_good := gw 1869 rfl rfl
set_option maxRecDepth 20000 in
theorem mlX12_600 : Cond.methodLink RX12 600 yX12_delayBits ∈ lw_good := gw 1865 rfl rfl
set_option maxRecDepth 20000 in
theorem mlX12_604 : Cond.methodLink RX12 604 yX12_mostBy ∈ lw_good := gw 1878 rfl rfl
set_option maxRecDepth 20000 in
theorem mlX12_607 : Cond.methodLink RX12 607 yX12_keeps ∈ lw_good := gw 1886 rfl rfl
set_option maxRecDepth 20000 in
theorem mlL_9 : Cond.methodLink RL 9 yX11_init ∈ lw_good := gw 22 rfl rfl
set_option maxRecDepth 20000 in
theorem mlL_12 : Cond.methodLink RL 12 yX12_init ∈ lw_good := gw 1171 rfl rfl
set_option maxRecDepth 20000 in
theorem mlL_13 : Cond.methodLink RL 13 yX11_feed ∈ lw_good := gw 575 rfl rfl
set_option maxRecDepth 20000 in
theorem mlL_17 : Cond.methodLink RL 17 yX12_feed ∈ lw_good := gw 1386 rfl rfl
set_option maxRecDepth 20000 in
theorem mlL_18 : Cond.methodLink RL 18 yX11_end ∈ lw_good := gw 587 rfl rfl
set_option maxRecDepth 20000 in
theorem mlL_22 : Cond.methodLink RL 22 yX12_end ∈ lw_good := gw 1398 rfl rfl
set_option maxRecDepth 20000 in
theorem mlL_23 : Cond.methodLink RL 23 yX11_stream ∈ lw_good := gw 591 rfl rfl
set_option maxRecDepth 20000 in
theorem mlL_27 : Cond.methodLink RL 27 yX12_stream ∈ lw_good := gw 1402 rfl rfl
set_option maxRecDepth 20000 in
theorem mlL_28 : Cond.methodLink RL 28 yX11_fault ∈ lw_good := gw 747 rfl rfl
set_option maxRecDepth 20000 in
theorem mlL_32 : Cond.methodLink RL 32 yX12_fault ∈ lw_good := gw 1576 rfl rfl
set_option maxRecDepth 20000 in
theorem mlL_33 : Cond.methodLink RL 33 yX11_has ∈ lw_good := gw 751 rfl rfl
set_option maxRecDepth 20000 in
theorem mlL_36 : Cond.methodLink RL 36 yX12_has ∈ lw_good := gw 1600 rfl rfl
set_option maxRecDepth 20000 in
theorem mlL_37 : Cond.methodLink RL 37 yX11_letter ∈ lw_good := gw 775 rfl rfl
set_option maxRecDepth 20000 in
theorem mlL_41 : Cond.methodLink RL 41 yX12_letter ∈ lw_good := gw 1632 rfl rfl
set_option maxRecDepth 20000 in
theorem mlL_42 : Cond.methodLink RL 42 yX11_path ∈ lw_good := gw 786 rfl rfl
set_option maxRecDepth 20000 in
theorem mlL_45 : Cond.methodLink RL 45 yX12_path ∈ lw_good := gw 1641 rfl rfl
set_option maxRecDepth 20000 in
theorem mlL_46 : Cond.methodLink RL 46 yX11_segment ∈ lw_good := gw 817 rfl rfl
set_option maxRecDepth 20000 in
theorem mlL_49 : Cond.methodLink RL 49 yX12_segment ∈ lw_good := gw 1679 rfl rfl
set_option maxRecDepth 20000 in
theorem mlL_50 : Cond.methodLink RL 50 yX11_octet ∈ lw_good := gw 829 rfl rfl
set_option maxRecDepth 20000 in
theorem mlL_53 : Cond.methodLink RL 53 yX12_octet ∈ lw_good := gw 1689 rfl rfl
set_option maxRecDepth 20000 in
theorem mlL_54 : Cond.methodLink RL 54 yX11_refusals ∈ lw_good := gw 833 rfl rfl
set_option maxRecDepth 20000 in
theorem mlL_57 : Cond.methodLink RL 57 yX12_refusals ∈ lw_good := gw 1693 rfl rfl
set_option maxRecDepth 20000 in
theorem mlL_58 : Cond.methodLink RL 58 yX11_later ∈ lw_good := gw 837 rfl rfl
set_option maxRecDepth 20000 in
theorem mlL_61 : Cond.methodLink RL 61 yX12_later ∈ lw_good := gw 1697 rfl rfl
set_option maxRecDepth 20000 in
theorem mlL_62 : Cond.methodLink RL 62 yX11_finish ∈ lw_good := gw 1046 rfl rfl
set_option maxRecDepth 20000 in
theorem mlL_65 : Cond.methodLink RL 65 yX12_finish ∈ lw_good := gw 1829 rfl rfl
set_option maxRecDepth 20000 in
theorem mlL_66 : Cond.methodLink RL 66 yX11_without ∈ lw_good := gw 1058 rfl rfl
set_option maxRecDepth 20000 in
theorem mlL_69 : Cond.methodLink RL 69 yX12_without ∈ lw_good := gw 1837 rfl rfl
set_option maxRecDepth 20000 in
theorem mlL_70 : Cond.methodLink RL 70 yX11_alone ∈ lw_good := gw 1063 rfl rfl
set_option maxRecDepth 20000 in
theorem mlL_73 : Cond.methodLink RL 73 yX12_alone ∈ lw_good := gw 1841 rfl rfl
set_option maxRecDepth 20000 in
theorem mlL_74 : Cond.methodLink RL 74 yX11_window ∈ lw_good := gw 1067 rfl rfl
set_option maxRecDepth 20000 in
theorem mlL_77 : Cond.methodLink RL 77 yX12_window ∈ lw_good := gw 1845 rfl rfl
set_option maxRecDepth 20000 in
theorem mlL_78 : Cond.methodLink RL 78 yX11_odds ∈ lw_good := gw 1071 rfl rfl
set_option maxRecDepth 20000 in
theorem mlL_81 : Cond.methodLink RL 81 yX12_odds ∈ lw_good := gw 1853 rfl rfl
set_option maxRecDepth 20000 in
theorem mlL_82 : Cond.methodLink RL 82 yX11_meet ∈ lw_good := gw 1075 rfl rfl
set_option maxRecDepth 20000 in
theorem mlL_85 : Cond.methodLink RL 85 yX12_meet ∈ lw_good := gw 1857 rfl rfl
set_option maxRecDepth 20000 in
theorem mlL_86 : Cond.methodLink RL 86 yX11_delays ∈ lw_good := gw 1084 rfl rfl
set_option maxRecDepth 20000 in
theorem mlL_89 : Cond.methodLink RL 89 yX12_delays ∈ lw_good := gw 1861 rfl rfl
set_option maxRecDepth 20000 in
theorem mlL_90 : Cond.methodLink RL 90 yX11_tells ∈ lw_good := gw 1110 rfl rfl
set_option maxRecDepth 20000 in
theorem mlL_93 : Cond.methodLink RL 93 yX12_tells ∈ lw_good := gw 1873 rfl rfl
set_option maxRecDepth 20000 in
theorem mlL_94 : Cond.methodLink RL 94 yX11_ticks ∈ lw_good := gw 1118 rfl rfl
set_option maxRecDepth 20000 in
theorem mlL_97 : Cond.methodLink RL 97 yX12_ticks ∈ lw_good := gw 1882 rfl rfl
set_option maxRecDepth 20000 in
theorem mlL_98 : Cond.methodLink RL 98 yX11_chance ∈ lw_good := gw 1126 rfl rfl
set_option maxRecDepth 20000 in
theorem mlL_101 : Cond.methodLink RL 101 yX12_chance ∈ lw_good := gw 1890 rfl rfl
set_option maxRecDepth 20000 in
theorem mlL_102 : Cond.methodLink RL 102 yX11_join ∈ lw_good := gw 1130 rfl rfl
set_option maxRecDepth 20000 in
theorem mlL_106 : Cond.methodLink RL 106 yX12_join ∈ lw_good := gw 1894 rfl rfl
set_option maxRecDepth 20000 in
theorem mlL_107 : Cond.methodLink RL 107 yX11_kill ∈ lw_good := gw 1140 rfl rfl
set_option maxRecDepth 20000 in
theorem mlL_110 : Cond.methodLink RL 110 yX12_kill ∈ lw_good := gw 1898 rfl rfl
set_option maxRecDepth 20000 in
theorem mlL_111 : Cond.methodLink RL 111 yX11_spoil ∈ lw_good := gw 1145 rfl rfl
set_option maxRecDepth 20000 in
theorem mlL_114 : Cond.methodLink RL 114 yX12_spoil ∈ lw_good := gw 1902 rfl rfl
set_option maxRecDepth 20000 in
theorem mlL_115 : Cond.methodLink RL 115 yX11_undo ∈ lw_good := gw 1149 rfl rfl
set_option maxRecDepth 20000 in
theorem mlL_119 : Cond.methodLink RL 119 yX12_undo ∈ lw_good := gw 1584 rfl rfl
set_option maxRecDepth 20000 in
theorem mlL_120 : Cond.methodLink RL 120 yX11_seed ∈ lw_good := gw 1153 rfl rfl
set_option maxRecDepth 20000 in
theorem mlL_123 : Cond.methodLink RL 123 yX12_seed ∈ lw_good := gw 1906 rfl rfl
set_option maxRecDepth 20000 in
theorem mlL_124 : Cond.methodLink RL 124 yX11_kept ∈ lw_good := gw 1157 rfl rfl
set_option maxRecDepth 20000 in
theorem mlL_127 : Cond.methodLink RL 127 yX12_kept ∈ lw_good := gw 1910 rfl rfl
set_option maxRecDepth 20000 in
theorem mlL_128 : Cond.methodLink RL 128 yX11_status ∈ lw_good := gw 1165 rfl rfl
set_option maxRecDepth 20000 in
theorem mlL_131 : Cond.methodLink RL 131 yX12_status ∈ lw_good := gw 1580 rfl rfl
