/-! THE CHECK OF EVERY METHOD, by the kernel -/
set_option maxRecDepth 100000 in
theorem zk_0 : zAll cX0_init 0 5 none true zc_X0_init := fun i e => zChkF_get _ i e (by decide +kernel)
set_option maxRecDepth 100000 in
theorem zk_1 : zAll cX0_joinsAt 0 2 (some .int) false zc_X0_joinsAt := fun i e => zChkF_get _ i e (by decide +kernel)
set_option maxRecDepth 100000 in
theorem zk_2 : zAll cX1_init 1 1 none true zc_X1_init := fun i e => zChkF_get _ i e (by decide +kernel)
set_option maxRecDepth 100000 in
theorem zk_3 : zAll cX1_become 1 3 none false zc_X1_become := fun i e => zChkF_get _ i e (by decide +kernel)
set_option maxRecDepth 100000 in
theorem zk_4 : zAll cX2_init 2 5 none true zc_X2_init := fun i e => zChkF_get _ i e (by decide +kernel)
set_option maxRecDepth 100000 in
theorem zk_5 : zAll cX2_worthAt 2 3 (some .int) false zc_X2_worthAt := fun i e => zChkF_get _ i e (by decide +kernel)
set_option maxRecDepth 100000 in
theorem zk_6 : zAll cX3_init 3 5 none true zc_X3_init := fun i e => zChkF_get _ i e (by decide +kernel)
set_option maxRecDepth 100000 in
theorem zk_7 : zAll cX3_standsAt 3 2 (some .boolean) false zc_X3_standsAt := fun i e => zChkF_get _ i e (by decide +kernel)
set_option maxRecDepth 100000 in
theorem zk_8 : zAll cX3_worthAt 3 3 (some .int) false zc_X3_worthAt := fun i e => zChkF_get _ i e (by decide +kernel)
set_option maxRecDepth 100000 in
theorem zk_9 : zAll cX3_joinsAt 3 2 (some .int) false zc_X3_joinsAt := fun i e => zChkF_get _ i e (by decide +kernel)
set_option maxRecDepth 100000 in
theorem zk_10 : zAll cX4_init 4 5 none true zc_X4_init := fun i e => zChkF_get _ i e (by decide +kernel)
set_option maxRecDepth 100000 in
theorem zk_11 : zAll cX4_standsAt 4 2 (some .boolean) false zc_X4_standsAt := fun i e => zChkF_get _ i e (by decide +kernel)
set_option maxRecDepth 100000 in
theorem zk_12 : zAll cX5_init 5 5 none true zc_X5_init := fun i e => zChkF_get _ i e (by decide +kernel)
set_option maxRecDepth 100000 in
theorem zk_13 : zAll cX5_worthAt 5 3 (some .int) false zc_X5_worthAt := fun i e => zChkF_get _ i e (by decide +kernel)
set_option maxRecDepth 100000 in
theorem zk_14 : zAll cX6_init 6 1 none true zc_X6_init := fun i e => zChkF_get _ i e (by decide +kernel)
set_option maxRecDepth 100000 in
theorem zk_15 : zAll cX6_become 6 3 none false zc_X6_become := fun i e => zChkF_get _ i e (by decide +kernel)
set_option maxRecDepth 100000 in
theorem zk_16 : zAll cX6_put 6 3 none false zc_X6_put := fun i e => zChkF_get _ i e (by decide +kernel)
set_option maxRecDepth 100000 in
theorem zk_17 : zAll cX6_hasRoom 6 3 (some .boolean) false zc_X6_hasRoom := fun i e => zChkF_get _ i e (by decide +kernel)
set_option maxRecDepth 100000 in
theorem zk_18 : zAll cX7_init 7 1 none true zc_X7_init := fun i e => zChkF_get _ i e (by decide +kernel)
set_option maxRecDepth 100000 in
theorem zk_19 : zAll cX7_append 7 2 none false zc_X7_append := fun i e => zChkF_get _ i e (by decide +kernel)
set_option maxRecDepth 100000 in
theorem zk_20 : zAll cX7_clear 7 1 none false zc_X7_clear := fun i e => zChkF_get _ i e (by decide +kernel)
set_option maxRecDepth 100000 in
theorem zk_21 : zAll cX7_readText 7 4 (some (.object "HighWater$Text")) false zc_X7_readText := fun i e => zChkF_get _ i e (by decide +kernel)
set_option maxRecDepth 100000 in
theorem zk_22 : zAll cX7_readToken 7 1 none false zc_X7_readToken := fun i e => zChkF_get _ i e (by decide +kernel)
set_option maxRecDepth 100000 in
theorem zk_23 : zAll cX7_readWord 7 4 none false zc_X7_readWord := fun i e => zChkF_get _ i e (by decide +kernel)
set_option maxRecDepth 100000 in
theorem zk_24 : zAll cX7_isSpelledFrom 7 4 (some .boolean) false zc_X7_isSpelledFrom := fun i e => zChkF_get _ i e (by decide +kernel)
set_option maxRecDepth 100000 in
theorem zk_25 : zAll cX7_readNumber 7 1 none false zc_X7_readNumber := fun i e => zChkF_get _ i e (by decide +kernel)
set_option maxRecDepth 100000 in
theorem zk_26 : zAll cX7_isLetter 7 1 (some .boolean) false zc_X7_isLetter := fun i e => zChkF_get _ i e (by decide +kernel)
set_option maxRecDepth 100000 in
theorem zk_27 : zAll cX7_isDigit 7 1 (some .boolean) false zc_X7_isDigit := fun i e => zChkF_get _ i e (by decide +kernel)
set_option maxRecDepth 100000 in
theorem zk_28 : zAll cX7_isSign 7 1 (some .boolean) false zc_X7_isSign := fun i e => zChkF_get _ i e (by decide +kernel)
set_option maxRecDepth 100000 in
theorem zk_29 : zAll cX7_refuse 7 1 none false zc_X7_refuse := fun i e => zChkF_get _ i e (by decide +kernel)
set_option maxRecDepth 100000 in
theorem zk_30 : zAll cX7_pass 7 2 none false zc_X7_pass := fun i e => zChkF_get _ i e (by decide +kernel)
set_option maxRecDepth 100000 in
theorem zk_31 : zAll cX7_emit 7 2 none false zc_X7_emit := fun i e => zChkF_get _ i e (by decide +kernel)
set_option maxRecDepth 100000 in
theorem zk_32 : zAll cX7_opens 7 1 (some .boolean) false zc_X7_opens := fun i e => zChkF_get _ i e (by decide +kernel)
set_option maxRecDepth 100000 in
theorem zk_33 : zAll cX7_readOr 7 2 none false zc_X7_readOr := fun i e => zChkF_get _ i e (by decide +kernel)
set_option maxRecDepth 100000 in
theorem zk_34 : zAll cX7_readAnd 7 2 none false zc_X7_readAnd := fun i e => zChkF_get _ i e (by decide +kernel)
set_option maxRecDepth 100000 in
theorem zk_35 : zAll cX7_readNot 7 2 none false zc_X7_readNot := fun i e => zChkF_get _ i e (by decide +kernel)
set_option maxRecDepth 100000 in
theorem zk_36 : zAll cX7_readSum 7 3 none false zc_X7_readSum := fun i e => zChkF_get _ i e (by decide +kernel)
set_option maxRecDepth 100000 in
theorem zk_37 : zAll cX7_readTerm 7 2 none false zc_X7_readTerm := fun i e => zChkF_get _ i e (by decide +kernel)
set_option maxRecDepth 100000 in
theorem zk_38 : zAll cX7_readOne 7 1 none false zc_X7_readOne := fun i e => zChkF_get _ i e (by decide +kernel)
set_option maxRecDepth 100000 in
theorem zk_39 : zAll cX8_init 8 4 none true zc_X8_init := fun i e => zChkF_get _ i e (by decide +kernel)
set_option maxRecDepth 100000 in
theorem zk_40 : zAll cX8_valueOf 8 10 (some .int) false zc_X8_valueOf := fun i e => zChkF_get _ i e (by decide +kernel)
set_option maxRecDepth 100000 in
theorem zk_41 : zAll cX8_join 8 3 (some .int) false zc_X8_join := fun i e => zChkF_get _ i e (by decide +kernel)
set_option maxRecDepth 100000 in
theorem zk_42 : zAll cX9_init 9 1 none true zc_X9_init := fun i e => zChkF_get _ i e (by decide +kernel)
set_option maxRecDepth 100000 in
theorem zk_43 : zAll cX9_clear 9 4 none false zc_X9_clear := fun i e => zChkF_get _ i e (by decide +kernel)
set_option maxRecDepth 100000 in
theorem zk_44 : zAll cX9_unite 9 5 none false zc_X9_unite := fun i e => zChkF_get _ i e (by decide +kernel)
set_option maxRecDepth 100000 in
theorem zk_45 : zAll cX9_sumWholes 9 2 none false zc_X9_sumWholes := fun i e => zChkF_get _ i e (by decide +kernel)
set_option maxRecDepth 100000 in
theorem zk_46 : zAll cX9_rootOf 9 2 (some .int) false zc_X9_rootOf := fun i e => zChkF_get _ i e (by decide +kernel)
set_option maxRecDepth 100000 in
theorem zk_47 : zAll cX9_rootUnder 9 3 (some .int) false zc_X9_rootUnder := fun i e => zChkF_get _ i e (by decide +kernel)
set_option maxRecDepth 100000 in
theorem zk_48 : zAll cX9_put 9 5 none false zc_X9_put := fun i e => zChkF_get _ i e (by decide +kernel)
set_option maxRecDepth 100000 in
theorem zk_49 : zAll cX9_ownerOf 9 4 (some .int) false zc_X9_ownerOf := fun i e => zChkF_get _ i e (by decide +kernel)
set_option maxRecDepth 100000 in
theorem zk_50 : zAll cX9_gainOf 9 2 (some .int) false zc_X9_gainOf := fun i e => zChkF_get _ i e (by decide +kernel)
set_option maxRecDepth 100000 in
theorem zk_51 : zAll cX9_gainAt 9 5 (some .int) false zc_X9_gainAt := fun i e => zChkF_get _ i e (by decide +kernel)
set_option maxRecDepth 100000 in
theorem zk_52 : zAll cX9_gainOfOthers 9 4 (some .int) false zc_X9_gainOfOthers := fun i e => zChkF_get _ i e (by decide +kernel)
set_option maxRecDepth 100000 in
theorem zk_53 : zAll cX9_leftAt 9 3 (some .int) false zc_X9_leftAt := fun i e => zChkF_get _ i e (by decide +kernel)
set_option maxRecDepth 100000 in
theorem zk_54 : zAll cX9_leftOfAll 9 4 (some .int) false zc_X9_leftOfAll := fun i e => zChkF_get _ i e (by decide +kernel)
set_option maxRecDepth 100000 in
theorem zk_55 : zAll cX9_bestPlaceOf 9 6 (some .int) false zc_X9_bestPlaceOf := fun i e => zChkF_get _ i e (by decide +kernel)
set_option maxRecDepth 100000 in
theorem zk_56 : zAll cX9_isAtRest 9 2 (some .boolean) false zc_X9_isAtRest := fun i e => zChkF_get _ i e (by decide +kernel)
set_option maxRecDepth 100000 in
theorem zk_57 : zAll cX9_worthOfStanding 9 4 (some .int) false zc_X9_worthOfStanding := fun i e => zChkF_get _ i e (by decide +kernel)
set_option maxRecDepth 100000 in
theorem zk_58 : zAll cX9_dearestBut 9 4 (some .int) false zc_X9_dearestBut := fun i e => zChkF_get _ i e (by decide +kernel)
set_option maxRecDepth 100000 in
theorem zk_59 : zAll cX9_firstWay 9 4 (some .int) false zc_X9_firstWay := fun i e => zChkF_get _ i e (by decide +kernel)
set_option maxRecDepth 100000 in
theorem zk_60 : zAll cX9_nextWay 9 3 none false zc_X9_nextWay := fun i e => zChkF_get _ i e (by decide +kernel)
set_option maxRecDepth 100000 in
theorem zk_61 : zAll cX9_digitsOf 9 4 (some .int) false zc_X9_digitsOf := fun i e => zChkF_get _ i e (by decide +kernel)
set_option maxRecDepth 100000 in
theorem zk_62 : zAll cX10_init 10 5 none true zc_X10_init := fun i e => zChkF_get _ i e (by decide +kernel)
set_option maxRecDepth 100000 in
theorem zk_63 : zAll cX10_worthAt 10 3 (some .int) false zc_X10_worthAt := fun i e => zChkF_get _ i e (by decide +kernel)
set_option maxRecDepth 100000 in
theorem zk_64 : zAll cX11_init 11 2 none true zc_X11_init := fun i e => zChkF_get _ i e (by decide +kernel)
set_option maxRecDepth 100000 in
theorem zk_65 : zAll cX11_tide 11 4 (some .int) false zc_X11_tide := fun i e => zChkF_get _ i e (by decide +kernel)
set_option maxRecDepth 100000 in
theorem zk_66 : zAll cX11_height 11 2 (some .int) false zc_X11_height := fun i e => zChkF_get _ i e (by decide +kernel)
set_option maxRecDepth 100000 in
theorem zk_67 : zAll cX11_come 11 1 (some .int) false zc_X11_come := fun i e => zChkF_get _ i e (by decide +kernel)
set_option maxRecDepth 100000 in
theorem zk_68 : zAll cX11_go 11 5 (some .int) false zc_X11_go := fun i e => zChkF_get _ i e (by decide +kernel)
set_option maxRecDepth 100000 in
theorem zk_69 : zAll cX11_at 11 3 (some .int) false zc_X11_at := fun i e => zChkF_get _ i e (by decide +kernel)
set_option maxRecDepth 100000 in
theorem zk_70 : zAll cX11_count 11 2 (some .int) false zc_X11_count := fun i e => zChkF_get _ i e (by decide +kernel)
set_option maxRecDepth 100000 in
theorem zk_71 : zAll cX11_feed 11 8 (some .int) false zc_X11_feed := fun i e => zChkF_get _ i e (by decide +kernel)
set_option maxRecDepth 100000 in
theorem zk_72 : zAll cX11_text 11 2 (some .int) false zc_X11_text := fun i e => zChkF_get _ i e (by decide +kernel)
set_option maxRecDepth 100000 in
theorem zk_73 : zAll cX11_force 11 3 (some .int) false zc_X11_force := fun i e => zChkF_get _ i e (by decide +kernel)
set_option maxRecDepth 100000 in
theorem zk_74 : zAll cX11_asks 11 6 (some .int) false zc_X11_asks := fun i e => zChkF_get _ i e (by decide +kernel)
set_option maxRecDepth 100000 in
theorem zk_75 : zAll cX11_island 11 5 (some .int) false zc_X11_island := fun i e => zChkF_get _ i e (by decide +kernel)
set_option maxRecDepth 100000 in
theorem zk_76 : zAll cX11_told 11 4 (some .int) false zc_X11_told := fun i e => zChkF_get _ i e (by decide +kernel)
set_option maxRecDepth 100000 in
theorem zk_77 : zAll cX11_then 11 4 (some .int) false zc_X11_then := fun i e => zChkF_get _ i e (by decide +kernel)
set_option maxRecDepth 100000 in
theorem zk_78 : zAll cX11_joined 11 5 (some .int) false zc_X11_joined := fun i e => zChkF_get _ i e (by decide +kernel)
set_option maxRecDepth 100000 in
theorem zk_79 : zAll cX11_whose 11 3 (some .int) false zc_X11_whose := fun i e => zChkF_get _ i e (by decide +kernel)
set_option maxRecDepth 100000 in
theorem zk_80 : zAll cX11_gain 11 3 (some .int) false zc_X11_gain := fun i e => zChkF_get _ i e (by decide +kernel)
set_option maxRecDepth 100000 in
theorem zk_81 : zAll cX11_costs 11 3 (some .int) false zc_X11_costs := fun i e => zChkF_get _ i e (by decide +kernel)
set_option maxRecDepth 100000 in
theorem zk_82 : zAll cX11_year 11 6 (some .int) false zc_X11_year := fun i e => zChkF_get _ i e (by decide +kernel)
set_option maxRecDepth 100000 in
theorem zk_83 : zAll cX11_best 11 5 (some .int) false zc_X11_best := fun i e => zChkF_get _ i e (by decide +kernel)
set_option maxRecDepth 100000 in
theorem zk_84 : zAll cX11_wise 11 5 (some .int) false zc_X11_wise := fun i e => zChkF_get _ i e (by decide +kernel)
set_option maxRecDepth 100000 in
theorem zk_85 : zAll cX11_rest 11 2 (some .int) false zc_X11_rest := fun i e => zChkF_get _ i e (by decide +kernel)
set_option maxRecDepth 100000 in
theorem zk_86 : zAll cX11_ways 11 8 (some .int) false zc_X11_ways := fun i e => zChkF_get _ i e (by decide +kernel)
set_option maxRecDepth 100000 in
theorem zk_87 : zAll cX11_family 11 9 (some .int) false zc_X11_family := fun i e => zChkF_get _ i e (by decide +kernel)
set_option maxRecDepth 100000 in
theorem zk_88 : zAll cX11_spoil 11 8 (some .int) false zc_X11_spoil := fun i e => zChkF_get _ i e (by decide +kernel)
set_option maxRecDepth 100000 in
theorem zk_89 : zAll cX11_ransom 11 5 (some .int) false zc_X11_ransom := fun i e => zChkF_get _ i e (by decide +kernel)
set_option maxRecDepth 100000 in
theorem zk_90 : zAll cX11_share 11 5 (some .int) false zc_X11_share := fun i e => zChkF_get _ i e (by decide +kernel)
set_option maxRecDepth 100000 in
theorem zk_91 : zAll cX11_unfair 11 7 (some .int) false zc_X11_unfair := fun i e => zChkF_get _ i e (by decide +kernel)
set_option maxRecDepth 100000 in
theorem zk_92 : zAll cX11_dear 11 6 (some .int) false zc_X11_dear := fun i e => zChkF_get _ i e (by decide +kernel)
set_option maxRecDepth 100000 in
theorem zk_93 : zAll cX11_holds 11 8 (some .int) false zc_X11_holds := fun i e => zChkF_get _ i e (by decide +kernel)
set_option maxRecDepth 100000 in
theorem zk_94 : zAll cX11_judge 11 4 (some .int) false zc_X11_judge := fun i e => zChkF_get _ i e (by decide +kernel)
set_option maxRecDepth 100000 in
theorem zk_95 : zAll cX11_when 11 5 (some .int) false zc_X11_when := fun i e => zChkF_get _ i e (by decide +kernel)
set_option maxRecDepth 100000 in
theorem zk_96 : zAll cX11_were 11 11 (some .int) false zc_X11_were := fun i e => zChkF_get _ i e (by decide +kernel)
set_option maxRecDepth 100000 in
theorem zk_97 : zAll cX11_film 11 5 (some .int) false zc_X11_film := fun i e => zChkF_get _ i e (by decide +kernel)
set_option maxRecDepth 100000 in
theorem zk_98 : zAll cX11_laws 11 6 (some .int) false zc_X11_laws := fun i e => zChkF_get _ i e (by decide +kernel)
set_option maxRecDepth 100000 in
theorem zk_99 : zAll cX11_drawn 11 5 (some .int) false zc_X11_drawn := fun i e => zChkF_get _ i e (by decide +kernel)
set_option maxRecDepth 100000 in
theorem zk_100 : zAll cX11_mean 11 10 (some .long) false zc_X11_mean := fun i e => zChkF_get _ i e (by decide +kernel)
set_option maxRecDepth 100000 in
theorem zk_101 : zAll cX11_image 11 1 (some .int) false zc_X11_image := fun i e => zChkF_get _ i e (by decide +kernel)
set_option maxRecDepth 100000 in
theorem zk_102 : zAll cX11_back 11 1 (some .int) false zc_X11_back := fun i e => zChkF_get _ i e (by decide +kernel)
set_option maxRecDepth 100000 in
theorem zk_103 : zAll cX11_sheet 11 4 (some .int) false zc_X11_sheet := fun i e => zChkF_get _ i e (by decide +kernel)
set_option maxRecDepth 100000 in
theorem zk_104 : zAll cX11_cell 11 5 (some .int) false zc_X11_cell := fun i e => zChkF_get _ i e (by decide +kernel)
set_option maxRecDepth 100000 in
theorem zk_105 : zAll cX11_copy 11 8 (some .int) false zc_X11_copy := fun i e => zChkF_get _ i e (by decide +kernel)
set_option maxRecDepth 100000 in
theorem zk_106 : zAll cX11_islandsBy 11 10 (some .int) false zc_X11_islandsBy := fun i e => zChkF_get _ i e (by decide +kernel)
set_option maxRecDepth 100000 in
theorem zk_107 : zAll cX11_taken 11 4 (some .int) false zc_X11_taken := fun i e => zChkF_get _ i e (by decide +kernel)
set_option maxRecDepth 100000 in
theorem zk_108 : zAll cX11_isWithin 11 2 (some .boolean) false zc_X11_isWithin := fun i e => zChkF_get _ i e (by decide +kernel)
set_option maxRecDepth 100000 in
theorem zk_109 : zAll cX11_isByte 11 1 (some .boolean) false zc_X11_isByte := fun i e => zChkF_get _ i e (by decide +kernel)
set_option maxRecDepth 100000 in
theorem zk_110 : zAll cX11_isTide 11 1 (some .boolean) false zc_X11_isTide := fun i e => zChkF_get _ i e (by decide +kernel)
set_option maxRecDepth 100000 in
theorem zk_111 : zAll cX11_isSheet 11 1 (some .boolean) false zc_X11_isSheet := fun i e => zChkF_get _ i e (by decide +kernel)
set_option maxRecDepth 100000 in
theorem zk_112 : zAll cX11_isOne 11 2 (some .boolean) false zc_X11_isOne := fun i e => zChkF_get _ i e (by decide +kernel)
set_option maxRecDepth 100000 in
theorem zk_113 : zAll cX11_isIsland 11 2 (some .boolean) false zc_X11_isIsland := fun i e => zChkF_get _ i e (by decide +kernel)
set_option maxRecDepth 100000 in
theorem zk_114 : zAll cX11_everybody 11 1 (some .int) false zc_X11_everybody := fun i e => zChkF_get _ i e (by decide +kernel)
set_option maxRecDepth 100000 in
theorem zk_115 : zAll cX11_islandAt 11 2 (some (.object "HighWater$Island")) false zc_X11_islandAt := fun i e => zChkF_get _ i e (by decide +kernel)
set_option maxRecDepth 100000 in
theorem zk_116 : zAll cX11_textAt 11 2 (some (.object "HighWater$Text")) false zc_X11_textAt := fun i e => zChkF_get _ i e (by decide +kernel)
set_option maxRecDepth 100000 in
theorem zk_117 : zAll cX11_law 11 1 (some (.object "HighWater$Text")) false zc_X11_law := fun i e => zChkF_get _ i e (by decide +kernel)
set_option maxRecDepth 100000 in
theorem zk_118 : zAll cX11_refusalOfSheet 11 2 (some .int) false zc_X11_refusalOfSheet := fun i e => zChkF_get _ i e (by decide +kernel)
set_option maxRecDepth 100000 in
theorem zk_119 : zAll cX11_refusalOfOwners 11 3 (some .int) false zc_X11_refusalOfOwners := fun i e => zChkF_get _ i e (by decide +kernel)
set_option maxRecDepth 100000 in
theorem zk_120 : zAll cX11_name 11 7 none false zc_X11_name := fun i e => zChkF_get _ i e (by decide +kernel)
set_option maxRecDepth 100000 in
theorem zk_121 : zAll cX11_saysOf 11 4 (some .int) false zc_X11_saysOf := fun i e => zChkF_get _ i e (by decide +kernel)
set_option maxRecDepth 100000 in
theorem zk_122 : zAll cX11_worthUnder 11 6 (some .int) false zc_X11_worthUnder := fun i e => zChkF_get _ i e (by decide +kernel)
set_option maxRecDepth 100000 in
theorem zk_123 : zAll cX11_costOf 11 6 (some .int) false zc_X11_costOf := fun i e => zChkF_get _ i e (by decide +kernel)
set_option maxRecDepth 100000 in
theorem zk_124 : zAll cX11_stormOf 11 4 (some .int) false zc_X11_stormOf := fun i e => zChkF_get _ i e (by decide +kernel)
set_option maxRecDepth 100000 in
theorem zk_125 : zAll cX11_lookAt 11 6 none false zc_X11_lookAt := fun i e => zChkF_get _ i e (by decide +kernel)
set_option maxRecDepth 100000 in
theorem zk_126 : zAll cX11_lookWithCosts 11 4 none false zc_X11_lookWithCosts := fun i e => zChkF_get _ i e (by decide +kernel)
set_option maxRecDepth 100000 in
theorem zk_127 : zAll cX11_lookForStorms 11 3 none false zc_X11_lookForStorms := fun i e => zChkF_get _ i e (by decide +kernel)
set_option maxRecDepth 100000 in
theorem zk_128 : zAll cX11_keptBy 11 6 (some .int) false zc_X11_keptBy := fun i e => zChkF_get _ i e (by decide +kernel)
set_option maxRecDepth 100000 in
theorem zk_129 : zAll cX11_gainBy 11 6 (some .int) false zc_X11_gainBy := fun i e => zChkF_get _ i e (by decide +kernel)
set_option maxRecDepth 100000 in
theorem zk_130 : zAll cX11_greatestDivisor 11 7 (some .long) false zc_X11_greatestDivisor := fun i e => zChkF_get _ i e (by decide +kernel)
set_option maxRecDepth 100000 in
theorem zk_131 : zAll cX11_partIslands 11 10 none false zc_X11_partIslands := fun i e => zChkF_get _ i e (by decide +kernel)
set_option maxRecDepth 100000 in
theorem zk_132 : zAll cX11_firstOtherwise 11 3 (some .int) false zc_X11_firstOtherwise := fun i e => zChkF_get _ i e (by decide +kernel)
set_option maxRecDepth 100000 in
theorem zk_133 : zAll cX11_newIsland 11 4 (some (.object "HighWater$Island")) false zc_X11_newIsland := fun i e => zChkF_get _ i e (by decide +kernel)
set_option maxRecDepth 100000 in
theorem zk_134 : zAll cX11_isOfKind 11 2 (some .boolean) false zc_X11_isOfKind := fun i e => zChkF_get _ i e (by decide +kernel)
set_option maxRecDepth 100000 in
theorem zkr_135_0 : zChkR cX12_init 12 2 none true zc_X12_init 0 100 = true := by decide +kernel
set_option maxRecDepth 100000 in
theorem zkr_135_100 : zChkR cX12_init 12 2 none true zc_X12_init 100 100 = true := by decide +kernel
set_option maxRecDepth 100000 in
theorem zkr_135_200 : zChkR cX12_init 12 2 none true zc_X12_init 200 100 = true := by decide +kernel
set_option maxRecDepth 100000 in
theorem zkr_135_300 : zChkR cX12_init 12 2 none true zc_X12_init 300 100 = true := by decide +kernel
set_option maxRecDepth 100000 in
theorem zkr_135_400 : zChkR cX12_init 12 2 none true zc_X12_init 400 100 = true := by decide +kernel
set_option maxRecDepth 100000 in
theorem zkr_135_500 : zChkR cX12_init 12 2 none true zc_X12_init 500 100 = true := by decide +kernel
set_option maxRecDepth 100000 in
theorem zkr_135_600 : zChkR cX12_init 12 2 none true zc_X12_init 600 100 = true := by decide +kernel
set_option maxRecDepth 100000 in
theorem zkr_135_700 : zChkR cX12_init 12 2 none true zc_X12_init 700 100 = true := by decide +kernel
set_option maxRecDepth 100000 in
theorem zk_136 : zAll cX12_in 12 3 (some .boolean) false zc_X12_in := fun i e => zChkF_get _ i e (by decide +kernel)
set_option maxRecDepth 100000 in
theorem zk_137 : zAll cX12_within 12 3 (some .int) false zc_X12_within := fun i e => zChkF_get _ i e (by decide +kernel)
set_option maxRecDepth 100000 in
theorem zk_138 : zAll cX12_isTide 12 1 (some .boolean) false zc_X12_isTide := fun i e => zChkF_get _ i e (by decide +kernel)
set_option maxRecDepth 100000 in
theorem zk_139 : zAll cX12_isIsland 12 2 (some .boolean) false zc_X12_isIsland := fun i e => zChkF_get _ i e (by decide +kernel)
set_option maxRecDepth 100000 in
theorem zk_140 : zAll cX12_isOne 12 2 (some .boolean) false zc_X12_isOne := fun i e => zChkF_get _ i e (by decide +kernel)
set_option maxRecDepth 100000 in
theorem zk_141 : zAll cX12_tide 12 4 (some .int) false zc_X12_tide := fun i e => zChkF_get _ i e (by decide +kernel)
set_option maxRecDepth 100000 in
theorem zk_142 : zAll cX12_height 12 2 (some .int) false zc_X12_height := fun i e => zChkF_get _ i e (by decide +kernel)
set_option maxRecDepth 100000 in
theorem zk_143 : zAll cX12_come 12 2 (some .int) false zc_X12_come := fun i e => zChkF_get _ i e (by decide +kernel)
set_option maxRecDepth 100000 in
theorem zk_144 : zAll cX12_go 12 5 (some .int) false zc_X12_go := fun i e => zChkF_get _ i e (by decide +kernel)
set_option maxRecDepth 100000 in
theorem zk_145 : zAll cX12_at 12 3 (some .int) false zc_X12_at := fun i e => zChkF_get _ i e (by decide +kernel)
set_option maxRecDepth 100000 in
theorem zk_146 : zAll cX12_count 12 2 (some .int) false zc_X12_count := fun i e => zChkF_get _ i e (by decide +kernel)
set_option maxRecDepth 100000 in
theorem zk_147 : zAll cX12_isByte 12 1 (some .boolean) false zc_X12_isByte := fun i e => zChkF_get _ i e (by decide +kernel)
set_option maxRecDepth 100000 in
theorem zk_148 : zAll cX12_feed 12 8 (some .int) false zc_X12_feed := fun i e => zChkF_get _ i e (by decide +kernel)
set_option maxRecDepth 100000 in
theorem zk_149 : zAll cX12_wordFrom 12 6 (some .int) false zc_X12_wordFrom := fun i e => zChkF_get _ i e (by decide +kernel)
set_option maxRecDepth 100000 in
theorem zk_150 : zAll cX12_next 12 3 none false zc_X12_next := fun i e => zChkF_get _ i e (by decide +kernel)
set_option maxRecDepth 100000 in
theorem zk_151 : zAll cX12_rank 12 1 (some .int) false zc_X12_rank := fun i e => zChkF_get _ i e (by decide +kernel)
set_option maxRecDepth 100000 in
theorem zk_152 : zAll cX12_puts 12 2 none false zc_X12_puts := fun i e => zChkF_get _ i e (by decide +kernel)
set_option maxRecDepth 100000 in
theorem zk_153 : zAll cX12_unwinds 12 3 none false zc_X12_unwinds := fun i e => zChkF_get _ i e (by decide +kernel)
set_option maxRecDepth 100000 in
theorem zk_154 : zAll cX12_holds 12 2 none false zc_X12_holds := fun i e => zChkF_get _ i e (by decide +kernel)
set_option maxRecDepth 100000 in
theorem zk_155 : zAll cX12_opensOne 12 2 (some .boolean) false zc_X12_opensOne := fun i e => zChkF_get _ i e (by decide +kernel)
set_option maxRecDepth 100000 in
theorem zk_156 : zAll cX12_between 12 2 (some .boolean) false zc_X12_between := fun i e => zChkF_get _ i e (by decide +kernel)
set_option maxRecDepth 100000 in
theorem zk_157 : zAll cX12_signOf 12 1 (some .int) false zc_X12_signOf := fun i e => zChkF_get _ i e (by decide +kernel)
set_option maxRecDepth 100000 in
theorem zk_158 : zAll cX12_eRead 12 4 (some .boolean) false zc_X12_eRead := fun i e => zChkF_get _ i e (by decide +kernel)
set_option maxRecDepth 100000 in
theorem zk_159 : zAll cX12_text 12 3 (some .int) false zc_X12_text := fun i e => zChkF_get _ i e (by decide +kernel)
set_option maxRecDepth 100000 in
theorem zk_160 : zAll cX12_two 12 3 (some .int) false zc_X12_two := fun i e => zChkF_get _ i e (by decide +kernel)
set_option maxRecDepth 100000 in
theorem zk_161 : zAll cX12_says 12 5 (some .int) false zc_X12_says := fun i e => zChkF_get _ i e (by decide +kernel)
set_option maxRecDepth 100000 in
theorem zk_162 : zAll cX12_force 12 3 (some .int) false zc_X12_force := fun i e => zChkF_get _ i e (by decide +kernel)
set_option maxRecDepth 100000 in
theorem zk_163 : zAll cX12_asksOf 12 8 (some .int) false zc_X12_asksOf := fun i e => zChkF_get _ i e (by decide +kernel)
set_option maxRecDepth 100000 in
theorem zk_164 : zAll cX12_asks 12 7 (some .int) false zc_X12_asks := fun i e => zChkF_get _ i e (by decide +kernel)
set_option maxRecDepth 100000 in
theorem zk_165 : zAll cX12_island 12 5 (some .int) false zc_X12_island := fun i e => zChkF_get _ i e (by decide +kernel)
set_option maxRecDepth 100000 in
theorem zk_166 : zAll cX12_told 12 3 (some .int) false zc_X12_told := fun i e => zChkF_get _ i e (by decide +kernel)
set_option maxRecDepth 100000 in
theorem zk_167 : zAll cX12_stands 12 3 (some .boolean) false zc_X12_stands := fun i e => zChkF_get _ i e (by decide +kernel)
set_option maxRecDepth 100000 in
theorem zk_168 : zAll cX12_worthOf 12 7 (some .int) false zc_X12_worthOf := fun i e => zChkF_get _ i e (by decide +kernel)
set_option maxRecDepth 100000 in
theorem zk_169 : zAll cX12_joinsOf 12 5 (some .int) false zc_X12_joinsOf := fun i e => zChkF_get _ i e (by decide +kernel)
set_option maxRecDepth 100000 in
theorem zk_170 : zAll cX12_looksAt 12 7 none false zc_X12_looksAt := fun i e => zChkF_get _ i e (by decide +kernel)
set_option maxRecDepth 100000 in
theorem zk_171 : zAll cX12_then 12 4 (some .int) false zc_X12_then := fun i e => zChkF_get _ i e (by decide +kernel)
set_option maxRecDepth 100000 in
theorem zk_172 : zAll cX12_joined 12 5 (some .int) false zc_X12_joined := fun i e => zChkF_get _ i e (by decide +kernel)
set_option maxRecDepth 100000 in
theorem zk_173 : zAll cX12_comesTo 12 3 none false zc_X12_comesTo := fun i e => zChkF_get _ i e (by decide +kernel)
set_option maxRecDepth 100000 in
theorem zk_174 : zAll cX12_isThere 12 2 (some .boolean) false zc_X12_isThere := fun i e => zChkF_get _ i e (by decide +kernel)
set_option maxRecDepth 100000 in
theorem zk_175 : zAll cX12_owner 12 6 (some .int) false zc_X12_owner := fun i e => zChkF_get _ i e (by decide +kernel)
set_option maxRecDepth 100000 in
theorem zk_176 : zAll cX12_gainOf 12 4 (some .int) false zc_X12_gainOf := fun i e => zChkF_get _ i e (by decide +kernel)
set_option maxRecDepth 100000 in
theorem zk_177 : zAll cX12_costTo 12 6 (some .int) false zc_X12_costTo := fun i e => zChkF_get _ i e (by decide +kernel)
set_option maxRecDepth 100000 in
theorem zk_178 : zAll cX12_leftAt 12 6 (some .int) false zc_X12_leftAt := fun i e => zChkF_get _ i e (by decide +kernel)
set_option maxRecDepth 100000 in
theorem zk_179 : zAll cX12_whose 12 3 (some .int) false zc_X12_whose := fun i e => zChkF_get _ i e (by decide +kernel)
set_option maxRecDepth 100000 in
theorem zk_180 : zAll cX12_gain 12 3 (some .int) false zc_X12_gain := fun i e => zChkF_get _ i e (by decide +kernel)
set_option maxRecDepth 100000 in
theorem zk_181 : zAll cX12_costs 12 3 (some .int) false zc_X12_costs := fun i e => zChkF_get _ i e (by decide +kernel)
set_option maxRecDepth 100000 in
theorem zk_182 : zAll cX12_year 12 6 (some .int) false zc_X12_year := fun i e => zChkF_get _ i e (by decide +kernel)
set_option maxRecDepth 100000 in
theorem zk_183 : zAll cX12_bestPlace 12 5 (some .int) false zc_X12_bestPlace := fun i e => zChkF_get _ i e (by decide +kernel)
set_option maxRecDepth 100000 in
theorem zk_184 : zAll cX12_best 12 5 (some .int) false zc_X12_best := fun i e => zChkF_get _ i e (by decide +kernel)
set_option maxRecDepth 100000 in
theorem zk_185 : zAll cX12_wise 12 5 (some .int) false zc_X12_wise := fun i e => zChkF_get _ i e (by decide +kernel)
set_option maxRecDepth 100000 in
theorem zk_186 : zAll cX12_isRest 12 3 (some .boolean) false zc_X12_isRest := fun i e => zChkF_get _ i e (by decide +kernel)
set_option maxRecDepth 100000 in
theorem zk_187 : zAll cX12_rest 12 2 (some .int) false zc_X12_rest := fun i e => zChkF_get _ i e (by decide +kernel)
set_option maxRecDepth 100000 in
theorem zk_188 : zAll cX12_next0 12 3 (some .boolean) false zc_X12_next0 := fun i e => zChkF_get _ i e (by decide +kernel)
set_option maxRecDepth 100000 in
theorem zk_189 : zAll cX12_begins 12 3 none false zc_X12_begins := fun i e => zChkF_get _ i e (by decide +kernel)
set_option maxRecDepth 100000 in
theorem zk_190 : zAll cX12_digits 12 4 (some .int) false zc_X12_digits := fun i e => zChkF_get _ i e (by decide +kernel)
set_option maxRecDepth 100000 in
theorem zk_191 : zAll cX12_everybody 12 1 (some .int) false zc_X12_everybody := fun i e => zChkF_get _ i e (by decide +kernel)
set_option maxRecDepth 100000 in
theorem zk_192 : zAll cX12_ways 12 6 (some .int) false zc_X12_ways := fun i e => zChkF_get _ i e (by decide +kernel)
set_option maxRecDepth 100000 in
theorem zk_193 : zAll cX12_leftOf 12 5 (some .int) false zc_X12_leftOf := fun i e => zChkF_get _ i e (by decide +kernel)
set_option maxRecDepth 100000 in
theorem zk_194 : zAll cX12_family 12 8 (some .int) false zc_X12_family := fun i e => zChkF_get _ i e (by decide +kernel)
set_option maxRecDepth 100000 in
theorem zk_195 : zAll cX12_gainOfOthers 12 4 (some .int) false zc_X12_gainOfOthers := fun i e => zChkF_get _ i e (by decide +kernel)
set_option maxRecDepth 100000 in
theorem zk_196 : zAll cX12_spoil 12 8 (some .int) false zc_X12_spoil := fun i e => zChkF_get _ i e (by decide +kernel)
set_option maxRecDepth 100000 in
theorem zk_197 : zAll cX12_ransom 12 5 (some .int) false zc_X12_ransom := fun i e => zChkF_get _ i e (by decide +kernel)
set_option maxRecDepth 100000 in
theorem zk_198 : zAll cX12_dearest 12 4 (some .int) false zc_X12_dearest := fun i e => zChkF_get _ i e (by decide +kernel)
set_option maxRecDepth 100000 in
theorem zk_199 : zAll cX12_parts 12 9 none false zc_X12_parts := fun i e => zChkF_get _ i e (by decide +kernel)
set_option maxRecDepth 100000 in
theorem zk_200 : zAll cX12_share 12 5 (some .int) false zc_X12_share := fun i e => zChkF_get _ i e (by decide +kernel)
set_option maxRecDepth 100000 in
theorem zk_201 : zAll cX12_unfair 12 7 (some .int) false zc_X12_unfair := fun i e => zChkF_get _ i e (by decide +kernel)
set_option maxRecDepth 100000 in
theorem zk_202 : zAll cX12_worthAt 12 6 (some .int) false zc_X12_worthAt := fun i e => zChkF_get _ i e (by decide +kernel)
set_option maxRecDepth 100000 in
theorem zk_203 : zAll cX12_dear 12 6 (some .int) false zc_X12_dear := fun i e => zChkF_get _ i e (by decide +kernel)
set_option maxRecDepth 100000 in
theorem zk_204 : zAll cX12_holds_ 12 8 (some .int) false zc_X12_holds_ := fun i e => zChkF_get _ i e (by decide +kernel)
set_option maxRecDepth 100000 in
theorem zk_205 : zAll cX12_sheetWrong 12 2 (some .int) false zc_X12_sheetWrong := fun i e => zChkF_get _ i e (by decide +kernel)
set_option maxRecDepth 100000 in
theorem zk_206 : zAll cX12_unlike 12 3 (some .int) false zc_X12_unlike := fun i e => zChkF_get _ i e (by decide +kernel)
set_option maxRecDepth 100000 in
theorem zk_207 : zAll cX12_judge 12 4 (some .int) false zc_X12_judge := fun i e => zChkF_get _ i e (by decide +kernel)
set_option maxRecDepth 100000 in
theorem zk_208 : zAll cX12_when 12 5 (some .int) false zc_X12_when := fun i e => zChkF_get _ i e (by decide +kernel)
set_option maxRecDepth 100000 in
theorem zk_209 : zAll cX12_were 12 9 (some .int) false zc_X12_were := fun i e => zChkF_get _ i e (by decide +kernel)
set_option maxRecDepth 100000 in
theorem zk_210 : zAll cX12_film 12 4 (some .int) false zc_X12_film := fun i e => zChkF_get _ i e (by decide +kernel)
set_option maxRecDepth 100000 in
theorem zk_211 : zAll cX12_laws 12 7 (some .int) false zc_X12_laws := fun i e => zChkF_get _ i e (by decide +kernel)
set_option maxRecDepth 100000 in
theorem zk_212 : zAll cX12_storms 12 7 (some .int) false zc_X12_storms := fun i e => zChkF_get _ i e (by decide +kernel)
set_option maxRecDepth 100000 in
theorem zk_213 : zAll cX12_drawn 12 6 (some .int) false zc_X12_drawn := fun i e => zChkF_get _ i e (by decide +kernel)
set_option maxRecDepth 100000 in
theorem zk_214 : zAll cX12_lowest 12 11 (some .long) false zc_X12_lowest := fun i e => zChkF_get _ i e (by decide +kernel)
set_option maxRecDepth 100000 in
theorem zk_215 : zAll cX12_mean 12 9 (some .long) false zc_X12_mean := fun i e => zChkF_get _ i e (by decide +kernel)
set_option maxRecDepth 100000 in
theorem zk_216 : zAll cX12_image 12 2 (some .int) false zc_X12_image := fun i e => zChkF_get _ i e (by decide +kernel)
set_option maxRecDepth 100000 in
theorem zk_217 : zAll cX12_back 12 2 (some .int) false zc_X12_back := fun i e => zChkF_get _ i e (by decide +kernel)
set_option maxRecDepth 100000 in
theorem zk_218 : zAll cX12_sheet 12 5 (some .int) false zc_X12_sheet := fun i e => zChkF_get _ i e (by decide +kernel)
set_option maxRecDepth 100000 in
theorem zk_219 : zAll cX12_cell 12 4 (some .int) false zc_X12_cell := fun i e => zChkF_get _ i e (by decide +kernel)
set_option maxRecDepth 100000 in
theorem zk_220 : zAll cX12_copy 12 10 (some .int) false zc_X12_copy := fun i e => zChkF_get _ i e (by decide +kernel)
set_option maxRecDepth 100000 in
theorem zk_221 : zAll cX12_islandsBy 12 9 (some .int) false zc_X12_islandsBy := fun i e => zChkF_get _ i e (by decide +kernel)
set_option maxRecDepth 100000 in
theorem zk_222 : zAll cX12_isUnder 12 2 (some .boolean) false zc_X12_isUnder := fun i e => zChkF_get _ i e (by decide +kernel)
set_option maxRecDepth 100000 in
theorem zk_223 : zAll cX12_taken 12 3 (some .int) false zc_X12_taken := fun i e => zChkF_get _ i e (by decide +kernel)
set_option maxRecDepth 100000 in
theorem zk_224 : zAll cJ7_fill_53178 14 4 none false zc_J7_fill_53178 := fun i e => zChkF_get _ i e (by decide +kernel)
set_option maxRecDepth 100000 in
theorem zk_225 : zAll cJ6_numberOfTrailingZeros_0f7a4 15 2 (some .int) false zc_J6_numberOfTrailingZeros_0f7a4 := fun i e => zChkF_get _ i e (by decide +kernel)
set_option maxRecDepth 100000 in
theorem zk_226 : zAll cJ7_copyOf_59c91 14 3 (some (.array .int)) false zc_J7_copyOf_59c91 := fun i e => zChkF_get _ i e (by decide +kernel)
set_option maxRecDepth 100000 in
theorem zkr_227_0 : zChkR cL_law 13 4 (some .boolean) false zc_L_law 0 100 = true := by decide +kernel
set_option maxRecDepth 100000 in
theorem zkr_227_100 : zChkR cL_law 13 4 (some .boolean) false zc_L_law 100 100 = true := by decide +kernel
set_option maxRecDepth 100000 in
theorem zkr_227_200 : zChkR cL_law 13 4 (some .boolean) false zc_L_law 200 100 = true := by decide +kernel
set_option maxRecDepth 100000 in
theorem zkr_227_300 : zChkR cL_law 13 4 (some .boolean) false zc_L_law 300 100 = true := by decide +kernel
set_option maxRecDepth 100000 in
theorem zkr_227_400 : zChkR cL_law 13 4 (some .boolean) false zc_L_law 400 100 = true := by decide +kernel
set_option maxRecDepth 100000 in
theorem zkr_227_500 : zChkR cL_law 13 4 (some .boolean) false zc_L_law 500 100 = true := by decide +kernel
set_option maxRecDepth 100000 in
theorem zkr_227_600 : zChkR cL_law 13 4 (some .boolean) false zc_L_law 600 100 = true := by decide +kernel
set_option maxRecDepth 100000 in
theorem zkr_227_700 : zChkR cL_law 13 4 (some .boolean) false zc_L_law 700 100 = true := by decide +kernel
set_option maxRecDepth 100000 in
theorem zkr_227_800 : zChkR cL_law 13 4 (some .boolean) false zc_L_law 800 100 = true := by decide +kernel
set_option maxRecDepth 100000 in
theorem zkr_227_900 : zChkR cL_law 13 4 (some .boolean) false zc_L_law 900 100 = true := by decide +kernel
set_option maxRecDepth 100000 in
theorem zkr_227_1000 : zChkR cL_law 13 4 (some .boolean) false zc_L_law 1000 100 = true := by decide +kernel
set_option maxRecDepth 100000 in
theorem zkr_227_1100 : zChkR cL_law 13 4 (some .boolean) false zc_L_law 1100 100 = true := by decide +kernel
set_option maxRecDepth 100000 in
theorem zkr_227_1200 : zChkR cL_law 13 4 (some .boolean) false zc_L_law 1200 100 = true := by decide +kernel
set_option maxRecDepth 100000 in
theorem zkr_227_1300 : zChkR cL_law 13 4 (some .boolean) false zc_L_law 1300 100 = true := by decide +kernel
set_option maxRecDepth 100000 in
theorem zk_135 : zAll cX12_init 12 2 none true zc_X12_init := by
  intro i e he
  have hl : i < zc_X12_init.length := (List.getElem?_eq_some_iff.mp he).1
  have hl : i < 740 := Nat.lt_of_lt_of_le hl (by decide +kernel)
  rcases Nat.lt_or_ge i 100 with h | h
  · exact zChkR_get zkr_135_0 (by omega) (by omega) he
  rcases Nat.lt_or_ge i 200 with h | h
  · exact zChkR_get zkr_135_100 (by omega) (by omega) he
  rcases Nat.lt_or_ge i 300 with h | h
  · exact zChkR_get zkr_135_200 (by omega) (by omega) he
  rcases Nat.lt_or_ge i 400 with h | h
  · exact zChkR_get zkr_135_300 (by omega) (by omega) he
  rcases Nat.lt_or_ge i 500 with h | h
  · exact zChkR_get zkr_135_400 (by omega) (by omega) he
  rcases Nat.lt_or_ge i 600 with h | h
  · exact zChkR_get zkr_135_500 (by omega) (by omega) he
  rcases Nat.lt_or_ge i 700 with h | h
  · exact zChkR_get zkr_135_600 (by omega) (by omega) he
  exact zChkR_get zkr_135_700 (by omega) (by omega) he
set_option maxRecDepth 100000 in
theorem zk_227 : zAll cL_law 13 4 (some .boolean) false zc_L_law := by
  intro i e he
  have hl : i < zc_L_law.length := (List.getElem?_eq_some_iff.mp he).1
  have hl : i < 1378 := Nat.lt_of_lt_of_le hl (by decide +kernel)
  rcases Nat.lt_or_ge i 100 with h | h
  · exact zChkR_get zkr_227_0 (by omega) (by omega) he
  rcases Nat.lt_or_ge i 200 with h | h
  · exact zChkR_get zkr_227_100 (by omega) (by omega) he
  rcases Nat.lt_or_ge i 300 with h | h
  · exact zChkR_get zkr_227_200 (by omega) (by omega) he
  rcases Nat.lt_or_ge i 400 with h | h
  · exact zChkR_get zkr_227_300 (by omega) (by omega) he
  rcases Nat.lt_or_ge i 500 with h | h
  · exact zChkR_get zkr_227_400 (by omega) (by omega) he
  rcases Nat.lt_or_ge i 600 with h | h
  · exact zChkR_get zkr_227_500 (by omega) (by omega) he
  rcases Nat.lt_or_ge i 700 with h | h
  · exact zChkR_get zkr_227_600 (by omega) (by omega) he
  rcases Nat.lt_or_ge i 800 with h | h
  · exact zChkR_get zkr_227_700 (by omega) (by omega) he
  rcases Nat.lt_or_ge i 900 with h | h
  · exact zChkR_get zkr_227_800 (by omega) (by omega) he
  rcases Nat.lt_or_ge i 1000 with h | h
  · exact zChkR_get zkr_227_900 (by omega) (by omega) he
  rcases Nat.lt_or_ge i 1100 with h | h
  · exact zChkR_get zkr_227_1000 (by omega) (by omega) he
  rcases Nat.lt_or_ge i 1200 with h | h
  · exact zChkR_get zkr_227_1100 (by omega) (by omega) he
  rcases Nat.lt_or_ge i 1300 with h | h
  · exact zChkR_get zkr_227_1200 (by omega) (by omega) he
  exact zChkR_get zkr_227_1300 (by omega) (by omega) he
/-! every method is checked -/
set_option maxRecDepth 100000 in
theorem zAll_ok : zAllOk := by
  intro x hx
  match x, hx with
  | 0, _ => exact zk_0
  | 1, _ => exact zk_1
  | 2, _ => exact zk_2
  | 3, _ => exact zk_3
  | 4, _ => exact zk_4
  | 5, _ => exact zk_5
  | 6, _ => exact zk_6
  | 7, _ => exact zk_7
  | 8, _ => exact zk_8
  | 9, _ => exact zk_9
  | 10, _ => exact zk_10
  | 11, _ => exact zk_11
  | 12, _ => exact zk_12
  | 13, _ => exact zk_13
  | 14, _ => exact zk_14
  | 15, _ => exact zk_15
  | 16, _ => exact zk_16
  | 17, _ => exact zk_17
  | 18, _ => exact zk_18
  | 19, _ => exact zk_19
  | 20, _ => exact zk_20
  | 21, _ => exact zk_21
  | 22, _ => exact zk_22
  | 23, _ => exact zk_23
  | 24, _ => exact zk_24
  | 25, _ => exact zk_25
  | 26, _ => exact zk_26
  | 27, _ => exact zk_27
  | 28, _ => exact zk_28
  | 29, _ => exact zk_29
  | 30, _ => exact zk_30
  | 31, _ => exact zk_31
  | 32, _ => exact zk_32
  | 33, _ => exact zk_33
  | 34, _ => exact zk_34
  | 35, _ => exact zk_35
  | 36, _ => exact zk_36
  | 37, _ => exact zk_37
  | 38, _ => exact zk_38
  | 39, _ => exact zk_39
  | 40, _ => exact zk_40
  | 41, _ => exact zk_41
  | 42, _ => exact zk_42
  | 43, _ => exact zk_43
  | 44, _ => exact zk_44
  | 45, _ => exact zk_45
  | 46, _ => exact zk_46
  | 47, _ => exact zk_47
  | 48, _ => exact zk_48
  | 49, _ => exact zk_49
  | 50, _ => exact zk_50
  | 51, _ => exact zk_51
  | 52, _ => exact zk_52
  | 53, _ => exact zk_53
  | 54, _ => exact zk_54
  | 55, _ => exact zk_55
  | 56, _ => exact zk_56
  | 57, _ => exact zk_57
  | 58, _ => exact zk_58
  | 59, _ => exact zk_59
  | 60, _ => exact zk_60
  | 61, _ => exact zk_61
  | 62, _ => exact zk_62
  | 63, _ => exact zk_63
  | 64, _ => exact zk_64
  | 65, _ => exact zk_65
  | 66, _ => exact zk_66
  | 67, _ => exact zk_67
  | 68, _ => exact zk_68
  | 69, _ => exact zk_69
  | 70, _ => exact zk_70
  | 71, _ => exact zk_71
  | 72, _ => exact zk_72
  | 73, _ => exact zk_73
  | 74, _ => exact zk_74
  | 75, _ => exact zk_75
  | 76, _ => exact zk_76
  | 77, _ => exact zk_77
  | 78, _ => exact zk_78
  | 79, _ => exact zk_79
  | 80, _ => exact zk_80
  | 81, _ => exact zk_81
  | 82, _ => exact zk_82
  | 83, _ => exact zk_83
  | 84, _ => exact zk_84
  | 85, _ => exact zk_85
  | 86, _ => exact zk_86
  | 87, _ => exact zk_87
  | 88, _ => exact zk_88
  | 89, _ => exact zk_89
  | 90, _ => exact zk_90
  | 91, _ => exact zk_91
  | 92, _ => exact zk_92
  | 93, _ => exact zk_93
  | 94, _ => exact zk_94
  | 95, _ => exact zk_95
  | 96, _ => exact zk_96
  | 97, _ => exact zk_97
  | 98, _ => exact zk_98
  | 99, _ => exact zk_99
  | 100, _ => exact zk_100
  | 101, _ => exact zk_101
  | 102, _ => exact zk_102
  | 103, _ => exact zk_103
  | 104, _ => exact zk_104
  | 105, _ => exact zk_105
  | 106, _ => exact zk_106
  | 107, _ => exact zk_107
  | 108, _ => exact zk_108
  | 109, _ => exact zk_109
  | 110, _ => exact zk_110
  | 111, _ => exact zk_111
  | 112, _ => exact zk_112
  | 113, _ => exact zk_113
  | 114, _ => exact zk_114
  | 115, _ => exact zk_115
  | 116, _ => exact zk_116
  | 117, _ => exact zk_117
  | 118, _ => exact zk_118
  | 119, _ => exact zk_119
  | 120, _ => exact zk_120
  | 121, _ => exact zk_121
  | 122, _ => exact zk_122
  | 123, _ => exact zk_123
  | 124, _ => exact zk_124
  | 125, _ => exact zk_125
  | 126, _ => exact zk_126
  | 127, _ => exact zk_127
  | 128, _ => exact zk_128
  | 129, _ => exact zk_129
  | 130, _ => exact zk_130
  | 131, _ => exact zk_131
  | 132, _ => exact zk_132
  | 133, _ => exact zk_133
  | 134, _ => exact zk_134
  | 135, _ => exact zk_135
  | 136, _ => exact zk_136
  | 137, _ => exact zk_137
  | 138, _ => exact zk_138
  | 139, _ => exact zk_139
  | 140, _ => exact zk_140
  | 141, _ => exact zk_141
  | 142, _ => exact zk_142
  | 143, _ => exact zk_143
  | 144, _ => exact zk_144
  | 145, _ => exact zk_145
  | 146, _ => exact zk_146
  | 147, _ => exact zk_147
  | 148, _ => exact zk_148
  | 149, _ => exact zk_149
  | 150, _ => exact zk_150
  | 151, _ => exact zk_151
  | 152, _ => exact zk_152
  | 153, _ => exact zk_153
  | 154, _ => exact zk_154
  | 155, _ => exact zk_155
  | 156, _ => exact zk_156
  | 157, _ => exact zk_157
  | 158, _ => exact zk_158
  | 159, _ => exact zk_159
  | 160, _ => exact zk_160
  | 161, _ => exact zk_161
  | 162, _ => exact zk_162
  | 163, _ => exact zk_163
  | 164, _ => exact zk_164
  | 165, _ => exact zk_165
  | 166, _ => exact zk_166
  | 167, _ => exact zk_167
  | 168, _ => exact zk_168
  | 169, _ => exact zk_169
  | 170, _ => exact zk_170
  | 171, _ => exact zk_171
  | 172, _ => exact zk_172
  | 173, _ => exact zk_173
  | 174, _ => exact zk_174
  | 175, _ => exact zk_175
  | 176, _ => exact zk_176
  | 177, _ => exact zk_177
  | 178, _ => exact zk_178
  | 179, _ => exact zk_179
  | 180, _ => exact zk_180
  | 181, _ => exact zk_181
  | 182, _ => exact zk_182
  | 183, _ => exact zk_183
  | 184, _ => exact zk_184
  | 185, _ => exact zk_185
  | 186, _ => exact zk_186
  | 187, _ => exact zk_187
  | 188, _ => exact zk_188
  | 189, _ => exact zk_189
  | 190, _ => exact zk_190
  | 191, _ => exact zk_191
  | 192, _ => exact zk_192
  | 193, _ => exact zk_193
  | 194, _ => exact zk_194
  | 195, _ => exact zk_195
  | 196, _ => exact zk_196
  | 197, _ => exact zk_197
  | 198, _ => exact zk_198
  | 199, _ => exact zk_199
  | 200, _ => exact zk_200
  | 201, _ => exact zk_201
  | 202, _ => exact zk_202
  | 203, _ => exact zk_203
  | 204, _ => exact zk_204
  | 205, _ => exact zk_205
  | 206, _ => exact zk_206
  | 207, _ => exact zk_207
  | 208, _ => exact zk_208
  | 209, _ => exact zk_209
  | 210, _ => exact zk_210
  | 211, _ => exact zk_211
  | 212, _ => exact zk_212
  | 213, _ => exact zk_213
  | 214, _ => exact zk_214
  | 215, _ => exact zk_215
  | 216, _ => exact zk_216
  | 217, _ => exact zk_217
  | 218, _ => exact zk_218
  | 219, _ => exact zk_219
  | 220, _ => exact zk_220
  | 221, _ => exact zk_221
  | 222, _ => exact zk_222
  | 223, _ => exact zk_223
  | 224, _ => exact zk_224
  | 225, _ => exact zk_225
  | 226, _ => exact zk_226
  | n + 227, h => exact absurd h (by omega)
