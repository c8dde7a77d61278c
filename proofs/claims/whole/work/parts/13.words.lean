/-! words: the shape, methods, what the tables say of fields and calls -/
section JSW
variable {Y : ax_Y} {K : ax_KT} {nc ns pc : Nat} {ll : List (Nat × ax_V)} {st : List ax_V} {sh : ax_S} {M : ax_M}
theorem j_tableC {dflt lo hi off x v : Int} {offs : Array Int} {len tgt : Nat} (c : x = v) (hd : decode (yc Y) pc = .ok (.tableswitch dflt lo hi offs, len)) (h1 : lo ≤ v) (h2 : v ≤ hi) (ho : offs[(v - lo).toNat]? = some off) (ht : (pc : Int) + off = (tgt : Int)) (kk : ax_J Y K nc ns tgt ll st sh M) : ax_J Y K nc ns pc ll (aI x :: st) sh M := by
  subst c
  exact j_tableIn hd h1 h2 ho ht kk
theorem j_lookupC {dflt off x v : Int} {ps : Array (Int × Int)} {len tgt : Nat} (c : x = v) (hd : decode (yc Y) pc = .ok (.lookupswitch dflt ps, len)) (hp : (ps.toList.zip (ps.toList.drop 1)).all (fun (a, next) => a.1 < next.1) = true) (ho : Op.lookupswitch.offset ps.toList dflt v = off) (ht : (pc : Int) + off = (tgt : Int)) (kk : ax_J Y K nc ns tgt ll st sh M) : ax_J Y K nc ns pc ll (aI x :: st) sh M := by
  subst c
  exact j_lookup hd hp ho ht kk
theorem j_lookupD {dflt off x : Int} {ps : Array (Int × Int)} {len tgt : Nat} (hd : decode (yc Y) pc = .ok (.lookupswitch dflt ps, len)) (hp : (ps.toList.zip (ps.toList.drop 1)).all (fun (a, next) => a.1 < next.1) = true) (ho : Op.lookupswitch.offset ps.toList dflt x = off) (ht : (pc : Int) + off = (tgt : Int)) (kk : ax_J Y K nc ns tgt ll st sh M) : ax_J Y K nc ns pc ll (aI x :: st) sh M := j_lookup hd hp ho ht kk
end JSW
def SH : ax_S := [.inr (10, [11, 13, 16, 18, 25, 40, 41, 43, 50, 59, 61, 70, 0]), .inr (8, [12, 0]), .inl (4, 400), .inr (5, [11, 14, 0, 0, 0, 0]), .inr (3, [0, 0, 0, 0, 15]), .inl (0, 168), .inr (3, [0, 0, 0, 0, 17]), .inl (0, 168), .inr (0, [0, 0, 19, 20, 21, 22, 23, 24]), .inl (0, 8), .inl (3, 8), .inl (3, 8), .inl (0, 4), .inl (0, 4), .inl (3, 24), .inl (2, 2), .inr (0, [0, 0, 27, 28, 29, 30, 31, 32]), .inl (0, 8), .inl (3, 8), .inl (3, 8), .inl (0, 4), .inl (0, 4), .inl (3, 24), .inr (0, [0, 0, 34, 35, 36, 37, 38, 39]), .inl (0, 8), .inl (3, 8), .inl (3, 8), .inl (0, 4), .inl (0, 4), .inl (3, 24), .inl (3, 2), .inr (6, [42, 0]), .inl (0, 12), .inr (9, [16, 18, 44, 45, 46, 47, 48, 49]), .inl (0, 24), .inl (0, 24), .inl (0, 24), .inl (0, 24), .inl (0, 12), .inl (0, 12), .inr (2, [16, 18, 51, 52, 53, 54, 55, 56, 57, 58, 0, 0]), .inl (0, 3660), .inl (0, 61), .inl (0, 12), .inl (0, 288), .inl (0, 12), .inl (0, 732), .inl (0, 732), .inl (0, 732), .inr (1, [16, 18, 43, 60, 0, 0, 0, 0]), .inl (0, 8), .inr (7, [16, 18, 43, 62, 0, 63, 64, 65, 66, 67, 68, 69, 0, 2, 0]), .inl (0, 7), .inl (0, 12), .inl (0, 12), .inl (0, 12), .inl (0, 64), .inl (0, 64), .inl (0, 4200), .inl (0, 700), .inr (4, [16, 41, 43, 0, 0, 0, 0]), .inr (11, [0, 0, 0, 0, 72, 73, 74, 75, 76, 77, 78, 79, 80, 0, 0, 0, 1, 0, 0, 0, 0, 0, 0, 0, 81, 0, 82, 83, 84, 0, 85, 86, 0, 0, 87, 88, 89, 90, 91, 92, 93, 94, 95, 0, 96, 97, 98, 0, 99, 100, 0, 101, 0, 1, 102, 103, 104, 105, 106, 107, 108]), .inl (0, 24), .inl (0, 24), .inl (0, 24), .inl (0, 24), .inl (0, 24), .inl (0, 24), .inl (0, 24), .inl (3, 24), .inl (0, 400), .inl (0, 168), .inl (0, 8), .inl (3, 8), .inl (3, 8), .inl (0, 4), .inl (0, 4), .inl (0, 12), .inl (0, 2928), .inl (0, 732), .inl (0, 61), .inl (0, 12), .inl (3, 732), .inl (0, 732), .inl (0, 732), .inl (0, 732), .inl (0, 8), .inl (0, 24), .inl (0, 6), .inl (0, 4096), .inl (0, 4096), .inl (0, 12), .inl (0, 8), .inl (0, 8), .inl (1, 8), .inl (0, 8), .inl (0, 12), .inl (0, 120), .inl (3, 2)]
theorem sh_0 : SH[0]? = some (.inr (10, [11, 13, 16, 18, 25, 40, 41, 43, 50, 59, 61, 70, 0])) := rfl
theorem sh_1 : SH[1]? = some (.inr (8, [12, 0])) := rfl
theorem sh_2 : SH[2]? = some (.inl (4, 400)) := rfl
theorem sh_3 : SH[3]? = some (.inr (5, [11, 14, 0, 0, 0, 0])) := rfl
theorem sh_4 : SH[4]? = some (.inr (3, [0, 0, 0, 0, 15])) := rfl
theorem sh_5 : SH[5]? = some (.inl (0, 168)) := rfl
theorem sh_6 : SH[6]? = some (.inr (3, [0, 0, 0, 0, 17])) := rfl
theorem sh_7 : SH[7]? = some (.inl (0, 168)) := rfl
theorem sh_8 : SH[8]? = some (.inr (0, [0, 0, 19, 20, 21, 22, 23, 24])) := rfl
theorem sh_9 : SH[9]? = some (.inl (0, 8)) := rfl
theorem sh_10 : SH[10]? = some (.inl (3, 8)) := rfl
theorem sh_11 : SH[11]? = some (.inl (3, 8)) := rfl
theorem sh_12 : SH[12]? = some (.inl (0, 4)) := rfl
theorem sh_13 : SH[13]? = some (.inl (0, 4)) := rfl
theorem sh_14 : SH[14]? = some (.inl (3, 24)) := rfl
theorem sh_15 : SH[15]? = some (.inl (2, 2)) := rfl
theorem sh_16 : SH[16]? = some (.inr (0, [0, 0, 27, 28, 29, 30, 31, 32])) := rfl
theorem sh_17 : SH[17]? = some (.inl (0, 8)) := rfl
theorem sh_18 : SH[18]? = some (.inl (3, 8)) := rfl
theorem sh_19 : SH[19]? = some (.inl (3, 8)) := rfl
theorem sh_20 : SH[20]? = some (.inl (0, 4)) := rfl
theorem sh_21 : SH[21]? = some (.inl (0, 4)) := rfl
theorem sh_22 : SH[22]? = some (.inl (3, 24)) := rfl
theorem sh_23 : SH[23]? = some (.inr (0, [0, 0, 34, 35, 36, 37, 38, 39])) := rfl
theorem sh_24 : SH[24]? = some (.inl (0, 8)) := rfl
theorem sh_25 : SH[25]? = some (.inl (3, 8)) := rfl
theorem sh_26 : SH[26]? = some (.inl (3, 8)) := rfl
theorem sh_27 : SH[27]? = some (.inl (0, 4)) := rfl
theorem sh_28 : SH[28]? = some (.inl (0, 4)) := rfl
theorem sh_29 : SH[29]? = some (.inl (3, 24)) := rfl
theorem sh_30 : SH[30]? = some (.inl (3, 2)) := rfl
theorem sh_31 : SH[31]? = some (.inr (6, [42, 0])) := rfl
theorem sh_32 : SH[32]? = some (.inl (0, 12)) := rfl
theorem sh_33 : SH[33]? = some (.inr (9, [16, 18, 44, 45, 46, 47, 48, 49])) := rfl
theorem sh_34 : SH[34]? = some (.inl (0, 24)) := rfl
theorem sh_35 : SH[35]? = some (.inl (0, 24)) := rfl
theorem sh_36 : SH[36]? = some (.inl (0, 24)) := rfl
theorem sh_37 : SH[37]? = some (.inl (0, 24)) := rfl
theorem sh_38 : SH[38]? = some (.inl (0, 12)) := rfl
theorem sh_39 : SH[39]? = some (.inl (0, 12)) := rfl
theorem sh_40 : SH[40]? = some (.inr (2, [16, 18, 51, 52, 53, 54, 55, 56, 57, 58, 0, 0])) := rfl
theorem sh_41 : SH[41]? = some (.inl (0, 3660)) := rfl
theorem sh_42 : SH[42]? = some (.inl (0, 61)) := rfl
theorem sh_43 : SH[43]? = some (.inl (0, 12)) := rfl
theorem sh_44 : SH[44]? = some (.inl (0, 288)) := rfl
theorem sh_45 : SH[45]? = some (.inl (0, 12)) := rfl
theorem sh_46 : SH[46]? = some (.inl (0, 732)) := rfl
theorem sh_47 : SH[47]? = some (.inl (0, 732)) := rfl
theorem sh_48 : SH[48]? = some (.inl (0, 732)) := rfl
theorem sh_49 : SH[49]? = some (.inr (1, [16, 18, 43, 60, 0, 0, 0, 0])) := rfl
theorem sh_50 : SH[50]? = some (.inl (0, 8)) := rfl
theorem sh_51 : SH[51]? = some (.inr (7, [16, 18, 43, 62, 0, 63, 64, 65, 66, 67, 68, 69, 0, 2, 0])) := rfl
theorem sh_52 : SH[52]? = some (.inl (0, 7)) := rfl
theorem sh_53 : SH[53]? = some (.inl (0, 12)) := rfl
theorem sh_54 : SH[54]? = some (.inl (0, 12)) := rfl
theorem sh_55 : SH[55]? = some (.inl (0, 12)) := rfl
theorem sh_56 : SH[56]? = some (.inl (0, 64)) := rfl
theorem sh_57 : SH[57]? = some (.inl (0, 64)) := rfl
theorem sh_58 : SH[58]? = some (.inl (0, 4200)) := rfl
theorem sh_59 : SH[59]? = some (.inl (0, 700)) := rfl
theorem sh_60 : SH[60]? = some (.inr (4, [16, 41, 43, 0, 0, 0, 0])) := rfl
theorem sh_61 : SH[61]? = some (.inr (11, [0, 0, 0, 0, 72, 73, 74, 75, 76, 77, 78, 79, 80, 0, 0, 0, 1, 0, 0, 0, 0, 0, 0, 0, 81, 0, 82, 83, 84, 0, 85, 86, 0, 0, 87, 88, 89, 90, 91, 92, 93, 94, 95, 0, 96, 97, 98, 0, 99, 100, 0, 101, 0, 1, 102, 103, 104, 105, 106, 107, 108])) := rfl
theorem sh_62 : SH[62]? = some (.inl (0, 24)) := rfl
theorem sh_63 : SH[63]? = some (.inl (0, 24)) := rfl
theorem sh_64 : SH[64]? = some (.inl (0, 24)) := rfl
theorem sh_65 : SH[65]? = some (.inl (0, 24)) := rfl
theorem sh_66 : SH[66]? = some (.inl (0, 24)) := rfl
theorem sh_67 : SH[67]? = some (.inl (0, 24)) := rfl
theorem sh_68 : SH[68]? = some (.inl (0, 24)) := rfl
theorem sh_69 : SH[69]? = some (.inl (3, 24)) := rfl
theorem sh_70 : SH[70]? = some (.inl (0, 400)) := rfl
theorem sh_71 : SH[71]? = some (.inl (0, 168)) := rfl
theorem sh_72 : SH[72]? = some (.inl (0, 8)) := rfl
theorem sh_73 : SH[73]? = some (.inl (3, 8)) := rfl
theorem sh_74 : SH[74]? = some (.inl (3, 8)) := rfl
theorem sh_75 : SH[75]? = some (.inl (0, 4)) := rfl
theorem sh_76 : SH[76]? = some (.inl (0, 4)) := rfl
theorem sh_77 : SH[77]? = some (.inl (0, 12)) := rfl
theorem sh_78 : SH[78]? = some (.inl (0, 2928)) := rfl
theorem sh_79 : SH[79]? = some (.inl (0, 732)) := rfl
theorem sh_80 : SH[80]? = some (.inl (0, 61)) := rfl
theorem sh_81 : SH[81]? = some (.inl (0, 12)) := rfl
theorem sh_82 : SH[82]? = some (.inl (3, 732)) := rfl
theorem sh_83 : SH[83]? = some (.inl (0, 732)) := rfl
theorem sh_84 : SH[84]? = some (.inl (0, 732)) := rfl
theorem sh_85 : SH[85]? = some (.inl (0, 732)) := rfl
theorem sh_86 : SH[86]? = some (.inl (0, 8)) := rfl
theorem sh_87 : SH[87]? = some (.inl (0, 24)) := rfl
theorem sh_88 : SH[88]? = some (.inl (0, 6)) := rfl
theorem sh_89 : SH[89]? = some (.inl (0, 4096)) := rfl
theorem sh_90 : SH[90]? = some (.inl (0, 4096)) := rfl
theorem sh_91 : SH[91]? = some (.inl (0, 12)) := rfl
theorem sh_92 : SH[92]? = some (.inl (0, 8)) := rfl
theorem sh_93 : SH[93]? = some (.inl (0, 8)) := rfl
theorem sh_94 : SH[94]? = some (.inl (1, 8)) := rfl
theorem sh_95 : SH[95]? = some (.inl (0, 8)) := rfl
theorem sh_96 : SH[96]? = some (.inl (0, 12)) := rfl
theorem sh_97 : SH[97]? = some (.inl (0, 120)) := rfl
theorem sh_98 : SH[98]? = some (.inl (3, 2)) := rfl
def Y_X0_init : ax_Y := (yX0_init, cX0_init, 1, none, 1, 6, 56)
def Y_X0_vanish : ax_Y := (yX0_vanish, cX0_vanish, 2, none, 1, 0, 0)
def Y_X0_become : ax_Y := (yX0_become, cX0_become, 2, none, 2, 0, 0)
def Y_X0_copy : ax_Y := (yX0_copy, cX0_copy, 3, none, 1, 0, 0)
def Y_X0_addMan : ax_Y := (yX0_addMan, cX0_addMan, 5, (some .int), 1, 0, 0)
def Y_X0_addLamp : ax_Y := (yX0_addLamp, cX0_addLamp, 4, (some .int), 1, 0, 0)
def Y_X0_knowing : ax_Y := (yX0_knowing, cX0_knowing, 3, (some .int), 2, 0, 0)
def Y_X0_untoldPlaces : ax_Y := (yX0_untoldPlaces, cX0_untoldPlaces, 3, (some .int), 1, 0, 0)
def Y_X0_someSlowAt : ax_Y := (yX0_someSlowAt, cX0_someSlowAt, 3, (some .boolean), 1, 0, 0)
def Y_X1_init : ax_Y := (yX1_init, cX1_init, 4, none, 1, 1, 8)
def Y_X1_noMark : ax_Y := (yX1_noMark, cX1_noMark, 1, none, 1, 0, 0)
def Y_X1_leaveMark : ax_Y := (yX1_leaveMark, cX1_leaveMark, 3, none, 1, 0, 0)
def Y_X1_upFromAll : ax_Y := (yX1_upFromAll, cX1_upFromAll, 4, (some .int), 6, 0, 0)
def Y_X1_upFrom : ax_Y := (yX1_upFrom, cX1_upFrom, 7, (some .int), 5, 0, 0)
def Y_X1_lineUp : ax_Y := (yX1_lineUp, cX1_lineUp, 4, none, 1, 0, 0)
def Y_X1_comesUp : ax_Y := (yX1_comesUp, cX1_comesUp, 4, (some .boolean), 4, 0, 0)
def Y_X1_lend : ax_Y := (yX1_lend, cX1_lend, 5, (some .int), 5, 0, 0)
def Y_X2_init : ax_Y := (yX2_init, cX2_init, 3, none, 1, 8, 6229)
def Y_X2_lift : ax_Y := (yX2_lift, cX2_lift, 5, (some .int), 5, 0, 0)
def Y_X2_findNear : ax_Y := (yX2_findNear, cX2_findNear, 2, none, 2, 0, 0)
def Y_X2_addNear : ax_Y := (yX2_addNear, cX2_addNear, 3, none, 1, 0, 0)
def Y_X2_search : ax_Y := (yX2_search, cX2_search, 6, (some .int), 4, 0, 0)
def Y_X2_see : ax_Y := (yX2_see, cX2_see, 4, none, 1, 0, 0)
def Y_X2_seeByWaiting : ax_Y := (yX2_seeByWaiting, cX2_seeByWaiting, 3, none, 2, 0, 0)
def Y_X2_seeByWay : ax_Y := (yX2_seeByWay, cX2_seeByWay, 10, none, 3, 0, 0)
def Y_X2_stepInto : ax_Y := (yX2_stepInto, cX2_stepInto, 5, (some .int), 2, 0, 0)
def Y_X2_send : ax_Y := (yX2_send, cX2_send, 5, none, 1, 0, 0)
def Y_X2_seenPlaces : ax_Y := (yX2_seenPlaces, cX2_seenPlaces, 3, (some .int), 1, 0, 0)
def Y_X3_init : ax_Y := (yX3_init, cX3_init, 1, none, 1, 1, 168)
def Y_X3_vanish : ax_Y := (yX3_vanish, cX3_vanish, 1, none, 1, 0, 0)
def Y_X3_become : ax_Y := (yX3_become, cX3_become, 2, none, 1, 0, 0)
def Y_X3_fact : ax_Y := (yX3_fact, cX3_fact, 3, (some .int), 1, 0, 0)
def Y_X3_put : ax_Y := (yX3_put, cX3_put, 4, none, 1, 0, 0)
def Y_X3_touches : ax_Y := (yX3_touches, cX3_touches, 3, (some .boolean), 2, 0, 0)
def Y_X3_beyond : ax_Y := (yX3_beyond, cX3_beyond, 3, (some .int), 2, 0, 0)
def Y_X3_notBad : ax_Y := (yX3_notBad, cX3_notBad, 6, (some .int), 2, 0, 0)
def Y_X4_init : ax_Y := (yX4_init, cX4_init, 4, none, 1, 0, 0)
def Y_X4_follow : ax_Y := (yX4_follow, cX4_follow, 4, none, 4, 0, 0)
def Y_X4_both : ax_Y := (yX4_both, cX4_both, 2, (some .int), 1, 0, 0)
def Y_X4_bestChance : ax_Y := (yX4_bestChance, cX4_bestChance, 3, (some .int), 17, 0, 0)
def Y_X4_goOnFrom (r : Nat) : ax_Y := (yX4_goOnFrom, cX4_goOnFrom, 10, none, 4 + r, 0, 0)
def Y_X5_init : ax_Y := (yX5_init, cX5_init, 2, none, 2, 2, 173)
def Y_X5_read : ax_Y := (yX5_read, cX5_read, 2, (some .int), 9, 0, 0)
def Y_X5_readPlaces : ax_Y := (yX5_readPlaces, cX5_readPlaces, 1, none, 7, 0, 0)
def Y_X5_readClause : ax_Y := (yX5_readClause, cX5_readClause, 2, none, 8, 0, 0)
def Y_X5_readOut : ax_Y := (yX5_readOut, cX5_readOut, 2, none, 3, 0, 0)
def Y_X5_readWay : ax_Y := (yX5_readWay, cX5_readWay, 6, none, 7, 0, 0)
def Y_X5_blame : ax_Y := (yX5_blame, cX5_blame, 3, none, 1, 0, 0)
def Y_X5_isLetter : ax_Y := (yX5_isLetter, cX5_isLetter, 2, (some .boolean), 1, 0, 0)
def Y_X5_isFigure : ax_Y := (yX5_isFigure, cX5_isFigure, 2, (some .boolean), 1, 0, 0)
def Y_X5_atEnd : ax_Y := (yX5_atEnd, cX5_atEnd, 1, (some .boolean), 1, 0, 0)
def Y_X5_takeWord : ax_Y := (yX5_takeWord, cX5_takeWord, 4, (some .boolean), 6, 0, 0)
def Y_X5_number : ax_Y := (yX5_number, cX5_number, 5, (some .int), 2, 0, 0)
def Y_X5_takeClauseEnd : ax_Y := (yX5_takeClauseEnd, cX5_takeClauseEnd, 1, none, 2, 0, 0)
def Y_X6_init : ax_Y := (yX6_init, cX6_init, 1, none, 1, 1, 12)
def Y_X6_append : ax_Y := (yX6_append, cX6_append, 2, none, 1, 0, 0)
def Y_X7_init : ax_Y := (yX7_init, cX7_init, 4, none, 1, 8, 5071)
def Y_X7_findStops : ax_Y := (yX7_findStops, cX7_findStops, 3, none, 6, 0, 0)
def Y_X7_findLast : ax_Y := (yX7_findLast, cX7_findLast, 4, none, 5, 0, 0)
def Y_X7_allStops : ax_Y := (yX7_allStops, cX7_allStops, 1, (some .int), 1, 0, 0)
def Y_X7_stopsOf : ax_Y := (yX7_stopsOf, cX7_stopsOf, 4, (some .int), 1, 0, 0)
def Y_X7_placesOf : ax_Y := (yX7_placesOf, cX7_placesOf, 4, (some .int), 1, 0, 0)
def Y_X7_weigh : ax_Y := (yX7_weigh, cX7_weigh, 6, none, 18, 0, 0)
def Y_X7_goOnFrom (r : Nat) : ax_Y := (yX7_goOnFrom, cX7_goOnFrom, 10, none, 5 + r, 0, 0)
def Y_X7_soonestRow : ax_Y := (yX7_soonestRow, cX7_soonestRow, 5, (some .int), 4, 0, 0)
def Y_X7_upWhenTold : ax_Y := (yX7_upWhenTold, cX7_upWhenTold, 5, (some .int), 2, 0, 0)
def Y_X7_bestOfOne : ax_Y := (yX7_bestOfOne, cX7_bestOfOne, 3, (some .int), 2, 0, 0)
def Y_X7_bestOfTwo : ax_Y := (yX7_bestOfTwo, cX7_bestOfTwo, 7, (some .int), 2, 0, 0)
def Y_X7_lateFor : ax_Y := (yX7_lateFor, cX7_lateFor, 4, (some .int), 6, 0, 0)
def Y_X8_init : ax_Y := (yX8_init, cX8_init, 1, none, 1, 1, 400)
def Y_X8_append : ax_Y := (yX8_append, cX8_append, 5, none, 1, 0, 0)
def Y_X9_init : ax_Y := (yX9_init, cX9_init, 3, none, 1, 6, 120)
def Y_X9_prepare : ax_Y := (yX9_prepare, cX9_prepare, 3, none, 4, 0, 0)
def Y_X9_prepareMarked : ax_Y := (yX9_prepareMarked, cX9_prepareMarked, 8, none, 3, 0, 0)
def Y_X9_through : ax_Y := (yX9_through, cX9_through, 4, (some .int), 1, 0, 0)
def Y_X9_lastInto : ax_Y := (yX9_lastInto, cX9_lastInto, 5, (some .int), 1, 0, 0)
def Y_X9_spread : ax_Y := (yX9_spread, cX9_spread, 8, none, 3, 0, 0)
def Y_X9_comesSooner : ax_Y := (yX9_comesSooner, cX9_comesSooner, 5, (some .boolean), 2, 0, 0)
def Y_X9_gather : ax_Y := (yX9_gather, cX9_gather, 8, none, 3, 0, 0)
def Y_X9_leavesLater : ax_Y := (yX9_leavesLater, cX9_leavesLater, 5, (some .boolean), 2, 0, 0)
def Y_X9_choice : ax_Y := (yX9_choice, cX9_choice, 8, (some .int), 3, 0, 0)
def Y_X9_countWaysFrom : ax_Y := (yX9_countWaysFrom, cX9_countWaysFrom, 3, none, 4, 0, 0)
def Y_X10_init : ax_Y := (yX10_init, cX10_init, 2, none, 3, 60, 12442)
def Y_X10_feed : ax_Y := (yX10_feed, cX10_feed, 4, (some .int), 2, 0, 0)
def Y_X10_pit : ax_Y := (yX10_pit, cX10_pit, 3, (some .int), 10, 0, 0)
def Y_X10_fault : ax_Y := (yX10_fault, cX10_fault, 1, (some .int), 1, 0, 0)
def Y_X10_way : ax_Y := (yX10_way, cX10_way, 3, (some .int), 3, 0, 0)
def Y_X10_fall : ax_Y := (yX10_fall, cX10_fall, 4, (some .int), 3, 0, 0)
def Y_X10_count : ax_Y := (yX10_count, cX10_count, 2, (some .int), 3, 0, 0)
def Y_X10_man : ax_Y := (yX10_man, cX10_man, 4, (some .int), 3, 0, 0)
def Y_X10_lamp : ax_Y := (yX10_lamp, cX10_lamp, 3, (some .int), 3, 0, 0)
def Y_X10_told : ax_Y := (yX10_told, cX10_told, 3, (some .int), 3, 0, 0)
def Y_X10_light : ax_Y := (yX10_light, cX10_light, 3, (some .int), 3, 0, 0)
def Y_X10_moves : ax_Y := (yX10_moves, cX10_moves, 5, (some .int), 3, 0, 0)
def Y_X10_soonest : ax_Y := (yX10_soonest, cX10_soonest, 6, (some .int), 5, 0, 0)
def Y_X10_last : ax_Y := (yX10_last, cX10_last, 4, (some .int), 5, 0, 0)
def Y_X10_open : ax_Y := (yX10_open, cX10_open, 6, (some .int), 5, 0, 0)
def Y_X10_most : ax_Y := (yX10_most, cX10_most, 2, (some .int), 6, 0, 0)
def Y_X10_cut : ax_Y := (yX10_cut, cX10_cut, 3, (some .int), 6, 0, 0)
def Y_X10_up : ax_Y := (yX10_up, cX10_up, 3, (some .int), 7, 0, 0)
def Y_X10_lent : ax_Y := (yX10_lent, cX10_lent, 3, (some .int), 6, 0, 0)
def Y_X10_mark : ax_Y := (yX10_mark, cX10_mark, 5, (some .int), 7, 0, 0)
def Y_X10_tells : ax_Y := (yX10_tells, cX10_tells, 6, (some .int), 19, 0, 0)
def Y_X10_toldBest : ax_Y := (yX10_toldBest, cX10_toldBest, 6, (some .int), 19, 0, 0)
def Y_X10_byTwo : ax_Y := (yX10_byTwo, cX10_byTwo, 7, (some .int), 19, 0, 0)
def Y_X10_tooLate : ax_Y := (yX10_tooLate, cX10_tooLate, 4, (some .int), 7, 0, 0)
def Y_X10_go : ax_Y := (yX10_go, cX10_go, 2, (some .int), 3, 0, 0)
def Y_X10_clear : ax_Y := (yX10_clear, cX10_clear, 2, (some .int), 1, 0, 0)
def Y_X10_judge : ax_Y := (yX10_judge, cX10_judge, 5, (some .int), 5, 0, 0)
def Y_X10_opens : ax_Y := (yX10_opens, cX10_opens, 3, (some .int), 3, 0, 0)
def Y_X10_safe : ax_Y := (yX10_safe, cX10_safe, 3, (some .int), 5, 0, 0)
def Y_X10_safest : ax_Y := (yX10_safest, cX10_safest, 4, (some .int), 18, 0, 0)
def Y_X10_knock : ax_Y := (yX10_knock, cX10_knock, 3, (some .int), 5, 0, 0)
def Y_X10_keep : ax_Y := (yX10_keep, cX10_keep, 2, (some .int), 3, 0, 0)
def Y_X10_goBack : ax_Y := (yX10_goBack, cX10_goBack, 2, (some .int), 3, 0, 0)
def Y_X10_within : ax_Y := (yX10_within, cX10_within, 3, (some .boolean), 1, 0, 0)
def Y_X10_bit : ax_Y := (yX10_bit, cX10_bit, 1, (some .int), 1, 0, 0)
def Y_X10_isMinute : ax_Y := (yX10_isMinute, cX10_isMinute, 1, (some .boolean), 2, 0, 0)
def Y_X10_isLight : ax_Y := (yX10_isLight, cX10_isLight, 1, (some .boolean), 2, 0, 0)
def Y_X10_noPit : ax_Y := (yX10_noPit, cX10_noPit, 1, (some .boolean), 1, 0, 0)
def Y_X10_isPlace : ax_Y := (yX10_isPlace, cX10_isPlace, 2, (some .boolean), 2, 0, 0)
def Y_X10_isWay : ax_Y := (yX10_isWay, cX10_isWay, 2, (some .boolean), 2, 0, 0)
def Y_X10_isMan : ax_Y := (yX10_isMan, cX10_isMan, 2, (some .boolean), 2, 0, 0)
def Y_X10_isLamp : ax_Y := (yX10_isLamp, cX10_isLamp, 2, (some .boolean), 2, 0, 0)
def Y_X10_canTell : ax_Y := (yX10_canTell, cX10_canTell, 2, (some .boolean), 2, 0, 0)
def Y_X10_hearing : ax_Y := (yX10_hearing, cX10_hearing, 7, (some .int), 1, 0, 0)
def Y_X11_init : ax_Y := (yX11_init, cX11_init, 1, none, 1, 37, 15873)
def Y_X11_in : ax_Y := (yX11_in, cX11_in, 6, (some .boolean), 1, 0, 0)
def Y_X11_has : ax_Y := (yX11_has, cX11_has, 2, (some .boolean), 1, 0, 0)
def Y_X11_isPlace : ax_Y := (yX11_isPlace, cX11_isPlace, 2, (some .boolean), 2, 0, 0)
def Y_X11_isWay : ax_Y := (yX11_isWay, cX11_isWay, 2, (some .boolean), 2, 0, 0)
def Y_X11_feed : ax_Y := (yX11_feed, cX11_feed, 5, (some .int), 2, 0, 0)
def Y_X11_here : ax_Y := (yX11_here, cX11_here, 1, (some .int), 1, 0, 0)
def Y_X11_fails : ax_Y := (yX11_fails, cX11_fails, 3, (some .int), 1, 0, 0)
def Y_X11_readWord : ax_Y := (yX11_readWord, cX11_readWord, 2, none, 2, 0, 0)
def Y_X11_code : ax_Y := (yX11_code, cX11_code, 3, (some .long), 1, 0, 0)
def Y_X11_longer : ax_Y := (yX11_longer, cX11_longer, 3, (some .long), 1, 0, 0)
def Y_X11_takeNumber : ax_Y := (yX11_takeNumber, cX11_takeNumber, 4, (some .int), 2, 0, 0)
def Y_X11_takePlaces : ax_Y := (yX11_takePlaces, cX11_takePlaces, 4, (some .int), 3, 0, 0)
def Y_X11_takeStop : ax_Y := (yX11_takeStop, cX11_takeStop, 1, (some .int), 2, 0, 0)
def Y_X11_takeOut : ax_Y := (yX11_takeOut, cX11_takeOut, 3, (some .int), 3, 0, 0)
def Y_X11_wordOf : ax_Y := (yX11_wordOf, cX11_wordOf, 3, (some .int), 2, 0, 0)
def Y_X11_takeWay : ax_Y := (yX11_takeWay, cX11_takeWay, 5, (some .int), 3, 0, 0)
def Y_X11_takeClause : ax_Y := (yX11_takeClause, cX11_takeClause, 1, (some .int), 4, 0, 0)
def Y_X11_pit : ax_Y := (yX11_pit, cX11_pit, 2, (some .int), 5, 0, 0)
def Y_X11_keepPit : ax_Y := (yX11_keepPit, cX11_keepPit, 2, none, 1, 0, 0)
def Y_X11_fault : ax_Y := (yX11_fault, cX11_fault, 1, (some .int), 1, 0, 0)
def Y_X11_way : ax_Y := (yX11_way, cX11_way, 3, (some .int), 3, 0, 0)
def Y_X11_fall : ax_Y := (yX11_fall, cX11_fall, 4, (some .int), 3, 0, 0)
def Y_X11_isMan : ax_Y := (yX11_isMan, cX11_isMan, 2, (some .boolean), 2, 0, 0)
def Y_X11_isLamp : ax_Y := (yX11_isLamp, cX11_isLamp, 2, (some .boolean), 2, 0, 0)
def Y_X11_isMinute : ax_Y := (yX11_isMinute, cX11_isMinute, 1, (some .boolean), 2, 0, 0)
def Y_X11_isLight : ax_Y := (yX11_isLight, cX11_isLight, 1, (some .boolean), 2, 0, 0)
def Y_X11_man : ax_Y := (yX11_man, cX11_man, 4, (some .int), 3, 0, 0)
def Y_X11_lamp : ax_Y := (yX11_lamp, cX11_lamp, 3, (some .int), 3, 0, 0)
def Y_X11_told : ax_Y := (yX11_told, cX11_told, 3, (some .int), 3, 0, 0)
def Y_X11_light : ax_Y := (yX11_light, cX11_light, 3, (some .int), 3, 0, 0)
def Y_X11_moves : ax_Y := (yX11_moves, cX11_moves, 5, (some .int), 3, 0, 0)
def Y_X11_count : ax_Y := (yX11_count, cX11_count, 4, (some .int), 1, 0, 0)
def Y_X11_through : ax_Y := (yX11_through, cX11_through, 8, (some .int), 1, 0, 0)
def Y_X11_walk : ax_Y := (yX11_walk, cX11_walk, 7, none, 3, 0, 0)
def Y_X11_step : ax_Y := (yX11_step, cX11_step, 8, (some .boolean), 2, 0, 0)
def Y_X11_comes : ax_Y := (yX11_comes, cX11_comes, 6, (some .int), 4, 0, 0)
def Y_X11_soonest : ax_Y := (yX11_soonest, cX11_soonest, 6, (some .int), 5, 0, 0)
def Y_X11_lastOf : ax_Y := (yX11_lastOf, cX11_lastOf, 5, (some .int), 5, 0, 0)
def Y_X11_last : ax_Y := (yX11_last, cX11_last, 4, (some .int), 6, 0, 0)
def Y_X11_open : ax_Y := (yX11_open, cX11_open, 6, (some .int), 5, 0, 0)
def Y_X11_at : ax_Y := (yX11_at, cX11_at, 2, (some .int), 1, 0, 0)
def Y_X11_come : ax_Y := (yX11_come, cX11_come, 4, none, 1, 0, 0)
def Y_X11_menAt : ax_Y := (yX11_menAt, cX11_menAt, 4, (some .int), 1, 0, 0)
def Y_X11_side : ax_Y := (yX11_side, cX11_side, 3, (some .int), 1, 0, 0)
def Y_X11_goOn : ax_Y := (yX11_goOn, cX11_goOn, 9, none, 2, 0, 0)
def Y_X11_seek : ax_Y := (yX11_seek, cX11_seek, 6, (some .int), 3, 0, 0)
def Y_X11_send : ax_Y := (yX11_send, cX11_send, 5, none, 1, 0, 0)
def Y_X11_findMost : ax_Y := (yX11_findMost, cX11_findMost, 4, (some .int), 4, 0, 0)
def Y_X11_most : ax_Y := (yX11_most, cX11_most, 2, (some .int), 5, 0, 0)
def Y_X11_cut : ax_Y := (yX11_cut, cX11_cut, 5, (some .int), 5, 0, 0)
def Y_X11_lineUp : ax_Y := (yX11_lineUp, cX11_lineUp, 5, (some .int), 1, 0, 0)
def Y_X11_upFrom : ax_Y := (yX11_upFrom, cX11_upFrom, 11, (some .int), 5, 0, 0)
def Y_X11_upAll : ax_Y := (yX11_upAll, cX11_upAll, 5, (some .int), 6, 0, 0)
def Y_X11_up : ax_Y := (yX11_up, cX11_up, 3, (some .int), 7, 0, 0)
def Y_X11_lent : ax_Y := (yX11_lent, cX11_lent, 7, (some .int), 5, 0, 0)
def Y_X11_mark : ax_Y := (yX11_mark, cX11_mark, 6, (some .int), 7, 0, 0)
def Y_X11_unknowing : ax_Y := (yX11_unknowing, cX11_unknowing, 3, (some .int), 1, 0, 0)
def Y_X11_bits : ax_Y := (yX11_bits, cX11_bits, 3, (some .int), 1, 0, 0)
def Y_X11_findDark : ax_Y := (yX11_findDark, cX11_findDark, 2, none, 6, 0, 0)
def Y_X11_toldAt : ax_Y := (yX11_toldAt, cX11_toldAt, 6, (some .int), 1, 0, 0)
def Y_X11_nextOrder : ax_Y := (yX11_nextOrder, cX11_nextOrder, 7, (some .boolean), 1, 0, 0)
def Y_X11_tellRow : ax_Y := (yX11_tellRow, cX11_tellRow, 8, (some .int), 5, 0, 0)
def Y_X11_tellSet : ax_Y := (yX11_tellSet, cX11_tellSet, 8, (some .int), 6, 0, 0)
def Y_X11_canTell : ax_Y := (yX11_canTell, cX11_canTell, 2, (some .boolean), 2, 0, 0)
def Y_X11_tells : ax_Y := (yX11_tells, cX11_tells, 5, (some .int), 7, 0, 0)
def Y_X11_toldBest : ax_Y := (yX11_toldBest, cX11_toldBest, 10, (some .int), 7, 0, 0)
def Y_X11_byTwo : ax_Y := (yX11_byTwo, cX11_byTwo, 14, (some .int), 7, 0, 0)
def Y_X11_tooLate : ax_Y := (yX11_tooLate, cX11_tooLate, 5, (some .int), 7, 0, 0)
def Y_X11_go : ax_Y := (yX11_go, cX11_go, 2, (some .int), 3, 0, 0)
def Y_X11_clear : ax_Y := (yX11_clear, cX11_clear, 2, (some .int), 1, 0, 0)
def Y_X11_wayTo : ax_Y := (yX11_wayTo, cX11_wayTo, 11, (some .int), 2, 0, 0)
def Y_X11_goRow : ax_Y := (yX11_goRow, cX11_goRow, 6, (some .int), 3, 0, 0)
def Y_X11_judge : ax_Y := (yX11_judge, cX11_judge, 6, (some .int), 4, 0, 0)
def Y_X11_opensOf : ax_Y := (yX11_opensOf, cX11_opensOf, 5, (some .int), 1, 0, 0)
def Y_X11_opens : ax_Y := (yX11_opens, cX11_opens, 3, (some .int), 3, 0, 0)
def Y_X11_safe : ax_Y := (yX11_safe, cX11_safe, 3, (some .int), 4, 0, 0)
def Y_X11_bestFrom : ax_Y := (yX11_bestFrom, cX11_bestFrom, 12, (some .int), 3, 0, 0)
def Y_X11_safest : ax_Y := (yX11_safest, cX11_safest, 4, (some .int), 4, 0, 0)
def Y_X11_knock : ax_Y := (yX11_knock, cX11_knock, 8, (some .int), 3, 0, 0)
def Y_X11_keep : ax_Y := (yX11_keep, cX11_keep, 4, (some .int), 2, 0, 0)
def Y_X11_goBack : ax_Y := (yX11_goBack, cX11_goBack, 4, (some .int), 2, 0, 0)
def Y_J6_bitCount_0f7a4 : ax_Y := (yJ6_bitCount_0f7a4, cJ6_bitCount_0f7a4, 1, (some .int), 1, 0, 0)
def Y_J9_max_7cf53 : ax_Y := (yJ9_max_7cf53, cJ9_max_7cf53, 2, (some .int), 1, 0, 0)
def Y_J9_min_7cf53 : ax_Y := (yJ9_min_7cf53, cJ9_min_7cf53, 2, (some .int), 1, 0, 0)
def Y_J0_length_8abf5 : ax_Y := (yJ0_length_8abf5, cJ0_length_8abf5, 1, (some .int), 2, 0, 0)
def Y_J0_charAt_5068e : ax_Y := (yJ0_charAt_5068e, cJ0_charAt_5068e, 2, (some .char), 5, 0, 0)
def Y_J0_coder_7d493 : ax_Y := (yJ0_coder_7d493, cJ0_coder_7d493, 1, (some .byte), 1, 0, 0)
def Y_J0_isLatin1_aae02 : ax_Y := (yJ0_isLatin1_aae02, cJ0_isLatin1_aae02, 1, (some .boolean), 1, 0, 0)
def Y_J0_checkIndex_df160 : ax_Y := (yJ0_checkIndex_df160, cJ0_checkIndex_df160, 2, none, 2, 0, 0)
def Y_J1_charAt_3b067 : ax_Y := (yJ1_charAt_3b067, cJ1_charAt_3b067, 2, (some .char), 3, 0, 0)
def Y_J2_getChar_3b067 : ax_Y := (yJ2_getChar_3b067, cJ2_getChar_3b067, 2, (some .char), 2, 0, 0)
def Y_J2_length_9d52b : ax_Y := (yJ2_length_9d52b, cJ2_length_9d52b, 1, (some .int), 1, 0, 0)
def Y_J2_charAt_3b067 : ax_Y := (yJ2_charAt_3b067, cJ2_charAt_3b067, 2, (some .char), 4, 0, 0)
def Y_J2_checkIndex_2214a : ax_Y := (yJ2_checkIndex_2214a, cJ2_checkIndex_2214a, 2, none, 3, 0, 0)
def Y_J7_fill_53178 : ax_Y := (yJ7_fill_53178, cJ7_fill_53178, 4, none, 1, 0, 0)
def Y_J3_checkIndex_8e157 : ax_Y := (yJ3_checkIndex_8e157, cJ3_checkIndex_8e157, 3, (some .int), 1, 0, 0)
def Y_L_law : ax_Y := (x, code, 4, (some .boolean), 1000, 99, 28389)
theorem dJ7_fill_53178_0 : decode cJ7_fill_53178 0 = .ok (.iconst 0, 1) := by decide +kernel
theorem dJ7_fill_53178_1 : decode cJ7_fill_53178 1 = .ok (.istore_n 2, 1) := by decide +kernel
theorem dJ7_fill_53178_2 : decode cJ7_fill_53178 2 = .ok (.aload_n 0, 1) := by decide +kernel
theorem dJ7_fill_53178_3 : decode cJ7_fill_53178 3 = .ok (.arraylength, 1) := by decide +kernel
theorem dJ7_fill_53178_4 : decode cJ7_fill_53178 4 = .ok (.istore_n 3, 1) := by decide +kernel
theorem dJ7_fill_53178_5 : decode cJ7_fill_53178 5 = .ok (.iload_n 2, 1) := by decide +kernel
theorem dJ7_fill_53178_6 : decode cJ7_fill_53178 6 = .ok (.iload_n 3, 1) := by decide +kernel
theorem dJ7_fill_53178_7 : decode cJ7_fill_53178 7 = .ok (.if_icmp .ge 13, 3) := by decide +kernel
theorem dJ7_fill_53178_10 : decode cJ7_fill_53178 10 = .ok (.aload_n 0, 1) := by decide +kernel
theorem dJ7_fill_53178_11 : decode cJ7_fill_53178 11 = .ok (.iload_n 2, 1) := by decide +kernel
theorem dJ7_fill_53178_12 : decode cJ7_fill_53178 12 = .ok (.iload_n 1, 1) := by decide +kernel
theorem dJ7_fill_53178_13 : decode cJ7_fill_53178 13 = .ok (.iastore, 1) := by decide +kernel
theorem dJ7_fill_53178_14 : decode cJ7_fill_53178 14 = .ok (.iinc 2 1, 3) := by decide +kernel
theorem dJ7_fill_53178_17 : decode cJ7_fill_53178 17 = .ok (.goto (-12), 3) := by decide +kernel
theorem dJ7_fill_53178_20 : decode cJ7_fill_53178 20 = .ok (.return_, 1) := by decide +kernel
theorem dJ9_max_7cf53_0 : decode cJ9_max_7cf53 0 = .ok (.iload_n 0, 1) := by decide +kernel
theorem dJ9_max_7cf53_1 : decode cJ9_max_7cf53 1 = .ok (.iload_n 1, 1) := by decide +kernel
theorem dJ9_max_7cf53_2 : decode cJ9_max_7cf53 2 = .ok (.if_icmp .lt 7, 3) := by decide +kernel
theorem dJ9_max_7cf53_5 : decode cJ9_max_7cf53 5 = .ok (.iload_n 0, 1) := by decide +kernel
theorem dJ9_max_7cf53_6 : decode cJ9_max_7cf53 6 = .ok (.goto 4, 3) := by decide +kernel
theorem dJ9_max_7cf53_9 : decode cJ9_max_7cf53 9 = .ok (.iload_n 1, 1) := by decide +kernel
theorem dJ9_max_7cf53_10 : decode cJ9_max_7cf53 10 = .ok (.ireturn, 1) := by decide +kernel
theorem dJ9_min_7cf53_0 : decode cJ9_min_7cf53 0 = .ok (.iload_n 0, 1) := by decide +kernel
theorem dJ9_min_7cf53_1 : decode cJ9_min_7cf53 1 = .ok (.iload_n 1, 1) := by decide +kernel
theorem dJ9_min_7cf53_2 : decode cJ9_min_7cf53 2 = .ok (.if_icmp .gt 7, 3) := by decide +kernel
theorem dJ9_min_7cf53_5 : decode cJ9_min_7cf53 5 = .ok (.iload_n 0, 1) := by decide +kernel
theorem dJ9_min_7cf53_6 : decode cJ9_min_7cf53 6 = .ok (.goto 4, 3) := by decide +kernel
theorem dJ9_min_7cf53_9 : decode cJ9_min_7cf53 9 = .ok (.iload_n 1, 1) := by decide +kernel
theorem dJ9_min_7cf53_10 : decode cJ9_min_7cf53 10 = .ok (.ireturn, 1) := by decide +kernel
theorem dJ6_bitCount_0f7a4_0 : decode cJ6_bitCount_0f7a4 0 = .ok (.iload_n 0, 1) := by decide +kernel
theorem dJ6_bitCount_0f7a4_1 : decode cJ6_bitCount_0f7a4 1 = .ok (.iload_n 0, 1) := by decide +kernel
theorem dJ6_bitCount_0f7a4_2 : decode cJ6_bitCount_0f7a4 2 = .ok (.iconst 1, 1) := by decide +kernel
theorem dJ6_bitCount_0f7a4_3 : decode cJ6_bitCount_0f7a4 3 = .ok (.iushr, 1) := by decide +kernel
theorem dJ6_bitCount_0f7a4_4 : decode cJ6_bitCount_0f7a4 4 = .ok (.ldc_w 265, 3) := by decide +kernel
theorem dJ6_bitCount_0f7a4_7 : decode cJ6_bitCount_0f7a4 7 = .ok (.iand, 1) := by decide +kernel
theorem dJ6_bitCount_0f7a4_8 : decode cJ6_bitCount_0f7a4 8 = .ok (.isub, 1) := by decide +kernel
theorem dJ6_bitCount_0f7a4_9 : decode cJ6_bitCount_0f7a4 9 = .ok (.istore_n 0, 1) := by decide +kernel
theorem dJ6_bitCount_0f7a4_10 : decode cJ6_bitCount_0f7a4 10 = .ok (.iload_n 0, 1) := by decide +kernel
theorem dJ6_bitCount_0f7a4_11 : decode cJ6_bitCount_0f7a4 11 = .ok (.ldc_w 266, 3) := by decide +kernel
theorem dJ6_bitCount_0f7a4_14 : decode cJ6_bitCount_0f7a4 14 = .ok (.iand, 1) := by decide +kernel
theorem dJ6_bitCount_0f7a4_15 : decode cJ6_bitCount_0f7a4 15 = .ok (.iload_n 0, 1) := by decide +kernel
theorem dJ6_bitCount_0f7a4_16 : decode cJ6_bitCount_0f7a4 16 = .ok (.iconst 2, 1) := by decide +kernel
theorem dJ6_bitCount_0f7a4_17 : decode cJ6_bitCount_0f7a4 17 = .ok (.iushr, 1) := by decide +kernel
theorem dJ6_bitCount_0f7a4_18 : decode cJ6_bitCount_0f7a4 18 = .ok (.ldc_w 266, 3) := by decide +kernel
theorem dJ6_bitCount_0f7a4_21 : decode cJ6_bitCount_0f7a4 21 = .ok (.iand, 1) := by decide +kernel
theorem dJ6_bitCount_0f7a4_22 : decode cJ6_bitCount_0f7a4 22 = .ok (.iadd, 1) := by decide +kernel
theorem dJ6_bitCount_0f7a4_23 : decode cJ6_bitCount_0f7a4 23 = .ok (.istore_n 0, 1) := by decide +kernel
theorem dJ6_bitCount_0f7a4_24 : decode cJ6_bitCount_0f7a4 24 = .ok (.iload_n 0, 1) := by decide +kernel
theorem dJ6_bitCount_0f7a4_25 : decode cJ6_bitCount_0f7a4 25 = .ok (.iload_n 0, 1) := by decide +kernel
theorem dJ6_bitCount_0f7a4_26 : decode cJ6_bitCount_0f7a4 26 = .ok (.iconst 4, 1) := by decide +kernel
theorem dJ6_bitCount_0f7a4_27 : decode cJ6_bitCount_0f7a4 27 = .ok (.iushr, 1) := by decide +kernel
theorem dJ6_bitCount_0f7a4_28 : decode cJ6_bitCount_0f7a4 28 = .ok (.iadd, 1) := by decide +kernel
theorem dJ6_bitCount_0f7a4_29 : decode cJ6_bitCount_0f7a4 29 = .ok (.ldc_w 267, 3) := by decide +kernel
theorem dJ6_bitCount_0f7a4_32 : decode cJ6_bitCount_0f7a4 32 = .ok (.iand, 1) := by decide +kernel
theorem dJ6_bitCount_0f7a4_33 : decode cJ6_bitCount_0f7a4 33 = .ok (.istore_n 0, 1) := by decide +kernel
theorem dJ6_bitCount_0f7a4_34 : decode cJ6_bitCount_0f7a4 34 = .ok (.iload_n 0, 1) := by decide +kernel
theorem dJ6_bitCount_0f7a4_35 : decode cJ6_bitCount_0f7a4 35 = .ok (.iload_n 0, 1) := by decide +kernel
theorem dJ6_bitCount_0f7a4_36 : decode cJ6_bitCount_0f7a4 36 = .ok (.bipush 8, 2) := by decide +kernel
theorem dJ6_bitCount_0f7a4_38 : decode cJ6_bitCount_0f7a4 38 = .ok (.iushr, 1) := by decide +kernel
theorem dJ6_bitCount_0f7a4_39 : decode cJ6_bitCount_0f7a4 39 = .ok (.iadd, 1) := by decide +kernel
theorem dJ6_bitCount_0f7a4_40 : decode cJ6_bitCount_0f7a4 40 = .ok (.istore_n 0, 1) := by decide +kernel
theorem dJ6_bitCount_0f7a4_41 : decode cJ6_bitCount_0f7a4 41 = .ok (.iload_n 0, 1) := by decide +kernel
theorem dJ6_bitCount_0f7a4_42 : decode cJ6_bitCount_0f7a4 42 = .ok (.iload_n 0, 1) := by decide +kernel
theorem dJ6_bitCount_0f7a4_43 : decode cJ6_bitCount_0f7a4 43 = .ok (.bipush 16, 2) := by decide +kernel
theorem dJ6_bitCount_0f7a4_45 : decode cJ6_bitCount_0f7a4 45 = .ok (.iushr, 1) := by decide +kernel
theorem dJ6_bitCount_0f7a4_46 : decode cJ6_bitCount_0f7a4 46 = .ok (.iadd, 1) := by decide +kernel
theorem dJ6_bitCount_0f7a4_47 : decode cJ6_bitCount_0f7a4 47 = .ok (.istore_n 0, 1) := by decide +kernel
theorem dJ6_bitCount_0f7a4_48 : decode cJ6_bitCount_0f7a4 48 = .ok (.iload_n 0, 1) := by decide +kernel
theorem dJ6_bitCount_0f7a4_49 : decode cJ6_bitCount_0f7a4 49 = .ok (.bipush 63, 2) := by decide +kernel
theorem dJ6_bitCount_0f7a4_51 : decode cJ6_bitCount_0f7a4 51 = .ok (.iand, 1) := by decide +kernel
theorem dJ6_bitCount_0f7a4_52 : decode cJ6_bitCount_0f7a4 52 = .ok (.ireturn, 1) := by decide +kernel
theorem ax_all {ws : List Cond} (ps : List Nat) (h : ps.map (fun i => lw_tbl[i]?) = ws.map some) (hp : ws.all ax_port = true) : ∀ w ∈ ws, w ∈ ax_tb := by
  intro w hw
  have h1 : some w ∈ ws.map some := List.mem_map.mpr ⟨w, hw, rfl⟩
  rw [← h] at h1
  obtain ⟨i, -, hi⟩ := List.mem_map.mp h1
  exact List.mem_filter.mpr ⟨List.mem_of_getElem? hi, List.all_eq_true.mp hp w hw⟩
set_option maxRecDepth 100000 in
theorem k_X0 : ∀ w ∈ u_ws RX0 TX0 8, w ∈ ax_tb := ax_all [269, 271, 273, 275, 277, 279, 281, 283] (by decide +kernel) (by decide +kernel)
set_option maxRecDepth 100000 in
theorem k_X1 : ∀ w ∈ u_ws RX1 TX1 8, w ∈ ax_tb := ax_all [399, 401, 403, 405, 407, 409, 411, 413] (by decide +kernel) (by decide +kernel)
set_option maxRecDepth 100000 in
theorem k_X2 : ∀ w ∈ u_ws RX2 TX2 12, w ∈ ax_tb := ax_all [360, 362, 364, 366, 368, 370, 372, 374, 376, 378, 380, 382] (by decide +kernel) (by decide +kernel)
set_option maxRecDepth 100000 in
theorem k_X3 : ∀ w ∈ u_ws RX3 TX3 5, w ∈ ax_tb := ax_all [197, 199, 201, 203, 205] (by decide +kernel) (by decide +kernel)
set_option maxRecDepth 100000 in
theorem k_X4 : ∀ w ∈ u_ws RX4 TX4 7, w ∈ ax_tb := ax_all [486, 488, 490, 492, 494, 496, 498] (by decide +kernel) (by decide +kernel)
set_option maxRecDepth 100000 in
theorem k_X5 : ∀ w ∈ u_ws RX5 TX5 6, w ∈ ax_tb := ax_all [217, 219, 221, 223, 225, 227] (by decide +kernel) (by decide +kernel)
set_option maxRecDepth 100000 in
theorem k_X6 : ∀ w ∈ u_ws RX6 TX6 2, w ∈ ax_tb := ax_all [300, 302] (by decide +kernel) (by decide +kernel)
set_option maxRecDepth 100000 in
theorem k_X7 : ∀ w ∈ u_ws RX7 TX7 15, w ∈ ax_tb := ax_all [439, 441, 443, 445, 447, 449, 451, 453, 455, 457, 459, 461, 463, 465, 467] (by decide +kernel) (by decide +kernel)
set_option maxRecDepth 100000 in
theorem k_X8 : ∀ w ∈ u_ws RX8 TX8 2, w ∈ ax_tb := ax_all [156, 158] (by decide +kernel) (by decide +kernel)
set_option maxRecDepth 100000 in
theorem k_X9 : ∀ w ∈ u_ws RX9 TX9 8, w ∈ ax_tb := ax_all [325, 327, 329, 331, 333, 335, 337, 339] (by decide +kernel) (by decide +kernel)
set_option maxRecDepth 100000 in
theorem k_X10 : ∀ w ∈ u_ws RX10 TX10 13, w ∈ ax_tb := ax_all [514, 516, 518, 520, 522, 524, 526, 528, 530, 532, 534, 536, 538] (by decide +kernel) (by decide +kernel)
set_option maxRecDepth 100000 in
theorem k_X11 : ∀ w ∈ u_ws RX11 TX11 61, w ∈ ax_tb := ax_all [1167, 1169, 1171, 1173, 1175, 1177, 1179, 1181, 1183, 1185, 1187, 1189, 1191, 1193, 1195, 1197, 1199, 1201, 1203, 1205, 1207, 1209, 1211, 1213, 1215, 1217, 1219, 1221, 1223, 1225, 1227, 1229, 1231, 1233, 1235, 1237, 1239, 1241, 1243, 1245, 1247, 1249, 1251, 1253, 1255, 1257, 1259, 1261, 1263, 1265, 1267, 1269, 1271, 1273, 1275, 1277, 1279, 1281, 1283, 1285, 1287] (by decide +kernel) (by decide +kernel)
theorem f_X0_15 : ax_FL RX0 15 0 3 := ⟨RX0, TX0, 8, rfl, k_X0, by decide, rfl, Or.inl (ax_in 251 (by decide +kernel) rfl)⟩
theorem f_X0_19 : ax_FL RX0 19 0 4 := ⟨RX0, TX0, 8, rfl, k_X0, by decide, rfl, Or.inl (ax_in 255 (by decide +kernel) rfl)⟩
theorem f_X0_22 : ax_FL RX0 22 0 5 := ⟨RX0, TX0, 8, rfl, k_X0, by decide, rfl, Or.inl (ax_in 259 (by decide +kernel) rfl)⟩
theorem f_X0_25 : ax_FL RX0 25 0 6 := ⟨RX0, TX0, 8, rfl, k_X0, by decide, rfl, Or.inl (ax_in 262 (by decide +kernel) rfl)⟩
theorem f_X0_28 : ax_FL RX0 28 0 7 := ⟨RX0, TX0, 8, rfl, k_X0, by decide, rfl, Or.inl (ax_in 265 (by decide +kernel) rfl)⟩
theorem f_X0_31 : ax_FL RX0 31 0 0 := ⟨RX0, TX0, 8, rfl, k_X0, by decide, rfl, Or.inl (ax_in 238 (by decide +kernel) rfl)⟩
theorem f_X0_35 : ax_FL RX0 35 0 1 := ⟨RX0, TX0, 8, rfl, k_X0, by decide, rfl, Or.inl (ax_in 243 (by decide +kernel) rfl)⟩
theorem f_X0_9 : ax_FL RX0 9 0 2 := ⟨RX0, TX0, 8, rfl, k_X0, by decide, rfl, Or.inl (ax_in 246 (by decide +kernel) rfl)⟩
theorem f_X1_103 : ax_FL RX1 103 9 7 := ⟨RX9, TX9, 8, rfl, k_X9, by decide, rfl, Or.inr ⟨"LastLamps", (ax_in 323 (by decide +kernel) rfl)⟩⟩
theorem f_X1_112 : ax_FL RX1 112 9 6 := ⟨RX9, TX9, 8, rfl, k_X9, by decide, rfl, Or.inr ⟨"LastLamps", (ax_in 318 (by decide +kernel) rfl)⟩⟩
theorem f_X1_15 : ax_FL RX1 15 1 5 := ⟨RX1, TX1, 8, rfl, k_X1, by decide, rfl, Or.inl (ax_in 396 (by decide +kernel) rfl)⟩
theorem f_X1_19 : ax_FL RX1 19 1 6 := ⟨RX1, TX1, 8, rfl, k_X1, by decide, rfl, Or.inl (ax_in 397 (by decide +kernel) rfl)⟩
theorem f_X1_22 : ax_FL RX1 22 1 7 := ⟨RX1, TX1, 8, rfl, k_X1, by decide, rfl, Or.inl (ax_in 398 (by decide +kernel) rfl)⟩
theorem f_X1_25 : ax_FL RX1 25 1 0 := ⟨RX1, TX1, 8, rfl, k_X1, by decide, rfl, Or.inl (ax_in 391 (by decide +kernel) rfl)⟩
theorem f_X1_29 : ax_FL RX1 29 1 1 := ⟨RX1, TX1, 8, rfl, k_X1, by decide, rfl, Or.inl (ax_in 392 (by decide +kernel) rfl)⟩
theorem f_X1_33 : ax_FL RX1 33 1 2 := ⟨RX1, TX1, 8, rfl, k_X1, by decide, rfl, Or.inl (ax_in 393 (by decide +kernel) rfl)⟩
theorem f_X1_37 : ax_FL RX1 37 0 6 := ⟨RX0, TX0, 8, rfl, k_X0, by decide, rfl, Or.inr ⟨"LastLamps", (ax_in 263 (by decide +kernel) rfl)⟩⟩
theorem f_X1_42 : ax_FL RX1 42 3 0 := ⟨RX3, TX3, 5, rfl, k_X3, by decide, rfl, Or.inr ⟨"LastLamps", (ax_in 176 (by decide +kernel) rfl)⟩⟩
theorem f_X1_51 : ax_FL RX1 51 1 4 := ⟨RX1, TX1, 8, rfl, k_X1, by decide, rfl, Or.inl (ax_in 395 (by decide +kernel) rfl)⟩
theorem f_X1_58 : ax_FL RX1 58 0 1 := ⟨RX0, TX0, 8, rfl, k_X0, by decide, rfl, Or.inr ⟨"LastLamps", (ax_in 244 (by decide +kernel) rfl)⟩⟩
theorem f_X1_61 : ax_FL RX1 61 0 5 := ⟨RX0, TX0, 8, rfl, k_X0, by decide, rfl, Or.inr ⟨"LastLamps", (ax_in 260 (by decide +kernel) rfl)⟩⟩
theorem f_X1_69 : ax_FL RX1 69 0 4 := ⟨RX0, TX0, 8, rfl, k_X0, by decide, rfl, Or.inr ⟨"LastLamps", (ax_in 256 (by decide +kernel) rfl)⟩⟩
theorem f_X1_81 : ax_FL RX1 81 0 0 := ⟨RX0, TX0, 8, rfl, k_X0, by decide, rfl, Or.inr ⟨"LastLamps", (ax_in 240 (by decide +kernel) rfl)⟩⟩
theorem f_X1_84 : ax_FL RX1 84 0 2 := ⟨RX0, TX0, 8, rfl, k_X0, by decide, rfl, Or.inr ⟨"LastLamps", (ax_in 248 (by decide +kernel) rfl)⟩⟩
theorem f_X1_87 : ax_FL RX1 87 0 3 := ⟨RX0, TX0, 8, rfl, k_X0, by decide, rfl, Or.inr ⟨"LastLamps", (ax_in 252 (by decide +kernel) rfl)⟩⟩
theorem f_X1_9 : ax_FL RX1 9 1 3 := ⟨RX1, TX1, 8, rfl, k_X1, by decide, rfl, Or.inl (ax_in 394 (by decide +kernel) rfl)⟩
theorem f_X1_96 : ax_FL RX1 96 3 2 := ⟨RX3, TX3, 5, rfl, k_X3, by decide, rfl, Or.inr ⟨"LastLamps", (ax_in 190 (by decide +kernel) rfl)⟩⟩
theorem f_X10_103 : ax_FL RX10 103 8 1 := ⟨RX8, TX8, 2, rfl, k_X8, by decide, rfl, Or.inr ⟨"LastLamps", (ax_in 154 (by decide +kernel) rfl)⟩⟩
theorem f_X10_114 : ax_FL RX10 114 5 5 := ⟨RX5, TX5, 6, rfl, k_X5, by decide, rfl, Or.inr ⟨"LastLamps", (ax_in 216 (by decide +kernel) rfl)⟩⟩
theorem f_X10_115 : ax_FL RX10 115 5 1 := ⟨RX5, TX5, 6, rfl, k_X5, by decide, rfl, Or.inr ⟨"LastLamps", (ax_in 211 (by decide +kernel) rfl)⟩⟩
theorem f_X10_12 : ax_FL RX10 12 10 0 := ⟨RX10, TX10, 13, rfl, k_X10, by decide, rfl, Or.inl (ax_in 501 (by decide +kernel) rfl)⟩
theorem f_X10_125 : ax_FL RX10 125 6 1 := ⟨RX6, TX6, 2, rfl, k_X6, by decide, rfl, Or.inr ⟨"LastLamps", (ax_in 299 (by decide +kernel) rfl)⟩⟩
theorem f_X10_126 : ax_FL RX10 126 3 1 := ⟨RX3, TX3, 5, rfl, k_X3, by decide, rfl, Or.inr ⟨"LastLamps", (ax_in 182 (by decide +kernel) rfl)⟩⟩
theorem f_X10_133 : ax_FL RX10 133 0 7 := ⟨RX0, TX0, 8, rfl, k_X0, by decide, rfl, Or.inr ⟨"LastLamps", (ax_in 268 (by decide +kernel) rfl)⟩⟩
theorem f_X10_144 : ax_FL RX10 144 3 0 := ⟨RX3, TX3, 5, rfl, k_X3, by decide, rfl, Or.inr ⟨"LastLamps", (ax_in 178 (by decide +kernel) rfl)⟩⟩
theorem f_X10_147 : ax_FL RX10 147 0 0 := ⟨RX0, TX0, 8, rfl, k_X0, by decide, rfl, Or.inr ⟨"LastLamps", (ax_in 241 (by decide +kernel) rfl)⟩⟩
theorem f_X10_150 : ax_FL RX10 150 0 1 := ⟨RX0, TX0, 8, rfl, k_X0, by decide, rfl, Or.inr ⟨"LastLamps", (ax_in 245 (by decide +kernel) rfl)⟩⟩
theorem f_X10_153 : ax_FL RX10 153 3 2 := ⟨RX3, TX3, 5, rfl, k_X3, by decide, rfl, Or.inr ⟨"LastLamps", (ax_in 191 (by decide +kernel) rfl)⟩⟩
theorem f_X10_156 : ax_FL RX10 156 3 3 := ⟨RX3, TX3, 5, rfl, k_X3, by decide, rfl, Or.inr ⟨"LastLamps", (ax_in 195 (by decide +kernel) rfl)⟩⟩
theorem f_X10_178 : ax_FL RX10 178 0 2 := ⟨RX0, TX0, 8, rfl, k_X0, by decide, rfl, Or.inr ⟨"LastLamps", (ax_in 250 (by decide +kernel) rfl)⟩⟩
theorem f_X10_182 : ax_FL RX10 182 0 3 := ⟨RX0, TX0, 8, rfl, k_X0, by decide, rfl, Or.inr ⟨"LastLamps", (ax_in 254 (by decide +kernel) rfl)⟩⟩
theorem f_X10_185 : ax_FL RX10 185 0 4 := ⟨RX0, TX0, 8, rfl, k_X0, by decide, rfl, Or.inr ⟨"LastLamps", (ax_in 258 (by decide +kernel) rfl)⟩⟩
theorem f_X10_191 : ax_FL RX10 191 0 5 := ⟨RX0, TX0, 8, rfl, k_X0, by decide, rfl, Or.inr ⟨"LastLamps", (ax_in 261 (by decide +kernel) rfl)⟩⟩
theorem f_X10_194 : ax_FL RX10 194 0 6 := ⟨RX0, TX0, 8, rfl, k_X0, by decide, rfl, Or.inr ⟨"LastLamps", (ax_in 264 (by decide +kernel) rfl)⟩⟩
theorem f_X10_208 : ax_FL RX10 208 9 6 := ⟨RX9, TX9, 8, rfl, k_X9, by decide, rfl, Or.inr ⟨"LastLamps", (ax_in 320 (by decide +kernel) rfl)⟩⟩
theorem f_X10_21 : ax_FL RX10 21 10 1 := ⟨RX10, TX10, 13, rfl, k_X10, by decide, rfl, Or.inl (ax_in 502 (by decide +kernel) rfl)⟩
theorem f_X10_214 : ax_FL RX10 214 9 7 := ⟨RX9, TX9, 8, rfl, k_X9, by decide, rfl, Or.inr ⟨"LastLamps", (ax_in 324 (by decide +kernel) rfl)⟩⟩
theorem f_X10_255 : ax_FL RX10 255 7 8 := ⟨RX7, TX7, 15, rfl, k_X7, by decide, rfl, Or.inr ⟨"LastLamps", (ax_in 431 (by decide +kernel) rfl)⟩⟩
theorem f_X10_271 : ax_FL RX10 271 7 9 := ⟨RX7, TX7, 15, rfl, k_X7, by decide, rfl, Or.inr ⟨"LastLamps", (ax_in 433 (by decide +kernel) rfl)⟩⟩
theorem f_X10_28 : ax_FL RX10 28 10 2 := ⟨RX10, TX10, 13, rfl, k_X10, by decide, rfl, Or.inl (ax_in 503 (by decide +kernel) rfl)⟩
theorem f_X10_284 : ax_FL RX10 284 6 0 := ⟨RX6, TX6, 2, rfl, k_X6, by decide, rfl, Or.inr ⟨"LastLamps", (ax_in 296 (by decide +kernel) rfl)⟩⟩
theorem f_X10_289 : ax_FL RX10 289 4 3 := ⟨RX4, TX4, 7, rfl, k_X4, by decide, rfl, Or.inr ⟨"LastLamps", (ax_in 480 (by decide +kernel) rfl)⟩⟩
theorem f_X10_292 : ax_FL RX10 292 4 4 := ⟨RX4, TX4, 7, rfl, k_X4, by decide, rfl, Or.inr ⟨"LastLamps", (ax_in 482 (by decide +kernel) rfl)⟩⟩
theorem f_X10_298 : ax_FL RX10 298 4 5 := ⟨RX4, TX4, 7, rfl, k_X4, by decide, rfl, Or.inr ⟨"LastLamps", (ax_in 484 (by decide +kernel) rfl)⟩⟩
theorem f_X10_35 : ax_FL RX10 35 10 3 := ⟨RX10, TX10, 13, rfl, k_X10, by decide, rfl, Or.inl (ax_in 504 (by decide +kernel) rfl)⟩
theorem f_X10_39 : ax_FL RX10 39 10 4 := ⟨RX10, TX10, 13, rfl, k_X10, by decide, rfl, Or.inl (ax_in 505 (by decide +kernel) rfl)⟩
theorem f_X10_43 : ax_FL RX10 43 10 5 := ⟨RX10, TX10, 13, rfl, k_X10, by decide, rfl, Or.inl (ax_in 506 (by decide +kernel) rfl)⟩
theorem f_X10_50 : ax_FL RX10 50 10 6 := ⟨RX10, TX10, 13, rfl, k_X10, by decide, rfl, Or.inl (ax_in 507 (by decide +kernel) rfl)⟩
theorem f_X10_59 : ax_FL RX10 59 10 7 := ⟨RX10, TX10, 13, rfl, k_X10, by decide, rfl, Or.inl (ax_in 508 (by decide +kernel) rfl)⟩
theorem f_X10_66 : ax_FL RX10 66 10 8 := ⟨RX10, TX10, 13, rfl, k_X10, by decide, rfl, Or.inl (ax_in 509 (by decide +kernel) rfl)⟩
theorem f_X10_75 : ax_FL RX10 75 10 9 := ⟨RX10, TX10, 13, rfl, k_X10, by decide, rfl, Or.inl (ax_in 510 (by decide +kernel) rfl)⟩
theorem f_X10_82 : ax_FL RX10 82 10 10 := ⟨RX10, TX10, 13, rfl, k_X10, by decide, rfl, Or.inl (ax_in 511 (by decide +kernel) rfl)⟩
theorem f_X10_91 : ax_FL RX10 91 10 11 := ⟨RX10, TX10, 13, rfl, k_X10, by decide, rfl, Or.inl (ax_in 512 (by decide +kernel) rfl)⟩
theorem f_X10_95 : ax_FL RX10 95 10 12 := ⟨RX10, TX10, 13, rfl, k_X10, by decide, rfl, Or.inl (ax_in 513 (by decide +kernel) rfl)⟩
theorem f_X11_102 : ax_FL RX11 102 11 48 := ⟨RX11, TX11, 61, rfl, k_X11, by decide, rfl, Or.inl (ax_in 1154 (by decide +kernel) rfl)⟩
theorem f_X11_105 : ax_FL RX11 105 11 49 := ⟨RX11, TX11, 61, rfl, k_X11, by decide, rfl, Or.inl (ax_in 1155 (by decide +kernel) rfl)⟩
theorem f_X11_108 : ax_FL RX11 108 11 51 := ⟨RX11, TX11, 61, rfl, k_X11, by decide, rfl, Or.inl (ax_in 1157 (by decide +kernel) rfl)⟩
theorem f_X11_111 : ax_FL RX11 111 11 54 := ⟨RX11, TX11, 61, rfl, k_X11, by decide, rfl, Or.inl (ax_in 1160 (by decide +kernel) rfl)⟩
theorem f_X11_114 : ax_FL RX11 114 11 55 := ⟨RX11, TX11, 61, rfl, k_X11, by decide, rfl, Or.inl (ax_in 1161 (by decide +kernel) rfl)⟩
theorem f_X11_117 : ax_FL RX11 117 11 56 := ⟨RX11, TX11, 61, rfl, k_X11, by decide, rfl, Or.inl (ax_in 1162 (by decide +kernel) rfl)⟩
theorem f_X11_121 : ax_FL RX11 121 11 57 := ⟨RX11, TX11, 61, rfl, k_X11, by decide, rfl, Or.inl (ax_in 1163 (by decide +kernel) rfl)⟩
theorem f_X11_124 : ax_FL RX11 124 11 58 := ⟨RX11, TX11, 61, rfl, k_X11, by decide, rfl, Or.inl (ax_in 1164 (by decide +kernel) rfl)⟩
theorem f_X11_127 : ax_FL RX11 127 11 59 := ⟨RX11, TX11, 61, rfl, k_X11, by decide, rfl, Or.inl (ax_in 1165 (by decide +kernel) rfl)⟩
theorem f_X11_13 : ax_FL RX11 13 11 4 := ⟨RX11, TX11, 61, rfl, k_X11, by decide, rfl, Or.inl (ax_in 1110 (by decide +kernel) rfl)⟩
theorem f_X11_130 : ax_FL RX11 130 11 60 := ⟨RX11, TX11, 61, rfl, k_X11, by decide, rfl, Or.inl (ax_in 1166 (by decide +kernel) rfl)⟩
theorem f_X11_133 : ax_FL RX11 133 11 0 := ⟨RX11, TX11, 61, rfl, k_X11, by decide, rfl, Or.inl (ax_in 1106 (by decide +kernel) rfl)⟩
theorem f_X11_140 : ax_FL RX11 140 11 3 := ⟨RX11, TX11, 61, rfl, k_X11, by decide, rfl, Or.inl (ax_in 1109 (by decide +kernel) rfl)⟩
theorem f_X11_145 : ax_FL RX11 145 11 13 := ⟨RX11, TX11, 61, rfl, k_X11, by decide, rfl, Or.inl (ax_in 1119 (by decide +kernel) rfl)⟩
theorem f_X11_150 : ax_FL RX11 150 11 15 := ⟨RX11, TX11, 61, rfl, k_X11, by decide, rfl, Or.inl (ax_in 1121 (by decide +kernel) rfl)⟩
theorem f_X11_157 : ax_FL RX11 157 11 16 := ⟨RX11, TX11, 61, rfl, k_X11, by decide, rfl, Or.inl (ax_in 1122 (by decide +kernel) rfl)⟩
theorem f_X11_161 : ax_FL RX11 161 11 17 := ⟨RX11, TX11, 61, rfl, k_X11, by decide, rfl, Or.inl (ax_in 1123 (by decide +kernel) rfl)⟩
theorem f_X11_17 : ax_FL RX11 17 11 5 := ⟨RX11, TX11, 61, rfl, k_X11, by decide, rfl, Or.inl (ax_in 1111 (by decide +kernel) rfl)⟩
theorem f_X11_184 : ax_FL RX11 184 11 19 := ⟨RX11, TX11, 61, rfl, k_X11, by decide, rfl, Or.inl (ax_in 1125 (by decide +kernel) rfl)⟩
theorem f_X11_187 : ax_FL RX11 187 11 18 := ⟨RX11, TX11, 61, rfl, k_X11, by decide, rfl, Or.inl (ax_in 1124 (by decide +kernel) rfl)⟩
theorem f_X11_20 : ax_FL RX11 20 11 6 := ⟨RX11, TX11, 61, rfl, k_X11, by decide, rfl, Or.inl (ax_in 1112 (by decide +kernel) rfl)⟩
theorem f_X11_204 : ax_FL RX11 204 11 20 := ⟨RX11, TX11, 61, rfl, k_X11, by decide, rfl, Or.inl (ax_in 1126 (by decide +kernel) rfl)⟩
theorem f_X11_210 : ax_FL RX11 210 11 21 := ⟨RX11, TX11, 61, rfl, k_X11, by decide, rfl, Or.inl (ax_in 1127 (by decide +kernel) rfl)⟩
theorem f_X11_213 : ax_FL RX11 213 11 22 := ⟨RX11, TX11, 61, rfl, k_X11, by decide, rfl, Or.inl (ax_in 1128 (by decide +kernel) rfl)⟩
theorem f_X11_216 : ax_FL RX11 216 11 23 := ⟨RX11, TX11, 61, rfl, k_X11, by decide, rfl, Or.inl (ax_in 1129 (by decide +kernel) rfl)⟩
theorem f_X11_23 : ax_FL RX11 23 11 7 := ⟨RX11, TX11, 61, rfl, k_X11, by decide, rfl, Or.inl (ax_in 1113 (by decide +kernel) rfl)⟩
theorem f_X11_237 : ax_FL RX11 237 11 2 := ⟨RX11, TX11, 61, rfl, k_X11, by decide, rfl, Or.inl (ax_in 1108 (by decide +kernel) rfl)⟩
theorem f_X11_240 : ax_FL RX11 240 11 25 := ⟨RX11, TX11, 61, rfl, k_X11, by decide, rfl, Or.inl (ax_in 1131 (by decide +kernel) rfl)⟩
theorem f_X11_243 : ax_FL RX11 243 11 29 := ⟨RX11, TX11, 61, rfl, k_X11, by decide, rfl, Or.inl (ax_in 1135 (by decide +kernel) rfl)⟩
theorem f_X11_246 : ax_FL RX11 246 11 50 := ⟨RX11, TX11, 61, rfl, k_X11, by decide, rfl, Or.inl (ax_in 1156 (by decide +kernel) rfl)⟩
theorem f_X11_26 : ax_FL RX11 26 11 8 := ⟨RX11, TX11, 61, rfl, k_X11, by decide, rfl, Or.inl (ax_in 1114 (by decide +kernel) rfl)⟩
theorem f_X11_269 : ax_FL RX11 269 11 33 := ⟨RX11, TX11, 61, rfl, k_X11, by decide, rfl, Or.inl (ax_in 1139 (by decide +kernel) rfl)⟩
theorem f_X11_29 : ax_FL RX11 29 11 9 := ⟨RX11, TX11, 61, rfl, k_X11, by decide, rfl, Or.inl (ax_in 1115 (by decide +kernel) rfl)⟩
theorem f_X11_295 : ax_FL RX11 295 11 43 := ⟨RX11, TX11, 61, rfl, k_X11, by decide, rfl, Or.inl (ax_in 1149 (by decide +kernel) rfl)⟩
theorem f_X11_32 : ax_FL RX11 32 11 10 := ⟨RX11, TX11, 61, rfl, k_X11, by decide, rfl, Or.inl (ax_in 1116 (by decide +kernel) rfl)⟩
theorem f_X11_340 : ax_FL RX11 340 11 47 := ⟨RX11, TX11, 61, rfl, k_X11, by decide, rfl, Or.inl (ax_in 1153 (by decide +kernel) rfl)⟩
theorem f_X11_35 : ax_FL RX11 35 11 11 := ⟨RX11, TX11, 61, rfl, k_X11, by decide, rfl, Or.inl (ax_in 1117 (by decide +kernel) rfl)⟩
theorem f_X11_375 : ax_FL RX11 375 11 52 := ⟨RX11, TX11, 61, rfl, k_X11, by decide, rfl, Or.inl (ax_in 1158 (by decide +kernel) rfl)⟩
theorem f_X11_380 : ax_FL RX11 380 11 53 := ⟨RX11, TX11, 61, rfl, k_X11, by decide, rfl, Or.inl (ax_in 1159 (by decide +kernel) rfl)⟩
theorem f_X11_39 : ax_FL RX11 39 11 12 := ⟨RX11, TX11, 61, rfl, k_X11, by decide, rfl, Or.inl (ax_in 1118 (by decide +kernel) rfl)⟩
theorem f_X11_42 : ax_FL RX11 42 11 14 := ⟨RX11, TX11, 61, rfl, k_X11, by decide, rfl, Or.inl (ax_in 1120 (by decide +kernel) rfl)⟩
theorem f_X11_45 : ax_FL RX11 45 11 24 := ⟨RX11, TX11, 61, rfl, k_X11, by decide, rfl, Or.inl (ax_in 1130 (by decide +kernel) rfl)⟩
theorem f_X11_48 : ax_FL RX11 48 11 26 := ⟨RX11, TX11, 61, rfl, k_X11, by decide, rfl, Or.inl (ax_in 1132 (by decide +kernel) rfl)⟩
theorem f_X11_51 : ax_FL RX11 51 11 27 := ⟨RX11, TX11, 61, rfl, k_X11, by decide, rfl, Or.inl (ax_in 1133 (by decide +kernel) rfl)⟩
theorem f_X11_54 : ax_FL RX11 54 11 28 := ⟨RX11, TX11, 61, rfl, k_X11, by decide, rfl, Or.inl (ax_in 1134 (by decide +kernel) rfl)⟩
theorem f_X11_57 : ax_FL RX11 57 11 30 := ⟨RX11, TX11, 61, rfl, k_X11, by decide, rfl, Or.inl (ax_in 1136 (by decide +kernel) rfl)⟩
theorem f_X11_60 : ax_FL RX11 60 11 31 := ⟨RX11, TX11, 61, rfl, k_X11, by decide, rfl, Or.inl (ax_in 1137 (by decide +kernel) rfl)⟩
theorem f_X11_63 : ax_FL RX11 63 11 32 := ⟨RX11, TX11, 61, rfl, k_X11, by decide, rfl, Or.inl (ax_in 1138 (by decide +kernel) rfl)⟩
theorem f_X11_66 : ax_FL RX11 66 11 34 := ⟨RX11, TX11, 61, rfl, k_X11, by decide, rfl, Or.inl (ax_in 1140 (by decide +kernel) rfl)⟩
theorem f_X11_69 : ax_FL RX11 69 11 35 := ⟨RX11, TX11, 61, rfl, k_X11, by decide, rfl, Or.inl (ax_in 1141 (by decide +kernel) rfl)⟩
theorem f_X11_72 : ax_FL RX11 72 11 36 := ⟨RX11, TX11, 61, rfl, k_X11, by decide, rfl, Or.inl (ax_in 1142 (by decide +kernel) rfl)⟩
theorem f_X11_75 : ax_FL RX11 75 11 37 := ⟨RX11, TX11, 61, rfl, k_X11, by decide, rfl, Or.inl (ax_in 1143 (by decide +kernel) rfl)⟩
theorem f_X11_78 : ax_FL RX11 78 11 38 := ⟨RX11, TX11, 61, rfl, k_X11, by decide, rfl, Or.inl (ax_in 1144 (by decide +kernel) rfl)⟩
theorem f_X11_81 : ax_FL RX11 81 11 39 := ⟨RX11, TX11, 61, rfl, k_X11, by decide, rfl, Or.inl (ax_in 1145 (by decide +kernel) rfl)⟩
theorem f_X11_84 : ax_FL RX11 84 11 40 := ⟨RX11, TX11, 61, rfl, k_X11, by decide, rfl, Or.inl (ax_in 1146 (by decide +kernel) rfl)⟩
theorem f_X11_87 : ax_FL RX11 87 11 41 := ⟨RX11, TX11, 61, rfl, k_X11, by decide, rfl, Or.inl (ax_in 1147 (by decide +kernel) rfl)⟩
theorem f_X11_9 : ax_FL RX11 9 11 1 := ⟨RX11, TX11, 61, rfl, k_X11, by decide, rfl, Or.inl (ax_in 1107 (by decide +kernel) rfl)⟩
theorem f_X11_90 : ax_FL RX11 90 11 42 := ⟨RX11, TX11, 61, rfl, k_X11, by decide, rfl, Or.inl (ax_in 1148 (by decide +kernel) rfl)⟩
theorem f_X11_93 : ax_FL RX11 93 11 44 := ⟨RX11, TX11, 61, rfl, k_X11, by decide, rfl, Or.inl (ax_in 1150 (by decide +kernel) rfl)⟩
theorem f_X11_96 : ax_FL RX11 96 11 45 := ⟨RX11, TX11, 61, rfl, k_X11, by decide, rfl, Or.inl (ax_in 1151 (by decide +kernel) rfl)⟩
theorem f_X11_99 : ax_FL RX11 99 11 46 := ⟨RX11, TX11, 61, rfl, k_X11, by decide, rfl, Or.inl (ax_in 1152 (by decide +kernel) rfl)⟩
theorem f_X2_100 : ax_FL RX2 100 3 2 := ⟨RX3, TX3, 5, rfl, k_X3, by decide, rfl, Or.inr ⟨"LastLamps", (ax_in 189 (by decide +kernel) rfl)⟩⟩
theorem f_X2_103 : ax_FL RX2 103 3 3 := ⟨RX3, TX3, 5, rfl, k_X3, by decide, rfl, Or.inr ⟨"LastLamps", (ax_in 194 (by decide +kernel) rfl)⟩⟩
theorem f_X2_11 : ax_FL RX2 11 2 2 := ⟨RX2, TX2, 12, rfl, k_X2, by decide, rfl, Or.inl (ax_in 350 (by decide +kernel) rfl)⟩
theorem f_X2_15 : ax_FL RX2 15 2 3 := ⟨RX2, TX2, 12, rfl, k_X2, by decide, rfl, Or.inl (ax_in 351 (by decide +kernel) rfl)⟩
theorem f_X2_18 : ax_FL RX2 18 2 4 := ⟨RX2, TX2, 12, rfl, k_X2, by decide, rfl, Or.inl (ax_in 352 (by decide +kernel) rfl)⟩
theorem f_X2_21 : ax_FL RX2 21 2 5 := ⟨RX2, TX2, 12, rfl, k_X2, by decide, rfl, Or.inl (ax_in 353 (by decide +kernel) rfl)⟩
theorem f_X2_24 : ax_FL RX2 24 2 6 := ⟨RX2, TX2, 12, rfl, k_X2, by decide, rfl, Or.inl (ax_in 354 (by decide +kernel) rfl)⟩
theorem f_X2_27 : ax_FL RX2 27 2 7 := ⟨RX2, TX2, 12, rfl, k_X2, by decide, rfl, Or.inl (ax_in 355 (by decide +kernel) rfl)⟩
theorem f_X2_30 : ax_FL RX2 30 2 8 := ⟨RX2, TX2, 12, rfl, k_X2, by decide, rfl, Or.inl (ax_in 356 (by decide +kernel) rfl)⟩
theorem f_X2_33 : ax_FL RX2 33 2 9 := ⟨RX2, TX2, 12, rfl, k_X2, by decide, rfl, Or.inl (ax_in 357 (by decide +kernel) rfl)⟩
theorem f_X2_36 : ax_FL RX2 36 2 0 := ⟨RX2, TX2, 12, rfl, k_X2, by decide, rfl, Or.inl (ax_in 348 (by decide +kernel) rfl)⟩
theorem f_X2_40 : ax_FL RX2 40 2 1 := ⟨RX2, TX2, 12, rfl, k_X2, by decide, rfl, Or.inl (ax_in 349 (by decide +kernel) rfl)⟩
theorem f_X2_44 : ax_FL RX2 44 2 11 := ⟨RX2, TX2, 12, rfl, k_X2, by decide, rfl, Or.inl (ax_in 359 (by decide +kernel) rfl)⟩
theorem f_X2_54 : ax_FL RX2 54 0 0 := ⟨RX0, TX0, 8, rfl, k_X0, by decide, rfl, Or.inr ⟨"LastLamps", (ax_in 239 (by decide +kernel) rfl)⟩⟩
theorem f_X2_59 : ax_FL RX2 59 0 2 := ⟨RX0, TX0, 8, rfl, k_X0, by decide, rfl, Or.inr ⟨"LastLamps", (ax_in 247 (by decide +kernel) rfl)⟩⟩
theorem f_X2_73 : ax_FL RX2 73 3 1 := ⟨RX3, TX3, 5, rfl, k_X3, by decide, rfl, Or.inr ⟨"LastLamps", (ax_in 180 (by decide +kernel) rfl)⟩⟩
theorem f_X2_78 : ax_FL RX2 78 0 7 := ⟨RX0, TX0, 8, rfl, k_X0, by decide, rfl, Or.inr ⟨"LastLamps", (ax_in 266 (by decide +kernel) rfl)⟩⟩
theorem f_X2_90 : ax_FL RX2 90 2 10 := ⟨RX2, TX2, 12, rfl, k_X2, by decide, rfl, Or.inl (ax_in 358 (by decide +kernel) rfl)⟩
theorem f_X2_93 : ax_FL RX2 93 3 0 := ⟨RX3, TX3, 5, rfl, k_X3, by decide, rfl, Or.inr ⟨"LastLamps", (ax_in 177 (by decide +kernel) rfl)⟩⟩
theorem f_X3_15 : ax_FL RX3 15 3 4 := ⟨RX3, TX3, 5, rfl, k_X3, by decide, rfl, Or.inl (ax_in 196 (by decide +kernel) rfl)⟩
theorem f_X3_19 : ax_FL RX3 19 3 0 := ⟨RX3, TX3, 5, rfl, k_X3, by decide, rfl, Or.inl (ax_in 174 (by decide +kernel) rfl)⟩
theorem f_X3_22 : ax_FL RX3 22 3 1 := ⟨RX3, TX3, 5, rfl, k_X3, by decide, rfl, Or.inl (ax_in 179 (by decide +kernel) rfl)⟩
theorem f_X3_25 : ax_FL RX3 25 3 3 := ⟨RX3, TX3, 5, rfl, k_X3, by decide, rfl, Or.inl (ax_in 192 (by decide +kernel) rfl)⟩
theorem f_X3_9 : ax_FL RX3 9 3 2 := ⟨RX3, TX3, 5, rfl, k_X3, by decide, rfl, Or.inl (ax_in 185 (by decide +kernel) rfl)⟩
theorem f_X4_15 : ax_FL RX4 15 4 1 := ⟨RX4, TX4, 7, rfl, k_X4, by decide, rfl, Or.inl (ax_in 477 (by decide +kernel) rfl)⟩
theorem f_X4_19 : ax_FL RX4 19 4 2 := ⟨RX4, TX4, 7, rfl, k_X4, by decide, rfl, Or.inl (ax_in 478 (by decide +kernel) rfl)⟩
theorem f_X4_27 : ax_FL RX4 27 4 4 := ⟨RX4, TX4, 7, rfl, k_X4, by decide, rfl, Or.inl (ax_in 481 (by decide +kernel) rfl)⟩
theorem f_X4_31 : ax_FL RX4 31 4 5 := ⟨RX4, TX4, 7, rfl, k_X4, by decide, rfl, Or.inl (ax_in 483 (by decide +kernel) rfl)⟩
theorem f_X4_34 : ax_FL RX4 34 6 1 := ⟨RX6, TX6, 2, rfl, k_X6, by decide, rfl, Or.inr ⟨"LastLamps", (ax_in 298 (by decide +kernel) rfl)⟩⟩
theorem f_X4_39 : ax_FL RX4 39 6 0 := ⟨RX6, TX6, 2, rfl, k_X6, by decide, rfl, Or.inr ⟨"LastLamps", (ax_in 295 (by decide +kernel) rfl)⟩⟩
theorem f_X4_63 : ax_FL RX4 63 4 6 := ⟨RX4, TX4, 7, rfl, k_X4, by decide, rfl, Or.inl (ax_in 485 (by decide +kernel) rfl)⟩
theorem f_X4_70 : ax_FL RX4 70 3 2 := ⟨RX3, TX3, 5, rfl, k_X3, by decide, rfl, Or.inr ⟨"LastLamps", (ax_in 188 (by decide +kernel) rfl)⟩⟩
theorem f_X4_78 : ax_FL RX4 78 3 1 := ⟨RX3, TX3, 5, rfl, k_X3, by decide, rfl, Or.inr ⟨"LastLamps", (ax_in 183 (by decide +kernel) rfl)⟩⟩
theorem f_X4_9 : ax_FL RX4 9 4 0 := ⟨RX4, TX4, 7, rfl, k_X4, by decide, rfl, Or.inl (ax_in 476 (by decide +kernel) rfl)⟩
theorem f_X5_104 : ax_FL RX5 104 8 0 := ⟨RX8, TX8, 2, rfl, k_X8, by decide, rfl, Or.inr ⟨"LastLamps", (ax_in 152 (by decide +kernel) rfl)⟩⟩
theorem f_X5_12 : ax_FL RX5 12 5 1 := ⟨RX5, TX5, 6, rfl, k_X5, by decide, rfl, Or.inl (ax_in 210 (by decide +kernel) rfl)⟩
theorem f_X5_22 : ax_FL RX5 22 5 0 := ⟨RX5, TX5, 6, rfl, k_X5, by decide, rfl, Or.inl (ax_in 209 (by decide +kernel) rfl)⟩
theorem f_X5_26 : ax_FL RX5 26 5 2 := ⟨RX5, TX5, 6, rfl, k_X5, by decide, rfl, Or.inl (ax_in 212 (by decide +kernel) rfl)⟩
theorem f_X5_29 : ax_FL RX5 29 5 4 := ⟨RX5, TX5, 6, rfl, k_X5, by decide, rfl, Or.inl (ax_in 214 (by decide +kernel) rfl)⟩
theorem f_X5_45 : ax_FL RX5 45 3 2 := ⟨RX3, TX3, 5, rfl, k_X3, by decide, rfl, Or.inr ⟨"LastLamps", (ax_in 186 (by decide +kernel) rfl)⟩⟩
theorem f_X5_62 : ax_FL RX5 62 3 0 := ⟨RX3, TX3, 5, rfl, k_X3, by decide, rfl, Or.inr ⟨"LastLamps", (ax_in 175 (by decide +kernel) rfl)⟩⟩
theorem f_X5_81 : ax_FL RX5 81 3 1 := ⟨RX3, TX3, 5, rfl, k_X3, by decide, rfl, Or.inr ⟨"LastLamps", (ax_in 184 (by decide +kernel) rfl)⟩⟩
theorem f_X5_84 : ax_FL RX5 84 5 3 := ⟨RX5, TX5, 6, rfl, k_X5, by decide, rfl, Or.inl (ax_in 213 (by decide +kernel) rfl)⟩
theorem f_X5_99 : ax_FL RX5 99 8 1 := ⟨RX8, TX8, 2, rfl, k_X8, by decide, rfl, Or.inr ⟨"LastLamps", (ax_in 155 (by decide +kernel) rfl)⟩⟩
theorem f_X6_15 : ax_FL RX6 15 6 1 := ⟨RX6, TX6, 2, rfl, k_X6, by decide, rfl, Or.inl (ax_in 297 (by decide +kernel) rfl)⟩
theorem f_X6_9 : ax_FL RX6 9 6 0 := ⟨RX6, TX6, 2, rfl, k_X6, by decide, rfl, Or.inl (ax_in 294 (by decide +kernel) rfl)⟩
theorem f_X7_101 : ax_FL RX7 101 0 4 := ⟨RX0, TX0, 8, rfl, k_X0, by decide, rfl, Or.inr ⟨"LastLamps", (ax_in 257 (by decide +kernel) rfl)⟩⟩
theorem f_X7_105 : ax_FL RX7 105 0 2 := ⟨RX0, TX0, 8, rfl, k_X0, by decide, rfl, Or.inr ⟨"LastLamps", (ax_in 249 (by decide +kernel) rfl)⟩⟩
theorem f_X7_127 : ax_FL RX7 127 9 6 := ⟨RX9, TX9, 8, rfl, k_X9, by decide, rfl, Or.inr ⟨"LastLamps", (ax_in 319 (by decide +kernel) rfl)⟩⟩
theorem f_X7_130 : ax_FL RX7 130 0 0 := ⟨RX0, TX0, 8, rfl, k_X0, by decide, rfl, Or.inr ⟨"LastLamps", (ax_in 242 (by decide +kernel) rfl)⟩⟩
theorem f_X7_133 : ax_FL RX7 133 0 3 := ⟨RX0, TX0, 8, rfl, k_X0, by decide, rfl, Or.inr ⟨"LastLamps", (ax_in 253 (by decide +kernel) rfl)⟩⟩
theorem f_X7_15 : ax_FL RX7 15 7 5 := ⟨RX7, TX7, 15, rfl, k_X7, by decide, rfl, Or.inl (ax_in 427 (by decide +kernel) rfl)⟩
theorem f_X7_18 : ax_FL RX7 18 7 6 := ⟨RX7, TX7, 15, rfl, k_X7, by decide, rfl, Or.inl (ax_in 428 (by decide +kernel) rfl)⟩
theorem f_X7_21 : ax_FL RX7 21 7 7 := ⟨RX7, TX7, 15, rfl, k_X7, by decide, rfl, Or.inl (ax_in 429 (by decide +kernel) rfl)⟩
theorem f_X7_24 : ax_FL RX7 24 7 8 := ⟨RX7, TX7, 15, rfl, k_X7, by decide, rfl, Or.inl (ax_in 430 (by decide +kernel) rfl)⟩
theorem f_X7_27 : ax_FL RX7 27 7 9 := ⟨RX7, TX7, 15, rfl, k_X7, by decide, rfl, Or.inl (ax_in 432 (by decide +kernel) rfl)⟩
theorem f_X7_30 : ax_FL RX7 30 7 10 := ⟨RX7, TX7, 15, rfl, k_X7, by decide, rfl, Or.inl (ax_in 434 (by decide +kernel) rfl)⟩
theorem f_X7_33 : ax_FL RX7 33 7 11 := ⟨RX7, TX7, 15, rfl, k_X7, by decide, rfl, Or.inl (ax_in 435 (by decide +kernel) rfl)⟩
theorem f_X7_36 : ax_FL RX7 36 7 13 := ⟨RX7, TX7, 15, rfl, k_X7, by decide, rfl, Or.inl (ax_in 437 (by decide +kernel) rfl)⟩
theorem f_X7_39 : ax_FL RX7 39 7 0 := ⟨RX7, TX7, 15, rfl, k_X7, by decide, rfl, Or.inl (ax_in 422 (by decide +kernel) rfl)⟩
theorem f_X7_43 : ax_FL RX7 43 7 1 := ⟨RX7, TX7, 15, rfl, k_X7, by decide, rfl, Or.inl (ax_in 423 (by decide +kernel) rfl)⟩
theorem f_X7_47 : ax_FL RX7 47 7 2 := ⟨RX7, TX7, 15, rfl, k_X7, by decide, rfl, Or.inl (ax_in 424 (by decide +kernel) rfl)⟩
theorem f_X7_57 : ax_FL RX7 57 7 4 := ⟨RX7, TX7, 15, rfl, k_X7, by decide, rfl, Or.inl (ax_in 426 (by decide +kernel) rfl)⟩
theorem f_X7_71 : ax_FL RX7 71 3 2 := ⟨RX3, TX3, 5, rfl, k_X3, by decide, rfl, Or.inr ⟨"LastLamps", (ax_in 187 (by decide +kernel) rfl)⟩⟩
theorem f_X7_80 : ax_FL RX7 80 9 7 := ⟨RX9, TX9, 8, rfl, k_X9, by decide, rfl, Or.inr ⟨"LastLamps", (ax_in 322 (by decide +kernel) rfl)⟩⟩
theorem f_X7_89 : ax_FL RX7 89 7 14 := ⟨RX7, TX7, 15, rfl, k_X7, by decide, rfl, Or.inl (ax_in 438 (by decide +kernel) rfl)⟩
theorem f_X7_9 : ax_FL RX7 9 7 3 := ⟨RX7, TX7, 15, rfl, k_X7, by decide, rfl, Or.inl (ax_in 425 (by decide +kernel) rfl)⟩
theorem f_X7_92 : ax_FL RX7 92 7 12 := ⟨RX7, TX7, 15, rfl, k_X7, by decide, rfl, Or.inl (ax_in 436 (by decide +kernel) rfl)⟩
theorem f_X8_15 : ax_FL RX8 15 8 1 := ⟨RX8, TX8, 2, rfl, k_X8, by decide, rfl, Or.inl (ax_in 153 (by decide +kernel) rfl)⟩
theorem f_X8_9 : ax_FL RX8 9 8 0 := ⟨RX8, TX8, 2, rfl, k_X8, by decide, rfl, Or.inl (ax_in 151 (by decide +kernel) rfl)⟩
theorem f_X9_15 : ax_FL RX9 15 9 3 := ⟨RX9, TX9, 8, rfl, k_X9, by decide, rfl, Or.inl (ax_in 314 (by decide +kernel) rfl)⟩
theorem f_X9_18 : ax_FL RX9 18 9 4 := ⟨RX9, TX9, 8, rfl, k_X9, by decide, rfl, Or.inl (ax_in 315 (by decide +kernel) rfl)⟩
theorem f_X9_21 : ax_FL RX9 21 9 5 := ⟨RX9, TX9, 8, rfl, k_X9, by decide, rfl, Or.inl (ax_in 316 (by decide +kernel) rfl)⟩
theorem f_X9_24 : ax_FL RX9 24 9 6 := ⟨RX9, TX9, 8, rfl, k_X9, by decide, rfl, Or.inl (ax_in 317 (by decide +kernel) rfl)⟩
theorem f_X9_27 : ax_FL RX9 27 9 7 := ⟨RX9, TX9, 8, rfl, k_X9, by decide, rfl, Or.inl (ax_in 321 (by decide +kernel) rfl)⟩
theorem f_X9_30 : ax_FL RX9 30 9 0 := ⟨RX9, TX9, 8, rfl, k_X9, by decide, rfl, Or.inl (ax_in 311 (by decide +kernel) rfl)⟩
theorem f_X9_34 : ax_FL RX9 34 9 1 := ⟨RX9, TX9, 8, rfl, k_X9, by decide, rfl, Or.inl (ax_in 312 (by decide +kernel) rfl)⟩
theorem f_X9_42 : ax_FL RX9 42 3 1 := ⟨RX3, TX3, 5, rfl, k_X3, by decide, rfl, Or.inr ⟨"LastLamps", (ax_in 181 (by decide +kernel) rfl)⟩⟩
theorem f_X9_61 : ax_FL RX9 61 0 7 := ⟨RX0, TX0, 8, rfl, k_X0, by decide, rfl, Or.inr ⟨"LastLamps", (ax_in 267 (by decide +kernel) rfl)⟩⟩
theorem f_X9_9 : ax_FL RX9 9 9 2 := ⟨RX9, TX9, 8, rfl, k_X9, by decide, rfl, Or.inl (ax_in 313 (by decide +kernel) rfl)⟩
theorem n_L_10 : ax_NW RL 10 11 61 [0, 0, 0, 0, 2, 2, 2, 2, 2, 2, 2, 2, 2, 0, 0, 0, 1, 0, 0, 0, 0, 0, 0, 0, 2, 0, 2, 2, 2, 0, 2, 2, 0, 0, 2, 2, 2, 2, 2, 2, 2, 2, 2, 0, 2, 2, 2, 0, 2, 2, 0, 2, 0, 1, 2, 2, 2, 2, 2, 2, 2] := ⟨RX11, TX11, tyX11, rfl, k_X11, tyX11_ok, (ax_in 1100 (by decide +kernel) rfl), (ax_in 1101 (by decide +kernel) rfl), (ax_in 128 (by decide +kernel) rfl), fun j hj => by
  rcases (show j = 0 ∨ j = 1 ∨ j = 2 ∨ j = 3 ∨ j = 4 ∨ j = 5 ∨ j = 6 ∨ j = 7 ∨ j = 8 ∨ j = 9 ∨ j = 10 ∨ j = 11 ∨ j = 12 ∨ j = 13 ∨ j = 14 ∨ j = 15 ∨ j = 16 ∨ j = 17 ∨ j = 18 ∨ j = 19 ∨ j = 20 ∨ j = 21 ∨ j = 22 ∨ j = 23 ∨ j = 24 ∨ j = 25 ∨ j = 26 ∨ j = 27 ∨ j = 28 ∨ j = 29 ∨ j = 30 ∨ j = 31 ∨ j = 32 ∨ j = 33 ∨ j = 34 ∨ j = 35 ∨ j = 36 ∨ j = 37 ∨ j = 38 ∨ j = 39 ∨ j = 40 ∨ j = 41 ∨ j = 42 ∨ j = 43 ∨ j = 44 ∨ j = 45 ∨ j = 46 ∨ j = 47 ∨ j = 48 ∨ j = 49 ∨ j = 50 ∨ j = 51 ∨ j = 52 ∨ j = 53 ∨ j = 54 ∨ j = 55 ∨ j = 56 ∨ j = 57 ∨ j = 58 ∨ j = 59 ∨ j = 60 by omega) with rfl | rfl | rfl | rfl | rfl | rfl | rfl | rfl | rfl | rfl | rfl | rfl | rfl | rfl | rfl | rfl | rfl | rfl | rfl | rfl | rfl | rfl | rfl | rfl | rfl | rfl | rfl | rfl | rfl | rfl | rfl | rfl | rfl | rfl | rfl | rfl | rfl | rfl | rfl | rfl | rfl | rfl | rfl | rfl | rfl | rfl | rfl | rfl | rfl | rfl | rfl | rfl | rfl | rfl | rfl | rfl | rfl | rfl | rfl | rfl | rfl <;> exact ⟨_, rfl, (fun h => by first | rfl | cases h), (fun h => by first | rfl | cases h), (fun h => by first | rfl | cases h), by decide⟩⟩
theorem n_L_7 : ax_NW RL 7 10 13 [2, 2, 2, 2, 2, 2, 2, 2, 2, 2, 2, 2, 0] := ⟨RX10, TX10, tyX10, rfl, k_X10, tyX10_ok, (ax_in 137 (by decide +kernel) rfl), (ax_in 138 (by decide +kernel) rfl), (ax_in 117 (by decide +kernel) rfl), fun j hj => by
  rcases (show j = 0 ∨ j = 1 ∨ j = 2 ∨ j = 3 ∨ j = 4 ∨ j = 5 ∨ j = 6 ∨ j = 7 ∨ j = 8 ∨ j = 9 ∨ j = 10 ∨ j = 11 ∨ j = 12 by omega) with rfl | rfl | rfl | rfl | rfl | rfl | rfl | rfl | rfl | rfl | rfl | rfl | rfl <;> exact ⟨_, rfl, (fun h => by first | rfl | cases h), (fun h => by first | rfl | cases h), (fun h => by first | rfl | cases h), by decide⟩⟩
theorem n_X10_16 : ax_NW RX10 16 5 6 [2, 2, 0, 0, 0, 0] := ⟨RX5, TX5, tyX5, rfl, k_X5, tyX5_ok, (ax_in 162 (by decide +kernel) rfl), (ax_in 163 (by decide +kernel) rfl), (ax_in 119 (by decide +kernel) rfl), fun j hj => by
  rcases (show j = 0 ∨ j = 1 ∨ j = 2 ∨ j = 3 ∨ j = 4 ∨ j = 5 by omega) with rfl | rfl | rfl | rfl | rfl | rfl <;> exact ⟨_, rfl, (fun h => by first | rfl | cases h), (fun h => by first | rfl | cases h), (fun h => by first | rfl | cases h), by decide⟩⟩
theorem n_X10_25 : ax_NW RX10 25 3 5 [0, 0, 0, 0, 2] := ⟨RX3, TX3, tyX3, rfl, k_X3, tyX3_ok, (ax_in 230 (by decide +kernel) rfl), (ax_in 169 (by decide +kernel) rfl), (ax_in 120 (by decide +kernel) rfl), fun j hj => by
  rcases (show j = 0 ∨ j = 1 ∨ j = 2 ∨ j = 3 ∨ j = 4 by omega) with rfl | rfl | rfl | rfl | rfl <;> exact ⟨_, rfl, (fun h => by first | rfl | cases h), (fun h => by first | rfl | cases h), (fun h => by first | rfl | cases h), by decide⟩⟩
theorem n_X10_32 : ax_NW RX10 32 0 8 [0, 0, 2, 2, 2, 2, 2, 2] := ⟨RX0, TX0, tyX0, rfl, k_X0, tyX0_ok, (ax_in 232 (by decide +kernel) rfl), (ax_in 233 (by decide +kernel) rfl), (ax_in 121 (by decide +kernel) rfl), fun j hj => by
  rcases (show j = 0 ∨ j = 1 ∨ j = 2 ∨ j = 3 ∨ j = 4 ∨ j = 5 ∨ j = 6 ∨ j = 7 by omega) with rfl | rfl | rfl | rfl | rfl | rfl | rfl | rfl <;> exact ⟨_, rfl, (fun h => by first | rfl | cases h), (fun h => by first | rfl | cases h), (fun h => by first | rfl | cases h), by decide⟩⟩
theorem n_X10_47 : ax_NW RX10 47 6 2 [2, 0] := ⟨RX6, TX6, tyX6, rfl, k_X6, tyX6_ok, (ax_in 288 (by decide +kernel) rfl), (ax_in 289 (by decide +kernel) rfl), (ax_in 122 (by decide +kernel) rfl), fun j hj => by
  rcases (show j = 0 ∨ j = 1 by omega) with rfl | rfl <;> exact ⟨_, rfl, (fun h => by first | rfl | cases h), (fun h => by first | rfl | cases h), (fun h => by first | rfl | cases h), by decide⟩⟩
theorem n_X10_54 : ax_NW RX10 54 9 8 [2, 2, 2, 2, 2, 2, 2, 2] := ⟨RX9, TX9, tyX9, rfl, k_X9, tyX9_ok, (ax_in 305 (by decide +kernel) rfl), (ax_in 306 (by decide +kernel) rfl), (ax_in 123 (by decide +kernel) rfl), fun j hj => by
  rcases (show j = 0 ∨ j = 1 ∨ j = 2 ∨ j = 3 ∨ j = 4 ∨ j = 5 ∨ j = 6 ∨ j = 7 by omega) with rfl | rfl | rfl | rfl | rfl | rfl | rfl | rfl <;> exact ⟨_, rfl, (fun h => by first | rfl | cases h), (fun h => by first | rfl | cases h), (fun h => by first | rfl | cases h), by decide⟩⟩
theorem n_X10_63 : ax_NW RX10 63 2 12 [2, 2, 2, 2, 2, 2, 2, 2, 2, 2, 0, 0] := ⟨RX2, TX2, tyX2, rfl, k_X2, tyX2_ok, (ax_in 342 (by decide +kernel) rfl), (ax_in 343 (by decide +kernel) rfl), (ax_in 124 (by decide +kernel) rfl), fun j hj => by
  rcases (show j = 0 ∨ j = 1 ∨ j = 2 ∨ j = 3 ∨ j = 4 ∨ j = 5 ∨ j = 6 ∨ j = 7 ∨ j = 8 ∨ j = 9 ∨ j = 10 ∨ j = 11 by omega) with rfl | rfl | rfl | rfl | rfl | rfl | rfl | rfl | rfl | rfl | rfl | rfl <;> exact ⟨_, rfl, (fun h => by first | rfl | cases h), (fun h => by first | rfl | cases h), (fun h => by first | rfl | cases h), by decide⟩⟩
theorem n_X10_70 : ax_NW RX10 70 1 8 [2, 2, 2, 2, 0, 0, 0, 0] := ⟨RX1, TX1, tyX1, rfl, k_X1, tyX1_ok, (ax_in 385 (by decide +kernel) rfl), (ax_in 386 (by decide +kernel) rfl), (ax_in 125 (by decide +kernel) rfl), fun j hj => by
  rcases (show j = 0 ∨ j = 1 ∨ j = 2 ∨ j = 3 ∨ j = 4 ∨ j = 5 ∨ j = 6 ∨ j = 7 by omega) with rfl | rfl | rfl | rfl | rfl | rfl | rfl | rfl <;> exact ⟨_, rfl, (fun h => by first | rfl | cases h), (fun h => by first | rfl | cases h), (fun h => by first | rfl | cases h), by decide⟩⟩
theorem n_X10_79 : ax_NW RX10 79 7 15 [2, 2, 2, 2, 0, 2, 2, 2, 2, 2, 2, 2, 0, 2, 0] := ⟨RX7, TX7, tyX7, rfl, k_X7, tyX7_ok, (ax_in 416 (by decide +kernel) rfl), (ax_in 417 (by decide +kernel) rfl), (ax_in 126 (by decide +kernel) rfl), fun j hj => by
  rcases (show j = 0 ∨ j = 1 ∨ j = 2 ∨ j = 3 ∨ j = 4 ∨ j = 5 ∨ j = 6 ∨ j = 7 ∨ j = 8 ∨ j = 9 ∨ j = 10 ∨ j = 11 ∨ j = 12 ∨ j = 13 ∨ j = 14 by omega) with rfl | rfl | rfl | rfl | rfl | rfl | rfl | rfl | rfl | rfl | rfl | rfl | rfl | rfl | rfl <;> exact ⟨_, rfl, (fun h => by first | rfl | cases h), (fun h => by first | rfl | cases h), (fun h => by first | rfl | cases h), by decide⟩⟩
theorem n_X10_86 : ax_NW RX10 86 4 7 [2, 2, 2, 0, 0, 0, 0] := ⟨RX4, TX4, tyX4, rfl, k_X4, tyX4_ok, (ax_in 470 (by decide +kernel) rfl), (ax_in 471 (by decide +kernel) rfl), (ax_in 127 (by decide +kernel) rfl), fun j hj => by
  rcases (show j = 0 ∨ j = 1 ∨ j = 2 ∨ j = 3 ∨ j = 4 ∨ j = 5 ∨ j = 6 by omega) with rfl | rfl | rfl | rfl | rfl | rfl | rfl <;> exact ⟨_, rfl, (fun h => by first | rfl | cases h), (fun h => by first | rfl | cases h), (fun h => by first | rfl | cases h), by decide⟩⟩
theorem n_X10_9 : ax_NW RX10 9 8 2 [2, 0] := ⟨RX8, TX8, tyX8, rfl, k_X8, tyX8_ok, (ax_in 145 (by decide +kernel) rfl), (ax_in 146 (by decide +kernel) rfl), (ax_in 118 (by decide +kernel) rfl), fun j hj => by
  rcases (show j = 0 ∨ j = 1 by omega) with rfl | rfl <;> exact ⟨_, rfl, (fun h => by first | rfl | cases h), (fun h => by first | rfl | cases h), (fun h => by first | rfl | cases h), by decide⟩⟩
theorem n_X5_9 : ax_NW RX5 9 3 5 [0, 0, 0, 0, 2] := ⟨RX3, TX3, tyX3, rfl, k_X3, tyX3_ok, (ax_in 168 (by decide +kernel) rfl), (ax_in 169 (by decide +kernel) rfl), (ax_in 120 (by decide +kernel) rfl), fun j hj => by
  rcases (show j = 0 ∨ j = 1 ∨ j = 2 ∨ j = 3 ∨ j = 4 by omega) with rfl | rfl | rfl | rfl | rfl <;> exact ⟨_, rfl, (fun h => by first | rfl | cases h), (fun h => by first | rfl | cases h), (fun h => by first | rfl | cases h), by decide⟩⟩
theorem p_X0_15 : ax_FP RX0 15 0 3 (.array .boolean) true := ⟨RX0, TX0, 8, rfl, k_X0, by decide, rfl, ⟨tyX0, tyX0_ok⟩, nmX0, (by decide +kernel), rfl, Or.inl ⟨(ax_in 251 (by decide +kernel) rfl), fun h => rfl⟩⟩
theorem p_X0_19 : ax_FP RX0 19 0 4 (.array .boolean) true := ⟨RX0, TX0, 8, rfl, k_X0, by decide, rfl, ⟨tyX0, tyX0_ok⟩, nmX0, (by decide +kernel), rfl, Or.inl ⟨(ax_in 255 (by decide +kernel) rfl), fun h => rfl⟩⟩
theorem p_X0_22 : ax_FP RX0 22 0 5 (.array .int) true := ⟨RX0, TX0, 8, rfl, k_X0, by decide, rfl, ⟨tyX0, tyX0_ok⟩, nmX0, (by decide +kernel), rfl, Or.inl ⟨(ax_in 259 (by decide +kernel) rfl), fun h => rfl⟩⟩
theorem p_X0_25 : ax_FP RX0 25 0 6 (.array .int) true := ⟨RX0, TX0, 8, rfl, k_X0, by decide, rfl, ⟨tyX0, tyX0_ok⟩, nmX0, (by decide +kernel), rfl, Or.inl ⟨(ax_in 262 (by decide +kernel) rfl), fun h => rfl⟩⟩
theorem p_X0_28 : ax_FP RX0 28 0 7 (.array .boolean) true := ⟨RX0, TX0, 8, rfl, k_X0, by decide, rfl, ⟨tyX0, tyX0_ok⟩, nmX0, (by decide +kernel), rfl, Or.inl ⟨(ax_in 265 (by decide +kernel) rfl), fun h => rfl⟩⟩
theorem p_X0_31 : ax_FP RX0 31 0 0 .int false := ⟨RX0, TX0, 8, rfl, k_X0, by decide, rfl, ⟨tyX0, tyX0_ok⟩, nmX0, (by decide +kernel), rfl, Or.inl ⟨(ax_in 238 (by decide +kernel) rfl), fun h => by cases h⟩⟩
theorem p_X0_35 : ax_FP RX0 35 0 1 .int false := ⟨RX0, TX0, 8, rfl, k_X0, by decide, rfl, ⟨tyX0, tyX0_ok⟩, nmX0, (by decide +kernel), rfl, Or.inl ⟨(ax_in 243 (by decide +kernel) rfl), fun h => by cases h⟩⟩
theorem p_X0_9 : ax_FP RX0 9 0 2 (.array .int) true := ⟨RX0, TX0, 8, rfl, k_X0, by decide, rfl, ⟨tyX0, tyX0_ok⟩, nmX0, (by decide +kernel), rfl, Or.inl ⟨(ax_in 246 (by decide +kernel) rfl), fun h => rfl⟩⟩
theorem p_X1_15 : ax_FP RX1 15 1 5 .int false := ⟨RX1, TX1, 8, rfl, k_X1, by decide, rfl, ⟨tyX1, tyX1_ok⟩, nmX1, (by decide +kernel), rfl, Or.inl ⟨(ax_in 396 (by decide +kernel) rfl), fun h => by cases h⟩⟩
theorem p_X1_19 : ax_FP RX1 19 1 6 .int false := ⟨RX1, TX1, 8, rfl, k_X1, by decide, rfl, ⟨tyX1, tyX1_ok⟩, nmX1, (by decide +kernel), rfl, Or.inl ⟨(ax_in 397 (by decide +kernel) rfl), fun h => by cases h⟩⟩
theorem p_X1_22 : ax_FP RX1 22 1 7 .int false := ⟨RX1, TX1, 8, rfl, k_X1, by decide, rfl, ⟨tyX1, tyX1_ok⟩, nmX1, (by decide +kernel), rfl, Or.inl ⟨(ax_in 398 (by decide +kernel) rfl), fun h => by cases h⟩⟩
theorem p_X1_25 : ax_FP RX1 25 1 0 (.object "LastLamps$Pit") true := ⟨RX1, TX1, 8, rfl, k_X1, by decide, rfl, ⟨tyX1, tyX1_ok⟩, nmX1, (by decide +kernel), rfl, Or.inl ⟨(ax_in 391 (by decide +kernel) rfl), fun h => rfl⟩⟩
theorem p_X1_29 : ax_FP RX1 29 1 1 (.object "LastLamps$Crew") true := ⟨RX1, TX1, 8, rfl, k_X1, by decide, rfl, ⟨tyX1, tyX1_ok⟩, nmX1, (by decide +kernel), rfl, Or.inl ⟨(ax_in 392 (by decide +kernel) rfl), fun h => rfl⟩⟩
theorem p_X1_33 : ax_FP RX1 33 1 2 (.object "LastLamps$Walks") true := ⟨RX1, TX1, 8, rfl, k_X1, by decide, rfl, ⟨tyX1, tyX1_ok⟩, nmX1, (by decide +kernel), rfl, Or.inl ⟨(ax_in 393 (by decide +kernel) rfl), fun h => rfl⟩⟩
theorem p_X1_51 : ax_FP RX1 51 1 4 .int false := ⟨RX1, TX1, 8, rfl, k_X1, by decide, rfl, ⟨tyX1, tyX1_ok⟩, nmX1, (by decide +kernel), rfl, Or.inl ⟨(ax_in 395 (by decide +kernel) rfl), fun h => by cases h⟩⟩
theorem p_X1_9 : ax_FP RX1 9 1 3 (.array .int) true := ⟨RX1, TX1, 8, rfl, k_X1, by decide, rfl, ⟨tyX1, tyX1_ok⟩, nmX1, (by decide +kernel), rfl, Or.inl ⟨(ax_in 394 (by decide +kernel) rfl), fun h => rfl⟩⟩
theorem p_X10_103 : ax_FP RX10 103 8 1 .int false := ⟨RX8, TX8, 2, rfl, k_X8, by decide, rfl, ⟨tyX8, tyX8_ok⟩, nmX8, (by decide +kernel), rfl, Or.inr ⟨rfl, "LastLamps", (ax_in 154 (by decide +kernel) rfl)⟩⟩
theorem p_X10_12 : ax_FP RX10 12 10 0 (.object "LastLamps$Text") true := ⟨RX10, TX10, 13, rfl, k_X10, by decide, rfl, ⟨tyX10, tyX10_ok⟩, nmX10, (by decide +kernel), rfl, Or.inl ⟨(ax_in 501 (by decide +kernel) rfl), fun h => rfl⟩⟩
theorem p_X10_125 : ax_FP RX10 125 6 1 .int false := ⟨RX6, TX6, 2, rfl, k_X6, by decide, rfl, ⟨tyX6, tyX6_ok⟩, nmX6, (by decide +kernel), rfl, Or.inr ⟨rfl, "LastLamps", (ax_in 299 (by decide +kernel) rfl)⟩⟩
theorem p_X10_21 : ax_FP RX10 21 10 1 (.object "LastLamps$Reader") true := ⟨RX10, TX10, 13, rfl, k_X10, by decide, rfl, ⟨tyX10, tyX10_ok⟩, nmX10, (by decide +kernel), rfl, Or.inl ⟨(ax_in 502 (by decide +kernel) rfl), fun h => rfl⟩⟩
theorem p_X10_28 : ax_FP RX10 28 10 2 (.object "LastLamps$Pit") true := ⟨RX10, TX10, 13, rfl, k_X10, by decide, rfl, ⟨tyX10, tyX10_ok⟩, nmX10, (by decide +kernel), rfl, Or.inl ⟨(ax_in 503 (by decide +kernel) rfl), fun h => rfl⟩⟩
theorem p_X10_35 : ax_FP RX10 35 10 3 (.object "LastLamps$Crew") true := ⟨RX10, TX10, 13, rfl, k_X10, by decide, rfl, ⟨tyX10, tyX10_ok⟩, nmX10, (by decide +kernel), rfl, Or.inl ⟨(ax_in 504 (by decide +kernel) rfl), fun h => rfl⟩⟩
theorem p_X10_39 : ax_FP RX10 39 10 4 (.array (.object "LastLamps$Crew")) true := ⟨RX10, TX10, 13, rfl, k_X10, by decide, rfl, ⟨tyX10, tyX10_ok⟩, nmX10, (by decide +kernel), rfl, Or.inl ⟨(ax_in 505 (by decide +kernel) rfl), fun h => rfl⟩⟩
theorem p_X10_43 : ax_FP RX10 43 10 5 (.array .boolean) true := ⟨RX10, TX10, 13, rfl, k_X10, by decide, rfl, ⟨tyX10, tyX10_ok⟩, nmX10, (by decide +kernel), rfl, Or.inl ⟨(ax_in 506 (by decide +kernel) rfl), fun h => rfl⟩⟩
theorem p_X10_50 : ax_FP RX10 50 10 6 (.object "LastLamps$Row") true := ⟨RX10, TX10, 13, rfl, k_X10, by decide, rfl, ⟨tyX10, tyX10_ok⟩, nmX10, (by decide +kernel), rfl, Or.inl ⟨(ax_in 507 (by decide +kernel) rfl), fun h => rfl⟩⟩
theorem p_X10_59 : ax_FP RX10 59 10 7 (.object "LastLamps$Walks") true := ⟨RX10, TX10, 13, rfl, k_X10, by decide, rfl, ⟨tyX10, tyX10_ok⟩, nmX10, (by decide +kernel), rfl, Or.inl ⟨(ax_in 508 (by decide +kernel) rfl), fun h => rfl⟩⟩
theorem p_X10_66 : ax_FP RX10 66 10 8 (.object "LastLamps$Lifting") true := ⟨RX10, TX10, 13, rfl, k_X10, by decide, rfl, ⟨tyX10, tyX10_ok⟩, nmX10, (by decide +kernel), rfl, Or.inl ⟨(ax_in 509 (by decide +kernel) rfl), fun h => rfl⟩⟩
theorem p_X10_75 : ax_FP RX10 75 10 9 (.object "LastLamps$Leaving") true := ⟨RX10, TX10, 13, rfl, k_X10, by decide, rfl, ⟨tyX10, tyX10_ok⟩, nmX10, (by decide +kernel), rfl, Or.inl ⟨(ax_in 510 (by decide +kernel) rfl), fun h => rfl⟩⟩
theorem p_X10_82 : ax_FP RX10 82 10 10 (.object "LastLamps$Telling") true := ⟨RX10, TX10, 13, rfl, k_X10, by decide, rfl, ⟨tyX10, tyX10_ok⟩, nmX10, (by decide +kernel), rfl, Or.inl ⟨(ax_in 511 (by decide +kernel) rfl), fun h => rfl⟩⟩
theorem p_X10_91 : ax_FP RX10 91 10 11 (.object "LastLamps$Plans") true := ⟨RX10, TX10, 13, rfl, k_X10, by decide, rfl, ⟨tyX10, tyX10_ok⟩, nmX10, (by decide +kernel), rfl, Or.inl ⟨(ax_in 512 (by decide +kernel) rfl), fun h => rfl⟩⟩
theorem p_X10_95 : ax_FP RX10 95 10 12 .int false := ⟨RX10, TX10, 13, rfl, k_X10, by decide, rfl, ⟨tyX10, tyX10_ok⟩, nmX10, (by decide +kernel), rfl, Or.inl ⟨(ax_in 513 (by decide +kernel) rfl), fun h => by cases h⟩⟩
theorem p_X11_102 : ax_FP RX11 102 11 48 (.array .int) true := ⟨RX11, TX11, 61, rfl, k_X11, by decide, rfl, ⟨tyX11, tyX11_ok⟩, nmX11, (by decide +kernel), rfl, Or.inl ⟨(ax_in 1154 (by decide +kernel) rfl), fun h => rfl⟩⟩
theorem p_X11_105 : ax_FP RX11 105 11 49 (.array .int) true := ⟨RX11, TX11, 61, rfl, k_X11, by decide, rfl, ⟨tyX11, tyX11_ok⟩, nmX11, (by decide +kernel), rfl, Or.inl ⟨(ax_in 1155 (by decide +kernel) rfl), fun h => rfl⟩⟩
theorem p_X11_108 : ax_FP RX11 108 11 51 (.array .int) true := ⟨RX11, TX11, 61, rfl, k_X11, by decide, rfl, ⟨tyX11, tyX11_ok⟩, nmX11, (by decide +kernel), rfl, Or.inl ⟨(ax_in 1157 (by decide +kernel) rfl), fun h => rfl⟩⟩
theorem p_X11_111 : ax_FP RX11 111 11 54 (.array .int) true := ⟨RX11, TX11, 61, rfl, k_X11, by decide, rfl, ⟨tyX11, tyX11_ok⟩, nmX11, (by decide +kernel), rfl, Or.inl ⟨(ax_in 1160 (by decide +kernel) rfl), fun h => rfl⟩⟩
theorem p_X11_114 : ax_FP RX11 114 11 55 (.array .int) true := ⟨RX11, TX11, 61, rfl, k_X11, by decide, rfl, ⟨tyX11, tyX11_ok⟩, nmX11, (by decide +kernel), rfl, Or.inl ⟨(ax_in 1161 (by decide +kernel) rfl), fun h => rfl⟩⟩
theorem p_X11_117 : ax_FP RX11 117 11 56 (.array .long) true := ⟨RX11, TX11, 61, rfl, k_X11, by decide, rfl, ⟨tyX11, tyX11_ok⟩, nmX11, (by decide +kernel), rfl, Or.inl ⟨(ax_in 1162 (by decide +kernel) rfl), fun h => rfl⟩⟩
theorem p_X11_121 : ax_FP RX11 121 11 57 (.array .int) true := ⟨RX11, TX11, 61, rfl, k_X11, by decide, rfl, ⟨tyX11, tyX11_ok⟩, nmX11, (by decide +kernel), rfl, Or.inl ⟨(ax_in 1163 (by decide +kernel) rfl), fun h => rfl⟩⟩
theorem p_X11_124 : ax_FP RX11 124 11 58 (.array .int) true := ⟨RX11, TX11, 61, rfl, k_X11, by decide, rfl, ⟨tyX11, tyX11_ok⟩, nmX11, (by decide +kernel), rfl, Or.inl ⟨(ax_in 1164 (by decide +kernel) rfl), fun h => rfl⟩⟩
theorem p_X11_127 : ax_FP RX11 127 11 59 (.array .int) true := ⟨RX11, TX11, 61, rfl, k_X11, by decide, rfl, ⟨tyX11, tyX11_ok⟩, nmX11, (by decide +kernel), rfl, Or.inl ⟨(ax_in 1165 (by decide +kernel) rfl), fun h => rfl⟩⟩
theorem p_X11_13 : ax_FP RX11 13 11 4 (.array .int) true := ⟨RX11, TX11, 61, rfl, k_X11, by decide, rfl, ⟨tyX11, tyX11_ok⟩, nmX11, (by decide +kernel), rfl, Or.inl ⟨(ax_in 1110 (by decide +kernel) rfl), fun h => rfl⟩⟩
theorem p_X11_130 : ax_FP RX11 130 11 60 (.array .boolean) true := ⟨RX11, TX11, 61, rfl, k_X11, by decide, rfl, ⟨tyX11, tyX11_ok⟩, nmX11, (by decide +kernel), rfl, Or.inl ⟨(ax_in 1166 (by decide +kernel) rfl), fun h => rfl⟩⟩
theorem p_X11_133 : ax_FP RX11 133 11 0 .int false := ⟨RX11, TX11, 61, rfl, k_X11, by decide, rfl, ⟨tyX11, tyX11_ok⟩, nmX11, (by decide +kernel), rfl, Or.inl ⟨(ax_in 1106 (by decide +kernel) rfl), fun h => by cases h⟩⟩
theorem p_X11_140 : ax_FP RX11 140 11 3 .int false := ⟨RX11, TX11, 61, rfl, k_X11, by decide, rfl, ⟨tyX11, tyX11_ok⟩, nmX11, (by decide +kernel), rfl, Or.inl ⟨(ax_in 1109 (by decide +kernel) rfl), fun h => by cases h⟩⟩
theorem p_X11_145 : ax_FP RX11 145 11 13 .int false := ⟨RX11, TX11, 61, rfl, k_X11, by decide, rfl, ⟨tyX11, tyX11_ok⟩, nmX11, (by decide +kernel), rfl, Or.inl ⟨(ax_in 1119 (by decide +kernel) rfl), fun h => by cases h⟩⟩
theorem p_X11_150 : ax_FP RX11 150 11 15 .int false := ⟨RX11, TX11, 61, rfl, k_X11, by decide, rfl, ⟨tyX11, tyX11_ok⟩, nmX11, (by decide +kernel), rfl, Or.inl ⟨(ax_in 1121 (by decide +kernel) rfl), fun h => by cases h⟩⟩
theorem p_X11_157 : ax_FP RX11 157 11 16 .long false := ⟨RX11, TX11, 61, rfl, k_X11, by decide, rfl, ⟨tyX11, tyX11_ok⟩, nmX11, (by decide +kernel), rfl, Or.inl ⟨(ax_in 1122 (by decide +kernel) rfl), fun h => by cases h⟩⟩
theorem p_X11_161 : ax_FP RX11 161 11 17 .int false := ⟨RX11, TX11, 61, rfl, k_X11, by decide, rfl, ⟨tyX11, tyX11_ok⟩, nmX11, (by decide +kernel), rfl, Or.inl ⟨(ax_in 1123 (by decide +kernel) rfl), fun h => by cases h⟩⟩
theorem p_X11_17 : ax_FP RX11 17 11 5 (.array .int) true := ⟨RX11, TX11, 61, rfl, k_X11, by decide, rfl, ⟨tyX11, tyX11_ok⟩, nmX11, (by decide +kernel), rfl, Or.inl ⟨(ax_in 1111 (by decide +kernel) rfl), fun h => rfl⟩⟩
theorem p_X11_184 : ax_FP RX11 184 11 19 .int false := ⟨RX11, TX11, 61, rfl, k_X11, by decide, rfl, ⟨tyX11, tyX11_ok⟩, nmX11, (by decide +kernel), rfl, Or.inl ⟨(ax_in 1125 (by decide +kernel) rfl), fun h => by cases h⟩⟩
theorem p_X11_187 : ax_FP RX11 187 11 18 .int false := ⟨RX11, TX11, 61, rfl, k_X11, by decide, rfl, ⟨tyX11, tyX11_ok⟩, nmX11, (by decide +kernel), rfl, Or.inl ⟨(ax_in 1124 (by decide +kernel) rfl), fun h => by cases h⟩⟩
theorem p_X11_20 : ax_FP RX11 20 11 6 (.array .int) true := ⟨RX11, TX11, 61, rfl, k_X11, by decide, rfl, ⟨tyX11, tyX11_ok⟩, nmX11, (by decide +kernel), rfl, Or.inl ⟨(ax_in 1112 (by decide +kernel) rfl), fun h => rfl⟩⟩
theorem p_X11_204 : ax_FP RX11 204 11 20 .int false := ⟨RX11, TX11, 61, rfl, k_X11, by decide, rfl, ⟨tyX11, tyX11_ok⟩, nmX11, (by decide +kernel), rfl, Or.inl ⟨(ax_in 1126 (by decide +kernel) rfl), fun h => by cases h⟩⟩
theorem p_X11_210 : ax_FP RX11 210 11 21 .int false := ⟨RX11, TX11, 61, rfl, k_X11, by decide, rfl, ⟨tyX11, tyX11_ok⟩, nmX11, (by decide +kernel), rfl, Or.inl ⟨(ax_in 1127 (by decide +kernel) rfl), fun h => by cases h⟩⟩
theorem p_X11_213 : ax_FP RX11 213 11 22 .int false := ⟨RX11, TX11, 61, rfl, k_X11, by decide, rfl, ⟨tyX11, tyX11_ok⟩, nmX11, (by decide +kernel), rfl, Or.inl ⟨(ax_in 1128 (by decide +kernel) rfl), fun h => by cases h⟩⟩
theorem p_X11_216 : ax_FP RX11 216 11 23 .int false := ⟨RX11, TX11, 61, rfl, k_X11, by decide, rfl, ⟨tyX11, tyX11_ok⟩, nmX11, (by decide +kernel), rfl, Or.inl ⟨(ax_in 1129 (by decide +kernel) rfl), fun h => by cases h⟩⟩
theorem p_X11_23 : ax_FP RX11 23 11 7 (.array .int) true := ⟨RX11, TX11, 61, rfl, k_X11, by decide, rfl, ⟨tyX11, tyX11_ok⟩, nmX11, (by decide +kernel), rfl, Or.inl ⟨(ax_in 1113 (by decide +kernel) rfl), fun h => rfl⟩⟩
theorem p_X11_237 : ax_FP RX11 237 11 2 .int false := ⟨RX11, TX11, 61, rfl, k_X11, by decide, rfl, ⟨tyX11, tyX11_ok⟩, nmX11, (by decide +kernel), rfl, Or.inl ⟨(ax_in 1108 (by decide +kernel) rfl), fun h => by cases h⟩⟩
theorem p_X11_240 : ax_FP RX11 240 11 25 .int false := ⟨RX11, TX11, 61, rfl, k_X11, by decide, rfl, ⟨tyX11, tyX11_ok⟩, nmX11, (by decide +kernel), rfl, Or.inl ⟨(ax_in 1131 (by decide +kernel) rfl), fun h => by cases h⟩⟩
theorem p_X11_243 : ax_FP RX11 243 11 29 .int false := ⟨RX11, TX11, 61, rfl, k_X11, by decide, rfl, ⟨tyX11, tyX11_ok⟩, nmX11, (by decide +kernel), rfl, Or.inl ⟨(ax_in 1135 (by decide +kernel) rfl), fun h => by cases h⟩⟩
theorem p_X11_246 : ax_FP RX11 246 11 50 .int false := ⟨RX11, TX11, 61, rfl, k_X11, by decide, rfl, ⟨tyX11, tyX11_ok⟩, nmX11, (by decide +kernel), rfl, Or.inl ⟨(ax_in 1156 (by decide +kernel) rfl), fun h => by cases h⟩⟩
theorem p_X11_26 : ax_FP RX11 26 11 8 (.array .int) true := ⟨RX11, TX11, 61, rfl, k_X11, by decide, rfl, ⟨tyX11, tyX11_ok⟩, nmX11, (by decide +kernel), rfl, Or.inl ⟨(ax_in 1114 (by decide +kernel) rfl), fun h => rfl⟩⟩
theorem p_X11_269 : ax_FP RX11 269 11 33 .int false := ⟨RX11, TX11, 61, rfl, k_X11, by decide, rfl, ⟨tyX11, tyX11_ok⟩, nmX11, (by decide +kernel), rfl, Or.inl ⟨(ax_in 1139 (by decide +kernel) rfl), fun h => by cases h⟩⟩
theorem p_X11_29 : ax_FP RX11 29 11 9 (.array .int) true := ⟨RX11, TX11, 61, rfl, k_X11, by decide, rfl, ⟨tyX11, tyX11_ok⟩, nmX11, (by decide +kernel), rfl, Or.inl ⟨(ax_in 1115 (by decide +kernel) rfl), fun h => rfl⟩⟩
theorem p_X11_295 : ax_FP RX11 295 11 43 .int false := ⟨RX11, TX11, 61, rfl, k_X11, by decide, rfl, ⟨tyX11, tyX11_ok⟩, nmX11, (by decide +kernel), rfl, Or.inl ⟨(ax_in 1149 (by decide +kernel) rfl), fun h => by cases h⟩⟩
theorem p_X11_32 : ax_FP RX11 32 11 10 (.array .int) true := ⟨RX11, TX11, 61, rfl, k_X11, by decide, rfl, ⟨tyX11, tyX11_ok⟩, nmX11, (by decide +kernel), rfl, Or.inl ⟨(ax_in 1116 (by decide +kernel) rfl), fun h => rfl⟩⟩
theorem p_X11_340 : ax_FP RX11 340 11 47 .int false := ⟨RX11, TX11, 61, rfl, k_X11, by decide, rfl, ⟨tyX11, tyX11_ok⟩, nmX11, (by decide +kernel), rfl, Or.inl ⟨(ax_in 1153 (by decide +kernel) rfl), fun h => by cases h⟩⟩
theorem p_X11_35 : ax_FP RX11 35 11 11 (.array .boolean) true := ⟨RX11, TX11, 61, rfl, k_X11, by decide, rfl, ⟨tyX11, tyX11_ok⟩, nmX11, (by decide +kernel), rfl, Or.inl ⟨(ax_in 1117 (by decide +kernel) rfl), fun h => rfl⟩⟩
theorem p_X11_375 : ax_FP RX11 375 11 52 .int false := ⟨RX11, TX11, 61, rfl, k_X11, by decide, rfl, ⟨tyX11, tyX11_ok⟩, nmX11, (by decide +kernel), rfl, Or.inl ⟨(ax_in 1158 (by decide +kernel) rfl), fun h => by cases h⟩⟩
theorem p_X11_380 : ax_FP RX11 380 11 53 .long false := ⟨RX11, TX11, 61, rfl, k_X11, by decide, rfl, ⟨tyX11, tyX11_ok⟩, nmX11, (by decide +kernel), rfl, Or.inl ⟨(ax_in 1159 (by decide +kernel) rfl), fun h => by cases h⟩⟩
theorem p_X11_39 : ax_FP RX11 39 11 12 (.array .int) true := ⟨RX11, TX11, 61, rfl, k_X11, by decide, rfl, ⟨tyX11, tyX11_ok⟩, nmX11, (by decide +kernel), rfl, Or.inl ⟨(ax_in 1118 (by decide +kernel) rfl), fun h => rfl⟩⟩
theorem p_X11_42 : ax_FP RX11 42 11 14 .int false := ⟨RX11, TX11, 61, rfl, k_X11, by decide, rfl, ⟨tyX11, tyX11_ok⟩, nmX11, (by decide +kernel), rfl, Or.inl ⟨(ax_in 1120 (by decide +kernel) rfl), fun h => by cases h⟩⟩
theorem p_X11_45 : ax_FP RX11 45 11 24 (.array .int) true := ⟨RX11, TX11, 61, rfl, k_X11, by decide, rfl, ⟨tyX11, tyX11_ok⟩, nmX11, (by decide +kernel), rfl, Or.inl ⟨(ax_in 1130 (by decide +kernel) rfl), fun h => rfl⟩⟩
theorem p_X11_48 : ax_FP RX11 48 11 26 (.array .int) true := ⟨RX11, TX11, 61, rfl, k_X11, by decide, rfl, ⟨tyX11, tyX11_ok⟩, nmX11, (by decide +kernel), rfl, Or.inl ⟨(ax_in 1132 (by decide +kernel) rfl), fun h => rfl⟩⟩
theorem p_X11_51 : ax_FP RX11 51 11 27 (.array .boolean) true := ⟨RX11, TX11, 61, rfl, k_X11, by decide, rfl, ⟨tyX11, tyX11_ok⟩, nmX11, (by decide +kernel), rfl, Or.inl ⟨(ax_in 1133 (by decide +kernel) rfl), fun h => rfl⟩⟩
theorem p_X11_54 : ax_FP RX11 54 11 28 (.array .boolean) true := ⟨RX11, TX11, 61, rfl, k_X11, by decide, rfl, ⟨tyX11, tyX11_ok⟩, nmX11, (by decide +kernel), rfl, Or.inl ⟨(ax_in 1134 (by decide +kernel) rfl), fun h => rfl⟩⟩
theorem p_X11_57 : ax_FP RX11 57 11 30 (.array .int) true := ⟨RX11, TX11, 61, rfl, k_X11, by decide, rfl, ⟨tyX11, tyX11_ok⟩, nmX11, (by decide +kernel), rfl, Or.inl ⟨(ax_in 1136 (by decide +kernel) rfl), fun h => rfl⟩⟩
theorem p_X11_60 : ax_FP RX11 60 11 31 (.array .int) true := ⟨RX11, TX11, 61, rfl, k_X11, by decide, rfl, ⟨tyX11, tyX11_ok⟩, nmX11, (by decide +kernel), rfl, Or.inl ⟨(ax_in 1137 (by decide +kernel) rfl), fun h => rfl⟩⟩
theorem p_X11_63 : ax_FP RX11 63 11 32 .int false := ⟨RX11, TX11, 61, rfl, k_X11, by decide, rfl, ⟨tyX11, tyX11_ok⟩, nmX11, (by decide +kernel), rfl, Or.inl ⟨(ax_in 1138 (by decide +kernel) rfl), fun h => by cases h⟩⟩
theorem p_X11_66 : ax_FP RX11 66 11 34 (.array .int) true := ⟨RX11, TX11, 61, rfl, k_X11, by decide, rfl, ⟨tyX11, tyX11_ok⟩, nmX11, (by decide +kernel), rfl, Or.inl ⟨(ax_in 1140 (by decide +kernel) rfl), fun h => rfl⟩⟩
theorem p_X11_69 : ax_FP RX11 69 11 35 (.array .int) true := ⟨RX11, TX11, 61, rfl, k_X11, by decide, rfl, ⟨tyX11, tyX11_ok⟩, nmX11, (by decide +kernel), rfl, Or.inl ⟨(ax_in 1141 (by decide +kernel) rfl), fun h => rfl⟩⟩
theorem p_X11_72 : ax_FP RX11 72 11 36 (.array .int) true := ⟨RX11, TX11, 61, rfl, k_X11, by decide, rfl, ⟨tyX11, tyX11_ok⟩, nmX11, (by decide +kernel), rfl, Or.inl ⟨(ax_in 1142 (by decide +kernel) rfl), fun h => rfl⟩⟩
theorem p_X11_75 : ax_FP RX11 75 11 37 (.array .int) true := ⟨RX11, TX11, 61, rfl, k_X11, by decide, rfl, ⟨tyX11, tyX11_ok⟩, nmX11, (by decide +kernel), rfl, Or.inl ⟨(ax_in 1143 (by decide +kernel) rfl), fun h => rfl⟩⟩
theorem p_X11_78 : ax_FP RX11 78 11 38 (.array .int) true := ⟨RX11, TX11, 61, rfl, k_X11, by decide, rfl, ⟨tyX11, tyX11_ok⟩, nmX11, (by decide +kernel), rfl, Or.inl ⟨(ax_in 1144 (by decide +kernel) rfl), fun h => rfl⟩⟩
theorem p_X11_81 : ax_FP RX11 81 11 39 (.array .boolean) true := ⟨RX11, TX11, 61, rfl, k_X11, by decide, rfl, ⟨tyX11, tyX11_ok⟩, nmX11, (by decide +kernel), rfl, Or.inl ⟨(ax_in 1145 (by decide +kernel) rfl), fun h => rfl⟩⟩
theorem p_X11_84 : ax_FP RX11 84 11 40 (.array .int) true := ⟨RX11, TX11, 61, rfl, k_X11, by decide, rfl, ⟨tyX11, tyX11_ok⟩, nmX11, (by decide +kernel), rfl, Or.inl ⟨(ax_in 1146 (by decide +kernel) rfl), fun h => rfl⟩⟩
theorem p_X11_87 : ax_FP RX11 87 11 41 (.array .int) true := ⟨RX11, TX11, 61, rfl, k_X11, by decide, rfl, ⟨tyX11, tyX11_ok⟩, nmX11, (by decide +kernel), rfl, Or.inl ⟨(ax_in 1147 (by decide +kernel) rfl), fun h => rfl⟩⟩
theorem p_X11_9 : ax_FP RX11 9 11 1 .int false := ⟨RX11, TX11, 61, rfl, k_X11, by decide, rfl, ⟨tyX11, tyX11_ok⟩, nmX11, (by decide +kernel), rfl, Or.inl ⟨(ax_in 1107 (by decide +kernel) rfl), fun h => by cases h⟩⟩
theorem p_X11_90 : ax_FP RX11 90 11 42 (.array .int) true := ⟨RX11, TX11, 61, rfl, k_X11, by decide, rfl, ⟨tyX11, tyX11_ok⟩, nmX11, (by decide +kernel), rfl, Or.inl ⟨(ax_in 1148 (by decide +kernel) rfl), fun h => rfl⟩⟩
theorem p_X11_93 : ax_FP RX11 93 11 44 (.array .int) true := ⟨RX11, TX11, 61, rfl, k_X11, by decide, rfl, ⟨tyX11, tyX11_ok⟩, nmX11, (by decide +kernel), rfl, Or.inl ⟨(ax_in 1150 (by decide +kernel) rfl), fun h => rfl⟩⟩
theorem p_X11_96 : ax_FP RX11 96 11 45 (.array .int) true := ⟨RX11, TX11, 61, rfl, k_X11, by decide, rfl, ⟨tyX11, tyX11_ok⟩, nmX11, (by decide +kernel), rfl, Or.inl ⟨(ax_in 1151 (by decide +kernel) rfl), fun h => rfl⟩⟩
theorem p_X11_99 : ax_FP RX11 99 11 46 (.array .int) true := ⟨RX11, TX11, 61, rfl, k_X11, by decide, rfl, ⟨tyX11, tyX11_ok⟩, nmX11, (by decide +kernel), rfl, Or.inl ⟨(ax_in 1152 (by decide +kernel) rfl), fun h => rfl⟩⟩
theorem p_X2_11 : ax_FP RX2 11 2 2 (.array .int) true := ⟨RX2, TX2, 12, rfl, k_X2, by decide, rfl, ⟨tyX2, tyX2_ok⟩, nmX2, (by decide +kernel), rfl, Or.inl ⟨(ax_in 350 (by decide +kernel) rfl), fun h => rfl⟩⟩
theorem p_X2_15 : ax_FP RX2 15 2 3 (.array .int) true := ⟨RX2, TX2, 12, rfl, k_X2, by decide, rfl, ⟨tyX2, tyX2_ok⟩, nmX2, (by decide +kernel), rfl, Or.inl ⟨(ax_in 351 (by decide +kernel) rfl), fun h => rfl⟩⟩
theorem p_X2_18 : ax_FP RX2 18 2 4 (.array .int) true := ⟨RX2, TX2, 12, rfl, k_X2, by decide, rfl, ⟨tyX2, tyX2_ok⟩, nmX2, (by decide +kernel), rfl, Or.inl ⟨(ax_in 352 (by decide +kernel) rfl), fun h => rfl⟩⟩
theorem p_X2_21 : ax_FP RX2 21 2 5 (.array .int) true := ⟨RX2, TX2, 12, rfl, k_X2, by decide, rfl, ⟨tyX2, tyX2_ok⟩, nmX2, (by decide +kernel), rfl, Or.inl ⟨(ax_in 353 (by decide +kernel) rfl), fun h => rfl⟩⟩
theorem p_X2_24 : ax_FP RX2 24 2 6 (.array .int) true := ⟨RX2, TX2, 12, rfl, k_X2, by decide, rfl, ⟨tyX2, tyX2_ok⟩, nmX2, (by decide +kernel), rfl, Or.inl ⟨(ax_in 354 (by decide +kernel) rfl), fun h => rfl⟩⟩
theorem p_X2_27 : ax_FP RX2 27 2 7 (.array .int) true := ⟨RX2, TX2, 12, rfl, k_X2, by decide, rfl, ⟨tyX2, tyX2_ok⟩, nmX2, (by decide +kernel), rfl, Or.inl ⟨(ax_in 355 (by decide +kernel) rfl), fun h => rfl⟩⟩
theorem p_X2_30 : ax_FP RX2 30 2 8 (.array .int) true := ⟨RX2, TX2, 12, rfl, k_X2, by decide, rfl, ⟨tyX2, tyX2_ok⟩, nmX2, (by decide +kernel), rfl, Or.inl ⟨(ax_in 356 (by decide +kernel) rfl), fun h => rfl⟩⟩
theorem p_X2_33 : ax_FP RX2 33 2 9 (.array .int) true := ⟨RX2, TX2, 12, rfl, k_X2, by decide, rfl, ⟨tyX2, tyX2_ok⟩, nmX2, (by decide +kernel), rfl, Or.inl ⟨(ax_in 357 (by decide +kernel) rfl), fun h => rfl⟩⟩
theorem p_X2_36 : ax_FP RX2 36 2 0 (.object "LastLamps$Pit") true := ⟨RX2, TX2, 12, rfl, k_X2, by decide, rfl, ⟨tyX2, tyX2_ok⟩, nmX2, (by decide +kernel), rfl, Or.inl ⟨(ax_in 348 (by decide +kernel) rfl), fun h => rfl⟩⟩
theorem p_X2_40 : ax_FP RX2 40 2 1 (.object "LastLamps$Crew") true := ⟨RX2, TX2, 12, rfl, k_X2, by decide, rfl, ⟨tyX2, tyX2_ok⟩, nmX2, (by decide +kernel), rfl, Or.inl ⟨(ax_in 349 (by decide +kernel) rfl), fun h => rfl⟩⟩
theorem p_X2_44 : ax_FP RX2 44 2 11 .int false := ⟨RX2, TX2, 12, rfl, k_X2, by decide, rfl, ⟨tyX2, tyX2_ok⟩, nmX2, (by decide +kernel), rfl, Or.inl ⟨(ax_in 359 (by decide +kernel) rfl), fun h => by cases h⟩⟩
theorem p_X2_90 : ax_FP RX2 90 2 10 .int false := ⟨RX2, TX2, 12, rfl, k_X2, by decide, rfl, ⟨tyX2, tyX2_ok⟩, nmX2, (by decide +kernel), rfl, Or.inl ⟨(ax_in 358 (by decide +kernel) rfl), fun h => by cases h⟩⟩
theorem p_X3_15 : ax_FP RX3 15 3 4 (.array .int) true := ⟨RX3, TX3, 5, rfl, k_X3, by decide, rfl, ⟨tyX3, tyX3_ok⟩, nmX3, (by decide +kernel), rfl, Or.inl ⟨(ax_in 196 (by decide +kernel) rfl), fun h => rfl⟩⟩
theorem p_X3_19 : ax_FP RX3 19 3 0 .int false := ⟨RX3, TX3, 5, rfl, k_X3, by decide, rfl, ⟨tyX3, tyX3_ok⟩, nmX3, (by decide +kernel), rfl, Or.inl ⟨(ax_in 174 (by decide +kernel) rfl), fun h => by cases h⟩⟩
theorem p_X3_22 : ax_FP RX3 22 3 1 .int false := ⟨RX3, TX3, 5, rfl, k_X3, by decide, rfl, ⟨tyX3, tyX3_ok⟩, nmX3, (by decide +kernel), rfl, Or.inl ⟨(ax_in 179 (by decide +kernel) rfl), fun h => by cases h⟩⟩
theorem p_X3_25 : ax_FP RX3 25 3 3 .int false := ⟨RX3, TX3, 5, rfl, k_X3, by decide, rfl, ⟨tyX3, tyX3_ok⟩, nmX3, (by decide +kernel), rfl, Or.inl ⟨(ax_in 192 (by decide +kernel) rfl), fun h => by cases h⟩⟩
theorem p_X3_9 : ax_FP RX3 9 3 2 .int false := ⟨RX3, TX3, 5, rfl, k_X3, by decide, rfl, ⟨tyX3, tyX3_ok⟩, nmX3, (by decide +kernel), rfl, Or.inl ⟨(ax_in 185 (by decide +kernel) rfl), fun h => by cases h⟩⟩
theorem p_X4_15 : ax_FP RX4 15 4 1 (.object "LastLamps$Row") true := ⟨RX4, TX4, 7, rfl, k_X4, by decide, rfl, ⟨tyX4, tyX4_ok⟩, nmX4, (by decide +kernel), rfl, Or.inl ⟨(ax_in 477 (by decide +kernel) rfl), fun h => rfl⟩⟩
theorem p_X4_19 : ax_FP RX4 19 4 2 (.object "LastLamps$Walks") true := ⟨RX4, TX4, 7, rfl, k_X4, by decide, rfl, ⟨tyX4, tyX4_ok⟩, nmX4, (by decide +kernel), rfl, Or.inl ⟨(ax_in 478 (by decide +kernel) rfl), fun h => rfl⟩⟩
theorem p_X4_23 : ax_FP RX4 23 4 3 .int false := ⟨RX4, TX4, 7, rfl, k_X4, by decide, rfl, ⟨tyX4, tyX4_ok⟩, nmX4, (by decide +kernel), rfl, Or.inl ⟨(ax_in 479 (by decide +kernel) rfl), fun h => by cases h⟩⟩
theorem p_X4_27 : ax_FP RX4 27 4 4 .int false := ⟨RX4, TX4, 7, rfl, k_X4, by decide, rfl, ⟨tyX4, tyX4_ok⟩, nmX4, (by decide +kernel), rfl, Or.inl ⟨(ax_in 481 (by decide +kernel) rfl), fun h => by cases h⟩⟩
theorem p_X4_31 : ax_FP RX4 31 4 5 .int false := ⟨RX4, TX4, 7, rfl, k_X4, by decide, rfl, ⟨tyX4, tyX4_ok⟩, nmX4, (by decide +kernel), rfl, Or.inl ⟨(ax_in 483 (by decide +kernel) rfl), fun h => by cases h⟩⟩
theorem p_X4_63 : ax_FP RX4 63 4 6 .int false := ⟨RX4, TX4, 7, rfl, k_X4, by decide, rfl, ⟨tyX4, tyX4_ok⟩, nmX4, (by decide +kernel), rfl, Or.inl ⟨(ax_in 485 (by decide +kernel) rfl), fun h => by cases h⟩⟩
theorem p_X4_9 : ax_FP RX4 9 4 0 (.object "LastLamps$Pit") true := ⟨RX4, TX4, 7, rfl, k_X4, by decide, rfl, ⟨tyX4, tyX4_ok⟩, nmX4, (by decide +kernel), rfl, Or.inl ⟨(ax_in 476 (by decide +kernel) rfl), fun h => rfl⟩⟩
theorem p_X5_12 : ax_FP RX5 12 5 1 (.object "LastLamps$Pit") true := ⟨RX5, TX5, 6, rfl, k_X5, by decide, rfl, ⟨tyX5, tyX5_ok⟩, nmX5, (by decide +kernel), rfl, Or.inl ⟨(ax_in 210 (by decide +kernel) rfl), fun h => rfl⟩⟩
theorem p_X5_18 : ax_FP RX5 18 5 5 .int false := ⟨RX5, TX5, 6, rfl, k_X5, by decide, rfl, ⟨tyX5, tyX5_ok⟩, nmX5, (by decide +kernel), rfl, Or.inl ⟨(ax_in 215 (by decide +kernel) rfl), fun h => by cases h⟩⟩
theorem p_X5_22 : ax_FP RX5 22 5 0 (.object "LastLamps$Text") true := ⟨RX5, TX5, 6, rfl, k_X5, by decide, rfl, ⟨tyX5, tyX5_ok⟩, nmX5, (by decide +kernel), rfl, Or.inl ⟨(ax_in 209 (by decide +kernel) rfl), fun h => rfl⟩⟩
theorem p_X5_26 : ax_FP RX5 26 5 2 .int false := ⟨RX5, TX5, 6, rfl, k_X5, by decide, rfl, ⟨tyX5, tyX5_ok⟩, nmX5, (by decide +kernel), rfl, Or.inl ⟨(ax_in 212 (by decide +kernel) rfl), fun h => by cases h⟩⟩
theorem p_X5_29 : ax_FP RX5 29 5 4 .int false := ⟨RX5, TX5, 6, rfl, k_X5, by decide, rfl, ⟨tyX5, tyX5_ok⟩, nmX5, (by decide +kernel), rfl, Or.inl ⟨(ax_in 214 (by decide +kernel) rfl), fun h => by cases h⟩⟩
theorem p_X5_45 : ax_FP RX5 45 3 2 .int false := ⟨RX3, TX3, 5, rfl, k_X3, by decide, rfl, ⟨tyX3, tyX3_ok⟩, nmX3, (by decide +kernel), rfl, Or.inr ⟨rfl, "LastLamps", (ax_in 186 (by decide +kernel) rfl)⟩⟩
theorem p_X5_62 : ax_FP RX5 62 3 0 .int false := ⟨RX3, TX3, 5, rfl, k_X3, by decide, rfl, ⟨tyX3, tyX3_ok⟩, nmX3, (by decide +kernel), rfl, Or.inr ⟨rfl, "LastLamps", (ax_in 175 (by decide +kernel) rfl)⟩⟩
theorem p_X5_78 : ax_FP RX5 78 3 3 .int false := ⟨RX3, TX3, 5, rfl, k_X3, by decide, rfl, ⟨tyX3, tyX3_ok⟩, nmX3, (by decide +kernel), rfl, Or.inr ⟨rfl, "LastLamps", (ax_in 193 (by decide +kernel) rfl)⟩⟩
theorem p_X5_81 : ax_FP RX5 81 3 1 .int false := ⟨RX3, TX3, 5, rfl, k_X3, by decide, rfl, ⟨tyX3, tyX3_ok⟩, nmX3, (by decide +kernel), rfl, Or.inr ⟨rfl, "LastLamps", (ax_in 184 (by decide +kernel) rfl)⟩⟩
theorem p_X5_84 : ax_FP RX5 84 5 3 .int false := ⟨RX5, TX5, 6, rfl, k_X5, by decide, rfl, ⟨tyX5, tyX5_ok⟩, nmX5, (by decide +kernel), rfl, Or.inl ⟨(ax_in 213 (by decide +kernel) rfl), fun h => by cases h⟩⟩
theorem p_X6_15 : ax_FP RX6 15 6 1 .int false := ⟨RX6, TX6, 2, rfl, k_X6, by decide, rfl, ⟨tyX6, tyX6_ok⟩, nmX6, (by decide +kernel), rfl, Or.inl ⟨(ax_in 297 (by decide +kernel) rfl), fun h => by cases h⟩⟩
theorem p_X6_9 : ax_FP RX6 9 6 0 (.array .int) true := ⟨RX6, TX6, 2, rfl, k_X6, by decide, rfl, ⟨tyX6, tyX6_ok⟩, nmX6, (by decide +kernel), rfl, Or.inl ⟨(ax_in 294 (by decide +kernel) rfl), fun h => rfl⟩⟩
theorem p_X7_15 : ax_FP RX7 15 7 5 (.array .int) true := ⟨RX7, TX7, 15, rfl, k_X7, by decide, rfl, ⟨tyX7, tyX7_ok⟩, nmX7, (by decide +kernel), rfl, Or.inl ⟨(ax_in 427 (by decide +kernel) rfl), fun h => rfl⟩⟩
theorem p_X7_18 : ax_FP RX7 18 7 6 (.array .int) true := ⟨RX7, TX7, 15, rfl, k_X7, by decide, rfl, ⟨tyX7, tyX7_ok⟩, nmX7, (by decide +kernel), rfl, Or.inl ⟨(ax_in 428 (by decide +kernel) rfl), fun h => rfl⟩⟩
theorem p_X7_21 : ax_FP RX7 21 7 7 (.array .int) true := ⟨RX7, TX7, 15, rfl, k_X7, by decide, rfl, ⟨tyX7, tyX7_ok⟩, nmX7, (by decide +kernel), rfl, Or.inl ⟨(ax_in 429 (by decide +kernel) rfl), fun h => rfl⟩⟩
theorem p_X7_24 : ax_FP RX7 24 7 8 (.array .int) true := ⟨RX7, TX7, 15, rfl, k_X7, by decide, rfl, ⟨tyX7, tyX7_ok⟩, nmX7, (by decide +kernel), rfl, Or.inl ⟨(ax_in 430 (by decide +kernel) rfl), fun h => rfl⟩⟩
theorem p_X7_27 : ax_FP RX7 27 7 9 (.array .int) true := ⟨RX7, TX7, 15, rfl, k_X7, by decide, rfl, ⟨tyX7, tyX7_ok⟩, nmX7, (by decide +kernel), rfl, Or.inl ⟨(ax_in 432 (by decide +kernel) rfl), fun h => rfl⟩⟩
theorem p_X7_30 : ax_FP RX7 30 7 10 (.array .int) true := ⟨RX7, TX7, 15, rfl, k_X7, by decide, rfl, ⟨tyX7, tyX7_ok⟩, nmX7, (by decide +kernel), rfl, Or.inl ⟨(ax_in 434 (by decide +kernel) rfl), fun h => rfl⟩⟩
theorem p_X7_33 : ax_FP RX7 33 7 11 (.array .int) true := ⟨RX7, TX7, 15, rfl, k_X7, by decide, rfl, ⟨tyX7, tyX7_ok⟩, nmX7, (by decide +kernel), rfl, Or.inl ⟨(ax_in 435 (by decide +kernel) rfl), fun h => rfl⟩⟩
theorem p_X7_36 : ax_FP RX7 36 7 13 (.array .int) false := ⟨RX7, TX7, 15, rfl, k_X7, by decide, rfl, ⟨tyX7, tyX7_ok⟩, nmX7, (by decide +kernel), rfl, Or.inl ⟨(ax_in 437 (by decide +kernel) rfl), fun h => by cases h⟩⟩
theorem p_X7_39 : ax_FP RX7 39 7 0 (.object "LastLamps$Pit") true := ⟨RX7, TX7, 15, rfl, k_X7, by decide, rfl, ⟨tyX7, tyX7_ok⟩, nmX7, (by decide +kernel), rfl, Or.inl ⟨(ax_in 422 (by decide +kernel) rfl), fun h => rfl⟩⟩
theorem p_X7_43 : ax_FP RX7 43 7 1 (.object "LastLamps$Crew") true := ⟨RX7, TX7, 15, rfl, k_X7, by decide, rfl, ⟨tyX7, tyX7_ok⟩, nmX7, (by decide +kernel), rfl, Or.inl ⟨(ax_in 423 (by decide +kernel) rfl), fun h => rfl⟩⟩
theorem p_X7_47 : ax_FP RX7 47 7 2 (.object "LastLamps$Walks") true := ⟨RX7, TX7, 15, rfl, k_X7, by decide, rfl, ⟨tyX7, tyX7_ok⟩, nmX7, (by decide +kernel), rfl, Or.inl ⟨(ax_in 424 (by decide +kernel) rfl), fun h => rfl⟩⟩
theorem p_X7_57 : ax_FP RX7 57 7 4 .int false := ⟨RX7, TX7, 15, rfl, k_X7, by decide, rfl, ⟨tyX7, tyX7_ok⟩, nmX7, (by decide +kernel), rfl, Or.inl ⟨(ax_in 426 (by decide +kernel) rfl), fun h => by cases h⟩⟩
theorem p_X7_89 : ax_FP RX7 89 7 14 .int false := ⟨RX7, TX7, 15, rfl, k_X7, by decide, rfl, ⟨tyX7, tyX7_ok⟩, nmX7, (by decide +kernel), rfl, Or.inl ⟨(ax_in 438 (by decide +kernel) rfl), fun h => by cases h⟩⟩
theorem p_X7_9 : ax_FP RX7 9 7 3 (.array .int) true := ⟨RX7, TX7, 15, rfl, k_X7, by decide, rfl, ⟨tyX7, tyX7_ok⟩, nmX7, (by decide +kernel), rfl, Or.inl ⟨(ax_in 425 (by decide +kernel) rfl), fun h => rfl⟩⟩
theorem p_X7_92 : ax_FP RX7 92 7 12 .int false := ⟨RX7, TX7, 15, rfl, k_X7, by decide, rfl, ⟨tyX7, tyX7_ok⟩, nmX7, (by decide +kernel), rfl, Or.inl ⟨(ax_in 436 (by decide +kernel) rfl), fun h => by cases h⟩⟩
theorem p_X8_15 : ax_FP RX8 15 8 1 .int false := ⟨RX8, TX8, 2, rfl, k_X8, by decide, rfl, ⟨tyX8, tyX8_ok⟩, nmX8, (by decide +kernel), rfl, Or.inl ⟨(ax_in 153 (by decide +kernel) rfl), fun h => by cases h⟩⟩
theorem p_X8_9 : ax_FP RX8 9 8 0 (.array .byte) true := ⟨RX8, TX8, 2, rfl, k_X8, by decide, rfl, ⟨tyX8, tyX8_ok⟩, nmX8, (by decide +kernel), rfl, Or.inl ⟨(ax_in 151 (by decide +kernel) rfl), fun h => rfl⟩⟩
theorem p_X9_15 : ax_FP RX9 15 9 3 (.array .int) true := ⟨RX9, TX9, 8, rfl, k_X9, by decide, rfl, ⟨tyX9, tyX9_ok⟩, nmX9, (by decide +kernel), rfl, Or.inl ⟨(ax_in 314 (by decide +kernel) rfl), fun h => rfl⟩⟩
theorem p_X9_18 : ax_FP RX9 18 9 4 (.array .int) true := ⟨RX9, TX9, 8, rfl, k_X9, by decide, rfl, ⟨tyX9, tyX9_ok⟩, nmX9, (by decide +kernel), rfl, Or.inl ⟨(ax_in 315 (by decide +kernel) rfl), fun h => rfl⟩⟩
theorem p_X9_21 : ax_FP RX9 21 9 5 (.array .int) true := ⟨RX9, TX9, 8, rfl, k_X9, by decide, rfl, ⟨tyX9, tyX9_ok⟩, nmX9, (by decide +kernel), rfl, Or.inl ⟨(ax_in 316 (by decide +kernel) rfl), fun h => rfl⟩⟩
theorem p_X9_24 : ax_FP RX9 24 9 6 (.array .int) true := ⟨RX9, TX9, 8, rfl, k_X9, by decide, rfl, ⟨tyX9, tyX9_ok⟩, nmX9, (by decide +kernel), rfl, Or.inl ⟨(ax_in 317 (by decide +kernel) rfl), fun h => rfl⟩⟩
theorem p_X9_27 : ax_FP RX9 27 9 7 (.array .int) true := ⟨RX9, TX9, 8, rfl, k_X9, by decide, rfl, ⟨tyX9, tyX9_ok⟩, nmX9, (by decide +kernel), rfl, Or.inl ⟨(ax_in 321 (by decide +kernel) rfl), fun h => rfl⟩⟩
theorem p_X9_30 : ax_FP RX9 30 9 0 (.object "LastLamps$Pit") true := ⟨RX9, TX9, 8, rfl, k_X9, by decide, rfl, ⟨tyX9, tyX9_ok⟩, nmX9, (by decide +kernel), rfl, Or.inl ⟨(ax_in 311 (by decide +kernel) rfl), fun h => rfl⟩⟩
theorem p_X9_34 : ax_FP RX9 34 9 1 (.object "LastLamps$Crew") true := ⟨RX9, TX9, 8, rfl, k_X9, by decide, rfl, ⟨tyX9, tyX9_ok⟩, nmX9, (by decide +kernel), rfl, Or.inl ⟨(ax_in 312 (by decide +kernel) rfl), fun h => rfl⟩⟩
theorem p_X9_9 : ax_FP RX9 9 9 2 (.array .int) true := ⟨RX9, TX9, 8, rfl, k_X9, by decide, rfl, ⟨tyX9, tyX9_ok⟩, nmX9, (by decide +kernel), rfl, Or.inl ⟨(ax_in 313 (by decide +kernel) rfl), fun h => rfl⟩⟩
theorem cb_X10_tells : ax_CB Y_X10_tells 4 := ⟨(ax_in 928 (by decide +kernel) rfl), (ax_in 117 (by decide +kernel) rfl), ⟨by decide, by decide⟩, (by decide +kernel)⟩
theorem q_L_100 : ax_CV RL 100 Y_X10_tells 4 10 := ⟨cb_X10_tells, Or.inl (ax_in 925 (by decide +kernel) rfl), (ax_in 926 (by decide +kernel) rfl), (ax_in 927 (by decide +kernel) rfl), ⟨_, rfl, rfl⟩⟩
theorem cb_X11_tells : ax_CB Y_X11_tells 4 := ⟨(ax_in 1522 (by decide +kernel) rfl), (ax_in 128 (by decide +kernel) rfl), ⟨by decide, by decide⟩, (by decide +kernel)⟩
theorem q_L_104 : ax_CV RL 104 Y_X11_tells 4 11 := ⟨cb_X11_tells, Or.inl (ax_in 1519 (by decide +kernel) rfl), (ax_in 1520 (by decide +kernel) rfl), (ax_in 1521 (by decide +kernel) rfl), ⟨_, rfl, rfl⟩⟩
theorem cb_X10_toldBest : ax_CB Y_X10_toldBest 4 := ⟨(ax_in 981 (by decide +kernel) rfl), (ax_in 117 (by decide +kernel) rfl), ⟨by decide, by decide⟩, (by decide +kernel)⟩
theorem q_L_105 : ax_CV RL 105 Y_X10_toldBest 4 10 := ⟨cb_X10_toldBest, Or.inl (ax_in 978 (by decide +kernel) rfl), (ax_in 979 (by decide +kernel) rfl), (ax_in 980 (by decide +kernel) rfl), ⟨_, rfl, rfl⟩⟩
theorem cb_X11_toldBest : ax_CB Y_X11_toldBest 4 := ⟨(ax_in 1560 (by decide +kernel) rfl), (ax_in 128 (by decide +kernel) rfl), ⟨by decide, by decide⟩, (by decide +kernel)⟩
theorem q_L_108 : ax_CV RL 108 Y_X11_toldBest 4 11 := ⟨cb_X11_toldBest, Or.inl (ax_in 1557 (by decide +kernel) rfl), (ax_in 1558 (by decide +kernel) rfl), (ax_in 1559 (by decide +kernel) rfl), ⟨_, rfl, rfl⟩⟩
theorem cb_X10_byTwo : ax_CB Y_X10_byTwo 6 := ⟨(ax_in 998 (by decide +kernel) rfl), (ax_in 117 (by decide +kernel) rfl), ⟨by decide, by decide⟩, (by decide +kernel)⟩
theorem q_L_109 : ax_CV RL 109 Y_X10_byTwo 6 10 := ⟨cb_X10_byTwo, Or.inl (ax_in 995 (by decide +kernel) rfl), (ax_in 996 (by decide +kernel) rfl), (ax_in 997 (by decide +kernel) rfl), ⟨_, rfl, rfl⟩⟩
theorem cb_X11_byTwo : ax_CB Y_X11_byTwo 6 := ⟨(ax_in 1564 (by decide +kernel) rfl), (ax_in 128 (by decide +kernel) rfl), ⟨by decide, by decide⟩, (by decide +kernel)⟩
theorem q_L_113 : ax_CV RL 113 Y_X11_byTwo 6 11 := ⟨cb_X11_byTwo, Or.inl (ax_in 1561 (by decide +kernel) rfl), (ax_in 1562 (by decide +kernel) rfl), (ax_in 1563 (by decide +kernel) rfl), ⟨_, rfl, rfl⟩⟩
theorem cb_X10_tooLate : ax_CB Y_X10_tooLate 3 := ⟨(ax_in 1007 (by decide +kernel) rfl), (ax_in 117 (by decide +kernel) rfl), ⟨by decide, by decide⟩, (by decide +kernel)⟩
theorem q_L_114 : ax_CV RL 114 Y_X10_tooLate 3 10 := ⟨cb_X10_tooLate, Or.inl (ax_in 1004 (by decide +kernel) rfl), (ax_in 1005 (by decide +kernel) rfl), (ax_in 1006 (by decide +kernel) rfl), ⟨_, rfl, rfl⟩⟩
theorem cb_X11_tooLate : ax_CB Y_X11_tooLate 3 := ⟨(ax_in 1569 (by decide +kernel) rfl), (ax_in 128 (by decide +kernel) rfl), ⟨by decide, by decide⟩, (by decide +kernel)⟩
theorem q_L_117 : ax_CV RL 117 Y_X11_tooLate 3 11 := ⟨cb_X11_tooLate, Or.inl (ax_in 1566 (by decide +kernel) rfl), (ax_in 1567 (by decide +kernel) rfl), (ax_in 1568 (by decide +kernel) rfl), ⟨_, rfl, rfl⟩⟩
theorem cb_X10_go : ax_CB Y_X10_go 1 := ⟨(ax_in 1015 (by decide +kernel) rfl), (ax_in 117 (by decide +kernel) rfl), ⟨by decide, by decide⟩, (by decide +kernel)⟩
theorem q_L_118 : ax_CV RL 118 Y_X10_go 1 10 := ⟨cb_X10_go, Or.inl (ax_in 1012 (by decide +kernel) rfl), (ax_in 1013 (by decide +kernel) rfl), (ax_in 1014 (by decide +kernel) rfl), ⟨_, rfl, rfl⟩⟩
theorem cb_X11_init : ax_CB Y_X11_init 0 := ⟨(ax_in 1104 (by decide +kernel) rfl), (ax_in 128 (by decide +kernel) rfl), ⟨by decide, by decide⟩, (by decide +kernel)⟩
theorem q_L_12 : ax_CI RL 12 Y_X11_init 0 := ⟨cb_X11_init, Or.inl (ax_in 1102 (by decide +kernel) rfl), (ax_in 1103 (by decide +kernel) rfl), rfl, rfl⟩
theorem cb_X11_go : ax_CB Y_X11_go 1 := ⟨(ax_in 1573 (by decide +kernel) rfl), (ax_in 128 (by decide +kernel) rfl), ⟨by decide, by decide⟩, (by decide +kernel)⟩
theorem q_L_121 : ax_CV RL 121 Y_X11_go 1 11 := ⟨cb_X11_go, Or.inl (ax_in 1570 (by decide +kernel) rfl), (ax_in 1571 (by decide +kernel) rfl), (ax_in 1572 (by decide +kernel) rfl), ⟨_, rfl, rfl⟩⟩
theorem cb_X10_clear : ax_CB Y_X10_clear 0 := ⟨(ax_in 1023 (by decide +kernel) rfl), (ax_in 117 (by decide +kernel) rfl), ⟨by decide, by decide⟩, (by decide +kernel)⟩
theorem q_L_122 : ax_CV RL 122 Y_X10_clear 0 10 := ⟨cb_X10_clear, Or.inl (ax_in 1020 (by decide +kernel) rfl), (ax_in 1021 (by decide +kernel) rfl), (ax_in 1022 (by decide +kernel) rfl), ⟨_, rfl, rfl⟩⟩
theorem cb_X11_clear : ax_CB Y_X11_clear 0 := ⟨(ax_in 1577 (by decide +kernel) rfl), (ax_in 128 (by decide +kernel) rfl), ⟨by decide, by decide⟩, (by decide +kernel)⟩
theorem q_L_125 : ax_CV RL 125 Y_X11_clear 0 11 := ⟨cb_X11_clear, Or.inl (ax_in 1574 (by decide +kernel) rfl), (ax_in 1575 (by decide +kernel) rfl), (ax_in 1576 (by decide +kernel) rfl), ⟨_, rfl, rfl⟩⟩
theorem cb_X10_judge : ax_CB Y_X10_judge 4 := ⟨(ax_in 1027 (by decide +kernel) rfl), (ax_in 117 (by decide +kernel) rfl), ⟨by decide, by decide⟩, (by decide +kernel)⟩
theorem q_L_126 : ax_CV RL 126 Y_X10_judge 4 10 := ⟨cb_X10_judge, Or.inl (ax_in 1024 (by decide +kernel) rfl), (ax_in 1025 (by decide +kernel) rfl), (ax_in 1026 (by decide +kernel) rfl), ⟨_, rfl, rfl⟩⟩
theorem cb_X11_judge : ax_CB Y_X11_judge 4 := ⟨(ax_in 1581 (by decide +kernel) rfl), (ax_in 128 (by decide +kernel) rfl), ⟨by decide, by decide⟩, (by decide +kernel)⟩
theorem q_L_129 : ax_CV RL 129 Y_X11_judge 4 11 := ⟨cb_X11_judge, Or.inl (ax_in 1578 (by decide +kernel) rfl), (ax_in 1579 (by decide +kernel) rfl), (ax_in 1580 (by decide +kernel) rfl), ⟨_, rfl, rfl⟩⟩
theorem cb_X10_opens : ax_CB Y_X10_opens 2 := ⟨(ax_in 1051 (by decide +kernel) rfl), (ax_in 117 (by decide +kernel) rfl), ⟨by decide, by decide⟩, (by decide +kernel)⟩
theorem q_L_130 : ax_CV RL 130 Y_X10_opens 2 10 := ⟨cb_X10_opens, Or.inl (ax_in 1048 (by decide +kernel) rfl), (ax_in 1049 (by decide +kernel) rfl), (ax_in 1050 (by decide +kernel) rfl), ⟨_, rfl, rfl⟩⟩
theorem cb_X11_opens : ax_CB Y_X11_opens 2 := ⟨(ax_in 1600 (by decide +kernel) rfl), (ax_in 128 (by decide +kernel) rfl), ⟨by decide, by decide⟩, (by decide +kernel)⟩
theorem q_L_133 : ax_CV RL 133 Y_X11_opens 2 11 := ⟨cb_X11_opens, Or.inl (ax_in 1597 (by decide +kernel) rfl), (ax_in 1598 (by decide +kernel) rfl), (ax_in 1599 (by decide +kernel) rfl), ⟨_, rfl, rfl⟩⟩
theorem cb_X10_safe : ax_CB Y_X10_safe 2 := ⟨(ax_in 1056 (by decide +kernel) rfl), (ax_in 117 (by decide +kernel) rfl), ⟨by decide, by decide⟩, (by decide +kernel)⟩
theorem q_L_134 : ax_CV RL 134 Y_X10_safe 2 10 := ⟨cb_X10_safe, Or.inl (ax_in 1053 (by decide +kernel) rfl), (ax_in 1054 (by decide +kernel) rfl), (ax_in 1055 (by decide +kernel) rfl), ⟨_, rfl, rfl⟩⟩
theorem cb_X11_safe : ax_CB Y_X11_safe 2 := ⟨(ax_in 1604 (by decide +kernel) rfl), (ax_in 128 (by decide +kernel) rfl), ⟨by decide, by decide⟩, (by decide +kernel)⟩
theorem q_L_137 : ax_CV RL 137 Y_X11_safe 2 11 := ⟨cb_X11_safe, Or.inl (ax_in 1601 (by decide +kernel) rfl), (ax_in 1602 (by decide +kernel) rfl), (ax_in 1603 (by decide +kernel) rfl), ⟨_, rfl, rfl⟩⟩
theorem cb_X10_safest : ax_CB Y_X10_safest 3 := ⟨(ax_in 1060 (by decide +kernel) rfl), (ax_in 117 (by decide +kernel) rfl), ⟨by decide, by decide⟩, (by decide +kernel)⟩
theorem q_L_138 : ax_CV RL 138 Y_X10_safest 3 10 := ⟨cb_X10_safest, Or.inl (ax_in 1057 (by decide +kernel) rfl), (ax_in 1058 (by decide +kernel) rfl), (ax_in 1059 (by decide +kernel) rfl), ⟨_, rfl, rfl⟩⟩
theorem cb_X11_safest : ax_CB Y_X11_safest 3 := ⟨(ax_in 1608 (by decide +kernel) rfl), (ax_in 128 (by decide +kernel) rfl), ⟨by decide, by decide⟩, (by decide +kernel)⟩
theorem q_L_141 : ax_CV RL 141 Y_X11_safest 3 11 := ⟨cb_X11_safest, Or.inl (ax_in 1605 (by decide +kernel) rfl), (ax_in 1606 (by decide +kernel) rfl), (ax_in 1607 (by decide +kernel) rfl), ⟨_, rfl, rfl⟩⟩
theorem cb_X10_knock : ax_CB Y_X10_knock 2 := ⟨(ax_in 1074 (by decide +kernel) rfl), (ax_in 117 (by decide +kernel) rfl), ⟨by decide, by decide⟩, (by decide +kernel)⟩
theorem q_L_142 : ax_CV RL 142 Y_X10_knock 2 10 := ⟨cb_X10_knock, Or.inl (ax_in 1071 (by decide +kernel) rfl), (ax_in 1072 (by decide +kernel) rfl), (ax_in 1073 (by decide +kernel) rfl), ⟨_, rfl, rfl⟩⟩
theorem cb_X11_knock : ax_CB Y_X11_knock 2 := ⟨(ax_in 1616 (by decide +kernel) rfl), (ax_in 128 (by decide +kernel) rfl), ⟨by decide, by decide⟩, (by decide +kernel)⟩
theorem q_L_145 : ax_CV RL 145 Y_X11_knock 2 11 := ⟨cb_X11_knock, Or.inl (ax_in 1613 (by decide +kernel) rfl), (ax_in 1614 (by decide +kernel) rfl), (ax_in 1615 (by decide +kernel) rfl), ⟨_, rfl, rfl⟩⟩
theorem cb_X10_keep : ax_CB Y_X10_keep 1 := ⟨(ax_in 1087 (by decide +kernel) rfl), (ax_in 117 (by decide +kernel) rfl), ⟨by decide, by decide⟩, (by decide +kernel)⟩
theorem q_L_146 : ax_CV RL 146 Y_X10_keep 1 10 := ⟨cb_X10_keep, Or.inl (ax_in 1084 (by decide +kernel) rfl), (ax_in 1085 (by decide +kernel) rfl), (ax_in 1086 (by decide +kernel) rfl), ⟨_, rfl, rfl⟩⟩
theorem cb_X11_keep : ax_CB Y_X11_keep 1 := ⟨(ax_in 1620 (by decide +kernel) rfl), (ax_in 128 (by decide +kernel) rfl), ⟨by decide, by decide⟩, (by decide +kernel)⟩
theorem q_L_149 : ax_CV RL 149 Y_X11_keep 1 11 := ⟨cb_X11_keep, Or.inl (ax_in 1617 (by decide +kernel) rfl), (ax_in 1618 (by decide +kernel) rfl), (ax_in 1619 (by decide +kernel) rfl), ⟨_, rfl, rfl⟩⟩
theorem cb_X10_feed : ax_CB Y_X10_feed 2 := ⟨(ax_in 544 (by decide +kernel) rfl), (ax_in 117 (by decide +kernel) rfl), ⟨by decide, by decide⟩, (by decide +kernel)⟩
theorem q_L_15 : ax_CV RL 15 Y_X10_feed 2 10 := ⟨cb_X10_feed, Or.inl (ax_in 541 (by decide +kernel) rfl), (ax_in 542 (by decide +kernel) rfl), (ax_in 543 (by decide +kernel) rfl), ⟨_, rfl, rfl⟩⟩
theorem cb_X10_goBack : ax_CB Y_X10_goBack 1 := ⟨(ax_in 1099 (by decide +kernel) rfl), (ax_in 117 (by decide +kernel) rfl), ⟨by decide, by decide⟩, (by decide +kernel)⟩
theorem q_L_150 : ax_CV RL 150 Y_X10_goBack 1 10 := ⟨cb_X10_goBack, Or.inl (ax_in 1096 (by decide +kernel) rfl), (ax_in 1097 (by decide +kernel) rfl), (ax_in 1098 (by decide +kernel) rfl), ⟨_, rfl, rfl⟩⟩
theorem cb_X11_goBack : ax_CB Y_X11_goBack 1 := ⟨(ax_in 1624 (by decide +kernel) rfl), (ax_in 128 (by decide +kernel) rfl), ⟨by decide, by decide⟩, (by decide +kernel)⟩
theorem q_L_153 : ax_CV RL 153 Y_X11_goBack 1 11 := ⟨cb_X11_goBack, Or.inl (ax_in 1621 (by decide +kernel) rfl), (ax_in 1622 (by decide +kernel) rfl), (ax_in 1623 (by decide +kernel) rfl), ⟨_, rfl, rfl⟩⟩
theorem cb_X11_feed : ax_CB Y_X11_feed 2 := ⟨(ax_in 1294 (by decide +kernel) rfl), (ax_in 128 (by decide +kernel) rfl), ⟨by decide, by decide⟩, (by decide +kernel)⟩
theorem q_L_19 : ax_CV RL 19 Y_X11_feed 2 11 := ⟨cb_X11_feed, Or.inl (ax_in 1291 (by decide +kernel) rfl), (ax_in 1292 (by decide +kernel) rfl), (ax_in 1293 (by decide +kernel) rfl), ⟨_, rfl, rfl⟩⟩
theorem cb_X10_pit : ax_CB Y_X10_pit 0 := ⟨(ax_in 555 (by decide +kernel) rfl), (ax_in 117 (by decide +kernel) rfl), ⟨by decide, by decide⟩, (by decide +kernel)⟩
theorem q_L_20 : ax_CV RL 20 Y_X10_pit 0 10 := ⟨cb_X10_pit, Or.inl (ax_in 552 (by decide +kernel) rfl), (ax_in 553 (by decide +kernel) rfl), (ax_in 554 (by decide +kernel) rfl), ⟨_, rfl, rfl⟩⟩
theorem cb_X11_pit : ax_CB Y_X11_pit 0 := ⟨(ax_in 1303 (by decide +kernel) rfl), (ax_in 128 (by decide +kernel) rfl), ⟨by decide, by decide⟩, (by decide +kernel)⟩
theorem q_L_24 : ax_CV RL 24 Y_X11_pit 0 11 := ⟨cb_X11_pit, Or.inl (ax_in 1300 (by decide +kernel) rfl), (ax_in 1301 (by decide +kernel) rfl), (ax_in 1302 (by decide +kernel) rfl), ⟨_, rfl, rfl⟩⟩
theorem cb_X10_fault : ax_CB Y_X10_fault 0 := ⟨(ax_in 682 (by decide +kernel) rfl), (ax_in 117 (by decide +kernel) rfl), ⟨by decide, by decide⟩, (by decide +kernel)⟩
theorem q_L_25 : ax_CV RL 25 Y_X10_fault 0 10 := ⟨cb_X10_fault, Or.inl (ax_in 679 (by decide +kernel) rfl), (ax_in 680 (by decide +kernel) rfl), (ax_in 681 (by decide +kernel) rfl), ⟨_, rfl, rfl⟩⟩
theorem cb_X11_fault : ax_CB Y_X11_fault 0 := ⟨(ax_in 1365 (by decide +kernel) rfl), (ax_in 128 (by decide +kernel) rfl), ⟨by decide, by decide⟩, (by decide +kernel)⟩
theorem q_L_28 : ax_CV RL 28 Y_X11_fault 0 11 := ⟨cb_X11_fault, Or.inl (ax_in 1362 (by decide +kernel) rfl), (ax_in 1363 (by decide +kernel) rfl), (ax_in 1364 (by decide +kernel) rfl), ⟨_, rfl, rfl⟩⟩
theorem cb_X10_way : ax_CB Y_X10_way 2 := ⟨(ax_in 686 (by decide +kernel) rfl), (ax_in 117 (by decide +kernel) rfl), ⟨by decide, by decide⟩, (by decide +kernel)⟩
theorem q_L_29 : ax_CV RL 29 Y_X10_way 2 10 := ⟨cb_X10_way, Or.inl (ax_in 683 (by decide +kernel) rfl), (ax_in 684 (by decide +kernel) rfl), (ax_in 685 (by decide +kernel) rfl), ⟨_, rfl, rfl⟩⟩
theorem cb_X11_way : ax_CB Y_X11_way 2 := ⟨(ax_in 1369 (by decide +kernel) rfl), (ax_in 128 (by decide +kernel) rfl), ⟨by decide, by decide⟩, (by decide +kernel)⟩
theorem q_L_33 : ax_CV RL 33 Y_X11_way 2 11 := ⟨cb_X11_way, Or.inl (ax_in 1366 (by decide +kernel) rfl), (ax_in 1367 (by decide +kernel) rfl), (ax_in 1368 (by decide +kernel) rfl), ⟨_, rfl, rfl⟩⟩
theorem cb_X10_fall : ax_CB Y_X10_fall 2 := ⟨(ax_in 701 (by decide +kernel) rfl), (ax_in 117 (by decide +kernel) rfl), ⟨by decide, by decide⟩, (by decide +kernel)⟩
theorem q_L_34 : ax_CV RL 34 Y_X10_fall 2 10 := ⟨cb_X10_fall, Or.inl (ax_in 698 (by decide +kernel) rfl), (ax_in 699 (by decide +kernel) rfl), (ax_in 700 (by decide +kernel) rfl), ⟨_, rfl, rfl⟩⟩
theorem cb_X11_fall : ax_CB Y_X11_fall 2 := ⟨(ax_in 1377 (by decide +kernel) rfl), (ax_in 128 (by decide +kernel) rfl), ⟨by decide, by decide⟩, (by decide +kernel)⟩
theorem q_L_38 : ax_CV RL 38 Y_X11_fall 2 11 := ⟨cb_X11_fall, Or.inl (ax_in 1374 (by decide +kernel) rfl), (ax_in 1375 (by decide +kernel) rfl), (ax_in 1376 (by decide +kernel) rfl), ⟨_, rfl, rfl⟩⟩
theorem cb_X10_count : ax_CB Y_X10_count 1 := ⟨(ax_in 705 (by decide +kernel) rfl), (ax_in 117 (by decide +kernel) rfl), ⟨by decide, by decide⟩, (by decide +kernel)⟩
theorem q_L_39 : ax_CV RL 39 Y_X10_count 1 10 := ⟨cb_X10_count, Or.inl (ax_in 702 (by decide +kernel) rfl), (ax_in 703 (by decide +kernel) rfl), (ax_in 704 (by decide +kernel) rfl), ⟨_, rfl, rfl⟩⟩
theorem cb_X11_count : ax_CB Y_X11_count 1 := ⟨(ax_in 1417 (by decide +kernel) rfl), (ax_in 128 (by decide +kernel) rfl), ⟨by decide, by decide⟩, (by decide +kernel)⟩
theorem q_L_43 : ax_CV RL 43 Y_X11_count 1 11 := ⟨cb_X11_count, Or.inl (ax_in 1414 (by decide +kernel) rfl), (ax_in 1415 (by decide +kernel) rfl), (ax_in 1416 (by decide +kernel) rfl), ⟨_, rfl, rfl⟩⟩
theorem cb_X10_man : ax_CB Y_X10_man 3 := ⟨(ax_in 714 (by decide +kernel) rfl), (ax_in 117 (by decide +kernel) rfl), ⟨by decide, by decide⟩, (by decide +kernel)⟩
theorem q_L_44 : ax_CV RL 44 Y_X10_man 3 10 := ⟨cb_X10_man, Or.inl (ax_in 711 (by decide +kernel) rfl), (ax_in 712 (by decide +kernel) rfl), (ax_in 713 (by decide +kernel) rfl), ⟨_, rfl, rfl⟩⟩
theorem cb_X11_man : ax_CB Y_X11_man 3 := ⟨(ax_in 1381 (by decide +kernel) rfl), (ax_in 128 (by decide +kernel) rfl), ⟨by decide, by decide⟩, (by decide +kernel)⟩
theorem q_L_48 : ax_CV RL 48 Y_X11_man 3 11 := ⟨cb_X11_man, Or.inl (ax_in 1378 (by decide +kernel) rfl), (ax_in 1379 (by decide +kernel) rfl), (ax_in 1380 (by decide +kernel) rfl), ⟨_, rfl, rfl⟩⟩
theorem cb_X10_lamp : ax_CB Y_X10_lamp 2 := ⟨(ax_in 726 (by decide +kernel) rfl), (ax_in 117 (by decide +kernel) rfl), ⟨by decide, by decide⟩, (by decide +kernel)⟩
theorem q_L_49 : ax_CV RL 49 Y_X10_lamp 2 10 := ⟨cb_X10_lamp, Or.inl (ax_in 723 (by decide +kernel) rfl), (ax_in 724 (by decide +kernel) rfl), (ax_in 725 (by decide +kernel) rfl), ⟨_, rfl, rfl⟩⟩
theorem cb_X11_lamp : ax_CB Y_X11_lamp 2 := ⟨(ax_in 1389 (by decide +kernel) rfl), (ax_in 128 (by decide +kernel) rfl), ⟨by decide, by decide⟩, (by decide +kernel)⟩
theorem q_L_52 : ax_CV RL 52 Y_X11_lamp 2 11 := ⟨cb_X11_lamp, Or.inl (ax_in 1386 (by decide +kernel) rfl), (ax_in 1387 (by decide +kernel) rfl), (ax_in 1388 (by decide +kernel) rfl), ⟨_, rfl, rfl⟩⟩
theorem cb_X10_told : ax_CB Y_X10_told 2 := ⟨(ax_in 737 (by decide +kernel) rfl), (ax_in 117 (by decide +kernel) rfl), ⟨by decide, by decide⟩, (by decide +kernel)⟩
theorem q_L_53 : ax_CV RL 53 Y_X10_told 2 10 := ⟨cb_X10_told, Or.inl (ax_in 734 (by decide +kernel) rfl), (ax_in 735 (by decide +kernel) rfl), (ax_in 736 (by decide +kernel) rfl), ⟨_, rfl, rfl⟩⟩
theorem cb_X11_told : ax_CB Y_X11_told 2 := ⟨(ax_in 1397 (by decide +kernel) rfl), (ax_in 128 (by decide +kernel) rfl), ⟨by decide, by decide⟩, (by decide +kernel)⟩
theorem q_L_56 : ax_CV RL 56 Y_X11_told 2 11 := ⟨cb_X11_told, Or.inl (ax_in 1394 (by decide +kernel) rfl), (ax_in 1395 (by decide +kernel) rfl), (ax_in 1396 (by decide +kernel) rfl), ⟨_, rfl, rfl⟩⟩
theorem cb_X10_light : ax_CB Y_X10_light 2 := ⟨(ax_in 745 (by decide +kernel) rfl), (ax_in 117 (by decide +kernel) rfl), ⟨by decide, by decide⟩, (by decide +kernel)⟩
theorem q_L_57 : ax_CV RL 57 Y_X10_light 2 10 := ⟨cb_X10_light, Or.inl (ax_in 742 (by decide +kernel) rfl), (ax_in 743 (by decide +kernel) rfl), (ax_in 744 (by decide +kernel) rfl), ⟨_, rfl, rfl⟩⟩
theorem cb_X11_light : ax_CB Y_X11_light 2 := ⟨(ax_in 1405 (by decide +kernel) rfl), (ax_in 128 (by decide +kernel) rfl), ⟨by decide, by decide⟩, (by decide +kernel)⟩
theorem q_L_60 : ax_CV RL 60 Y_X11_light 2 11 := ⟨cb_X11_light, Or.inl (ax_in 1402 (by decide +kernel) rfl), (ax_in 1403 (by decide +kernel) rfl), (ax_in 1404 (by decide +kernel) rfl), ⟨_, rfl, rfl⟩⟩
theorem cb_X10_moves : ax_CB Y_X10_moves 3 := ⟨(ax_in 753 (by decide +kernel) rfl), (ax_in 117 (by decide +kernel) rfl), ⟨by decide, by decide⟩, (by decide +kernel)⟩
theorem q_L_61 : ax_CV RL 61 Y_X10_moves 3 10 := ⟨cb_X10_moves, Or.inl (ax_in 750 (by decide +kernel) rfl), (ax_in 751 (by decide +kernel) rfl), (ax_in 752 (by decide +kernel) rfl), ⟨_, rfl, rfl⟩⟩
theorem cb_X11_moves : ax_CB Y_X11_moves 3 := ⟨(ax_in 1413 (by decide +kernel) rfl), (ax_in 128 (by decide +kernel) rfl), ⟨by decide, by decide⟩, (by decide +kernel)⟩
theorem q_L_65 : ax_CV RL 65 Y_X11_moves 3 11 := ⟨cb_X11_moves, Or.inl (ax_in 1410 (by decide +kernel) rfl), (ax_in 1411 (by decide +kernel) rfl), (ax_in 1412 (by decide +kernel) rfl), ⟨_, rfl, rfl⟩⟩
theorem cb_X10_soonest : ax_CB Y_X10_soonest 5 := ⟨(ax_in 757 (by decide +kernel) rfl), (ax_in 117 (by decide +kernel) rfl), ⟨by decide, by decide⟩, (by decide +kernel)⟩
theorem q_L_66 : ax_CV RL 66 Y_X10_soonest 5 10 := ⟨cb_X10_soonest, Or.inl (ax_in 754 (by decide +kernel) rfl), (ax_in 755 (by decide +kernel) rfl), (ax_in 756 (by decide +kernel) rfl), ⟨_, rfl, rfl⟩⟩
theorem cb_X11_soonest : ax_CB Y_X11_soonest 5 := ⟨(ax_in 1421 (by decide +kernel) rfl), (ax_in 128 (by decide +kernel) rfl), ⟨by decide, by decide⟩, (by decide +kernel)⟩
theorem q_L_70 : ax_CV RL 70 Y_X11_soonest 5 11 := ⟨cb_X11_soonest, Or.inl (ax_in 1418 (by decide +kernel) rfl), (ax_in 1419 (by decide +kernel) rfl), (ax_in 1420 (by decide +kernel) rfl), ⟨_, rfl, rfl⟩⟩
theorem cb_X10_last : ax_CB Y_X10_last 3 := ⟨(ax_in 796 (by decide +kernel) rfl), (ax_in 117 (by decide +kernel) rfl), ⟨by decide, by decide⟩, (by decide +kernel)⟩
theorem q_L_71 : ax_CV RL 71 Y_X10_last 3 10 := ⟨cb_X10_last, Or.inl (ax_in 793 (by decide +kernel) rfl), (ax_in 794 (by decide +kernel) rfl), (ax_in 795 (by decide +kernel) rfl), ⟨_, rfl, rfl⟩⟩
theorem cb_X11_last : ax_CB Y_X11_last 3 := ⟨(ax_in 1445 (by decide +kernel) rfl), (ax_in 128 (by decide +kernel) rfl), ⟨by decide, by decide⟩, (by decide +kernel)⟩
theorem q_L_74 : ax_CV RL 74 Y_X11_last 3 11 := ⟨cb_X11_last, Or.inl (ax_in 1442 (by decide +kernel) rfl), (ax_in 1443 (by decide +kernel) rfl), (ax_in 1444 (by decide +kernel) rfl), ⟨_, rfl, rfl⟩⟩
theorem cb_X10_open : ax_CB Y_X10_open 3 := ⟨(ax_in 812 (by decide +kernel) rfl), (ax_in 117 (by decide +kernel) rfl), ⟨by decide, by decide⟩, (by decide +kernel)⟩
theorem q_L_75 : ax_CV RL 75 Y_X10_open 3 10 := ⟨cb_X10_open, Or.inl (ax_in 809 (by decide +kernel) rfl), (ax_in 810 (by decide +kernel) rfl), (ax_in 811 (by decide +kernel) rfl), ⟨_, rfl, rfl⟩⟩
theorem cb_X11_open : ax_CB Y_X11_open 3 := ⟨(ax_in 1453 (by decide +kernel) rfl), (ax_in 128 (by decide +kernel) rfl), ⟨by decide, by decide⟩, (by decide +kernel)⟩
theorem q_L_78 : ax_CV RL 78 Y_X11_open 3 11 := ⟨cb_X11_open, Or.inl (ax_in 1450 (by decide +kernel) rfl), (ax_in 1451 (by decide +kernel) rfl), (ax_in 1452 (by decide +kernel) rfl), ⟨_, rfl, rfl⟩⟩
theorem cb_X10_most : ax_CB Y_X10_most 1 := ⟨(ax_in 816 (by decide +kernel) rfl), (ax_in 117 (by decide +kernel) rfl), ⟨by decide, by decide⟩, (by decide +kernel)⟩
theorem q_L_79 : ax_CV RL 79 Y_X10_most 1 10 := ⟨cb_X10_most, Or.inl (ax_in 813 (by decide +kernel) rfl), (ax_in 814 (by decide +kernel) rfl), (ax_in 815 (by decide +kernel) rfl), ⟨_, rfl, rfl⟩⟩
theorem cb_X11_most : ax_CB Y_X11_most 1 := ⟨(ax_in 1457 (by decide +kernel) rfl), (ax_in 128 (by decide +kernel) rfl), ⟨by decide, by decide⟩, (by decide +kernel)⟩
theorem q_L_82 : ax_CV RL 82 Y_X11_most 1 11 := ⟨cb_X11_most, Or.inl (ax_in 1454 (by decide +kernel) rfl), (ax_in 1455 (by decide +kernel) rfl), (ax_in 1456 (by decide +kernel) rfl), ⟨_, rfl, rfl⟩⟩
theorem cb_X10_cut : ax_CB Y_X10_cut 1 := ⟨(ax_in 869 (by decide +kernel) rfl), (ax_in 117 (by decide +kernel) rfl), ⟨by decide, by decide⟩, (by decide +kernel)⟩
theorem q_L_83 : ax_CV RL 83 Y_X10_cut 1 10 := ⟨cb_X10_cut, Or.inl (ax_in 866 (by decide +kernel) rfl), (ax_in 867 (by decide +kernel) rfl), (ax_in 868 (by decide +kernel) rfl), ⟨_, rfl, rfl⟩⟩
theorem cb_X11_cut : ax_CB Y_X11_cut 1 := ⟨(ax_in 1493 (by decide +kernel) rfl), (ax_in 128 (by decide +kernel) rfl), ⟨by decide, by decide⟩, (by decide +kernel)⟩
theorem q_L_86 : ax_CV RL 86 Y_X11_cut 1 11 := ⟨cb_X11_cut, Or.inl (ax_in 1490 (by decide +kernel) rfl), (ax_in 1491 (by decide +kernel) rfl), (ax_in 1492 (by decide +kernel) rfl), ⟨_, rfl, rfl⟩⟩
theorem cb_X10_up : ax_CB Y_X10_up 2 := ⟨(ax_in 877 (by decide +kernel) rfl), (ax_in 117 (by decide +kernel) rfl), ⟨by decide, by decide⟩, (by decide +kernel)⟩
theorem q_L_87 : ax_CV RL 87 Y_X10_up 2 10 := ⟨cb_X10_up, Or.inl (ax_in 874 (by decide +kernel) rfl), (ax_in 875 (by decide +kernel) rfl), (ax_in 876 (by decide +kernel) rfl), ⟨_, rfl, rfl⟩⟩
theorem cb_X10_init : ax_CB Y_X10_init 0 := ⟨(ax_in 141 (by decide +kernel) rfl), (ax_in 117 (by decide +kernel) rfl), ⟨by decide, by decide⟩, (by decide +kernel)⟩
theorem q_L_9 : ax_CI RL 9 Y_X10_init 0 := ⟨cb_X10_init, Or.inl (ax_in 139 (by decide +kernel) rfl), (ax_in 140 (by decide +kernel) rfl), rfl, rfl⟩
theorem cb_X11_up : ax_CB Y_X11_up 2 := ⟨(ax_in 1497 (by decide +kernel) rfl), (ax_in 128 (by decide +kernel) rfl), ⟨by decide, by decide⟩, (by decide +kernel)⟩
theorem q_L_90 : ax_CV RL 90 Y_X11_up 2 11 := ⟨cb_X11_up, Or.inl (ax_in 1494 (by decide +kernel) rfl), (ax_in 1495 (by decide +kernel) rfl), (ax_in 1496 (by decide +kernel) rfl), ⟨_, rfl, rfl⟩⟩
theorem cb_X10_lent : ax_CB Y_X10_lent 2 := ⟨(ax_in 906 (by decide +kernel) rfl), (ax_in 117 (by decide +kernel) rfl), ⟨by decide, by decide⟩, (by decide +kernel)⟩
theorem q_L_91 : ax_CV RL 91 Y_X10_lent 2 10 := ⟨cb_X10_lent, Or.inl (ax_in 903 (by decide +kernel) rfl), (ax_in 904 (by decide +kernel) rfl), (ax_in 905 (by decide +kernel) rfl), ⟨_, rfl, rfl⟩⟩
theorem cb_X11_lent : ax_CB Y_X11_lent 2 := ⟨(ax_in 1514 (by decide +kernel) rfl), (ax_in 128 (by decide +kernel) rfl), ⟨by decide, by decide⟩, (by decide +kernel)⟩
theorem q_L_94 : ax_CV RL 94 Y_X11_lent 2 11 := ⟨cb_X11_lent, Or.inl (ax_in 1511 (by decide +kernel) rfl), (ax_in 1512 (by decide +kernel) rfl), (ax_in 1513 (by decide +kernel) rfl), ⟨_, rfl, rfl⟩⟩
theorem cb_X10_mark : ax_CB Y_X10_mark 3 := ⟨(ax_in 920 (by decide +kernel) rfl), (ax_in 117 (by decide +kernel) rfl), ⟨by decide, by decide⟩, (by decide +kernel)⟩
theorem q_L_95 : ax_CV RL 95 Y_X10_mark 3 10 := ⟨cb_X10_mark, Or.inl (ax_in 917 (by decide +kernel) rfl), (ax_in 918 (by decide +kernel) rfl), (ax_in 919 (by decide +kernel) rfl), ⟨_, rfl, rfl⟩⟩
theorem cb_X11_mark : ax_CB Y_X11_mark 3 := ⟨(ax_in 1518 (by decide +kernel) rfl), (ax_in 128 (by decide +kernel) rfl), ⟨by decide, by decide⟩, (by decide +kernel)⟩
theorem q_L_99 : ax_CV RL 99 Y_X11_mark 3 11 := ⟨cb_X11_mark, Or.inl (ax_in 1515 (by decide +kernel) rfl), (ax_in 1516 (by decide +kernel) rfl), (ax_in 1517 (by decide +kernel) rfl), ⟨_, rfl, rfl⟩⟩
theorem cb_X0_copy : ax_CB Y_X0_copy 2 := ⟨(ax_in 1095 (by decide +kernel) rfl), (ax_in 121 (by decide +kernel) rfl), ⟨by decide, by decide⟩, (by decide +kernel)⟩
theorem q_X0_44 : ax_CS RX0 44 Y_X0_copy 2 := ⟨cb_X0_copy, Or.inl (ax_in 1093 (by decide +kernel) rfl), (ax_in 1094 (by decide +kernel) rfl)⟩
theorem cb_X10_bit : ax_CB Y_X10_bit 1 := ⟨(ax_in 693 (by decide +kernel) rfl), (ax_in 117 (by decide +kernel) rfl), ⟨by decide, by decide⟩, (by decide +kernel)⟩
theorem q_X0_48 : ax_CS RX0 48 Y_X10_bit 1 := ⟨cb_X10_bit, Or.inr ⟨"LastLamps", (ax_in 710 (by decide +kernel) rfl)⟩, (ax_in 692 (by decide +kernel) rfl)⟩
theorem cb_X9_prepare : ax_CB Y_X9_prepare 2 := ⟨(ax_in 764 (by decide +kernel) rfl), (ax_in 123 (by decide +kernel) rfl), ⟨by decide, by decide⟩, (by decide +kernel)⟩
theorem q_X1_106 : ax_CV RX1 106 Y_X9_prepare 2 9 := ⟨cb_X9_prepare, Or.inr ⟨"LastLamps", (ax_in 911 (by decide +kernel) rfl)⟩, (ax_in 763 (by decide +kernel) rfl), (ax_in 25 (by decide +kernel) rfl), ⟨_, rfl, rfl⟩⟩
theorem cb_X9_spread : ax_CB Y_X9_spread 2 := ⟨(ax_in 781 (by decide +kernel) rfl), (ax_in 123 (by decide +kernel) rfl), ⟨by decide, by decide⟩, (by decide +kernel)⟩
theorem q_X1_109 : ax_CV RX1 109 Y_X9_spread 2 9 := ⟨cb_X9_spread, Or.inr ⟨"LastLamps", (ax_in 912 (by decide +kernel) rfl)⟩, (ax_in 780 (by decide +kernel) rfl), (ax_in 28 (by decide +kernel) rfl), ⟨_, rfl, rfl⟩⟩
theorem cb_X0_someSlowAt : ax_CB Y_X0_someSlowAt 1 := ⟨(ax_in 916 (by decide +kernel) rfl), (ax_in 121 (by decide +kernel) rfl), ⟨by decide, by decide⟩, (by decide +kernel)⟩
theorem q_X1_115 : ax_CV RX1 115 Y_X0_someSlowAt 1 0 := ⟨cb_X0_someSlowAt, Or.inr ⟨"LastLamps", (ax_in 913 (by decide +kernel) rfl)⟩, (ax_in 915 (by decide +kernel) rfl), (ax_in 52 (by decide +kernel) rfl), ⟨_, rfl, rfl⟩⟩
theorem cb_X1_upFrom : ax_CB Y_X1_upFrom 2 := ⟨(ax_in 889 (by decide +kernel) rfl), (ax_in 125 (by decide +kernel) rfl), ⟨by decide, by decide⟩, (by decide +kernel)⟩
theorem q_X1_47 : ax_CV RX1 47 Y_X1_upFrom 2 1 := ⟨cb_X1_upFrom, Or.inl (ax_in 886 (by decide +kernel) rfl), (ax_in 888 (by decide +kernel) rfl), (ax_in 48 (by decide +kernel) rfl), ⟨_, rfl, rfl⟩⟩
theorem cb_X1_lineUp : ax_CB Y_X1_lineUp 2 := ⟨(ax_in 893 (by decide +kernel) rfl), (ax_in 125 (by decide +kernel) rfl), ⟨by decide, by decide⟩, (by decide +kernel)⟩
theorem q_X1_54 : ax_CV RX1 54 Y_X1_lineUp 2 1 := ⟨cb_X1_lineUp, Or.inl (ax_in 890 (by decide +kernel) rfl), (ax_in 892 (by decide +kernel) rfl), (ax_in 49 (by decide +kernel) rfl), ⟨_, rfl, rfl⟩⟩
theorem cb_X1_comesUp : ax_CB Y_X1_comesUp 3 := ⟨(ax_in 898 (by decide +kernel) rfl), (ax_in 125 (by decide +kernel) rfl), ⟨by decide, by decide⟩, (by decide +kernel)⟩
theorem q_X1_73 : ax_CV RX1 73 Y_X1_comesUp 3 1 := ⟨cb_X1_comesUp, Or.inl (ax_in 895 (by decide +kernel) rfl), (ax_in 897 (by decide +kernel) rfl), (ax_in 50 (by decide +kernel) rfl), ⟨_, rfl, rfl⟩⟩
theorem q_X1_77 : ax_CS RX1 77 Y_X10_bit 1 := ⟨cb_X10_bit, Or.inr ⟨"LastLamps", (ax_in 901 (by decide +kernel) rfl)⟩, (ax_in 692 (by decide +kernel) rfl)⟩
theorem cb_X9_prepareMarked : ax_CB Y_X9_prepareMarked 4 := ⟨(ax_in 768 (by decide +kernel) rfl), (ax_in 123 (by decide +kernel) rfl), ⟨by decide, by decide⟩, (by decide +kernel)⟩
theorem q_X1_90 : ax_CV RX1 90 Y_X9_prepareMarked 4 9 := ⟨cb_X9_prepareMarked, Or.inr ⟨"LastLamps", (ax_in 899 (by decide +kernel) rfl)⟩, (ax_in 767 (by decide +kernel) rfl), (ax_in 26 (by decide +kernel) rfl), ⟨_, rfl, rfl⟩⟩
theorem cb_X9_gather : ax_CB Y_X9_gather 2 := ⟨(ax_in 800 (by decide +kernel) rfl), (ax_in 123 (by decide +kernel) rfl), ⟨by decide, by decide⟩, (by decide +kernel)⟩
theorem q_X1_99 : ax_CV RX1 99 Y_X9_gather 2 9 := ⟨cb_X9_gather, Or.inr ⟨"LastLamps", (ax_in 900 (by decide +kernel) rfl)⟩, (ax_in 799 (by decide +kernel) rfl), (ax_in 31 (by decide +kernel) rfl), ⟨_, rfl, rfl⟩⟩
theorem cb_X8_append : ax_CB Y_X8_append 2 := ⟨(ax_in 551 (by decide +kernel) rfl), (ax_in 118 (by decide +kernel) rfl), ⟨by decide, by decide⟩, (by decide +kernel)⟩
theorem q_X10_106 : ax_CV RX10 106 Y_X8_append 2 8 := ⟨cb_X8_append, Or.inr ⟨"LastLamps", (ax_in 548 (by decide +kernel) rfl)⟩, (ax_in 550 (by decide +kernel) rfl), (ax_in 0 (by decide +kernel) rfl), ⟨_, rfl, rfl⟩⟩
theorem cb_X8_init : ax_CB Y_X8_init 0 := ⟨(ax_in 149 (by decide +kernel) rfl), (ax_in 118 (by decide +kernel) rfl), ⟨by decide, by decide⟩, (by decide +kernel)⟩
theorem q_X10_11 : ax_CI RX10 11 Y_X8_init 0 := ⟨cb_X8_init, Or.inr ⟨"LastLamps", (ax_in 147 (by decide +kernel) rfl)⟩, (ax_in 148 (by decide +kernel) rfl), rfl, rfl⟩
theorem cb_X5_read : ax_CB Y_X5_read 0 := ⟨(ax_in 559 (by decide +kernel) rfl), (ax_in 119 (by decide +kernel) rfl), ⟨by decide, by decide⟩, (by decide +kernel)⟩
theorem q_X10_110 : ax_CV RX10 110 Y_X5_read 0 5 := ⟨cb_X5_read, Or.inr ⟨"LastLamps", (ax_in 556 (by decide +kernel) rfl)⟩, (ax_in 558 (by decide +kernel) rfl), (ax_in 1 (by decide +kernel) rfl), ⟨_, rfl, rfl⟩⟩
theorem cb_X3_become : ax_CB Y_X3_become 1 := ⟨(ax_in 671 (by decide +kernel) rfl), (ax_in 120 (by decide +kernel) rfl), ⟨by decide, by decide⟩, (by decide +kernel)⟩
theorem q_X10_118 : ax_CV RX10 118 Y_X3_become 1 3 := ⟨cb_X3_become, Or.inr ⟨"LastLamps", (ax_in 668 (by decide +kernel) rfl)⟩, (ax_in 670 (by decide +kernel) rfl), (ax_in 15 (by decide +kernel) rfl), ⟨_, rfl, rfl⟩⟩
theorem cb_X0_vanish : ax_CB Y_X0_vanish 0 := ⟨(ax_in 678 (by decide +kernel) rfl), (ax_in 121 (by decide +kernel) rfl), ⟨by decide, by decide⟩, (by decide +kernel)⟩
theorem q_X10_122 : ax_CV RX10 122 Y_X0_vanish 0 0 := ⟨cb_X0_vanish, Or.inr ⟨"LastLamps", (ax_in 675 (by decide +kernel) rfl)⟩, (ax_in 677 (by decide +kernel) rfl), (ax_in 16 (by decide +kernel) rfl), ⟨_, rfl, rfl⟩⟩
theorem cb_X10_isWay : ax_CB Y_X10_isWay 1 := ⟨(ax_in 690 (by decide +kernel) rfl), (ax_in 117 (by decide +kernel) rfl), ⟨by decide, by decide⟩, (by decide +kernel)⟩
theorem q_X10_129 : ax_CV RX10 129 Y_X10_isWay 1 10 := ⟨cb_X10_isWay, Or.inl (ax_in 687 (by decide +kernel) rfl), (ax_in 689 (by decide +kernel) rfl), (ax_in 17 (by decide +kernel) rfl), ⟨_, rfl, rfl⟩⟩
theorem q_X10_136 : ax_CS RX10 136 Y_X10_bit 1 := ⟨cb_X10_bit, Or.inl (ax_in 691 (by decide +kernel) rfl), (ax_in 692 (by decide +kernel) rfl)⟩
theorem cb_X3_fact : ax_CB Y_X3_fact 2 := ⟨(ax_in 697 (by decide +kernel) rfl), (ax_in 120 (by decide +kernel) rfl), ⟨by decide, by decide⟩, (by decide +kernel)⟩
theorem q_X10_140 : ax_CV RX10 140 Y_X3_fact 2 3 := ⟨cb_X3_fact, Or.inr ⟨"LastLamps", (ax_in 694 (by decide +kernel) rfl)⟩, (ax_in 696 (by decide +kernel) rfl), (ax_in 18 (by decide +kernel) rfl), ⟨_, rfl, rfl⟩⟩
theorem cb_X0_knowing : ax_CB Y_X0_knowing 0 := ⟨(ax_in 709 (by decide +kernel) rfl), (ax_in 121 (by decide +kernel) rfl), ⟨by decide, by decide⟩, (by decide +kernel)⟩
theorem q_X10_159 : ax_CV RX10 159 Y_X0_knowing 0 0 := ⟨cb_X0_knowing, Or.inr ⟨"LastLamps", (ax_in 706 (by decide +kernel) rfl)⟩, (ax_in 708 (by decide +kernel) rfl), (ax_in 19 (by decide +kernel) rfl), ⟨_, rfl, rfl⟩⟩
theorem cb_X10_isPlace : ax_CB Y_X10_isPlace 1 := ⟨(ax_in 718 (by decide +kernel) rfl), (ax_in 117 (by decide +kernel) rfl), ⟨by decide, by decide⟩, (by decide +kernel)⟩
theorem q_X10_162 : ax_CV RX10 162 Y_X10_isPlace 1 10 := ⟨cb_X10_isPlace, Or.inl (ax_in 715 (by decide +kernel) rfl), (ax_in 717 (by decide +kernel) rfl), (ax_in 20 (by decide +kernel) rfl), ⟨_, rfl, rfl⟩⟩
theorem cb_X0_addMan : ax_CB Y_X0_addMan 3 := ⟨(ax_in 722 (by decide +kernel) rfl), (ax_in 121 (by decide +kernel) rfl), ⟨by decide, by decide⟩, (by decide +kernel)⟩
theorem q_X10_165 : ax_CV RX10 165 Y_X0_addMan 3 0 := ⟨cb_X0_addMan, Or.inr ⟨"LastLamps", (ax_in 719 (by decide +kernel) rfl)⟩, (ax_in 721 (by decide +kernel) rfl), (ax_in 21 (by decide +kernel) rfl), ⟨_, rfl, rfl⟩⟩
theorem cb_X10_isMinute : ax_CB Y_X10_isMinute 1 := ⟨(ax_in 729 (by decide +kernel) rfl), (ax_in 117 (by decide +kernel) rfl), ⟨by decide, by decide⟩, (by decide +kernel)⟩
theorem q_X10_169 : ax_CS RX10 169 Y_X10_isMinute 1 := ⟨cb_X10_isMinute, Or.inl (ax_in 727 (by decide +kernel) rfl), (ax_in 728 (by decide +kernel) rfl)⟩
theorem cb_X0_addLamp : ax_CB Y_X0_addLamp 2 := ⟨(ax_in 733 (by decide +kernel) rfl), (ax_in 121 (by decide +kernel) rfl), ⟨by decide, by decide⟩, (by decide +kernel)⟩
theorem q_X10_172 : ax_CV RX10 172 Y_X0_addLamp 2 0 := ⟨cb_X0_addLamp, Or.inr ⟨"LastLamps", (ax_in 730 (by decide +kernel) rfl)⟩, (ax_in 732 (by decide +kernel) rfl), (ax_in 22 (by decide +kernel) rfl), ⟨_, rfl, rfl⟩⟩
theorem cb_X10_isMan : ax_CB Y_X10_isMan 1 := ⟨(ax_in 741 (by decide +kernel) rfl), (ax_in 117 (by decide +kernel) rfl), ⟨by decide, by decide⟩, (by decide +kernel)⟩
theorem q_X10_175 : ax_CV RX10 175 Y_X10_isMan 1 10 := ⟨cb_X10_isMan, Or.inl (ax_in 738 (by decide +kernel) rfl), (ax_in 740 (by decide +kernel) rfl), (ax_in 23 (by decide +kernel) rfl), ⟨_, rfl, rfl⟩⟩
theorem cb_X5_init : ax_CB Y_X5_init 1 := ⟨(ax_in 166 (by decide +kernel) rfl), (ax_in 119 (by decide +kernel) rfl), ⟨by decide, by decide⟩, (by decide +kernel)⟩
theorem q_X10_18 : ax_CI RX10 18 Y_X5_init 1 := ⟨cb_X5_init, Or.inr ⟨"LastLamps", (ax_in 164 (by decide +kernel) rfl)⟩, (ax_in 165 (by decide +kernel) rfl), rfl, rfl⟩
theorem cb_X10_isLamp : ax_CB Y_X10_isLamp 1 := ⟨(ax_in 749 (by decide +kernel) rfl), (ax_in 117 (by decide +kernel) rfl), ⟨by decide, by decide⟩, (by decide +kernel)⟩
theorem q_X10_188 : ax_CV RX10 188 Y_X10_isLamp 1 10 := ⟨cb_X10_isLamp, Or.inl (ax_in 746 (by decide +kernel) rfl), (ax_in 748 (by decide +kernel) rfl), (ax_in 24 (by decide +kernel) rfl), ⟨_, rfl, rfl⟩⟩
theorem cb_X10_isLight : ax_CB Y_X10_isLight 1 := ⟨(ax_in 760 (by decide +kernel) rfl), (ax_in 117 (by decide +kernel) rfl), ⟨by decide, by decide⟩, (by decide +kernel)⟩
theorem q_X10_197 : ax_CS RX10 197 Y_X10_isLight 1 := ⟨cb_X10_isLight, Or.inl (ax_in 758 (by decide +kernel) rfl), (ax_in 759 (by decide +kernel) rfl)⟩
theorem q_X10_200 : ax_CV RX10 200 Y_X9_prepare 2 9 := ⟨cb_X9_prepare, Or.inr ⟨"LastLamps", (ax_in 761 (by decide +kernel) rfl)⟩, (ax_in 763 (by decide +kernel) rfl), (ax_in 25 (by decide +kernel) rfl), ⟨_, rfl, rfl⟩⟩
theorem q_X10_204 : ax_CV RX10 204 Y_X9_spread 2 9 := ⟨cb_X9_spread, Or.inr ⟨"LastLamps", (ax_in 778 (by decide +kernel) rfl)⟩, (ax_in 780 (by decide +kernel) rfl), (ax_in 28 (by decide +kernel) rfl), ⟨_, rfl, rfl⟩⟩
theorem q_X10_211 : ax_CV RX10 211 Y_X9_gather 2 9 := ⟨cb_X9_gather, Or.inr ⟨"LastLamps", (ax_in 797 (by decide +kernel) rfl)⟩, (ax_in 799 (by decide +kernel) rfl), (ax_in 31 (by decide +kernel) rfl), ⟨_, rfl, rfl⟩⟩
theorem cb_X10_noPit : ax_CB Y_X10_noPit 0 := ⟨(ax_in 820 (by decide +kernel) rfl), (ax_in 117 (by decide +kernel) rfl), ⟨by decide, by decide⟩, (by decide +kernel)⟩
theorem q_X10_217 : ax_CV RX10 217 Y_X10_noPit 0 10 := ⟨cb_X10_noPit, Or.inl (ax_in 817 (by decide +kernel) rfl), (ax_in 819 (by decide +kernel) rfl), (ax_in 34 (by decide +kernel) rfl), ⟨_, rfl, rfl⟩⟩
theorem cb_X2_lift : ax_CB Y_X2_lift 1 := ⟨(ax_in 824 (by decide +kernel) rfl), (ax_in 124 (by decide +kernel) rfl), ⟨by decide, by decide⟩, (by decide +kernel)⟩
theorem q_X10_221 : ax_CV RX10 221 Y_X2_lift 1 2 := ⟨cb_X2_lift, Or.inr ⟨"LastLamps", (ax_in 821 (by decide +kernel) rfl)⟩, (ax_in 823 (by decide +kernel) rfl), (ax_in 35 (by decide +kernel) rfl), ⟨_, rfl, rfl⟩⟩
theorem cb_X2_seenPlaces : ax_CB Y_X2_seenPlaces 0 := ⟨(ax_in 873 (by decide +kernel) rfl), (ax_in 124 (by decide +kernel) rfl), ⟨by decide, by decide⟩, (by decide +kernel)⟩
theorem q_X10_225 : ax_CV RX10 225 Y_X2_seenPlaces 0 2 := ⟨cb_X2_seenPlaces, Or.inr ⟨"LastLamps", (ax_in 870 (by decide +kernel) rfl)⟩, (ax_in 872 (by decide +kernel) rfl), (ax_in 45 (by decide +kernel) rfl), ⟨_, rfl, rfl⟩⟩
theorem cb_X1_noMark : ax_CB Y_X1_noMark 0 := ⟨(ax_in 881 (by decide +kernel) rfl), (ax_in 125 (by decide +kernel) rfl), ⟨by decide, by decide⟩, (by decide +kernel)⟩
theorem q_X10_228 : ax_CV RX10 228 Y_X1_noMark 0 1 := ⟨cb_X1_noMark, Or.inr ⟨"LastLamps", (ax_in 878 (by decide +kernel) rfl)⟩, (ax_in 880 (by decide +kernel) rfl), (ax_in 46 (by decide +kernel) rfl), ⟨_, rfl, rfl⟩⟩
theorem cb_X1_upFromAll : ax_CB Y_X1_upFromAll 1 := ⟨(ax_in 885 (by decide +kernel) rfl), (ax_in 125 (by decide +kernel) rfl), ⟨by decide, by decide⟩, (by decide +kernel)⟩
theorem q_X10_231 : ax_CV RX10 231 Y_X1_upFromAll 1 1 := ⟨cb_X1_upFromAll, Or.inr ⟨"LastLamps", (ax_in 882 (by decide +kernel) rfl)⟩, (ax_in 884 (by decide +kernel) rfl), (ax_in 47 (by decide +kernel) rfl), ⟨_, rfl, rfl⟩⟩
theorem q_X10_234 : ax_CV RX10 234 Y_X1_upFrom 2 1 := ⟨cb_X1_upFrom, Or.inr ⟨"LastLamps", (ax_in 902 (by decide +kernel) rfl)⟩, (ax_in 888 (by decide +kernel) rfl), (ax_in 48 (by decide +kernel) rfl), ⟨_, rfl, rfl⟩⟩
theorem cb_X1_lend : ax_CB Y_X1_lend 2 := ⟨(ax_in 910 (by decide +kernel) rfl), (ax_in 125 (by decide +kernel) rfl), ⟨by decide, by decide⟩, (by decide +kernel)⟩
theorem q_X10_237 : ax_CV RX10 237 Y_X1_lend 2 1 := ⟨cb_X1_lend, Or.inr ⟨"LastLamps", (ax_in 907 (by decide +kernel) rfl)⟩, (ax_in 909 (by decide +kernel) rfl), (ax_in 51 (by decide +kernel) rfl), ⟨_, rfl, rfl⟩⟩
theorem cb_X1_leaveMark : ax_CB Y_X1_leaveMark 2 := ⟨(ax_in 924 (by decide +kernel) rfl), (ax_in 125 (by decide +kernel) rfl), ⟨by decide, by decide⟩, (by decide +kernel)⟩
theorem q_X10_240 : ax_CV RX10 240 Y_X1_leaveMark 2 1 := ⟨cb_X1_leaveMark, Or.inr ⟨"LastLamps", (ax_in 921 (by decide +kernel) rfl)⟩, (ax_in 923 (by decide +kernel) rfl), (ax_in 53 (by decide +kernel) rfl), ⟨_, rfl, rfl⟩⟩
theorem cb_X0_untoldPlaces : ax_CB Y_X0_untoldPlaces 0 := ⟨(ax_in 932 (by decide +kernel) rfl), (ax_in 121 (by decide +kernel) rfl), ⟨by decide, by decide⟩, (by decide +kernel)⟩
theorem q_X10_243 : ax_CV RX10 243 Y_X0_untoldPlaces 0 0 := ⟨cb_X0_untoldPlaces, Or.inr ⟨"LastLamps", (ax_in 929 (by decide +kernel) rfl)⟩, (ax_in 931 (by decide +kernel) rfl), (ax_in 54 (by decide +kernel) rfl), ⟨_, rfl, rfl⟩⟩
theorem cb_X10_canTell : ax_CB Y_X10_canTell 1 := ⟨(ax_in 936 (by decide +kernel) rfl), (ax_in 117 (by decide +kernel) rfl), ⟨by decide, by decide⟩, (by decide +kernel)⟩
theorem q_X10_246 : ax_CV RX10 246 Y_X10_canTell 1 10 := ⟨cb_X10_canTell, Or.inl (ax_in 933 (by decide +kernel) rfl), (ax_in 935 (by decide +kernel) rfl), (ax_in 55 (by decide +kernel) rfl), ⟨_, rfl, rfl⟩⟩
theorem cb_X7_findStops : ax_CB Y_X7_findStops 0 := ⟨(ax_in 946 (by decide +kernel) rfl), (ax_in 126 (by decide +kernel) rfl), ⟨by decide, by decide⟩, (by decide +kernel)⟩
theorem q_X10_249 : ax_CV RX10 249 Y_X7_findStops 0 7 := ⟨cb_X7_findStops, Or.inr ⟨"LastLamps", (ax_in 943 (by decide +kernel) rfl)⟩, (ax_in 945 (by decide +kernel) rfl), (ax_in 56 (by decide +kernel) rfl), ⟨_, rfl, rfl⟩⟩
theorem cb_X7_stopsOf : ax_CB Y_X7_stopsOf 1 := ⟨(ax_in 958 (by decide +kernel) rfl), (ax_in 126 (by decide +kernel) rfl), ⟨by decide, by decide⟩, (by decide +kernel)⟩
theorem q_X10_252 : ax_CV RX10 252 Y_X7_stopsOf 1 7 := ⟨cb_X7_stopsOf, Or.inr ⟨"LastLamps", (ax_in 955 (by decide +kernel) rfl)⟩, (ax_in 957 (by decide +kernel) rfl), (ax_in 58 (by decide +kernel) rfl), ⟨_, rfl, rfl⟩⟩
theorem cb_X7_weigh : ax_CB Y_X7_weigh 5 := ⟨(ax_in 962 (by decide +kernel) rfl), (ax_in 126 (by decide +kernel) rfl), ⟨by decide, by decide⟩, (by decide +kernel)⟩
theorem q_X10_258 : ax_CV RX10 258 Y_X7_weigh 5 7 := ⟨cb_X7_weigh, Or.inr ⟨"LastLamps", (ax_in 959 (by decide +kernel) rfl)⟩, (ax_in 961 (by decide +kernel) rfl), (ax_in 59 (by decide +kernel) rfl), ⟨_, rfl, rfl⟩⟩
theorem cb_X7_allStops : ax_CB Y_X7_allStops 0 := ⟨(ax_in 985 (by decide +kernel) rfl), (ax_in 126 (by decide +kernel) rfl), ⟨by decide, by decide⟩, (by decide +kernel)⟩
theorem q_X10_262 : ax_CV RX10 262 Y_X7_allStops 0 7 := ⟨cb_X7_allStops, Or.inr ⟨"LastLamps", (ax_in 982 (by decide +kernel) rfl)⟩, (ax_in 984 (by decide +kernel) rfl), (ax_in 62 (by decide +kernel) rfl), ⟨_, rfl, rfl⟩⟩
theorem cb_X7_bestOfOne : ax_CB Y_X7_bestOfOne 0 := ⟨(ax_in 989 (by decide +kernel) rfl), (ax_in 126 (by decide +kernel) rfl), ⟨by decide, by decide⟩, (by decide +kernel)⟩
theorem q_X10_265 : ax_CV RX10 265 Y_X7_bestOfOne 0 7 := ⟨cb_X7_bestOfOne, Or.inr ⟨"LastLamps", (ax_in 986 (by decide +kernel) rfl)⟩, (ax_in 988 (by decide +kernel) rfl), (ax_in 63 (by decide +kernel) rfl), ⟨_, rfl, rfl⟩⟩
theorem cb_X7_placesOf : ax_CB Y_X7_placesOf 1 := ⟨(ax_in 994 (by decide +kernel) rfl), (ax_in 126 (by decide +kernel) rfl), ⟨by decide, by decide⟩, (by decide +kernel)⟩
theorem q_X10_268 : ax_CV RX10 268 Y_X7_placesOf 1 7 := ⟨cb_X7_placesOf, Or.inr ⟨"LastLamps", (ax_in 991 (by decide +kernel) rfl)⟩, (ax_in 993 (by decide +kernel) rfl), (ax_in 64 (by decide +kernel) rfl), ⟨_, rfl, rfl⟩⟩
theorem cb_X3_init : ax_CB Y_X3_init 0 := ⟨(ax_in 172 (by decide +kernel) rfl), (ax_in 120 (by decide +kernel) rfl), ⟨by decide, by decide⟩, (by decide +kernel)⟩
theorem q_X10_27 : ax_CI RX10 27 Y_X3_init 0 := ⟨cb_X3_init, Or.inr ⟨"LastLamps", (ax_in 231 (by decide +kernel) rfl)⟩, (ax_in 171 (by decide +kernel) rfl), rfl, rfl⟩
theorem cb_X7_bestOfTwo : ax_CB Y_X7_bestOfTwo 1 := ⟨(ax_in 1002 (by decide +kernel) rfl), (ax_in 126 (by decide +kernel) rfl), ⟨by decide, by decide⟩, (by decide +kernel)⟩
theorem q_X10_274 : ax_CV RX10 274 Y_X7_bestOfTwo 1 7 := ⟨cb_X7_bestOfTwo, Or.inr ⟨"LastLamps", (ax_in 999 (by decide +kernel) rfl)⟩, (ax_in 1001 (by decide +kernel) rfl), (ax_in 65 (by decide +kernel) rfl), ⟨_, rfl, rfl⟩⟩
theorem cb_X7_lateFor : ax_CB Y_X7_lateFor 3 := ⟨(ax_in 1011 (by decide +kernel) rfl), (ax_in 126 (by decide +kernel) rfl), ⟨by decide, by decide⟩, (by decide +kernel)⟩
theorem q_X10_277 : ax_CV RX10 277 Y_X7_lateFor 3 7 := ⟨cb_X7_lateFor, Or.inr ⟨"LastLamps", (ax_in 1008 (by decide +kernel) rfl)⟩, (ax_in 1010 (by decide +kernel) rfl), (ax_in 66 (by decide +kernel) rfl), ⟨_, rfl, rfl⟩⟩
theorem cb_X6_append : ax_CB Y_X6_append 1 := ⟨(ax_in 1019 (by decide +kernel) rfl), (ax_in 122 (by decide +kernel) rfl), ⟨by decide, by decide⟩, (by decide +kernel)⟩
theorem q_X10_281 : ax_CV RX10 281 Y_X6_append 1 6 := ⟨cb_X6_append, Or.inr ⟨"LastLamps", (ax_in 1016 (by decide +kernel) rfl)⟩, (ax_in 1018 (by decide +kernel) rfl), (ax_in 67 (by decide +kernel) rfl), ⟨_, rfl, rfl⟩⟩
theorem cb_X4_follow : ax_CB Y_X4_follow 1 := ⟨(ax_in 1031 (by decide +kernel) rfl), (ax_in 127 (by decide +kernel) rfl), ⟨by decide, by decide⟩, (by decide +kernel)⟩
theorem q_X10_286 : ax_CV RX10 286 Y_X4_follow 1 4 := ⟨cb_X4_follow, Or.inr ⟨"LastLamps", (ax_in 1028 (by decide +kernel) rfl)⟩, (ax_in 1030 (by decide +kernel) rfl), (ax_in 68 (by decide +kernel) rfl), ⟨_, rfl, rfl⟩⟩
theorem cb_X3_notBad : ax_CB Y_X3_notBad 2 := ⟨(ax_in 1042 (by decide +kernel) rfl), (ax_in 120 (by decide +kernel) rfl), ⟨by decide, by decide⟩, (by decide +kernel)⟩
theorem q_X10_295 : ax_CV RX10 295 Y_X3_notBad 2 3 := ⟨cb_X3_notBad, Or.inr ⟨"LastLamps", (ax_in 1052 (by decide +kernel) rfl)⟩, (ax_in 1041 (by decide +kernel) rfl), (ax_in 70 (by decide +kernel) rfl), ⟨_, rfl, rfl⟩⟩
theorem cb_X4_bestChance : ax_CB Y_X4_bestChance 2 := ⟨(ax_in 1064 (by decide +kernel) rfl), (ax_in 127 (by decide +kernel) rfl), ⟨by decide, by decide⟩, (by decide +kernel)⟩
theorem q_X10_301 : ax_CV RX10 301 Y_X4_bestChance 2 4 := ⟨cb_X4_bestChance, Or.inr ⟨"LastLamps", (ax_in 1061 (by decide +kernel) rfl)⟩, (ax_in 1063 (by decide +kernel) rfl), (ax_in 71 (by decide +kernel) rfl), ⟨_, rfl, rfl⟩⟩
theorem cb_X9_countWaysFrom : ax_CB Y_X9_countWaysFrom 1 := ⟨(ax_in 1078 (by decide +kernel) rfl), (ax_in 123 (by decide +kernel) rfl), ⟨by decide, by decide⟩, (by decide +kernel)⟩
theorem q_X10_304 : ax_CV RX10 304 Y_X9_countWaysFrom 1 9 := ⟨cb_X9_countWaysFrom, Or.inr ⟨"LastLamps", (ax_in 1075 (by decide +kernel) rfl)⟩, (ax_in 1077 (by decide +kernel) rfl), (ax_in 72 (by decide +kernel) rfl), ⟨_, rfl, rfl⟩⟩
theorem cb_X10_hearing : ax_CB Y_X10_hearing 1 := ⟨(ax_in 1083 (by decide +kernel) rfl), (ax_in 117 (by decide +kernel) rfl), ⟨by decide, by decide⟩, (by decide +kernel)⟩
theorem q_X10_307 : ax_CV RX10 307 Y_X10_hearing 1 10 := ⟨cb_X10_hearing, Or.inl (ax_in 1080 (by decide +kernel) rfl), (ax_in 1082 (by decide +kernel) rfl), (ax_in 73 (by decide +kernel) rfl), ⟨_, rfl, rfl⟩⟩
theorem cb_X0_become : ax_CB Y_X0_become 1 := ⟨(ax_in 1091 (by decide +kernel) rfl), (ax_in 121 (by decide +kernel) rfl), ⟨by decide, by decide⟩, (by decide +kernel)⟩
theorem q_X10_310 : ax_CV RX10 310 Y_X0_become 1 0 := ⟨cb_X0_become, Or.inr ⟨"LastLamps", (ax_in 1088 (by decide +kernel) rfl)⟩, (ax_in 1090 (by decide +kernel) rfl), (ax_in 74 (by decide +kernel) rfl), ⟨_, rfl, rfl⟩⟩
theorem cb_J6_bitCount_0f7a4 : ax_CB Y_J6_bitCount_0f7a4 1 := ⟨(ax_in 939 (by decide +kernel) rfl), (ax_in 136 (by decide +kernel) rfl), ⟨by decide, by decide⟩, (by decide +kernel)⟩
theorem q_X10_313 : ax_CS RX10 313 Y_J6_bitCount_0f7a4 1 := ⟨cb_J6_bitCount_0f7a4, Or.inl (ax_in 937 (by decide +kernel) rfl), (ax_in 938 (by decide +kernel) rfl)⟩
theorem cb_X0_init : ax_CB Y_X0_init 0 := ⟨(ax_in 236 (by decide +kernel) rfl), (ax_in 121 (by decide +kernel) rfl), ⟨by decide, by decide⟩, (by decide +kernel)⟩
theorem q_X10_34 : ax_CI RX10 34 Y_X0_init 0 := ⟨cb_X0_init, Or.inr ⟨"LastLamps", (ax_in 234 (by decide +kernel) rfl)⟩, (ax_in 235 (by decide +kernel) rfl), rfl, rfl⟩
theorem cb_X6_init : ax_CB Y_X6_init 0 := ⟨(ax_in 292 (by decide +kernel) rfl), (ax_in 122 (by decide +kernel) rfl), ⟨by decide, by decide⟩, (by decide +kernel)⟩
theorem q_X10_49 : ax_CI RX10 49 Y_X6_init 0 := ⟨cb_X6_init, Or.inr ⟨"LastLamps", (ax_in 290 (by decide +kernel) rfl)⟩, (ax_in 291 (by decide +kernel) rfl), rfl, rfl⟩
theorem cb_X9_init : ax_CB Y_X9_init 2 := ⟨(ax_in 309 (by decide +kernel) rfl), (ax_in 123 (by decide +kernel) rfl), ⟨by decide, by decide⟩, (by decide +kernel)⟩
theorem q_X10_56 : ax_CI RX10 56 Y_X9_init 2 := ⟨cb_X9_init, Or.inr ⟨"LastLamps", (ax_in 307 (by decide +kernel) rfl)⟩, (ax_in 308 (by decide +kernel) rfl), rfl, rfl⟩
theorem cb_X2_init : ax_CB Y_X2_init 2 := ⟨(ax_in 346 (by decide +kernel) rfl), (ax_in 124 (by decide +kernel) rfl), ⟨by decide, by decide⟩, (by decide +kernel)⟩
theorem q_X10_65 : ax_CI RX10 65 Y_X2_init 2 := ⟨cb_X2_init, Or.inr ⟨"LastLamps", (ax_in 344 (by decide +kernel) rfl)⟩, (ax_in 345 (by decide +kernel) rfl), rfl, rfl⟩
theorem cb_X1_init : ax_CB Y_X1_init 3 := ⟨(ax_in 389 (by decide +kernel) rfl), (ax_in 125 (by decide +kernel) rfl), ⟨by decide, by decide⟩, (by decide +kernel)⟩
theorem q_X10_72 : ax_CI RX10 72 Y_X1_init 3 := ⟨cb_X1_init, Or.inr ⟨"LastLamps", (ax_in 387 (by decide +kernel) rfl)⟩, (ax_in 388 (by decide +kernel) rfl), rfl, rfl⟩
theorem cb_X7_init : ax_CB Y_X7_init 3 := ⟨(ax_in 420 (by decide +kernel) rfl), (ax_in 126 (by decide +kernel) rfl), ⟨by decide, by decide⟩, (by decide +kernel)⟩
theorem q_X10_81 : ax_CI RX10 81 Y_X7_init 3 := ⟨cb_X7_init, Or.inr ⟨"LastLamps", (ax_in 418 (by decide +kernel) rfl)⟩, (ax_in 419 (by decide +kernel) rfl), rfl, rfl⟩
theorem cb_X4_init : ax_CB Y_X4_init 3 := ⟨(ax_in 474 (by decide +kernel) rfl), (ax_in 127 (by decide +kernel) rfl), ⟨by decide, by decide⟩, (by decide +kernel)⟩
theorem q_X10_88 : ax_CI RX10 88 Y_X4_init 3 := ⟨cb_X4_init, Or.inr ⟨"LastLamps", (ax_in 472 (by decide +kernel) rfl)⟩, (ax_in 473 (by decide +kernel) rfl), rfl, rfl⟩
theorem cb_X10_within : ax_CB Y_X10_within 3 := ⟨(ax_in 547 (by decide +kernel) rfl), (ax_in 117 (by decide +kernel) rfl), ⟨by decide, by decide⟩, (by decide +kernel)⟩
theorem q_X10_99 : ax_CS RX10 99 Y_X10_within 3 := ⟨cb_X10_within, Or.inl (ax_in 545 (by decide +kernel) rfl), (ax_in 546 (by decide +kernel) rfl)⟩
theorem cb_X11_in : ax_CB Y_X11_in 3 := ⟨(ax_in 1298 (by decide +kernel) rfl), (ax_in 128 (by decide +kernel) rfl), ⟨by decide, by decide⟩, (by decide +kernel)⟩
theorem q_X11_136 : ax_CS RX11 136 Y_X11_in 3 := ⟨cb_X11_in, Or.inl (ax_in 1296 (by decide +kernel) rfl), (ax_in 1297 (by decide +kernel) rfl)⟩
theorem cb_X11_here : ax_CB Y_X11_here 0 := ⟨(ax_in 1315 (by decide +kernel) rfl), (ax_in 128 (by decide +kernel) rfl), ⟨by decide, by decide⟩, (by decide +kernel)⟩
theorem q_X11_153 : ax_CV RX11 153 Y_X11_here 0 11 := ⟨cb_X11_here, Or.inl (ax_in 1312 (by decide +kernel) rfl), (ax_in 1314 (by decide +kernel) rfl), (ax_in 77 (by decide +kernel) rfl), ⟨_, rfl, rfl⟩⟩
theorem cb_X11_fails : ax_CB Y_X11_fails 2 := ⟨(ax_in 1331 (by decide +kernel) rfl), (ax_in 128 (by decide +kernel) rfl), ⟨by decide, by decide⟩, (by decide +kernel)⟩
theorem q_X11_180 : ax_CV RX11 180 Y_X11_fails 2 11 := ⟨cb_X11_fails, Or.inl (ax_in 1328 (by decide +kernel) rfl), (ax_in 1330 (by decide +kernel) rfl), (ax_in 78 (by decide +kernel) rfl), ⟨_, rfl, rfl⟩⟩
theorem cb_X11_readWord : ax_CB Y_X11_readWord 0 := ⟨(ax_in 1311 (by decide +kernel) rfl), (ax_in 128 (by decide +kernel) rfl), ⟨by decide, by decide⟩, (by decide +kernel)⟩
theorem q_X11_190 : ax_CV RX11 190 Y_X11_readWord 0 11 := ⟨cb_X11_readWord, Or.inl (ax_in 1308 (by decide +kernel) rfl), (ax_in 1310 (by decide +kernel) rfl), (ax_in 76 (by decide +kernel) rfl), ⟨_, rfl, rfl⟩⟩
theorem cb_X11_code : ax_CB Y_X11_code 3 := ⟨(ax_in 1324 (by decide +kernel) rfl), (ax_in 128 (by decide +kernel) rfl), ⟨by decide, by decide⟩, (by decide +kernel)⟩
theorem q_X11_193 : ax_CS RX11 193 Y_X11_code 3 := ⟨cb_X11_code, Or.inl (ax_in 1322 (by decide +kernel) rfl), (ax_in 1323 (by decide +kernel) rfl)⟩
theorem cb_X11_longer : ax_CB Y_X11_longer 2 := ⟨(ax_in 1327 (by decide +kernel) rfl), (ax_in 128 (by decide +kernel) rfl), ⟨by decide, by decide⟩, (by decide +kernel)⟩
theorem q_X11_197 : ax_CS RX11 197 Y_X11_longer 2 := ⟨cb_X11_longer, Or.inl (ax_in 1325 (by decide +kernel) rfl), (ax_in 1326 (by decide +kernel) rfl)⟩
theorem cb_X11_takeNumber : ax_CB Y_X11_takeNumber 2 := ⟨(ax_in 1335 (by decide +kernel) rfl), (ax_in 128 (by decide +kernel) rfl), ⟨by decide, by decide⟩, (by decide +kernel)⟩
theorem q_X11_201 : ax_CV RX11 201 Y_X11_takeNumber 2 11 := ⟨cb_X11_takeNumber, Or.inl (ax_in 1332 (by decide +kernel) rfl), (ax_in 1334 (by decide +kernel) rfl), (ax_in 79 (by decide +kernel) rfl), ⟨_, rfl, rfl⟩⟩
theorem cb_X11_takeStop : ax_CB Y_X11_takeStop 0 := ⟨(ax_in 1341 (by decide +kernel) rfl), (ax_in 128 (by decide +kernel) rfl), ⟨by decide, by decide⟩, (by decide +kernel)⟩
theorem q_X11_207 : ax_CV RX11 207 Y_X11_takeStop 0 11 := ⟨cb_X11_takeStop, Or.inl (ax_in 1338 (by decide +kernel) rfl), (ax_in 1340 (by decide +kernel) rfl), (ax_in 80 (by decide +kernel) rfl), ⟨_, rfl, rfl⟩⟩
theorem cb_X11_wordOf : ax_CB Y_X11_wordOf 0 := ⟨(ax_in 1357 (by decide +kernel) rfl), (ax_in 128 (by decide +kernel) rfl), ⟨by decide, by decide⟩, (by decide +kernel)⟩
theorem q_X11_219 : ax_CV RX11 219 Y_X11_wordOf 0 11 := ⟨cb_X11_wordOf, Or.inl (ax_in 1354 (by decide +kernel) rfl), (ax_in 1356 (by decide +kernel) rfl), (ax_in 84 (by decide +kernel) rfl), ⟨_, rfl, rfl⟩⟩
theorem cb_X11_takeOut : ax_CB Y_X11_takeOut 0 := ⟨(ax_in 1349 (by decide +kernel) rfl), (ax_in 128 (by decide +kernel) rfl), ⟨by decide, by decide⟩, (by decide +kernel)⟩
theorem q_X11_222 : ax_CV RX11 222 Y_X11_takeOut 0 11 := ⟨cb_X11_takeOut, Or.inl (ax_in 1346 (by decide +kernel) rfl), (ax_in 1348 (by decide +kernel) rfl), (ax_in 82 (by decide +kernel) rfl), ⟨_, rfl, rfl⟩⟩
theorem cb_X11_takeWay : ax_CB Y_X11_takeWay 0 := ⟨(ax_in 1353 (by decide +kernel) rfl), (ax_in 128 (by decide +kernel) rfl), ⟨by decide, by decide⟩, (by decide +kernel)⟩
theorem q_X11_225 : ax_CV RX11 225 Y_X11_takeWay 0 11 := ⟨cb_X11_takeWay, Or.inl (ax_in 1350 (by decide +kernel) rfl), (ax_in 1352 (by decide +kernel) rfl), (ax_in 83 (by decide +kernel) rfl), ⟨_, rfl, rfl⟩⟩
theorem cb_X11_takePlaces : ax_CB Y_X11_takePlaces 0 := ⟨(ax_in 1307 (by decide +kernel) rfl), (ax_in 128 (by decide +kernel) rfl), ⟨by decide, by decide⟩, (by decide +kernel)⟩
theorem q_X11_228 : ax_CV RX11 228 Y_X11_takePlaces 0 11 := ⟨cb_X11_takePlaces, Or.inl (ax_in 1304 (by decide +kernel) rfl), (ax_in 1306 (by decide +kernel) rfl), (ax_in 75 (by decide +kernel) rfl), ⟨_, rfl, rfl⟩⟩
theorem cb_X11_takeClause : ax_CB Y_X11_takeClause 0 := ⟨(ax_in 1345 (by decide +kernel) rfl), (ax_in 128 (by decide +kernel) rfl), ⟨by decide, by decide⟩, (by decide +kernel)⟩
theorem q_X11_231 : ax_CV RX11 231 Y_X11_takeClause 0 11 := ⟨cb_X11_takeClause, Or.inl (ax_in 1342 (by decide +kernel) rfl), (ax_in 1344 (by decide +kernel) rfl), (ax_in 81 (by decide +kernel) rfl), ⟨_, rfl, rfl⟩⟩
theorem cb_X11_keepPit : ax_CB Y_X11_keepPit 0 := ⟨(ax_in 1361 (by decide +kernel) rfl), (ax_in 128 (by decide +kernel) rfl), ⟨by decide, by decide⟩, (by decide +kernel)⟩
theorem q_X11_234 : ax_CV RX11 234 Y_X11_keepPit 0 11 := ⟨cb_X11_keepPit, Or.inl (ax_in 1358 (by decide +kernel) rfl), (ax_in 1360 (by decide +kernel) rfl), (ax_in 85 (by decide +kernel) rfl), ⟨_, rfl, rfl⟩⟩
theorem cb_X11_isWay : ax_CB Y_X11_isWay 1 := ⟨(ax_in 1373 (by decide +kernel) rfl), (ax_in 128 (by decide +kernel) rfl), ⟨by decide, by decide⟩, (by decide +kernel)⟩
theorem q_X11_249 : ax_CV RX11 249 Y_X11_isWay 1 11 := ⟨cb_X11_isWay, Or.inl (ax_in 1370 (by decide +kernel) rfl), (ax_in 1372 (by decide +kernel) rfl), (ax_in 86 (by decide +kernel) rfl), ⟨_, rfl, rfl⟩⟩
theorem cb_X11_isPlace : ax_CB Y_X11_isPlace 1 := ⟨(ax_in 1385 (by decide +kernel) rfl), (ax_in 128 (by decide +kernel) rfl), ⟨by decide, by decide⟩, (by decide +kernel)⟩
theorem q_X11_257 : ax_CV RX11 257 Y_X11_isPlace 1 11 := ⟨cb_X11_isPlace, Or.inl (ax_in 1382 (by decide +kernel) rfl), (ax_in 1384 (by decide +kernel) rfl), (ax_in 87 (by decide +kernel) rfl), ⟨_, rfl, rfl⟩⟩
theorem cb_X11_isMinute : ax_CB Y_X11_isMinute 1 := ⟨(ax_in 1392 (by decide +kernel) rfl), (ax_in 128 (by decide +kernel) rfl), ⟨by decide, by decide⟩, (by decide +kernel)⟩
theorem q_X11_260 : ax_CS RX11 260 Y_X11_isMinute 1 := ⟨cb_X11_isMinute, Or.inl (ax_in 1390 (by decide +kernel) rfl), (ax_in 1391 (by decide +kernel) rfl)⟩
theorem cb_X11_isMan : ax_CB Y_X11_isMan 1 := ⟨(ax_in 1401 (by decide +kernel) rfl), (ax_in 128 (by decide +kernel) rfl), ⟨by decide, by decide⟩, (by decide +kernel)⟩
theorem q_X11_263 : ax_CV RX11 263 Y_X11_isMan 1 11 := ⟨cb_X11_isMan, Or.inl (ax_in 1398 (by decide +kernel) rfl), (ax_in 1400 (by decide +kernel) rfl), (ax_in 88 (by decide +kernel) rfl), ⟨_, rfl, rfl⟩⟩
theorem cb_X11_isLamp : ax_CB Y_X11_isLamp 1 := ⟨(ax_in 1409 (by decide +kernel) rfl), (ax_in 128 (by decide +kernel) rfl), ⟨by decide, by decide⟩, (by decide +kernel)⟩
theorem q_X11_266 : ax_CV RX11 266 Y_X11_isLamp 1 11 := ⟨cb_X11_isLamp, Or.inl (ax_in 1406 (by decide +kernel) rfl), (ax_in 1408 (by decide +kernel) rfl), (ax_in 89 (by decide +kernel) rfl), ⟨_, rfl, rfl⟩⟩
theorem cb_X11_step : ax_CB Y_X11_step 5 := ⟨(ax_in 1437 (by decide +kernel) rfl), (ax_in 128 (by decide +kernel) rfl), ⟨by decide, by decide⟩, (by decide +kernel)⟩
theorem q_X11_272 : ax_CV RX11 272 Y_X11_step 5 11 := ⟨cb_X11_step, Or.inl (ax_in 1434 (by decide +kernel) rfl), (ax_in 1436 (by decide +kernel) rfl), (ax_in 92 (by decide +kernel) rfl), ⟨_, rfl, rfl⟩⟩
theorem cb_X11_through : ax_CB Y_X11_through 4 := ⟨(ax_in 1441 (by decide +kernel) rfl), (ax_in 128 (by decide +kernel) rfl), ⟨by decide, by decide⟩, (by decide +kernel)⟩
theorem q_X11_276 : ax_CV RX11 276 Y_X11_through 4 11 := ⟨cb_X11_through, Or.inl (ax_in 1438 (by decide +kernel) rfl), (ax_in 1440 (by decide +kernel) rfl), (ax_in 93 (by decide +kernel) rfl), ⟨_, rfl, rfl⟩⟩
theorem cb_X11_walk : ax_CB Y_X11_walk 4 := ⟨(ax_in 1433 (by decide +kernel) rfl), (ax_in 128 (by decide +kernel) rfl), ⟨by decide, by decide⟩, (by decide +kernel)⟩
theorem q_X11_280 : ax_CV RX11 280 Y_X11_walk 4 11 := ⟨cb_X11_walk, Or.inl (ax_in 1430 (by decide +kernel) rfl), (ax_in 1432 (by decide +kernel) rfl), (ax_in 91 (by decide +kernel) rfl), ⟨_, rfl, rfl⟩⟩
theorem cb_X11_isLight : ax_CB Y_X11_isLight 1 := ⟨(ax_in 1424 (by decide +kernel) rfl), (ax_in 128 (by decide +kernel) rfl), ⟨by decide, by decide⟩, (by decide +kernel)⟩
theorem q_X11_284 : ax_CS RX11 284 Y_X11_isLight 1 := ⟨cb_X11_isLight, Or.inl (ax_in 1422 (by decide +kernel) rfl), (ax_in 1423 (by decide +kernel) rfl)⟩
theorem cb_X11_comes : ax_CB Y_X11_comes 5 := ⟨(ax_in 1429 (by decide +kernel) rfl), (ax_in 128 (by decide +kernel) rfl), ⟨by decide, by decide⟩, (by decide +kernel)⟩
theorem q_X11_287 : ax_CV RX11 287 Y_X11_comes 5 11 := ⟨cb_X11_comes, Or.inl (ax_in 1426 (by decide +kernel) rfl), (ax_in 1428 (by decide +kernel) rfl), (ax_in 90 (by decide +kernel) rfl), ⟨_, rfl, rfl⟩⟩
theorem cb_X11_lastOf : ax_CB Y_X11_lastOf 3 := ⟨(ax_in 1449 (by decide +kernel) rfl), (ax_in 128 (by decide +kernel) rfl), ⟨by decide, by decide⟩, (by decide +kernel)⟩
theorem q_X11_291 : ax_CV RX11 291 Y_X11_lastOf 3 11 := ⟨cb_X11_lastOf, Or.inl (ax_in 1446 (by decide +kernel) rfl), (ax_in 1448 (by decide +kernel) rfl), (ax_in 94 (by decide +kernel) rfl), ⟨_, rfl, rfl⟩⟩
theorem cb_X11_side : ax_CB Y_X11_side 2 := ⟨(ax_in 1485 (by decide +kernel) rfl), (ax_in 128 (by decide +kernel) rfl), ⟨by decide, by decide⟩, (by decide +kernel)⟩
theorem q_X11_298 : ax_CV RX11 298 Y_X11_side 2 11 := ⟨cb_X11_side, Or.inl (ax_in 1482 (by decide +kernel) rfl), (ax_in 1484 (by decide +kernel) rfl), (ax_in 100 (by decide +kernel) rfl), ⟨_, rfl, rfl⟩⟩
theorem cb_X11_at : ax_CB Y_X11_at 2 := ⟨(ax_in 1473 (by decide +kernel) rfl), (ax_in 128 (by decide +kernel) rfl), ⟨by decide, by decide⟩, (by decide +kernel)⟩
theorem q_X11_301 : ax_CS RX11 301 Y_X11_at 2 := ⟨cb_X11_at, Or.inl (ax_in 1471 (by decide +kernel) rfl), (ax_in 1472 (by decide +kernel) rfl)⟩
theorem cb_X11_come : ax_CB Y_X11_come 3 := ⟨(ax_in 1477 (by decide +kernel) rfl), (ax_in 128 (by decide +kernel) rfl), ⟨by decide, by decide⟩, (by decide +kernel)⟩
theorem q_X11_304 : ax_CV RX11 304 Y_X11_come 3 11 := ⟨cb_X11_come, Or.inl (ax_in 1474 (by decide +kernel) rfl), (ax_in 1476 (by decide +kernel) rfl), (ax_in 98 (by decide +kernel) rfl), ⟨_, rfl, rfl⟩⟩
theorem cb_X11_menAt : ax_CB Y_X11_menAt 1 := ⟨(ax_in 1470 (by decide +kernel) rfl), (ax_in 128 (by decide +kernel) rfl), ⟨by decide, by decide⟩, (by decide +kernel)⟩
theorem q_X11_308 : ax_CV RX11 308 Y_X11_menAt 1 11 := ⟨cb_X11_menAt, Or.inl (ax_in 1467 (by decide +kernel) rfl), (ax_in 1469 (by decide +kernel) rfl), (ax_in 97 (by decide +kernel) rfl), ⟨_, rfl, rfl⟩⟩
theorem cb_X11_goOn : ax_CB Y_X11_goOn 4 := ⟨(ax_in 1481 (by decide +kernel) rfl), (ax_in 128 (by decide +kernel) rfl), ⟨by decide, by decide⟩, (by decide +kernel)⟩
theorem q_X11_312 : ax_CV RX11 312 Y_X11_goOn 4 11 := ⟨cb_X11_goOn, Or.inl (ax_in 1478 (by decide +kernel) rfl), (ax_in 1480 (by decide +kernel) rfl), (ax_in 99 (by decide +kernel) rfl), ⟨_, rfl, rfl⟩⟩
theorem cb_X11_seek : ax_CB Y_X11_seek 1 := ⟨(ax_in 1466 (by decide +kernel) rfl), (ax_in 128 (by decide +kernel) rfl), ⟨by decide, by decide⟩, (by decide +kernel)⟩
theorem q_X11_316 : ax_CV RX11 316 Y_X11_seek 1 11 := ⟨cb_X11_seek, Or.inl (ax_in 1463 (by decide +kernel) rfl), (ax_in 1465 (by decide +kernel) rfl), (ax_in 96 (by decide +kernel) rfl), ⟨_, rfl, rfl⟩⟩
theorem cb_X11_send : ax_CB Y_X11_send 1 := ⟨(ax_in 1489 (by decide +kernel) rfl), (ax_in 128 (by decide +kernel) rfl), ⟨by decide, by decide⟩, (by decide +kernel)⟩
theorem q_X11_319 : ax_CV RX11 319 Y_X11_send 1 11 := ⟨cb_X11_send, Or.inl (ax_in 1486 (by decide +kernel) rfl), (ax_in 1488 (by decide +kernel) rfl), (ax_in 101 (by decide +kernel) rfl), ⟨_, rfl, rfl⟩⟩
theorem cb_X11_findMost : ax_CB Y_X11_findMost 1 := ⟨(ax_in 1462 (by decide +kernel) rfl), (ax_in 128 (by decide +kernel) rfl), ⟨by decide, by decide⟩, (by decide +kernel)⟩
theorem q_X11_325 : ax_CV RX11 325 Y_X11_findMost 1 11 := ⟨cb_X11_findMost, Or.inl (ax_in 1459 (by decide +kernel) rfl), (ax_in 1461 (by decide +kernel) rfl), (ax_in 95 (by decide +kernel) rfl), ⟨_, rfl, rfl⟩⟩
theorem cb_X11_lineUp : ax_CB Y_X11_lineUp 1 := ⟨(ax_in 1510 (by decide +kernel) rfl), (ax_in 128 (by decide +kernel) rfl), ⟨by decide, by decide⟩, (by decide +kernel)⟩
theorem q_X11_328 : ax_CV RX11 328 Y_X11_lineUp 1 11 := ⟨cb_X11_lineUp, Or.inl (ax_in 1507 (by decide +kernel) rfl), (ax_in 1509 (by decide +kernel) rfl), (ax_in 104 (by decide +kernel) rfl), ⟨_, rfl, rfl⟩⟩
theorem cb_X11_upFrom : ax_CB Y_X11_upFrom 3 := ⟨(ax_in 1506 (by decide +kernel) rfl), (ax_in 128 (by decide +kernel) rfl), ⟨by decide, by decide⟩, (by decide +kernel)⟩
theorem q_X11_331 : ax_CV RX11 331 Y_X11_upFrom 3 11 := ⟨cb_X11_upFrom, Or.inl (ax_in 1503 (by decide +kernel) rfl), (ax_in 1505 (by decide +kernel) rfl), (ax_in 103 (by decide +kernel) rfl), ⟨_, rfl, rfl⟩⟩
theorem cb_X11_upAll : ax_CB Y_X11_upAll 2 := ⟨(ax_in 1502 (by decide +kernel) rfl), (ax_in 128 (by decide +kernel) rfl), ⟨by decide, by decide⟩, (by decide +kernel)⟩
theorem q_X11_337 : ax_CV RX11 337 Y_X11_upAll 2 11 := ⟨cb_X11_upAll, Or.inl (ax_in 1499 (by decide +kernel) rfl), (ax_in 1501 (by decide +kernel) rfl), (ax_in 102 (by decide +kernel) rfl), ⟨_, rfl, rfl⟩⟩
theorem cb_X11_toldAt : ax_CB Y_X11_toldAt 2 := ⟨(ax_in 1552 (by decide +kernel) rfl), (ax_in 128 (by decide +kernel) rfl), ⟨by decide, by decide⟩, (by decide +kernel)⟩
theorem q_X11_343 : ax_CV RX11 343 Y_X11_toldAt 2 11 := ⟨cb_X11_toldAt, Or.inl (ax_in 1549 (by decide +kernel) rfl), (ax_in 1551 (by decide +kernel) rfl), (ax_in 110 (by decide +kernel) rfl), ⟨_, rfl, rfl⟩⟩
theorem cb_X11_has : ax_CB Y_X11_has 2 := ⟨(ax_in 1544 (by decide +kernel) rfl), (ax_in 128 (by decide +kernel) rfl), ⟨by decide, by decide⟩, (by decide +kernel)⟩
theorem q_X11_346 : ax_CS RX11 346 Y_X11_has 2 := ⟨cb_X11_has, Or.inl (ax_in 1542 (by decide +kernel) rfl), (ax_in 1543 (by decide +kernel) rfl)⟩
theorem cb_X11_tellRow : ax_CB Y_X11_tellRow 3 := ⟨(ax_in 1548 (by decide +kernel) rfl), (ax_in 128 (by decide +kernel) rfl), ⟨by decide, by decide⟩, (by decide +kernel)⟩
theorem q_X11_350 : ax_CV RX11 350 Y_X11_tellRow 3 11 := ⟨cb_X11_tellRow, Or.inl (ax_in 1545 (by decide +kernel) rfl), (ax_in 1547 (by decide +kernel) rfl), (ax_in 109 (by decide +kernel) rfl), ⟨_, rfl, rfl⟩⟩
theorem cb_X11_nextOrder : ax_CB Y_X11_nextOrder 0 := ⟨(ax_in 1556 (by decide +kernel) rfl), (ax_in 128 (by decide +kernel) rfl), ⟨by decide, by decide⟩, (by decide +kernel)⟩
theorem q_X11_353 : ax_CV RX11 353 Y_X11_nextOrder 0 11 := ⟨cb_X11_nextOrder, Or.inl (ax_in 1553 (by decide +kernel) rfl), (ax_in 1555 (by decide +kernel) rfl), (ax_in 111 (by decide +kernel) rfl), ⟨_, rfl, rfl⟩⟩
theorem cb_X11_unknowing : ax_CB Y_X11_unknowing 0 := ⟨(ax_in 1526 (by decide +kernel) rfl), (ax_in 128 (by decide +kernel) rfl), ⟨by decide, by decide⟩, (by decide +kernel)⟩
theorem q_X11_357 : ax_CV RX11 357 Y_X11_unknowing 0 11 := ⟨cb_X11_unknowing, Or.inl (ax_in 1523 (by decide +kernel) rfl), (ax_in 1525 (by decide +kernel) rfl), (ax_in 105 (by decide +kernel) rfl), ⟨_, rfl, rfl⟩⟩
theorem cb_X11_bits : ax_CB Y_X11_bits 1 := ⟨(ax_in 1533 (by decide +kernel) rfl), (ax_in 128 (by decide +kernel) rfl), ⟨by decide, by decide⟩, (by decide +kernel)⟩
theorem q_X11_360 : ax_CS RX11 360 Y_X11_bits 1 := ⟨cb_X11_bits, Or.inl (ax_in 1531 (by decide +kernel) rfl), (ax_in 1532 (by decide +kernel) rfl)⟩
theorem cb_X11_canTell : ax_CB Y_X11_canTell 1 := ⟨(ax_in 1530 (by decide +kernel) rfl), (ax_in 128 (by decide +kernel) rfl), ⟨by decide, by decide⟩, (by decide +kernel)⟩
theorem q_X11_363 : ax_CV RX11 363 Y_X11_canTell 1 11 := ⟨cb_X11_canTell, Or.inl (ax_in 1527 (by decide +kernel) rfl), (ax_in 1529 (by decide +kernel) rfl), (ax_in 106 (by decide +kernel) rfl), ⟨_, rfl, rfl⟩⟩
theorem cb_X11_findDark : ax_CB Y_X11_findDark 0 := ⟨(ax_in 1537 (by decide +kernel) rfl), (ax_in 128 (by decide +kernel) rfl), ⟨by decide, by decide⟩, (by decide +kernel)⟩
theorem q_X11_366 : ax_CV RX11 366 Y_X11_findDark 0 11 := ⟨cb_X11_findDark, Or.inl (ax_in 1534 (by decide +kernel) rfl), (ax_in 1536 (by decide +kernel) rfl), (ax_in 107 (by decide +kernel) rfl), ⟨_, rfl, rfl⟩⟩
theorem cb_X11_tellSet : ax_CB Y_X11_tellSet 4 := ⟨(ax_in 1541 (by decide +kernel) rfl), (ax_in 128 (by decide +kernel) rfl), ⟨by decide, by decide⟩, (by decide +kernel)⟩
theorem q_X11_369 : ax_CV RX11 369 Y_X11_tellSet 4 11 := ⟨cb_X11_tellSet, Or.inl (ax_in 1538 (by decide +kernel) rfl), (ax_in 1540 (by decide +kernel) rfl), (ax_in 108 (by decide +kernel) rfl), ⟨_, rfl, rfl⟩⟩
theorem cb_X11_wayTo : ax_CB Y_X11_wayTo 5 := ⟨(ax_in 1590 (by decide +kernel) rfl), (ax_in 128 (by decide +kernel) rfl), ⟨by decide, by decide⟩, (by decide +kernel)⟩
theorem q_X11_383 : ax_CV RX11 383 Y_X11_wayTo 5 11 := ⟨cb_X11_wayTo, Or.inl (ax_in 1587 (by decide +kernel) rfl), (ax_in 1589 (by decide +kernel) rfl), (ax_in 113 (by decide +kernel) rfl), ⟨_, rfl, rfl⟩⟩
theorem cb_X11_opensOf : ax_CB Y_X11_opensOf 2 := ⟨(ax_in 1594 (by decide +kernel) rfl), (ax_in 128 (by decide +kernel) rfl), ⟨by decide, by decide⟩, (by decide +kernel)⟩
theorem q_X11_386 : ax_CV RX11 386 Y_X11_opensOf 2 11 := ⟨cb_X11_opensOf, Or.inl (ax_in 1591 (by decide +kernel) rfl), (ax_in 1593 (by decide +kernel) rfl), (ax_in 114 (by decide +kernel) rfl), ⟨_, rfl, rfl⟩⟩
theorem cb_X11_goRow : ax_CB Y_X11_goRow 3 := ⟨(ax_in 1585 (by decide +kernel) rfl), (ax_in 128 (by decide +kernel) rfl), ⟨by decide, by decide⟩, (by decide +kernel)⟩
theorem q_X11_389 : ax_CV RX11 389 Y_X11_goRow 3 11 := ⟨cb_X11_goRow, Or.inl (ax_in 1582 (by decide +kernel) rfl), (ax_in 1584 (by decide +kernel) rfl), (ax_in 112 (by decide +kernel) rfl), ⟨_, rfl, rfl⟩⟩
theorem cb_X11_bestFrom : ax_CB Y_X11_bestFrom 3 := ⟨(ax_in 1612 (by decide +kernel) rfl), (ax_in 128 (by decide +kernel) rfl), ⟨by decide, by decide⟩, (by decide +kernel)⟩
theorem q_X11_395 : ax_CV RX11 395 Y_X11_bestFrom 3 11 := ⟨cb_X11_bestFrom, Or.inl (ax_in 1609 (by decide +kernel) rfl), (ax_in 1611 (by decide +kernel) rfl), (ax_in 115 (by decide +kernel) rfl), ⟨_, rfl, rfl⟩⟩
theorem cb_X2_seeByWaiting : ax_CB Y_X2_seeByWaiting 2 := ⟨(ax_in 846 (by decide +kernel) rfl), (ax_in 124 (by decide +kernel) rfl), ⟨by decide, by decide⟩, (by decide +kernel)⟩
theorem q_X2_106 : ax_CV RX2 106 Y_X2_seeByWaiting 2 2 := ⟨cb_X2_seeByWaiting, Or.inl (ax_in 843 (by decide +kernel) rfl), (ax_in 845 (by decide +kernel) rfl), (ax_in 40 (by decide +kernel) rfl), ⟨_, rfl, rfl⟩⟩
theorem cb_X2_seeByWay : ax_CB Y_X2_seeByWay 3 := ⟨(ax_in 850 (by decide +kernel) rfl), (ax_in 124 (by decide +kernel) rfl), ⟨by decide, by decide⟩, (by decide +kernel)⟩
theorem q_X2_109 : ax_CV RX2 109 Y_X2_seeByWay 3 2 := ⟨cb_X2_seeByWay, Or.inl (ax_in 847 (by decide +kernel) rfl), (ax_in 849 (by decide +kernel) rfl), (ax_in 41 (by decide +kernel) rfl), ⟨_, rfl, rfl⟩⟩
theorem cb_X3_beyond : ax_CB Y_X3_beyond 2 := ⟨(ax_in 854 (by decide +kernel) rfl), (ax_in 120 (by decide +kernel) rfl), ⟨by decide, by decide⟩, (by decide +kernel)⟩
theorem q_X2_112 : ax_CV RX2 112 Y_X3_beyond 2 3 := ⟨cb_X3_beyond, Or.inr ⟨"LastLamps", (ax_in 851 (by decide +kernel) rfl)⟩, (ax_in 853 (by decide +kernel) rfl), (ax_in 42 (by decide +kernel) rfl), ⟨_, rfl, rfl⟩⟩
theorem cb_X2_stepInto : ax_CB Y_X2_stepInto 3 := ⟨(ax_in 858 (by decide +kernel) rfl), (ax_in 124 (by decide +kernel) rfl), ⟨by decide, by decide⟩, (by decide +kernel)⟩
theorem q_X2_115 : ax_CV RX2 115 Y_X2_stepInto 3 2 := ⟨cb_X2_stepInto, Or.inl (ax_in 855 (by decide +kernel) rfl), (ax_in 857 (by decide +kernel) rfl), (ax_in 43 (by decide +kernel) rfl), ⟨_, rfl, rfl⟩⟩
theorem cb_J7_fill_53178 : ax_CB Y_J7_fill_53178 2 := ⟨(ax_in 784 (by decide +kernel) rfl), (ax_in 135 (by decide +kernel) rfl), ⟨by decide, by decide⟩, (by decide +kernel)⟩
theorem q_X2_48 : ax_CS RX2 48 Y_J7_fill_53178 2 := ⟨cb_J7_fill_53178, Or.inl (ax_in 825 (by decide +kernel) rfl), (ax_in 783 (by decide +kernel) rfl)⟩
theorem cb_X2_findNear : ax_CB Y_X2_findNear 0 := ⟨(ax_in 829 (by decide +kernel) rfl), (ax_in 124 (by decide +kernel) rfl), ⟨by decide, by decide⟩, (by decide +kernel)⟩
theorem q_X2_62 : ax_CV RX2 62 Y_X2_findNear 0 2 := ⟨cb_X2_findNear, Or.inl (ax_in 826 (by decide +kernel) rfl), (ax_in 828 (by decide +kernel) rfl), (ax_in 36 (by decide +kernel) rfl), ⟨_, rfl, rfl⟩⟩
theorem cb_X2_search : ax_CB Y_X2_search 0 := ⟨(ax_in 838 (by decide +kernel) rfl), (ax_in 124 (by decide +kernel) rfl), ⟨by decide, by decide⟩, (by decide +kernel)⟩
theorem q_X2_65 : ax_CV RX2 65 Y_X2_search 0 2 := ⟨cb_X2_search, Or.inl (ax_in 835 (by decide +kernel) rfl), (ax_in 837 (by decide +kernel) rfl), (ax_in 38 (by decide +kernel) rfl), ⟨_, rfl, rfl⟩⟩
theorem cb_X2_send : ax_CB Y_X2_send 1 := ⟨(ax_in 865 (by decide +kernel) rfl), (ax_in 124 (by decide +kernel) rfl), ⟨by decide, by decide⟩, (by decide +kernel)⟩
theorem q_X2_69 : ax_CV RX2 69 Y_X2_send 1 2 := ⟨cb_X2_send, Or.inl (ax_in 862 (by decide +kernel) rfl), (ax_in 864 (by decide +kernel) rfl), (ax_in 44 (by decide +kernel) rfl), ⟨_, rfl, rfl⟩⟩
theorem q_X2_82 : ax_CV RX2 82 Y_X3_fact 2 3 := ⟨cb_X3_fact, Or.inr ⟨"LastLamps", (ax_in 830 (by decide +kernel) rfl)⟩, (ax_in 696 (by decide +kernel) rfl), (ax_in 18 (by decide +kernel) rfl), ⟨_, rfl, rfl⟩⟩
theorem cb_X2_addNear : ax_CB Y_X2_addNear 2 := ⟨(ax_in 834 (by decide +kernel) rfl), (ax_in 124 (by decide +kernel) rfl), ⟨by decide, by decide⟩, (by decide +kernel)⟩
theorem q_X2_86 : ax_CV RX2 86 Y_X2_addNear 2 2 := ⟨cb_X2_addNear, Or.inl (ax_in 831 (by decide +kernel) rfl), (ax_in 833 (by decide +kernel) rfl), (ax_in 37 (by decide +kernel) rfl), ⟨_, rfl, rfl⟩⟩
theorem cb_X2_see : ax_CB Y_X2_see 3 := ⟨(ax_in 842 (by decide +kernel) rfl), (ax_in 124 (by decide +kernel) rfl), ⟨by decide, by decide⟩, (by decide +kernel)⟩
theorem q_X2_96 : ax_CV RX2 96 Y_X2_see 3 2 := ⟨cb_X2_see, Or.inl (ax_in 839 (by decide +kernel) rfl), (ax_in 841 (by decide +kernel) rfl), (ax_in 39 (by decide +kernel) rfl), ⟨_, rfl, rfl⟩⟩
theorem q_X3_34 : ax_CV RX3 34 Y_X3_fact 2 3 := ⟨cb_X3_fact, Or.inl (ax_in 774 (by decide +kernel) rfl), (ax_in 696 (by decide +kernel) rfl), (ax_in 18 (by decide +kernel) rfl), ⟨_, rfl, rfl⟩⟩
theorem cb_X9_choice : ax_CB Y_X9_choice 3 := ⟨(ax_in 1036 (by decide +kernel) rfl), (ax_in 123 (by decide +kernel) rfl), ⟨by decide, by decide⟩, (by decide +kernel)⟩
theorem q_X4_43 : ax_CV RX4 43 Y_X9_choice 3 9 := ⟨cb_X9_choice, Or.inr ⟨"LastLamps", (ax_in 1033 (by decide +kernel) rfl)⟩, (ax_in 1035 (by decide +kernel) rfl), (ax_in 69 (by decide +kernel) rfl), ⟨_, rfl, rfl⟩⟩
theorem cb_X9_through : ax_CB Y_X9_through 2 := ⟨(ax_in 792 (by decide +kernel) rfl), (ax_in 123 (by decide +kernel) rfl), ⟨by decide, by decide⟩, (by decide +kernel)⟩
theorem q_X4_49 : ax_CV RX4 49 Y_X9_through 2 9 := ⟨cb_X9_through, Or.inr ⟨"LastLamps", (ax_in 1038 (by decide +kernel) rfl)⟩, (ax_in 791 (by decide +kernel) rfl), (ax_in 30 (by decide +kernel) rfl), ⟨_, rfl, rfl⟩⟩
theorem q_X4_53 : ax_CV RX4 53 Y_X3_notBad 2 3 := ⟨cb_X3_notBad, Or.inr ⟨"LastLamps", (ax_in 1039 (by decide +kernel) rfl)⟩, (ax_in 1041 (by decide +kernel) rfl), (ax_in 70 (by decide +kernel) rfl), ⟨_, rfl, rfl⟩⟩
theorem cb_X4_both : ax_CB Y_X4_both 2 := ⟨(ax_in 1046 (by decide +kernel) rfl), (ax_in 127 (by decide +kernel) rfl), ⟨by decide, by decide⟩, (by decide +kernel)⟩
theorem q_X4_58 : ax_CS RX4 58 Y_X4_both 2 := ⟨cb_X4_both, Or.inl (ax_in 1044 (by decide +kernel) rfl), (ax_in 1045 (by decide +kernel) rfl)⟩
theorem cb_X4_goOnFromz : ax_CB (Y_X4_goOnFrom 0) 6 := ⟨(ax_in 1067 (by decide +kernel) rfl), (ax_in 127 (by decide +kernel) rfl), ⟨by decide, by decide⟩, (by decide +kernel)⟩
theorem cb_X4_goOnFrom {r : Nat} : ax_CB (Y_X4_goOnFrom r) 6 := cb_X4_goOnFromz
theorem q_X4_66z : ax_CS RX4 66 (Y_X4_goOnFrom 0) 6 := ⟨cb_X4_goOnFromz, Or.inl (ax_in 1065 (by decide +kernel) rfl), (ax_in 1066 (by decide +kernel) rfl)⟩
theorem q_X4_66 {r : Nat} : ax_CS RX4 66 (Y_X4_goOnFrom r) 6 := q_X4_66z
theorem cb_X3_touches : ax_CB Y_X3_touches 2 := ⟨(ax_in 773 (by decide +kernel) rfl), (ax_in 120 (by decide +kernel) rfl), ⟨by decide, by decide⟩, (by decide +kernel)⟩
theorem q_X4_81 : ax_CV RX4 81 Y_X3_touches 2 3 := ⟨cb_X3_touches, Or.inr ⟨"LastLamps", (ax_in 1069 (by decide +kernel) rfl)⟩, (ax_in 772 (by decide +kernel) rfl), (ax_in 27 (by decide +kernel) rfl), ⟨_, rfl, rfl⟩⟩
theorem q_X4_85 : ax_CV RX4 85 Y_X3_beyond 2 3 := ⟨cb_X3_beyond, Or.inr ⟨"LastLamps", (ax_in 1070 (by decide +kernel) rfl)⟩, (ax_in 853 (by decide +kernel) rfl), (ax_in 42 (by decide +kernel) rfl), ⟨_, rfl, rfl⟩⟩
theorem q_X5_11 : ax_CI RX5 11 Y_X3_init 0 := ⟨cb_X3_init, Or.inr ⟨"LastLamps", (ax_in 170 (by decide +kernel) rfl)⟩, (ax_in 171 (by decide +kernel) rfl), rfl, rfl⟩
theorem cb_X5_isLetter : ax_CB Y_X5_isLetter 1 := ⟨(ax_in 590 (by decide +kernel) rfl), (ax_in 119 (by decide +kernel) rfl), ⟨by decide, by decide⟩, (by decide +kernel)⟩
theorem q_X5_114 : ax_CV RX5 114 Y_X5_isLetter 1 5 := ⟨cb_X5_isLetter, Or.inl (ax_in 587 (by decide +kernel) rfl), (ax_in 589 (by decide +kernel) rfl), (ax_in 6 (by decide +kernel) rfl), ⟨_, rfl, rfl⟩⟩
theorem cb_X5_isFigure : ax_CB Y_X5_isFigure 1 := ⟨(ax_in 636 (by decide +kernel) rfl), (ax_in 119 (by decide +kernel) rfl), ⟨by decide, by decide⟩, (by decide +kernel)⟩
theorem q_X5_122 : ax_CV RX5 122 Y_X5_isFigure 1 5 := ⟨cb_X5_isFigure, Or.inl (ax_in 633 (by decide +kernel) rfl), (ax_in 635 (by decide +kernel) rfl), (ax_in 8 (by decide +kernel) rfl), ⟨_, rfl, rfl⟩⟩
theorem q_X5_125 : ax_CS RX5 125 Y_X10_within 3 := ⟨cb_X10_within, Or.inr ⟨"LastLamps", (ax_in 641 (by decide +kernel) rfl)⟩, (ax_in 546 (by decide +kernel) rfl)⟩
theorem cb_X3_vanish : ax_CB Y_X3_vanish 0 := ⟨(ax_in 563 (by decide +kernel) rfl), (ax_in 120 (by decide +kernel) rfl), ⟨by decide, by decide⟩, (by decide +kernel)⟩
theorem q_X5_32 : ax_CV RX5 32 Y_X3_vanish 0 3 := ⟨cb_X3_vanish, Or.inr ⟨"LastLamps", (ax_in 560 (by decide +kernel) rfl)⟩, (ax_in 562 (by decide +kernel) rfl), (ax_in 2 (by decide +kernel) rfl), ⟨_, rfl, rfl⟩⟩
theorem cb_X5_readPlaces : ax_CB Y_X5_readPlaces 0 := ⟨(ax_in 567 (by decide +kernel) rfl), (ax_in 119 (by decide +kernel) rfl), ⟨by decide, by decide⟩, (by decide +kernel)⟩
theorem q_X5_35 : ax_CV RX5 35 Y_X5_readPlaces 0 5 := ⟨cb_X5_readPlaces, Or.inl (ax_in 564 (by decide +kernel) rfl), (ax_in 566 (by decide +kernel) rfl), (ax_in 3 (by decide +kernel) rfl), ⟨_, rfl, rfl⟩⟩
theorem cb_X5_atEnd : ax_CB Y_X5_atEnd 0 := ⟨(ax_in 586 (by decide +kernel) rfl), (ax_in 119 (by decide +kernel) rfl), ⟨by decide, by decide⟩, (by decide +kernel)⟩
theorem q_X5_38 : ax_CV RX5 38 Y_X5_atEnd 0 5 := ⟨cb_X5_atEnd, Or.inl (ax_in 583 (by decide +kernel) rfl), (ax_in 585 (by decide +kernel) rfl), (ax_in 5 (by decide +kernel) rfl), ⟨_, rfl, rfl⟩⟩
theorem cb_X5_readClause : ax_CB Y_X5_readClause 0 := ⟨(ax_in 649 (by decide +kernel) rfl), (ax_in 119 (by decide +kernel) rfl), ⟨by decide, by decide⟩, (by decide +kernel)⟩
theorem q_X5_42 : ax_CV RX5 42 Y_X5_readClause 0 5 := ⟨cb_X5_readClause, Or.inl (ax_in 646 (by decide +kernel) rfl), (ax_in 648 (by decide +kernel) rfl), (ax_in 11 (by decide +kernel) rfl), ⟨_, rfl, rfl⟩⟩
theorem cb_X5_blame : ax_CB Y_X5_blame 2 := ⟨(ax_in 640 (by decide +kernel) rfl), (ax_in 119 (by decide +kernel) rfl), ⟨by decide, by decide⟩, (by decide +kernel)⟩
theorem q_X5_48 : ax_CV RX5 48 Y_X5_blame 2 5 := ⟨cb_X5_blame, Or.inl (ax_in 637 (by decide +kernel) rfl), (ax_in 639 (by decide +kernel) rfl), (ax_in 9 (by decide +kernel) rfl), ⟨_, rfl, rfl⟩⟩
theorem cb_X5_takeWord : ax_CB Y_X5_takeWord 1 := ⟨(ax_in 572 (by decide +kernel) rfl), (ax_in 119 (by decide +kernel) rfl), ⟨by decide, by decide⟩, (by decide +kernel)⟩
theorem q_X5_54 : ax_CV RX5 54 Y_X5_takeWord 1 5 := ⟨cb_X5_takeWord, Or.inl (ax_in 569 (by decide +kernel) rfl), (ax_in 571 (by decide +kernel) rfl), (ax_in 4 (by decide +kernel) rfl), ⟨_, rfl, rfl⟩⟩
theorem cb_X5_number : ax_CB Y_X5_number 2 := ⟨(ax_in 632 (by decide +kernel) rfl), (ax_in 119 (by decide +kernel) rfl), ⟨by decide, by decide⟩, (by decide +kernel)⟩
theorem q_X5_58 : ax_CV RX5 58 Y_X5_number 2 5 := ⟨cb_X5_number, Or.inl (ax_in 629 (by decide +kernel) rfl), (ax_in 631 (by decide +kernel) rfl), (ax_in 7 (by decide +kernel) rfl), ⟨_, rfl, rfl⟩⟩
theorem cb_X5_takeClauseEnd : ax_CB Y_X5_takeClauseEnd 0 := ⟨(ax_in 645 (by decide +kernel) rfl), (ax_in 119 (by decide +kernel) rfl), ⟨by decide, by decide⟩, (by decide +kernel)⟩
theorem q_X5_64 : ax_CV RX5 64 Y_X5_takeClauseEnd 0 5 := ⟨cb_X5_takeClauseEnd, Or.inl (ax_in 642 (by decide +kernel) rfl), (ax_in 644 (by decide +kernel) rfl), (ax_in 10 (by decide +kernel) rfl), ⟨_, rfl, rfl⟩⟩
theorem cb_X5_readOut : ax_CB Y_X5_readOut 1 := ⟨(ax_in 654 (by decide +kernel) rfl), (ax_in 119 (by decide +kernel) rfl), ⟨by decide, by decide⟩, (by decide +kernel)⟩
theorem q_X5_69 : ax_CV RX5 69 Y_X5_readOut 1 5 := ⟨cb_X5_readOut, Or.inl (ax_in 651 (by decide +kernel) rfl), (ax_in 653 (by decide +kernel) rfl), (ax_in 12 (by decide +kernel) rfl), ⟨_, rfl, rfl⟩⟩
theorem cb_X5_readWay : ax_CB Y_X5_readWay 1 := ⟨(ax_in 659 (by decide +kernel) rfl), (ax_in 119 (by decide +kernel) rfl), ⟨by decide, by decide⟩, (by decide +kernel)⟩
theorem q_X5_75 : ax_CV RX5 75 Y_X5_readWay 1 5 := ⟨cb_X5_readWay, Or.inl (ax_in 656 (by decide +kernel) rfl), (ax_in 658 (by decide +kernel) rfl), (ax_in 13 (by decide +kernel) rfl), ⟨_, rfl, rfl⟩⟩
theorem cb_X3_put : ax_CB Y_X3_put 3 := ⟨(ax_in 663 (by decide +kernel) rfl), (ax_in 120 (by decide +kernel) rfl), ⟨by decide, by decide⟩, (by decide +kernel)⟩
theorem q_X5_87 : ax_CV RX5 87 Y_X3_put 3 3 := ⟨cb_X3_put, Or.inr ⟨"LastLamps", (ax_in 660 (by decide +kernel) rfl)⟩, (ax_in 662 (by decide +kernel) rfl), (ax_in 14 (by decide +kernel) rfl), ⟨_, rfl, rfl⟩⟩
theorem cb_X7_goOnFromz : ax_CB (Y_X7_goOnFrom 0) 6 := ⟨(ax_in 966 (by decide +kernel) rfl), (ax_in 126 (by decide +kernel) rfl), ⟨by decide, by decide⟩, (by decide +kernel)⟩
theorem cb_X7_goOnFrom {r : Nat} : ax_CB (Y_X7_goOnFrom r) 6 := cb_X7_goOnFromz
theorem q_X7_108z : ax_CS RX7 108 (Y_X7_goOnFrom 0) 6 := ⟨cb_X7_goOnFromz, Or.inl (ax_in 964 (by decide +kernel) rfl), (ax_in 965 (by decide +kernel) rfl)⟩
theorem q_X7_108 {r : Nat} : ax_CS RX7 108 (Y_X7_goOnFrom r) 6 := q_X7_108z
theorem cb_X7_soonestRow : ax_CB Y_X7_soonestRow 2 := ⟨(ax_in 971 (by decide +kernel) rfl), (ax_in 126 (by decide +kernel) rfl), ⟨by decide, by decide⟩, (by decide +kernel)⟩
theorem q_X7_118 : ax_CV RX7 118 Y_X7_soonestRow 2 7 := ⟨cb_X7_soonestRow, Or.inl (ax_in 968 (by decide +kernel) rfl), (ax_in 970 (by decide +kernel) rfl), (ax_in 60 (by decide +kernel) rfl), ⟨_, rfl, rfl⟩⟩
theorem cb_X7_upWhenTold : ax_CB Y_X7_upWhenTold 2 := ⟨(ax_in 976 (by decide +kernel) rfl), (ax_in 126 (by decide +kernel) rfl), ⟨by decide, by decide⟩, (by decide +kernel)⟩
theorem q_X7_121 : ax_CV RX7 121 Y_X7_upWhenTold 2 7 := ⟨cb_X7_upWhenTold, Or.inl (ax_in 973 (by decide +kernel) rfl), (ax_in 975 (by decide +kernel) rfl), (ax_in 61 (by decide +kernel) rfl), ⟨_, rfl, rfl⟩⟩
theorem q_X7_124 : ax_CV RX7 124 Y_X9_spread 2 9 := ⟨cb_X9_spread, Or.inr ⟨"LastLamps", (ax_in 972 (by decide +kernel) rfl)⟩, (ax_in 780 (by decide +kernel) rfl), (ax_in 28 (by decide +kernel) rfl), ⟨_, rfl, rfl⟩⟩
theorem q_X7_136 : ax_CS RX7 136 Y_X10_bit 1 := ⟨cb_X10_bit, Or.inr ⟨"LastLamps", (ax_in 977 (by decide +kernel) rfl)⟩, (ax_in 692 (by decide +kernel) rfl)⟩
theorem q_X7_140 : ax_CV RX7 140 Y_X7_allStops 0 7 := ⟨cb_X7_allStops, Or.inl (ax_in 990 (by decide +kernel) rfl), (ax_in 984 (by decide +kernel) rfl), (ax_in 62 (by decide +kernel) rfl), ⟨_, rfl, rfl⟩⟩
theorem q_X7_143 : ax_CV RX7 143 Y_X7_placesOf 1 7 := ⟨cb_X7_placesOf, Or.inl (ax_in 1003 (by decide +kernel) rfl), (ax_in 993 (by decide +kernel) rfl), (ax_in 64 (by decide +kernel) rfl), ⟨_, rfl, rfl⟩⟩
theorem q_X7_51 : ax_CV RX7 51 Y_X0_untoldPlaces 0 0 := ⟨cb_X0_untoldPlaces, Or.inr ⟨"LastLamps", (ax_in 947 (by decide +kernel) rfl)⟩, (ax_in 931 (by decide +kernel) rfl), (ax_in 54 (by decide +kernel) rfl), ⟨_, rfl, rfl⟩⟩
theorem cb_X7_findLast : ax_CB Y_X7_findLast 3 := ⟨(ax_in 951 (by decide +kernel) rfl), (ax_in 126 (by decide +kernel) rfl), ⟨by decide, by decide⟩, (by decide +kernel)⟩
theorem q_X7_61 : ax_CV RX7 61 Y_X7_findLast 3 7 := ⟨cb_X7_findLast, Or.inl (ax_in 948 (by decide +kernel) rfl), (ax_in 950 (by decide +kernel) rfl), (ax_in 57 (by decide +kernel) rfl), ⟨_, rfl, rfl⟩⟩
theorem q_X7_65 : ax_CV RX7 65 Y_X9_prepare 2 9 := ⟨cb_X9_prepare, Or.inr ⟨"LastLamps", (ax_in 952 (by decide +kernel) rfl)⟩, (ax_in 763 (by decide +kernel) rfl), (ax_in 25 (by decide +kernel) rfl), ⟨_, rfl, rfl⟩⟩
theorem q_X7_76 : ax_CV RX7 76 Y_X9_gather 2 9 := ⟨cb_X9_gather, Or.inr ⟨"LastLamps", (ax_in 953 (by decide +kernel) rfl)⟩, (ax_in 799 (by decide +kernel) rfl), (ax_in 31 (by decide +kernel) rfl), ⟨_, rfl, rfl⟩⟩
theorem q_X7_95 : ax_CS RX7 95 Y_J7_fill_53178 2 := ⟨cb_J7_fill_53178, Or.inl (ax_in 963 (by decide +kernel) rfl), (ax_in 783 (by decide +kernel) rfl)⟩
theorem q_X9_38 : ax_CV RX9 38 Y_X9_prepareMarked 4 9 := ⟨cb_X9_prepareMarked, Or.inl (ax_in 765 (by decide +kernel) rfl), (ax_in 767 (by decide +kernel) rfl), (ax_in 26 (by decide +kernel) rfl), ⟨_, rfl, rfl⟩⟩
theorem q_X9_48 : ax_CV RX9 48 Y_X3_fact 2 3 := ⟨cb_X3_fact, Or.inr ⟨"LastLamps", (ax_in 769 (by decide +kernel) rfl)⟩, (ax_in 696 (by decide +kernel) rfl), (ax_in 18 (by decide +kernel) rfl), ⟨_, rfl, rfl⟩⟩
theorem q_X9_52 : ax_CV RX9 52 Y_X3_touches 2 3 := ⟨cb_X3_touches, Or.inr ⟨"LastLamps", (ax_in 770 (by decide +kernel) rfl)⟩, (ax_in 772 (by decide +kernel) rfl), (ax_in 27 (by decide +kernel) rfl), ⟨_, rfl, rfl⟩⟩
theorem q_X9_67 : ax_CS RX9 67 Y_J7_fill_53178 2 := ⟨cb_J7_fill_53178, Or.inl (ax_in 782 (by decide +kernel) rfl), (ax_in 783 (by decide +kernel) rfl)⟩
theorem cb_X9_comesSooner : ax_CB Y_X9_comesSooner 3 := ⟨(ax_in 788 (by decide +kernel) rfl), (ax_in 123 (by decide +kernel) rfl), ⟨by decide, by decide⟩, (by decide +kernel)⟩
theorem q_X9_73 : ax_CV RX9 73 Y_X9_comesSooner 3 9 := ⟨cb_X9_comesSooner, Or.inl (ax_in 785 (by decide +kernel) rfl), (ax_in 787 (by decide +kernel) rfl), (ax_in 29 (by decide +kernel) rfl), ⟨_, rfl, rfl⟩⟩
theorem q_X9_77 : ax_CV RX9 77 Y_X9_through 2 9 := ⟨cb_X9_through, Or.inl (ax_in 789 (by decide +kernel) rfl), (ax_in 791 (by decide +kernel) rfl), (ax_in 30 (by decide +kernel) rfl), ⟨_, rfl, rfl⟩⟩
theorem cb_X9_leavesLater : ax_CB Y_X9_leavesLater 3 := ⟨(ax_in 804 (by decide +kernel) rfl), (ax_in 123 (by decide +kernel) rfl), ⟨by decide, by decide⟩, (by decide +kernel)⟩
theorem q_X9_80 : ax_CV RX9 80 Y_X9_leavesLater 3 9 := ⟨cb_X9_leavesLater, Or.inl (ax_in 801 (by decide +kernel) rfl), (ax_in 803 (by decide +kernel) rfl), (ax_in 32 (by decide +kernel) rfl), ⟨_, rfl, rfl⟩⟩
theorem cb_X9_lastInto : ax_CB Y_X9_lastInto 2 := ⟨(ax_in 808 (by decide +kernel) rfl), (ax_in 123 (by decide +kernel) rfl), ⟨by decide, by decide⟩, (by decide +kernel)⟩
theorem q_X9_83 : ax_CV RX9 83 Y_X9_lastInto 2 9 := ⟨cb_X9_lastInto, Or.inl (ax_in 805 (by decide +kernel) rfl), (ax_in 807 (by decide +kernel) rfl), (ax_in 33 (by decide +kernel) rfl), ⟨_, rfl, rfl⟩⟩
theorem q_X9_86 : ax_CV RX9 86 Y_X3_beyond 2 3 := ⟨cb_X3_beyond, Or.inr ⟨"LastLamps", (ax_in 1037 (by decide +kernel) rfl)⟩, (ax_in 853 (by decide +kernel) rfl), (ax_in 42 (by decide +kernel) rfl), ⟨_, rfl, rfl⟩⟩
theorem q_X9_89 : ax_CV RX9 89 Y_X9_spread 2 9 := ⟨cb_X9_spread, Or.inl (ax_in 1079 (by decide +kernel) rfl), (ax_in 780 (by decide +kernel) rfl), (ax_in 28 (by decide +kernel) rfl), ⟨_, rfl, rfl⟩⟩
