theorem c_PitOk {M M' : ax_M} (p62 : M' 62 = M 62) (p63 : M' 63 = M 63) (p64 : M' 64 = M 64) (p65 : M' 65 = M 65) (p66 : M' 66 = M 66) (p67 : M' 67 = M 67) (p68 : M' 68 = M 68) (q0 : M' 61 0 = M 61 0) (q1 : M' 61 1 = M 61 1) (q2 : M' 61 2 = M 61 2) (q3 : M' 61 3 = M 61 3) (h : PitOk M) : PitOk M' := by
  unfold PitOk WayOk at *
  simp only [p62, p63, p64, p65, p66, p67, p68, q0, q1, q2, q3]
  exact h
theorem c_PitEq {M M' : ax_M} (p6 : M' 6 = M 6) (p7 : M' 7 = M 7) (p14 : M' 14 = M 14) (p62 : M' 62 = M 62) (p63 : M' 63 = M 63) (p64 : M' 64 = M 64) (p65 : M' 65 = M 65) (p66 : M' 66 = M 66) (p67 : M' 67 = M 67) (p68 : M' 68 = M 68) (p69 : M' 69 = M 69) (q0 : M' 61 0 = M 61 0) (q1 : M' 61 1 = M 61 1) (q2 : M' 61 2 = M 61 2) (q3 : M' 61 3 = M 61 3) (h : PitEq M) : PitEq M' := by
  unfold PitEq at *
  simp only [p6, p7, p14, p62, p63, p64, p65, p66, p67, p68, p69, q0, q1, q2, q3]
  exact h
theorem c_CrewEq {M M' : ax_M} (p8 : M' 8 = M 8) (p9 : M' 9 = M 9) (p10 : M' 10 = M 10) (p11 : M' 11 = M 11) (p12 : M' 12 = M 12) (p13 : M' 13 = M 13) (p69 : M' 69 = M 69) (p72 : M' 72 = M 72) (p73 : M' 73 = M 73) (p74 : M' 74 = M 74) (p75 : M' 75 = M 75) (p76 : M' 76 = M 76) (q0 : M' 61 0 = M 61 0) (q3 : M' 61 3 = M 61 3) (q25 : M' 61 25 = M 61 25) (q29 : M' 61 29 = M 61 29) (h : CrewEq M) : CrewEq M' := by
  unfold CrewEq at *
  simp only [p8, p9, p10, p11, p12, p13, p69, p72, p73, p74, p75, p76, q0, q3, q25, q29]
  exact h
theorem c_RowEq {M M' : ax_M} (p31 : M' 31 = M 31) (p32 : M' 32 = M 32) (p91 : M' 91 = M 91) (q0 : M' 61 0 = M 61 0) (q50 : M' 61 50 = M 61 50) (h : RowEq M) : RowEq M' := by
  unfold RowEq at *
  simp only [p31, p32, p91, q0, q50]
  exact h
theorem c_TextEq {M M' : ax_M} (p1 : M' 1 = M 1) (p2 : M' 2 = M 2) (p70 : M' 70 = M 70) (q13 : M' 61 13 = M 61 13) (h : TextEq M) : TextEq M' := by
  unfold TextEq at *
  simp only [p1, p2, p70, q13]
  exact h
theorem c_ImgEq {M M' : ax_M} (p30 : M' 30 = M 30) (p98 : M' 98 = M 98) (p97 : M' 97 = M 97) (p16 : M' 16 = M 16) (p17 : M' 17 = M 17) (p18 : M' 18 = M 18) (p19 : M' 19 = M 19) (p20 : M' 20 = M 20) (p21 : M' 21 = M 21) (p22 : M' 22 = M 22) (p23 : M' 23 = M 23) (p24 : M' 24 = M 24) (p25 : M' 25 = M 25) (p26 : M' 26 = M 26) (p27 : M' 27 = M 27) (p28 : M' 28 = M 28) (p29 : M' 29 = M 29) (q0 : M' 61 0 = M 61 0) (q3 : M' 61 3 = M 61 3) (h : ImgEq M) : ImgEq M' := by
  unfold ImgEq ImgR at *
  simp only [p30, p98, p97, p16, p17, p18, p19, p20, p21, p22, p23, p24, p25, p26, p27, p28, p29, q0, q3]
  exact h
theorem c_Mis {M M' : ax_M} (p0 : M' 0 = M 0) (p15 : M' 15 = M 15) (q32 : M' 61 32 = M 61 32) (q14 : M' 61 14 = M 61 14) (h : Mis M) : Mis M' := by
  unfold Mis at *
  simp only [p0, p15, q32, q14]
  exact h
theorem c_TelEq {n : Int} {M M' : ax_M} (p51 : M' 51 = M 51) (p59 : M' 59 = M 59) (h : TelEq n M) : TelEq n M' := by
  unfold TelEq at *
  simp only [p51, p59]
  exact h
