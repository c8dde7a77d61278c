/-- the parts of the invariant, by name -/
theorem inv_pe {n : Int} {M : ax_M} (h : Inv n M) : PitEq M := h.1.2
set_option maxHeartbeats 4000000 in
set_option maxRecDepth 100000 in
theorem C_fault {n : Int} {M : ax_M} (hI : Inv n M) : ax_Ti Y_X10_fault [aR 0] SH M (fun z1 u1 => ax_Ti Y_X11_fault [aR 61] SH u1 (fun z2 u2 => z1 = z2 ∧ Inv (n + 1) u2)) := by
  have hm := hI.2.2.2.2.2.2.2.1
  exact E_X10_fault (fun _ => E_X11_fault (fun _ => ⟨hm, inv_up hI⟩))
set_option maxHeartbeats 4000000 in
set_option maxRecDepth 100000 in
theorem C_way {n : Int} {M : ax_M} {x1 x2 : Int} (hI : Inv n M) : ax_Ti Y_X10_way [aR 0, aI x1, aI x2] SH M (fun z1 u1 => ax_Ti Y_X11_way [aR 61, aI x1, aI x2] SH u1 (fun z2 u2 => z1 = z2 ∧ Inv (n + 1) u2)) := by
  have hb := hI.1.1.2.1
  have e1 : M 6 1 = M 61 3 := (inv_pe hI).2.1
  have hk : 0 ≤ x1 → x1 < M 61 3 → _ := (inv_pe hI).2.2.2.2 x1
  have hu := inv_up hI
  have hbl := hI.2.1.2.2.2 x1
  unfold Bl at hbl
  refine E_X10_way (fun _ => ?_)
  rw [e1]
  (repeat' (first | with_reducible intro c | with_reducible apply And.intro))
  all_goals (try omega)
  all_goals (refine E_X11_way (fun _ => ?_))
  (repeat' (first | with_reducible intro c | with_reducible apply And.intro))
  all_goals first | exact hu | omega | (have hq := hk (by omega) (by omega); subst c; omega)
set_option maxHeartbeats 4000000 in
set_option maxRecDepth 100000 in
theorem C_told {n : Int} {M : ax_M} {x1 x2 : Int} (hI : Inv n M) : ax_Ti Y_X10_told [aR 0, aI x1, aI x2] SH M (fun z1 u1 => ax_Ti Y_X11_told [aR 61, aI x1, aI x2] SH u1 (fun z2 u2 => z1 = z2 ∧ Inv (n + 1) u2)) := by
  obtain ⟨e, hk, -⟩ := hI.2.1
  have hk := hk x1
  unfold Bl at hk
  have hu := inv_up hI
  refine E_X10_told (fun _ => ?_)
  rw [e.1]
  (repeat' (first | with_reducible intro c | with_reducible apply And.intro))
  all_goals (try omega)
  all_goals (refine E_X11_told (fun _ => ?_))
  (repeat' (first | with_reducible intro c | with_reducible apply And.intro))
  all_goals first | exact hu | trivial | omega
set_option maxHeartbeats 4000000 in
set_option maxRecDepth 100000 in
theorem C_light {n : Int} {M : ax_M} {x1 x2 : Int} (hI : Inv n M) : ax_Ti Y_X10_light [aR 0, aI x1, aI x2] SH M (fun z1 u1 => ax_Ti Y_X11_light [aR 61, aI x1, aI x2] SH u1 (fun z2 u2 => z1 = z2 ∧ Inv (n + 1) u2)) := by
  obtain ⟨e, -, hk, -⟩ := hI.2.1
  have hk := hk x1
  have hu := inv_up hI
  refine E_X10_light (fun _ => ?_)
  rw [e.2.2.2.1]
  (repeat' (first | with_reducible intro c | with_reducible apply And.intro))
  all_goals (try omega)
  all_goals (refine E_X11_light (fun _ => ?_))
  (repeat' (first | with_reducible intro c | with_reducible apply And.intro))
  all_goals first | exact hu | trivial | omega
set_option maxHeartbeats 4000000 in
set_option maxRecDepth 100000 in
theorem C_fall {n : Int} {M : ax_M} {x1 x2 : Int} (hI : Inv n M) (hx2 : x2 = 0 ∨ x2 = 1) : ax_Ti Y_X10_fall [aR 0, aI x1, aI x2] SH M (fun z1 u1 => ax_Ti Y_X11_fall [aR 61, aI x1, aI x2] SH u1 (fun z2 u2 => z1 = z2 ∧ Inv (n + 1) u2)) := by
  have hb := hI.1.1.2.1
  have e1 : M 6 1 = M 61 3 := (inv_pe hI).2.1
  have hk : 0 ≤ x1 → x1 < M 61 3 → _ := (inv_pe hI).2.2.2.2 x1
  have hu := inv_up hI
  have hbl := hI.2.1.2.2.2 x1
  unfold Bl at hbl
  have hfin : 0 ≤ x1 → x1 < M 61 3 → Inv (n + 1) (ax_up (ax_up M 14 x1 x2) 69 x1 x2) := by
    intro a b
    obtain ⟨⟨h1, h2⟩, h3, h4, h5, h6, h7, h8⟩ := hu
    refine ⟨⟨(c_PitOk rfl rfl rfl rfl rfl rfl rfl rfl rfl rfl rfl h1), ?_⟩, ?_, (c_RowEq rfl rfl rfl rfl rfl h4), (c_TextEq rfl rfl rfl rfl h5), (c_ImgEq rfl rfl rfl rfl rfl rfl rfl rfl rfl rfl rfl rfl rfl rfl rfl rfl rfl rfl rfl h6), c_TelEq rfl rfl h7, (c_Mis rfl rfl rfl rfl h8)⟩
    · refine ⟨h2.1, h2.2.1, h2.2.2.1, h2.2.2.2.1, fun k hk hkn => ?_⟩
      have q := h2.2.2.2.2 k hk hkn
      refine ⟨q.1, q.2.1, q.2.2.1, q.2.2.2.1, ?_⟩
      rw [up_off (ax_up M 14 x1 x2) x1 x2 (by decide : 14 ≠ 69)]
      by_cases hkx : k = x1
      · subst hkx; rw [up_at, up_at]
      · rw [up_ne _ 69 _ hkx, up_ne M 14 _ hkx, up_off M x1 x2 (by decide : 69 ≠ 14)]
        exact q.2.2.2.2
    · obtain ⟨g1, g2, g3, g4⟩ := h3
      refine ⟨g1, g2, g3, fun k hk hkn => ?_⟩
      by_cases hkx : k = x1
      · subst hkx; rw [up_at]; exact hx2
      · rw [up_ne _ 69 _ hkx, up_off M x1 x2 (by decide : 69 ≠ 14)]
        exact g4 k hk hkn
  have f61 : ax_up M 14 x1 x2 61 = M 61 := rfl
  have f69 : ax_up M 14 x1 x2 69 = M 69 := rfl
  refine E_X10_fall (fun _ => ?_)
  rw [e1]
  (repeat' (first | with_reducible intro c | with_reducible apply And.intro))
  all_goals (try omega)
  all_goals (refine E_X11_fall (fun _ => ?_))
  all_goals (try simp only [f61, f69])
  (repeat' (first | with_reducible intro c | with_reducible apply And.intro))
  all_goals first | exact hu | exact hfin (by omega) (by omega) | trivial | omega
theorem up_k (M : ax_M) (a : Nat) (i v j : Int) : ax_up M a i v a j = if j = i then v else M a j := by
  unfold ax_up
  by_cases h : j = i
  · rw [if_pos ⟨rfl, h⟩, if_pos h]
  · rw [if_neg (fun z => h z.2), if_neg h]
set_option maxHeartbeats 4000000 in
set_option maxRecDepth 100000 in
theorem C_man {n : Int} {M : ax_M} {x1 x2 x3 : Int} (hI : Inv n M) (hx2 : x2 = 0 ∨ x2 = 1) (hx3 : x3 = 0 ∨ x3 = 1) : ax_Ti Y_X10_man [aR 0, aI x1, aI x2, aI x3] SH M (fun z1 u1 => ax_Ti Y_X11_man [aR 61, aI x1, aI x2, aI x3] SH u1 (fun z2 u2 => z1 = z2 ∧ Inv (n + 1) u2)) := by
  have hnp := inv_np hI
  have e1 : M 6 0 = M 61 0 := (inv_pe hI).1
  have e8 : M 8 0 = M 61 25 := hI.2.1.1.1
  have hb := hI.2.1.1
  have hu := inv_up hI
  generalize hM1 : ax_up (ax_up (ax_up (ax_up M 9 (M 61 25) x1) 10 (M 61 25) x2) 11 (M 61 25) x3) 8 0 (M 61 25 + 1) = M1
  have f61 : M1 61 = M 61 := by rw [← hM1]; rfl
  generalize hM2 : ax_up (ax_up (ax_up (ax_up M1 72 (M 61 25) x1) 73 (M 61 25) x2) 74 (M 61 25) x3) 61 25 (M 61 25 + 1) = M2
  have hfin : 0 ≤ x1 → x1 < M 61 0 → M 61 25 < 8 → Inv (n + 1) M2 := by
    intro a b cc
    subst hM1
    subst hM2
    obtain ⟨⟨h1, h2⟩, ⟨h3, h3b, h3c, h3d⟩, h4, h5, h6, h7, h8⟩ := hu
    refine ⟨⟨(c_PitOk rfl rfl rfl rfl rfl rfl rfl rfl rfl rfl rfl h1), (c_PitEq rfl rfl rfl rfl rfl rfl rfl rfl rfl rfl rfl rfl rfl rfl rfl h2)⟩, ⟨?_, fun k hk hkn => ?_, h3c, h3d⟩, (c_RowEq rfl rfl rfl rfl rfl h4), (c_TextEq rfl rfl rfl rfl h5), (c_ImgEq rfl rfl rfl rfl rfl rfl rfl rfl rfl rfl rfl rfl rfl rfl rfl rfl rfl rfl rfl h6), c_TelEq rfl rfl h7, (c_Mis rfl rfl rfl rfl h8)⟩
    · exact ⟨rfl, (by show 0 ≤ M 61 25 + 1; omega), (by show M 61 25 + 1 ≤ 8; omega), h3.2.2.2.1, h3.2.2.2.2.1, h3.2.2.2.2.2⟩
    · have hkn2 : k < M 61 25 + 1 := hkn
      show ax_up M 9 (M 61 25) x1 9 k = ax_up M 72 (M 61 25) x1 72 k ∧ 0 ≤ ax_up M 72 (M 61 25) x1 72 k ∧ ax_up M 72 (M 61 25) x1 72 k < M 61 0 ∧ ax_up M 10 (M 61 25) x2 10 k = ax_up M 73 (M 61 25) x2 73 k ∧ ax_up M 11 (M 61 25) x3 11 k = ax_up M 74 (M 61 25) x3 74 k ∧ Bl (ax_up M 73 (M 61 25) x2 73 k) ∧ Bl (ax_up M 74 (M 61 25) x3 74 k)
      simp only [up_k]
      by_cases hkm : k = M 61 25
      · simp only [if_pos hkm]
        exact ⟨by trivial, a, b, by trivial, by trivial, hx2, hx3⟩
      · simp only [if_neg hkm]
        exact h3b k hk (by omega)
  refine E_X10_man (fun _ => ?_)
  rw [e1, e8, hM1]
  (repeat' (first | with_reducible intro c | with_reducible apply And.intro))
  all_goals (try omega)
  all_goals (refine E_X11_man (fun _ => ?_))
  all_goals (try simp only [f61, hM2])
  (repeat' (first | with_reducible intro c | with_reducible apply And.intro))
  all_goals first | exact hu | exact hfin (by omega) (by omega) (by omega) | trivial | omega
set_option maxHeartbeats 4000000 in
set_option maxRecDepth 100000 in
theorem C_lamp {n : Int} {M : ax_M} {x1 x2 : Int} (hI : Inv n M) : ax_Ti Y_X10_lamp [aR 0, aI x1, aI x2] SH M (fun z1 u1 => ax_Ti Y_X11_lamp [aR 61, aI x1, aI x2] SH u1 (fun z2 u2 => z1 = z2 ∧ Inv (n + 1) u2)) := by
  have hnp := inv_np hI
  have e1 : M 6 0 = M 61 0 := (inv_pe hI).1
  have e8 : M 8 1 = M 61 29 := hI.2.1.1.2.2.2.1
  have hb := hI.2.1.1
  have hu := inv_up hI
  generalize hM1 : ax_up (ax_up (ax_up M 12 (M 61 29) x1) 13 (M 61 29) x2) 8 1 (M 61 29 + 1) = M1
  have f61 : M1 61 = M 61 := by rw [← hM1]; rfl
  generalize hM2 : ax_up (ax_up (ax_up M1 75 (M 61 29) x1) 76 (M 61 29) x2) 61 29 (M 61 29 + 1) = M2
  have hfin : 0 ≤ x1 → x1 < M 61 0 → 0 ≤ x2 → x2 ≤ 99 → M 61 29 < 4 → Inv (n + 1) M2 := by
    intro a b a2 b2 cc
    subst hM1
    subst hM2
    obtain ⟨⟨h1, h2⟩, ⟨h3, h3b, h3c, h3d⟩, h4, h5, h6, h7, h8⟩ := hu
    refine ⟨⟨(c_PitOk rfl rfl rfl rfl rfl rfl rfl rfl rfl rfl rfl h1), (c_PitEq rfl rfl rfl rfl rfl rfl rfl rfl rfl rfl rfl rfl rfl rfl rfl h2)⟩, ⟨?_, h3b, fun k hk hkn => ?_, h3d⟩, (c_RowEq rfl rfl rfl rfl rfl h4), (c_TextEq rfl rfl rfl rfl h5), (c_ImgEq rfl rfl rfl rfl rfl rfl rfl rfl rfl rfl rfl rfl rfl rfl rfl rfl rfl rfl rfl h6), c_TelEq rfl rfl h7, (c_Mis rfl rfl rfl rfl h8)⟩
    · exact ⟨h3.1, h3.2.1, h3.2.2.1, rfl, (by show 0 ≤ M 61 29 + 1; omega), (by show M 61 29 + 1 ≤ 4; omega)⟩
    · have hkn2 : k < M 61 29 + 1 := hkn
      show ax_up M 12 (M 61 29) x1 12 k = ax_up M 75 (M 61 29) x1 75 k ∧ 0 ≤ ax_up M 75 (M 61 29) x1 75 k ∧ ax_up M 75 (M 61 29) x1 75 k < M 61 0 ∧ ax_up M 13 (M 61 29) x2 13 k = ax_up M 76 (M 61 29) x2 76 k ∧ 0 ≤ ax_up M 76 (M 61 29) x2 76 k ∧ ax_up M 76 (M 61 29) x2 76 k ≤ 99
      simp only [up_k]
      by_cases hkm : k = M 61 29
      · simp only [if_pos hkm]
        exact ⟨by trivial, a, b, by trivial, a2, b2⟩
      · simp only [if_neg hkm]
        exact h3c k hk (by omega)
  refine E_X10_lamp (fun _ => ?_)
  rw [e1, e8, hM1]
  (repeat' (first | with_reducible intro c | with_reducible apply And.intro))
  all_goals (try omega)
  all_goals (refine E_X11_lamp (fun _ => ?_))
  all_goals (try simp only [f61, hM2])
  (repeat' (first | with_reducible intro c | with_reducible apply And.intro))
  all_goals first | exact hu | exact hfin (by omega) (by omega) (by omega) (by omega) (by omega) | trivial | omega
set_option maxHeartbeats 4000000 in
set_option maxRecDepth 100000 in
theorem C_moves {n : Int} {M : ax_M} {x1 x2 x3 : Int} (hI : Inv n M) (hx3 : x3 = 0 ∨ x3 = 1) : ax_Ti Y_X10_moves [aR 0, aI x1, aI x2, aI x3] SH M (fun z1 u1 => ax_Ti Y_X11_moves [aR 61, aI x1, aI x2, aI x3] SH u1 (fun z2 u2 => z1 = z2 ∧ Inv (n + 1) u2)) := by
  have hnp := inv_np hI
  have e1 : M 6 0 = M 61 0 := (inv_pe hI).1
  have e8 : M 8 0 = M 61 25 := hI.2.1.1.1
  have hb := hI.2.1.1
  have hk1 := hI.2.1.2.1 x1
  have hu := inv_up hI
  generalize hM1 : ax_up (ax_up M 9 x1 x2) 10 x1 x3 = M1
  have f61 : M1 61 = M 61 := by rw [← hM1]; rfl
  have f72 : M1 72 = M 72 := by rw [← hM1]; rfl
  generalize hM2 : ax_up (ax_up M1 72 x1 x2) 73 x1 x3 = M2
  have hfin : 0 ≤ x2 → x2 < M 61 0 → Inv (n + 1) M2 := by
    intro a b
    subst hM1
    subst hM2
    obtain ⟨⟨h1, h2⟩, ⟨h3, h3b, h3c, h3d⟩, h4, h5, h6, h7, h8⟩ := hu
    refine ⟨⟨(c_PitOk rfl rfl rfl rfl rfl rfl rfl rfl rfl rfl rfl h1), (c_PitEq rfl rfl rfl rfl rfl rfl rfl rfl rfl rfl rfl rfl rfl rfl rfl h2)⟩, ⟨h3, fun k hk hkn => ?_, h3c, h3d⟩, (c_RowEq rfl rfl rfl rfl rfl h4), (c_TextEq rfl rfl rfl rfl h5), (c_ImgEq rfl rfl rfl rfl rfl rfl rfl rfl rfl rfl rfl rfl rfl rfl rfl rfl rfl rfl rfl h6), c_TelEq rfl rfl h7, (c_Mis rfl rfl rfl rfl h8)⟩
    have q := h3b k hk hkn
    show ax_up M 9 x1 x2 9 k = ax_up M 72 x1 x2 72 k ∧ 0 ≤ ax_up M 72 x1 x2 72 k ∧ ax_up M 72 x1 x2 72 k < M 61 0 ∧ ax_up M 10 x1 x3 10 k = ax_up M 73 x1 x3 73 k ∧ M 11 k = M 74 k ∧ Bl (ax_up M 73 x1 x3 73 k) ∧ Bl (M 74 k)
    simp only [up_k]
    by_cases hkm : k = x1
    · simp only [if_pos hkm]
      exact ⟨by trivial, a, b, by trivial, q.2.2.2.2.1, hx3, q.2.2.2.2.2.2⟩
    · simp only [if_neg hkm]
      exact q
  refine E_X10_moves (fun _ => ?_)
  rw [e1, e8, hM1]
  (repeat' (first | with_reducible intro c | with_reducible apply And.intro))
  all_goals (try omega)
  all_goals (refine E_X11_moves (fun _ => ?_))
  all_goals (try simp only [f61, f72, hM2])
  (repeat' (first | with_reducible intro c | with_reducible apply And.intro))
  all_goals first | exact hu | exact hfin (by omega) (by omega) | trivial | omega
set_option maxHeartbeats 4000000 in
set_option maxRecDepth 100000 in
theorem C_go {n : Int} {M : ax_M} {x1 : Int} (hI : Inv n M) : ax_Ti Y_X10_go [aR 0, aI x1] SH M (fun z1 u1 => ax_Ti Y_X11_go [aR 61, aI x1] SH u1 (fun z2 u2 => z1 = z2 ∧ Inv (n + 1) u2)) := by
  have hnp := inv_np hI
  have e1 : M 6 0 = M 61 0 := (inv_pe hI).1
  have e8 : M 31 1 = M 61 50 := hI.2.2.1.1
  have hb := hI.2.2.1
  have hb2 : 0 ≤ M 61 50 ∧ M 61 50 ≤ 12 := ⟨hb.2.1, hb.2.2.1⟩
  have hu := inv_up hI
  generalize hM1 : ax_up (ax_up M 32 (M 61 50) x1) 31 1 (M 61 50 + 1) = M1
  have f61 : M1 61 = M 61 := by rw [← hM1]; rfl
  generalize hM2 : ax_up (ax_up M1 91 (M 61 50) x1) 61 50 (M 61 50 + 1) = M2
  have hfin : 0 ≤ x1 → x1 < M 61 0 → M 61 50 < 12 → Inv (n + 1) M2 := by
    intro a b cc
    subst hM1
    subst hM2
    obtain ⟨⟨h1, h2⟩, h3, h4, h5, h6, h7, h8⟩ := hu
    refine ⟨⟨(c_PitOk rfl rfl rfl rfl rfl rfl rfl rfl rfl rfl rfl h1), (c_PitEq rfl rfl rfl rfl rfl rfl rfl rfl rfl rfl rfl rfl rfl rfl rfl h2)⟩, (c_CrewEq rfl rfl rfl rfl rfl rfl rfl rfl rfl rfl rfl rfl rfl rfl rfl rfl h3), ⟨rfl, (by show 0 ≤ M 61 50 + 1; omega), (by show M 61 50 + 1 ≤ 12; omega), fun k hk hkn => ?_⟩, (c_TextEq rfl rfl rfl rfl h5), (c_ImgEq rfl rfl rfl rfl rfl rfl rfl rfl rfl rfl rfl rfl rfl rfl rfl rfl rfl rfl rfl h6), c_TelEq rfl rfl h7, (c_Mis rfl rfl rfl rfl h8)⟩
    have hkn2 : k < M 61 50 + 1 := hkn
    show ax_up M 32 (M 61 50) x1 32 k = ax_up M 91 (M 61 50) x1 91 k ∧ 0 ≤ ax_up M 91 (M 61 50) x1 91 k ∧ ax_up M 91 (M 61 50) x1 91 k < M 61 0
    simp only [up_k]
    by_cases hkm : k = M 61 50
    · simp only [if_pos hkm]
      exact ⟨by trivial, a, b⟩
    · simp only [if_neg hkm]
      exact h4.2.2.2 k hk (by omega)
  refine E_X10_go (fun _ => ?_)
  rw [e1, e8, hM1]
  (repeat' (first | with_reducible intro c | with_reducible apply And.intro))
  all_goals (try omega)
  all_goals (refine E_X11_go (fun _ => ?_))
  all_goals (try simp only [f61, hM2])
  (repeat' (first | with_reducible intro c | with_reducible apply And.intro))
  all_goals first | exact hu | exact hfin (by omega) (by omega) (by omega) | trivial | omega
theorem C_clear {n : Int} {M : ax_M} (hI : Inv n M) : ax_Ti Y_X10_clear [aR 0] SH M (fun z1 u1 => ax_Ti Y_X11_clear [aR 61] SH u1 (fun z2 u2 => z1 = z2 ∧ Inv (n + 1) u2)) := by
  have e8 : M 31 1 = M 61 50 := hI.2.2.1.1
  obtain ⟨⟨h1, h2⟩, h3, h4, h5, h6, h7, h8⟩ := inv_up hI
  refine E_X10_clear (fun _ => E_X11_clear (fun _ => ⟨e8, ⟨(c_PitOk rfl rfl rfl rfl rfl rfl rfl rfl rfl rfl rfl h1), (c_PitEq rfl rfl rfl rfl rfl rfl rfl rfl rfl rfl rfl rfl rfl rfl rfl h2)⟩, (c_CrewEq rfl rfl rfl rfl rfl rfl rfl rfl rfl rfl rfl rfl rfl rfl rfl rfl h3), ⟨rfl, Int.le_refl 0, (by show (0 : Int) ≤ 12; decide), fun k hk hkn => ?_⟩, (c_TextEq rfl rfl rfl rfl h5), (c_ImgEq rfl rfl rfl rfl rfl rfl rfl rfl rfl rfl rfl rfl rfl rfl rfl rfl rfl rfl rfl h6), c_TelEq rfl rfl h7, (c_Mis rfl rfl rfl rfl h8)⟩))
  have hkn2 : k < 0 := hkn
  omega
