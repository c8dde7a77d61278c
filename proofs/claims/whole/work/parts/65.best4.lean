theorem wg_next {M M' : ax_M} (hW : WgOk M) (h12 : M 51 12 ≤ 1000000) (r : R51 M M') (q4 : M' 51 4 = M 51 4) (q52 : ∀ s, s ≠ M 51 4 → M' 52 s = M 52 s) (q53 : M' 53 = M 53) (q54 : M' 54 = M 54) (q12 : M' 51 12 = M 51 12 + 1) (q59 : ∀ j, 0 ≤ j → j < 700 → 0 ≤ M' 59 j ∧ M' 59 j ≤ M' 51 12) : WgOk M' := by
  obtain ⟨⟨a, b, c⟩, d, e, f⟩ := hW
  refine ⟨⟨by rw [fU_51 r, q4]; exact a, ?_, fun v hv => ?_⟩, by rw [fU_51 r]; exact d, by omega, q59⟩
  · rw [fU_51 r]
    exact srt_cg b (fun s s0 s1 => q52 s (by omega))
  · rw [q53, q54, dk_u r.u]
    rw [r 61 (by decide)] at hv
    exact c v hv
set_option maxHeartbeats 4000000 in
set_option maxRecDepth 100000 in
theorem S_X10_byTwo {n : Int} {post : Int → ax_M → Prop} {M : ax_M} {x1 x2 x3 x4 x5 x6 : Int} (hI : Inv n M) (hn : n ≤ 100000) (h : ∀ M', R51 M M' → TelEq (n + 1) M' → post (fTwo M x1 x2 x3 x4 x5 x6) M') : ax_Ti Y_X10_byTwo [aR 0, aI x1, aI x2, aI x3, aI x4, aI x5, aI x6] SH M post := by
  have key : ∀ z M', R51 M M' → TelEq (n + 1) M' → fTwo M x1 x2 x3 x4 x5 x6 = z → post z M' := fun z M' a b c => by rw [← c]; exact h M' a b
  have hT := hI.2.2.2.2.2.1
  have tup := tel_up hT
  have hb := hI.2.1.1
  have h12 : M 61 0 ≤ 12 := by have := hI.1.1.2.2; omega
  have e8 : M 8 0 = M 61 25 := hb.1
  have bad1 : (x1 < 0 ∨ M 61 25 ≤ x1 ∨ x3 < 0 ∨ M 61 25 ≤ x3 ∨ x1 = x3) → ax_J Y_X10_byTwo (ax_Ki Y_X10_byTwo SH post) 0 0 21 [] [] SH M := fun c => B_X10_byTwo_21 (key _ _ R51.rf tup (by unfold fTwo; rw [if_pos c]))
  have bad2 : ¬ (x1 < 0 ∨ M 61 25 ≤ x1 ∨ x3 < 0 ∨ M 61 25 ≤ x3 ∨ x1 = x3) → (x2 < -1 ∨ 99 < x2 ∨ x4 < -1 ∨ 99 < x4 ∨ x5 < 0 ∨ 99 < x5 ∨ x6 < 0 ∨ 2 < x6) → ax_J Y_X10_byTwo (ax_Ki Y_X10_byTwo SH post) 0 0 58 [] [] SH M := fun c d => B_X10_byTwo_58 (key _ _ R51.rf tup (by unfold fTwo; rw [if_neg c, if_pos d]))
  have bad3 : ¬ (x1 < 0 ∨ M 61 25 ≤ x1 ∨ x3 < 0 ∨ M 61 25 ≤ x3 ∨ x1 = x3) → ¬ (x2 < -1 ∨ 99 < x2 ∨ x4 < -1 ∨ 99 < x4 ∨ x5 < 0 ∨ 99 < x5 ∨ x6 < 0 ∨ 2 < x6) → ¬ ((¬ M 73 x1 = 0 ∧ nb (fU M) 12 ≤ 6) ∧ ¬ M 73 x3 = 0) → ax_J Y_X10_byTwo (ax_Ki Y_X10_byTwo SH post) 0 0 78 [] [] SH M := fun c d e => B_X10_byTwo_78 (key _ _ R51.rf tup (by unfold fTwo; rw [if_neg c, if_neg d, if_neg e]))
  refine E_X10_byTwo (fun _ => ?_)
  rw [e8]
  refine ⟨by omega, fun c => bad1 (by omega), fun c => ⟨fun c1 => bad1 (by omega), fun c1 => ⟨fun c2 => bad1 (by omega), fun c2 => ⟨fun c3 => bad1 (by omega), fun c3 => ⟨fun c4 => ⟨fun c5 => bad2 (by omega) (by omega), fun c5 => ⟨fun c6 => bad2 (by omega) (by omega), fun c6 => ⟨fun c7 => bad2 (by omega) (by omega), fun c7 => ⟨fun c8 => bad2 (by omega) (by omega), fun c8 => ⟨fun c9 => bad2 (by omega) (by omega), fun c9 => ⟨fun d0 => bad2 (by omega) (by omega), fun d0 => ⟨fun d1 => bad2 (by omega) (by omega), fun d1 => ⟨fun d2 => bad2 (by omega) (by omega), fun d2 => S_X10_canTell hI.1.1 hI.2.1 (by omega) (fun ct => ⟨fun z => by omega, fun _ => S_X10_canTell hI.1.1 hI.2.1 (by omega) (fun ct2 => ⟨fun _ => ?_, fun z => by omega⟩) (fun ct2 => ⟨fun z => absurd rfl z, fun _ => bad3 (by omega) (by omega) (fun z => ct2 ⟨z.2, z.1.2⟩)⟩)⟩) (fun ct => ⟨fun _ => bad3 (by omega) (by omega) (fun z => ct z.1), fun z => absurd rfl z⟩)⟩⟩⟩⟩⟩⟩⟩⟩, fun c4 => bad1 (by omega)⟩⟩⟩⟩⟩
  have h6 := ct.2
  have nr := nb_rg (fU M) 12
  have ef : fTwo M x1 x2 x3 x4 x5 x6 = if x6 = 0 then (bQ M x2 x1 x4 x3 x5).1 else if x6 = 1 then (bQ M x2 x1 x4 x3 x5).2.1 else (bQ M x2 x1 x4 x3 x5).2.2 := by
    unfold fTwo
    rw [if_neg (by omega), if_neg (by omega), if_pos (show (¬ M 73 x1 = 0 ∧ nb (fU M) 12 ≤ 6) ∧ ¬ M 73 x3 = 0 from ⟨ct, ct2.1⟩)]
  refine S_X7_findStops hI.1 hI.2.1 h6 (fun M1 r1 s1 i1 e59 => ?_)
  have p4 : M1 51 4 = nb (fU M) 12 := s1.1
  have al := all_st (k := M1 51 4) (by omega) (by omega)
  have m12 : M1 61 0 ≤ 12 := by rw [r1 61 (by decide)]; exact h12
  have w1 := wg_of hn hT r1 s1 i1 e59 h6
  have i12 := i1 12 (by decide)
  have hT1 := hT.1
  have hT2 := hT.2.1
  refine ⟨by omega, S_X7_weigh56 (r1.wx hI.1) (r1.crew hI.2.1) (by rw [r1 61 (by decide)]; omega) (by omega) (by omega) al.1 (fun s a b q => (al.2 s a (by omega)).mp q) w1 (fun M2 r2 q4 q52 q53 q54 _ q12 q59 wg => ?_)⟩
  have r2' := r1.tr r2
  have w2 := wg_next w1 (by omega) r2 q4 q52 q53 q54 q12 q59
  have al2 := all_st (k := M2 51 4) (by omega) (by omega)
  refine ⟨by omega, S_X7_weigh57 (r2'.wx hI.1) (r2'.crew hI.2.1) (by rw [r2' 61 (by decide)]; omega) (by omega) (by omega) al2.1 (fun s a b q => (al2.2 s a (by omega)).mp q) w2 (fun M3 r3 p4' p52 _ _ p56 p12 p59 wg3 => ?_)⟩
  have r3' := r2'.tr r3
  have te : TelEq (n + 1) M3 := ⟨by omega, by omega, p59⟩
  have e34 : M3 51 4 = M1 51 4 := p4'.trans q4
  have e352 : ∀ s, 0 ≤ s → s < M1 51 4 → M3 52 s = M1 52 s := fun s _ b => (p52 s (by omega)).trans (q52 s (by omega))
  have vv := wgd_bv m12 (by omega) wg
  have vv2 := wgd_bv (by rw [r2' 61 (by decide)]; exact h12) (by omega) wg3
  have stp0 : ∀ s, 0 ≤ s → s < M3 51 4 → 0 ≤ M3 52 s ∧ M3 52 s < 12 := fun s a b => by
    rw [e352 s a (by omega)]
    have := s1.2.1.1 s a (by omega)
    omega
  have hF : ∀ X, 0 ≤ X → X ≤ bo_shl 1 (M1 51 4) - 1 → (-1 ≤ M3 56 X ∧ M3 56 X ≤ 1000) ∧ (-1 ≤ M3 57 X ∧ M3 57 X ≤ 1000) := by
    intro X a b
    have g1 := wg X a (by omega) (fun s s0 s1 q => (al.2 s s0 (by omega)).mpr (le_bits (by omega) (by omega) a b s0 q))
    have g2 := wg3 X a (by omega) (fun s s0 s1 q => (al2.2 s s0 (by omega)).mpr (le_bits (by omega) (by omega) a (by rw [q4]; exact b) s0 q))
    rw [p56]
    exact ⟨bst_48 (r1.wx hI.1).1 (r1.crew hI.2.1) g1, bst_48 (r2'.wx hI.1).1 (r2'.crew hI.2.1) g2⟩
  refine S_X7_bestOfTwo (by omega) stp0 (by rw [e34]; exact hF) (fun f s m z hp z1 z2 z3 z4 => key _ M3 r3' te ?_)
  rw [e34] at hp z3 z4
  have c52 : ∀ s, 0 ≤ s → s < M1 51 4 → M1 52 s = M3 52 s := fun s a b => (e352 s a b).symm
  obtain ⟨b, c, hb1, hb2, hb3⟩ := tr2 (M := M) (F := M3 56) (G := M3 57) (V := fun Y => bv M1 x2 (M1 74 x1) (M1 72 x1) x5 Y) (W := fun Y => bv M2 x4 (M2 74 x3) (M2 72 x3) x5 Y) s1.2.1 p4 (by omega) (fun X Y a b hz => by rw [p56]; exact vv X Y a b hz) (fun X Y a b hz => vv2 X Y a (by rw [q4]; exact b) (by rw [q4]; exact pz_c hz (fun s s0 s1 => q52 s (by omega)))) (fun X a b => ⟨(hF X a b).1.1, (hF X a b).2.1⟩) hp
  have tb : TB2 M x2 x1 x4 x3 x5 b c m := by
    unfold TB2
    simp only [bv_u r1.u (by rw [r1 61 (by decide)]), r1 74 (by decide), r1 72 (by decide), bv_u r2'.u (by rw [r2' 61 (by decide)]), r2' 74 (by decide), r2' 72 (by decide)] at hb1
    exact hb1
  rw [ef, bQ_eq tb]
  show (if x6 = 0 then b else if x6 = 1 then c else m) = z
  by_cases y : m = -1
  · have q := hb2 y
    rw [z1 y, q.1, q.2, y]
    split
    · rfl
    · split <;> rfl
  · have q := hb3 y
    by_cases y0 : x6 = 0
    · rw [if_pos y0]
      exact pz_eq q.1 (pz_c (z3 y y0) c52)
    · rw [if_neg y0]
      by_cases y1 : x6 = 1
      · rw [if_pos y1]
        exact pz_eq q.2 (pz_c (z4 y (by omega) y0) c52)
      · rw [if_neg y1]
        exact (z2 y (by omega)).symm
/-! the reference -/
set_option maxHeartbeats 4000000 in
set_option maxRecDepth 100000 in
theorem S_X11_toldBest {n : Int} {post : Int → ax_M → Prop} {M : ax_M} {x1 x2 x3 x4 : Int} (hI : Inv n M) (h : ∀ M', Sam M M' → post (fBest M x1 x2 x3 x4) M') : ax_Ti Y_X11_toldBest [aR 61, aI x1, aI x2, aI x3, aI x4] SH M post := by
  have key : ∀ z M', Sam M M' → fBest M x1 x2 x3 x4 = z → post z M' := fun z M' a c => by rw [← c]; exact h M' a
  have hb := hI.2.1.1
  have h32 : M 61 32 = -1 := hI.2.2.2.2.2.2.1
  refine E_X11_toldBest (fun _ => ?_)
  refine ⟨by omega, fun c => key _ _ Sam.rf ?_, fun c => ⟨fun c1 => key _ _ Sam.rf ?_, fun c1 => ⟨fun c2 => key _ _ Sam.rf ?_, fun c2 => ⟨fun c3 => key _ _ Sam.rf ?_, fun c3 => ⟨fun c4 => key _ _ Sam.rf ?_, fun c4 => ⟨fun c5 => key _ _ Sam.rf ?_, fun c5 => ⟨fun c6 => key _ _ Sam.rf ?_, fun c6 => ⟨fun c7 => key _ _ Sam.rf ?_, fun c7 => S_X11_canTell hI.1.1 hI.2.1 (by omega) (fun ct => ⟨fun _ => ?_, fun z => by omega⟩) (fun ct => ⟨fun z => absurd rfl z, fun _ => key _ _ Sam.rf ?_⟩)⟩⟩⟩⟩⟩⟩⟩⟩
  · unfold fBest; rw [if_pos (by omega)]
  · unfold fBest; rw [if_pos (by omega)]
  · unfold fBest; rw [if_neg (by omega), if_pos (by omega)]
  · unfold fBest; rw [if_neg (by omega), if_pos (by omega)]
  · unfold fBest; rw [if_neg (by omega), if_pos (by omega)]
  · unfold fBest; rw [if_neg (by omega), if_pos (by omega)]
  · unfold fBest; rw [if_neg (by omega), if_pos (by omega)]
  · unfold fBest; rw [if_neg (by omega), if_pos (by omega)]
  · have h6 := ct.2
    have ef : fBest M x1 x2 x3 x4 = if x4 = 0 then (bP M x2 x1 x3).1 else (bP M x2 x1 x3).2 := by
      unfold fBest
      rw [if_neg (by omega), if_neg (by omega), if_pos (show ¬ M 73 x1 = 0 ∧ nb (fU M) 12 ≤ 6 from ct)]
    have L : ∀ (r : Nat) (Y b mo : Int) (M1 : ax_M), Y + r = 4096 → 0 ≤ Y → R61 M M1 → DkOk M (M 61 0) M1 → Pr1 (fun Y => Vd M Y ∧ 0 ≤ bv M x2 (M 74 x1) (M 72 x1) x3 Y) (fun Y => bv M x2 (M 74 x1) (M 72 x1) x3 Y) Y b mo → ax_J Y_X11_toldBest (ax_Ki Y_X11_toldBest SH post) 0 0 72 [(0, aR 61), (1, aI x1), (2, aI x2), (3, aI x3), (4, aI x4), (5, aI (fU M)), (6, aI b), (7, aI mo), (8, aI Y)] [] SH M1 := by
      intro r
      induction r with
      | zero =>
        intro Y b mo M1 hr hY0 r1 d1 hp
        rw [show Y = 4096 by omega] at hp
        have tb : TB M x2 x1 x3 b mo := hp
        rw [bP_eq tb] at ef
        exact B_X11_toldBest_72 ⟨fun _ => ⟨fun y => key _ M1 r1.sam (by rw [ef, if_neg y]), fun y => key _ M1 r1.sam (by rw [ef, if_pos y])⟩, fun z => by omega⟩
      | succ r ih =>
        intro Y b mo M1 hr hY0 r1 d1 hp
        have hm1 : -1 ≤ mo := by
          rcases hp with ⟨a, b, c⟩ | ⟨a, b, c, d⟩ <;> omega
        refine B_X11_toldBest_72 ⟨fun z => by omega, fun _ => ⟨fun y => ⟨fun y1 => ⟨by omega, ih (Y + 1) b mo M1 (by omega) (by omega) r1 d1 (pr1_no hp (fun q => y q.1))⟩, fun y1 => by omega⟩, fun y => S_X11_tellSet (r1.pit hI.1.1) (r1.crew hI.2.1) (by rw [r1.2 32 (by decide)]; exact h32) (by rw [r1.2 25 (by decide)]; omega) (by omega) ?_ (fun p a b => by rw [dk_u r1.u]; exact d1 p a (by rw [← r1.2 0 (by decide)]; exact b)) (fun M2 R r2 e87 _ _ w => ?_)⟩⟩
        · have := set6_nb (X := Y) (U := fU M) (fun w _ w1 q => sub_tb y (by omega) q) 12 (Nat.le_refl _)
          omega
        · have w2 := (bst_u r1.u (r1.2 0 (by decide))).mp w
          rw [r1.1 74 (by decide), r1.1 72 (by decide)] at w2
          have ev : bv M x2 (M 74 x1) (M 72 x1) x3 Y = R := bv_eq (fun _ _ _ => Iff.rfl) w2
          have d2 : DkOk M (M 61 0) M2 := fun p a b => by rw [e87]; exact d1 p a b
          refine ⟨fun y1 => ⟨by omega, ih (Y + 1) b mo M2 (by omega) (by omega) (r1.tr r2) d2 ?_⟩, fun y1 => ⟨by omega, ih (Y + 1) Y R M2 (by omega) (by omega) (r1.tr r2) d2 ?_⟩⟩
          · by_cases q : 0 ≤ R
            · exact pr1_le hp ⟨y, by rw [ev]; exact q⟩ (by show 0 ≤ bv M x2 (M 74 x1) (M 72 x1) x3 Y; rw [ev]; exact q) (by show bv M x2 (M 74 x1) (M 72 x1) x3 Y ≤ mo; rw [ev]; exact y1)
            · exact pr1_no hp (fun z => q (by rw [← ev]; exact z.2))
          · have z := pr1_gt hp hY0 ⟨y, by rw [ev]; omega⟩ (by show 0 ≤ bv M x2 (M 74 x1) (M 72 x1) x3 Y; rw [ev]; omega) (by show mo < bv M x2 (M 74 x1) (M 72 x1) x3 Y; rw [ev]; exact y1)
            have z' : Pr1 (fun Y => Vd M Y ∧ 0 ≤ bv M x2 (M 74 x1) (M 72 x1) x3 Y) (fun Y => bv M x2 (M 74 x1) (M 72 x1) x3 Y) (Y + 1) Y (bv M x2 (M 74 x1) (M 72 x1) x3 Y) := z
            rw [ev] at z'
            exact z'
    refine S_X11_findDark hI.1.1 h32 (fun M1 o1 d1 => ?_)
    have r1 : R61 M M1 := R61.ofs o1 (by decide)
    refine S_X11_unknowing (r1.pit hI.1.1) (r1.crew hI.2.1) ?_
    rw [fU_s r1.sam]
    exact L 4096 0 (-1) (-1) M1 (by omega) (Int.le_refl _) r1 d1 pr1_0
  · unfold fBest; rw [if_neg (by omega), if_neg (by omega), if_neg (show ¬ (¬ M 73 x1 = 0 ∧ nb (fU M) 12 ≤ 6) from ct)]
theorem C_toldBest {n : Int} {M : ax_M} {x1 x2 x3 x4 : Int} (hn : n ≤ 100000) (hI : Inv n M) : ax_Ti Y_X10_toldBest [aR 0, aI x1, aI x2, aI x3, aI x4] SH M (fun z1 u1 => ax_Ti Y_X11_toldBest [aR 61, aI x1, aI x2, aI x3, aI x4] SH u1 (fun z2 u2 => z1 = z2 ∧ Inv (n + 1) u2)) :=
  S_X10_toldBest hI hn (fun _ r1 t1 => S_X11_toldBest (r1.inv hI t1) (fun _ s2 => ⟨(fBest_51 r1 _ _ _ _).symm, inv_sam s2 (r1.inv hI t1)⟩))
set_option maxHeartbeats 4000000 in
set_option maxRecDepth 100000 in
theorem S_X11_byTwo {n : Int} {post : Int → ax_M → Prop} {M : ax_M} {x1 x2 x3 x4 x5 x6 : Int} (hI : Inv n M) (h : ∀ M', Sam M M' → post (fTwo M x1 x2 x3 x4 x5 x6) M') : ax_Ti Y_X11_byTwo [aR 61, aI x1, aI x2, aI x3, aI x4, aI x5, aI x6] SH M post := by
  have key : ∀ z M', Sam M M' → fTwo M x1 x2 x3 x4 x5 x6 = z → post z M' := fun z M' a c => by rw [← c]; exact h M' a
  have hb := hI.2.1.1
  have h32 : M 61 32 = -1 := hI.2.2.2.2.2.2.1
  have bad1 : (x1 < 0 ∨ M 61 25 ≤ x1 ∨ x3 < 0 ∨ M 61 25 ≤ x3 ∨ x1 = x3) → ax_J Y_X11_byTwo (ax_Ki Y_X11_byTwo SH post) 0 0 21 [] [] SH M := fun c => B_X11_byTwo_21 (key _ _ Sam.rf (by unfold fTwo; rw [if_pos c]))
  have bad2 : ¬ (x1 < 0 ∨ M 61 25 ≤ x1 ∨ x3 < 0 ∨ M 61 25 ≤ x3 ∨ x1 = x3) → (x2 < -1 ∨ 99 < x2 ∨ x4 < -1 ∨ 99 < x4 ∨ x5 < 0 ∨ 99 < x5 ∨ x6 < 0 ∨ 2 < x6) → ax_J Y_X11_byTwo (ax_Ki Y_X11_byTwo SH post) 0 0 61 [] [] SH M := fun c d => B_X11_byTwo_61 (key _ _ Sam.rf (by unfold fTwo; rw [if_neg c, if_pos d]))
  have bad3 : ¬ (x1 < 0 ∨ M 61 25 ≤ x1 ∨ x3 < 0 ∨ M 61 25 ≤ x3 ∨ x1 = x3) → ¬ (x2 < -1 ∨ 99 < x2 ∨ x4 < -1 ∨ 99 < x4 ∨ x5 < 0 ∨ 99 < x5 ∨ x6 < 0 ∨ 2 < x6) → ¬ ((¬ M 73 x1 = 0 ∧ nb (fU M) 12 ≤ 6) ∧ ¬ M 73 x3 = 0) → ax_J Y_X11_byTwo (ax_Ki Y_X11_byTwo SH post) 0 0 81 [] [] SH M := fun c d e => B_X11_byTwo_81 (key _ _ Sam.rf (by unfold fTwo; rw [if_neg c, if_neg d, if_neg e]))
  refine E_X11_byTwo (fun _ => ?_)
  refine ⟨by omega, fun c => bad1 (by omega), fun c => ⟨fun c1 => bad1 (by omega), fun c1 => ⟨fun c2 => bad1 (by omega), fun c2 => ⟨fun c3 => bad1 (by omega), fun c3 => ⟨fun c4 => ⟨fun c5 => bad2 (by omega) (by omega), fun c5 => ⟨fun c6 => bad2 (by omega) (by omega), fun c6 => ⟨fun c7 => bad2 (by omega) (by omega), fun c7 => ⟨fun c8 => bad2 (by omega) (by omega), fun c8 => ⟨fun c9 => bad2 (by omega) (by omega), fun c9 => ⟨fun d0 => bad2 (by omega) (by omega), fun d0 => ⟨fun d1 => bad2 (by omega) (by omega), fun d1 => ⟨fun d2 => bad2 (by omega) (by omega), fun d2 => S_X11_canTell hI.1.1 hI.2.1 (by omega) (fun ct => ⟨fun z => by omega, fun _ => S_X11_canTell hI.1.1 hI.2.1 (by omega) (fun ct2 => ⟨fun _ => ?_, fun z => by omega⟩) (fun ct2 => ⟨fun z => absurd rfl z, fun _ => bad3 (by omega) (by omega) (fun z => ct2 ⟨z.2, z.1.2⟩)⟩)⟩) (fun ct => ⟨fun _ => bad3 (by omega) (by omega) (fun z => ct z.1), fun z => absurd rfl z⟩)⟩⟩⟩⟩⟩⟩⟩⟩, fun c4 => bad1 (by omega)⟩⟩⟩⟩⟩
  have h6 := ct.2
  have ef : fTwo M x1 x2 x3 x4 x5 x6 = if x6 = 0 then (bQ M x2 x1 x4 x3 x5).1 else if x6 = 1 then (bQ M x2 x1 x4 x3 x5).2.1 else (bQ M x2 x1 x4 x3 x5).2.2 := by
    unfold fTwo
    rw [if_neg (by omega), if_neg (by omega), if_pos (show (¬ M 73 x1 = 0 ∧ nb (fU M) 12 ≤ 6) ∧ ¬ M 73 x3 = 0 from ⟨ct, ct2.1⟩)]
  generalize hV : (fun Y => bv M x2 (M 74 x1) (M 72 x1) x5 Y) = V
  generalize hW : (fun Y => bv M x4 (M 74 x3) (M 72 x3) x5 Y) = W
  have eV : ∀ Y, bv M x2 (M 74 x1) (M 72 x1) x5 Y = V Y := fun Y => by rw [← hV]
  have eW : ∀ Y, bv M x4 (M 74 x3) (M 72 x3) x5 Y = W Y := fun Y => by rw [← hW]
  -- the two rows of numbers
  have hT : ∀ (M1 : ax_M), R61 M M1 → (∀ Y, 0 ≤ Y → Y < 4096 → ((Vd M Y → M1 89 Y = V Y ∧ M1 90 Y = W Y) ∧ (¬ Vd M Y → M1 89 Y = -1 ∧ M1 90 Y = -1))) → (∀ Y, 0 ≤ Y → Y < 4096 → (-1 ≤ M1 89 Y ∧ M1 89 Y ≤ 1000) ∧ (-1 ≤ M1 90 Y ∧ M1 90 Y ≤ 1000)) → ∀ (r : Nat) (x f s m : Int), x + r = 4096 → 0 ≤ x → Pr2 (fun Y Y' => bo_and Y Y' = 0 ∧ (Vd M Y ∧ 0 ≤ V Y) ∧ (Vd M Y' ∧ 0 ≤ W Y')) (fun Y Y' => V Y + W Y') 4096 x 0 f s m → ax_J Y_X11_byTwo (ax_Ki Y_X11_byTwo SH post) 0 0 194 [(0, aR 61), (6, aI x6), (8, aI f), (9, aI s), (10, aI m), (11, aI x)] [] SH M1 := by
    intro M1 r1 hv hr r
    have gd1 : ∀ Y, 0 ≤ Y → Y < 4096 → (0 ≤ M1 89 Y ↔ Vd M Y ∧ 0 ≤ V Y) ∧ (0 ≤ M1 90 Y ↔ Vd M Y ∧ 0 ≤ W Y) := by
      intro Y a b
      have q := hv Y a b
      by_cases z : Vd M Y
      · rw [(q.1 z).1, (q.1 z).2]; exact ⟨⟨fun w => ⟨z, w⟩, fun w => w.2⟩, ⟨fun w => ⟨z, w⟩, fun w => w.2⟩⟩
      · rw [(q.2 z).1, (q.2 z).2]; exact ⟨⟨fun w => by omega, fun w => absurd w.1 z⟩, ⟨fun w => by omega, fun w => absurd w.1 z⟩⟩
    induction r with
    | zero =>
      intro x f s m hx hx0 hp
      rw [show x = 4096 by omega] at hp
      have tb : TB2 M x2 x1 x4 x3 x5 f s m := by
        unfold TB2
        simp only [eV, eW]
        exact hp
      rw [bQ_eq tb] at ef
      exact B_X11_byTwo_194 ⟨fun _ => ⟨fun y => ⟨fun y1 => key _ M1 r1.sam (by rw [ef, if_neg y, if_neg y1]), fun y1 => key _ M1 r1.sam (by rw [ef, if_neg y, if_pos y1])⟩, fun y => key _ M1 r1.sam (by rw [ef, if_pos y])⟩, fun z => by omega⟩
    | succ r ih =>
      intro x f s m hx hx0 hp
      have L205 : ∀ (k : Nat) (y f s m : Int), y + k = 4096 → 0 ≤ y → Pr2 (fun Y Y' => bo_and Y Y' = 0 ∧ (Vd M Y ∧ 0 ≤ V Y) ∧ (Vd M Y' ∧ 0 ≤ W Y')) (fun Y Y' => V Y + W Y') 4096 x y f s m → ax_J Y_X11_byTwo (ax_Ki Y_X11_byTwo SH post) 0 0 205 [(0, aR 61), (6, aI x6), (8, aI f), (9, aI s), (10, aI m), (11, aI x), (12, aI y)] [] SH M1 := by
        intro k
        induction k with
        | zero =>
          intro y f s m hy hy0 hp
          rw [show y = 4096 by omega] at hp
          refine B_X11_byTwo_205 ⟨fun _ => B_X11_byTwo_304 ⟨by omega, ih (x + 1) f s m (by omega) (by omega) (pr2_row hp)⟩, fun z => by omega⟩
        | succ k ihk =>
          intro y f s m hy hy0 hp
          have rx := hr x hx0 (by omega)
          have ry := hr y hy0 (by omega)
          have gx := gd1 x hx0 (by omega)
          have gy := gd1 y hy0 (by omega)
          have on : ¬ (bo_and x y = 0 ∧ (Vd M x ∧ 0 ≤ V x) ∧ (Vd M y ∧ 0 ≤ W y)) → ax_J Y_X11_byTwo (ax_Ki Y_X11_byTwo SH post) 0 0 298 [(0, aR 61), (6, aI x6), (8, aI f), (9, aI s), (10, aI m), (11, aI x), (12, aI y)] [] SH M1 := fun q => B_X11_byTwo_298 ⟨by omega, ihk (y + 1) f s m (by omega) (by omega) (pr2_no hp q)⟩
          have no : ¬ (bo_and x y = 0 ∧ (Vd M x ∧ 0 ≤ V x) ∧ (Vd M y ∧ 0 ≤ W y)) → ax_J Y_X11_byTwo (ax_Ki Y_X11_byTwo SH post) 0 0 245 [(0, aR 61), (6, aI x6), (8, aI f), (9, aI s), (10, aI m), (11, aI x), (12, aI y)] [] SH M1 := fun q => B_X11_byTwo_245 (B_X11_byTwo_246 ⟨fun _ => on q, fun z => absurd rfl z⟩)
          refine B_X11_byTwo_205 ⟨fun z => by omega, fun _ => ⟨by omega, fun z => B_X11_byTwo_304 ⟨by omega, ih (x + 1) f s m (by omega) (by omega) (pr2_skip hp (fun b _ _ q => ?_))⟩, fun z => ⟨fun z1 => no (fun q => z1 q.1), fun z1 => ⟨by omega, fun z2 => no (fun q => ?_), fun z2 => B_X11_byTwo_246 ⟨fun q => by omega, fun _ => ⟨by omega, by omega, by omega, ?_⟩⟩⟩⟩⟩⟩
          · have := gx.1.mpr q.2.1; omega
          · have := gy.2.mpr q.2.2; omega
          · have g1 := gx.1.mp z
            have g2 := gy.2.mp z2
            have e1 := ((hv x hx0 (by omega)).1 g1.1).1
            have e2 := ((hv y hy0 (by omega)).1 g2.1).2
            have g1' := g1.2
            have g2' := g2.2
            rw [e1, e2]
            exact ⟨fun q => B_X11_byTwo_298 ⟨by omega, ihk (y + 1) f s m (by omega) (by omega) (pr2_le hp (show 0 ≤ V x + W y by omega) q)⟩, fun q => B_X11_byTwo_298 ⟨by omega, ihk (y + 1) x y _ (by omega) (by omega) (pr2_gt hp hx0 hy0 (by omega) ⟨z1, g1, g2⟩ (show 0 ≤ V x + W y by omega) q)⟩⟩
      exact B_X11_byTwo_194 ⟨fun z => by omega, fun _ => L205 4096 0 f s m (by omega) (Int.le_refl _) hp⟩
  have L98 : ∀ (r : Nat) (Y : Int) (M1 : ax_M), Y + r = 4096 → 0 ≤ Y → R61 M M1 → DkOk M (M 61 0) M1 → (∀ Z, 0 ≤ Z → Z < Y → ((Vd M Z → M1 89 Z = V Z ∧ M1 90 Z = W Z) ∧ (¬ Vd M Z → M1 89 Z = -1 ∧ M1 90 Z = -1))) → (∀ Z, 0 ≤ Z → Z < Y → (-1 ≤ M1 89 Z ∧ M1 89 Z ≤ 1000) ∧ (-1 ≤ M1 90 Z ∧ M1 90 Z ≤ 1000)) → ax_J Y_X11_byTwo (ax_Ki Y_X11_byTwo SH post) 0 0 98 [(0, aR 61), (1, aI x1), (2, aI x2), (3, aI x3), (4, aI x4), (5, aI x5), (6, aI x6), (7, aI (fU M)), (8, aI Y)] [] SH M1 := by
    intro r
    induction r with
    | zero =>
      intro Y M1 hr hY0 r1 d1 hv hrg
      rw [show Y = 4096 by omega] at hv hrg
      exact B_X11_byTwo_98 ⟨fun _ => hT M1 r1 hv hrg 4096 0 (-1) (-1) (-1) (by omega) (Int.le_refl _) pr2_0, fun z => by omega⟩
    | succ r ih =>
      intro Y M1 hr hY0 r1 d1 hv hrg
      have up2 : ∀ (M2 M3 : ax_M) (a b : Int), R61 M M2 → DkOk M (M 61 0) M2 → M2 89 = M1 89 → M2 90 = M1 90 → R61 M M3 → M3 87 = M2 87 → M3 89 = (ax_up M2 89 Y a) 89 → M3 90 = M2 90 → ((Vd M Y → a = V Y ∧ b = W Y) ∧ (¬ Vd M Y → a = -1 ∧ b = -1)) → ((-1 ≤ a ∧ a ≤ 1000) ∧ (-1 ≤ b ∧ b ≤ 1000)) → ax_J Y_X11_byTwo (ax_Ki Y_X11_byTwo SH post) 0 0 98 [(0, aR 61), (1, aI x1), (2, aI x2), (3, aI x3), (4, aI x4), (5, aI x5), (6, aI x6), (7, aI (fU M)), (8, aI (Y + 1))] [] SH (ax_up M3 90 Y b) := by
        intro M2 M3 a b r2 d2 e89 e90 r3 f87 f89 f90 hab hrab
        have g89 : ∀ Z, ax_up M3 90 Y b 89 Z = if Z = Y then a else M1 89 Z := by
          intro Z
          rw [up_off _ _ _ (by decide), f89, up_k, e89]
        have g90 : ∀ Z, ax_up M3 90 Y b 90 Z = if Z = Y then b else M1 90 Z := by
          intro Z
          rw [up_k, f90, e90]
        refine ih (Y + 1) _ (by omega) (by omega) (r3.tr (R61.ofs (l := [90]) (Ofs.up (by decide)) (by decide))) (fun p a b => ?_) (fun Z Z0 Z1 => ?_) (fun Z Z0 Z1 => ?_)
        · rw [up_off _ _ _ (by decide), f87]; exact d2 p a b
        · rw [g89, g90]
          by_cases q : Z = Y
          · subst q; rw [if_pos rfl, if_pos rfl]; exact hab
          · rw [if_neg q, if_neg q]; exact hv Z Z0 (by omega)
        · rw [g89, g90]
          by_cases q : Z = Y
          · rw [if_pos q, if_pos q]; exact hrab
          · rw [if_neg q, if_neg q]; exact hrg Z Z0 (by omega)
      refine B_X11_byTwo_98 ⟨fun z => by omega, fun _ => ⟨fun y => ?_, fun y => ?_⟩⟩
      · refine B_X11_byTwo_121 ⟨fun _ => B_X11_byTwo_148 ⟨by omega, fun _ => B_X11_byTwo_175 ⟨by omega, by omega, ?_⟩, fun z => absurd rfl z⟩, fun z => absurd rfl z⟩
        exact up2 M1 (ax_up M1 89 Y (-1)) (-1) (-1) r1 d1 rfl rfl (r1.tr (R61.ofs (l := [89]) (Ofs.up (by decide)) (by decide))) (up_off _ _ _ (by decide)) rfl (up_off _ _ _ (by decide)) ⟨fun z => absurd z y, fun _ => ⟨rfl, rfl⟩⟩ (by omega)
      · have y6 : nb Y 12 ≤ 6 := by
          have := set6_nb (X := Y) (U := fU M) (fun w _ w1 q => sub_tb y (by omega) q) 12 (Nat.le_refl _)
          omega
        refine B_X11_byTwo_121 ⟨fun z => absurd z (by decide), fun _ => S_X11_tellSet (r1.pit hI.1.1) (r1.crew hI.2.1) (by rw [r1.2 32 (by decide)]; exact h32) (by rw [r1.2 25 (by decide)]; omega) (by omega) y6 (fun p a b => by rw [dk_u r1.u]; exact d1 p a (by rw [← r1.2 0 (by decide)]; exact b)) (fun M2 R r2 e87 e89 e90 w => ?_)⟩
        have w2 := (bst_u r1.u (r1.2 0 (by decide))).mp w
        rw [r1.1 74 (by decide), r1.1 72 (by decide)] at w2
        have ev : V Y = R := by rw [← eV]; exact bv_eq (fun _ _ _ => Iff.rfl) w2
        have br := bst_48 hI.1.1 hI.2.1 w2
        have r2' := r1.tr r2
        have d2 : DkOk M (M 61 0) M2 := fun p a b => by rw [e87]; exact d1 p a b
        have r3 : R61 M (ax_up M2 89 Y R) := r2'.tr (R61.ofs (l := [89]) (Ofs.up (by decide)) (by decide))
        refine B_X11_byTwo_148 ⟨by omega, fun z => absurd z (by decide), fun _ => S_X11_tellSet (r3.pit hI.1.1) (r3.crew hI.2.1) (by rw [r3.2 32 (by decide)]; exact h32) (by rw [r3.2 25 (by decide)]; omega) (by omega) y6 (fun p a b => by rw [dk_u r3.u, up_off _ _ _ (by decide)]; exact d2 p a (by rw [← r3.2 0 (by decide)]; exact b)) (fun M4 R' r4 f87 f89 f90 w' => ?_)⟩
        have w3 := (bst_u r3.u (r3.2 0 (by decide))).mp w'
        rw [r3.1 74 (by decide), r3.1 72 (by decide)] at w3
        have ev' : W Y = R' := by rw [← eW]; exact bv_eq (fun _ _ _ => Iff.rfl) w3
        have br' := bst_48 hI.1.1 hI.2.1 w3
        refine B_X11_byTwo_175 ⟨by omega, by omega, ?_⟩
        exact up2 M2 M4 R R' r2' d2 e89 e90 (r3.tr r4) (f87.trans (up_off _ _ _ (by decide))) f89 (f90.trans (up_off _ _ _ (by decide))) ⟨fun _ => ⟨ev.symm, ev'.symm⟩, fun z => absurd y z⟩ ⟨br, br'⟩
  refine S_X11_findDark hI.1.1 h32 (fun M1 o1 d1 => ?_)
  have r1 : R61 M M1 := R61.ofs o1 (by decide)
  refine S_X11_unknowing (r1.pit hI.1.1) (r1.crew hI.2.1) ?_
  rw [fU_s r1.sam]
  exact L98 4096 0 M1 (by omega) (Int.le_refl _) r1 d1 (fun Z a b => by omega) (fun Z a b => by omega)
theorem C_byTwo {n : Int} {M : ax_M} {x1 x2 x3 x4 x5 x6 : Int} (hn : n ≤ 100000) (hI : Inv n M) : ax_Ti Y_X10_byTwo [aR 0, aI x1, aI x2, aI x3, aI x4, aI x5, aI x6] SH M (fun z1 u1 => ax_Ti Y_X11_byTwo [aR 61, aI x1, aI x2, aI x3, aI x4, aI x5, aI x6] SH u1 (fun z2 u2 => z1 = z2 ∧ Inv (n + 1) u2)) :=
  S_X10_byTwo hI hn (fun _ r1 t1 => S_X11_byTwo (r1.inv hI t1) (fun _ s2 => ⟨(fTwo_51 r1 _ _ _ _ _ _).symm, inv_sam s2 (r1.inv hI t1)⟩))
