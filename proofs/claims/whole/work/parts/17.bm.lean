set_option maxRecDepth 100000 in
set_option maxHeartbeats 4000000 in
theorem B_X11_feed_0 {post : Int → ax_M → Prop} {M : ax_M} {x1 x2 : Int} (h : (((x1 < 1) → post (-1002) M) ∧ ((1 ≤ x1) → (((8 < x1) → post (-1002) M) ∧ ((x1 ≤ 8) → (-2147483648 ≤ ((M 61 13) + x1) ∧ ((M 61 13) + x1) ≤ 2147483647) ∧ (((((M 61 13) + x1) ≤ 400) → (-2147483648 ≤ (x1 - 1) ∧ (x1 - 1) ≤ 2147483647) ∧ ax_J Y_X11_feed (ax_Ki Y_X11_feed SH post) 0 0 37 [(0, aR 61), (2, aL x2), (4, aI (x1 - 1))] [] SH M) ∧ ((400 < ((M 61 13) + x1)) → post (-1004) M))))))) : ax_J Y_X11_feed (ax_Ki Y_X11_feed SH post) 0 0 0 [(0, aR 61), (1, aI x1), (2, aL x2)] [] SH M := by
  refine j_iload_n 1 dX11_feed_0 rfl ?_
  refine j_i2l dX11_feed_1 ?_
  refine j_lconst (x := 1) dX11_feed_2 rfl (i64_c rfl) ?_
  refine j_ldc2 (x := 8) dX11_feed_3 (ax_in 1295 (by decide +kernel) rfl) (i64_c rfl) ?_
  refine j_calliS (Yc := Y_X11_in) (as := [aL x1, aL 1, aL 8]) (rest := []) dX11_feed_6 q_X11_136 ⟨Nat.le_of_ble_eq_true rfl, Nat.le_of_ble_eq_true rfl, Nat.le_of_ble_eq_true rfl, Nat.le_of_ble_eq_true rfl⟩ rfl (Nat.le_of_ble_eq_true rfl) rfl (ti_of (ll := [(0, aL x1), (2, aL 1), (4, aL 8)]) rfl (Nat.le_of_ble_eq_true rfl) rfl (fun _ => ?_))
  refine j_lload_n 0 dX11_in_0 rfl ?_
  refine j_lload_n 1 dX11_in_1 rfl ?_
  refine j_lcmp_lt (tgt := 17) dX11_in_2 dX11_in_3 (by decide) (fun c1 => ?_) (fun c1 => ?_)
  · replace h := h.1 c1
    refine j_iconst (x := 0) dX11_in_17 rfl (i32_c rfl) ?_
    refine j_zret dX11_in_18 rfl ⟨Nat.le_of_ble_eq_true rfl, Nat.le_of_ble_eq_true rfl⟩ (by decide) ?_
    refine j_if_ne (tgt := 16) dX11_feed_9 (by decide) (fun c => absurd c (by decide)) (fun _ => ?_)
    refine j_sipush (x := (-1002)) dX11_feed_12 rfl (i32_c rfl) ?_
    exact j_iret dX11_feed_15 rfl ⟨Nat.le_of_ble_eq_true rfl, Nat.le_of_ble_eq_true rfl⟩ (fun _ => h)
  · replace h := h.2 c1
    refine j_lload_n 0 dX11_in_6 rfl ?_
    refine j_lload 2 dX11_in_7 rfl ?_
    refine j_lcmp_gt (tgt := 17) dX11_in_9 dX11_in_10 (by decide) (fun c2 => ?_) (fun c2 => ?_)
    · replace h := h.1 c2
      refine j_iconst (x := 0) dX11_in_17 rfl (i32_c rfl) ?_
      refine j_zret dX11_in_18 rfl ⟨Nat.le_of_ble_eq_true rfl, Nat.le_of_ble_eq_true rfl⟩ (by decide) ?_
      refine j_if_ne (tgt := 16) dX11_feed_9 (by decide) (fun c => absurd c (by decide)) (fun _ => ?_)
      refine j_sipush (x := (-1002)) dX11_feed_12 rfl (i32_c rfl) ?_
      exact j_iret dX11_feed_15 rfl ⟨Nat.le_of_ble_eq_true rfl, Nat.le_of_ble_eq_true rfl⟩ (fun _ => h)
    · replace h := h.2 c2
      refine j_iconst (x := 1) dX11_in_13 rfl (i32_c rfl) ?_
      refine j_goto (tgt := 18) dX11_in_14 (by decide) ?_
      refine j_zret dX11_in_18 rfl ⟨Nat.le_of_ble_eq_true rfl, Nat.le_of_ble_eq_true rfl⟩ (by decide) ?_
      refine j_if_ne (tgt := 16) dX11_feed_9 (by decide) (fun _ => ?_) (fun c => absurd c (by decide))
      refine j_aload_n 0 dX11_feed_16 rfl ?_
      refine j_geti (i := 13) dX11_feed_17 f_X11_145 sh_61 rfl rfl (fun _ => ?_)
      refine j_iload_n 1 dX11_feed_20 rfl ?_
      obtain ⟨o3, h⟩ := h
      refine j_iadd (z := ((M 61 13) + x1)) dX11_feed_21 rfl o3 ?_
      refine j_sipush (x := 400) dX11_feed_22 rfl (i32_c rfl) ?_
      refine j_icmp_le (tgt := 32) dX11_feed_25 (by decide) (fun c4 => ?_) (fun c4 => ?_)
      · replace h := h.1 c4
        refine j_iload_n 1 dX11_feed_32 rfl ?_
        refine j_iconst (x := 1) dX11_feed_33 rfl (i32_c rfl) ?_
        obtain ⟨o5, h⟩ := h
        refine j_isub (z := (x1 - 1)) dX11_feed_34 rfl o5 ?_
        refine j_istore (ll' := [(4, aI (x1 - 1)), (0, aR 61), (1, aI x1), (2, aL x2)]) dX11_feed_35 (Nat.le_of_ble_eq_true rfl) rfl ?_
        refine j_sub [1, 3, 0] rfl ?_
        exact h
      · replace h := h.2 c4
        refine j_sipush (x := (-1004)) dX11_feed_28 rfl (i32_c rfl) ?_
        exact j_iret dX11_feed_31 rfl ⟨Nat.le_of_ble_eq_true rfl, Nat.le_of_ble_eq_true rfl⟩ (fun _ => h)
theorem E_X11_feed {post : Int → ax_M → Prop} {M : ax_M} {x1 x2 : Int} (h : ax_mr SH M → (((x1 < 1) → post (-1002) M) ∧ ((1 ≤ x1) → (((8 < x1) → post (-1002) M) ∧ ((x1 ≤ 8) → (-2147483648 ≤ ((M 61 13) + x1) ∧ ((M 61 13) + x1) ≤ 2147483647) ∧ (((((M 61 13) + x1) ≤ 400) → (-2147483648 ≤ (x1 - 1) ∧ (x1 - 1) ≤ 2147483647) ∧ ax_J Y_X11_feed (ax_Ki Y_X11_feed SH post) 0 0 37 [(0, aR 61), (2, aL x2), (4, aI (x1 - 1))] [] SH M) ∧ ((400 < ((M 61 13) + x1)) → post (-1004) M))))))) : ax_Ti Y_X11_feed [aR 61, aI x1, aL x2] SH M post :=
  ti_of rfl (Nat.le_of_ble_eq_true rfl) rfl (fun q => B_X11_feed_0 (h q))
set_option maxRecDepth 100000 in
set_option maxHeartbeats 4000000 in
theorem B_X11_feed_37 {post : Int → ax_M → Prop} {M : ax_M} {x2 x4 : Int} (h : (((x4 < 0) → post (M 61 13) M) ∧ ((0 ≤ x4) → (-2147483648 ≤ (8 * x4) ∧ (8 * x4) ≤ 2147483647) ∧ (-2147483648 ≤ (bo_land (bo_lshr x2 (8 * x4)) 255) ∧ (bo_land (bo_lshr x2 (8 * x4)) 255) ≤ 2147483647) ∧ (0 ≤ (M 61 13) ∧ (M 61 13) < 400) ∧ (-2147483648 ≤ ((M 61 13) + 1) ∧ ((M 61 13) + 1) ≤ 2147483647) ∧ (-2147483648 ≤ (x4 + (-1)) ∧ (x4 + (-1)) ≤ 2147483647) ∧ ax_J Y_X11_feed (ax_Ki Y_X11_feed SH post) 0 0 37 [(0, aR 61), (2, aL x2), (4, aI (x4 + (-1)))] [] SH (ax_up (ax_up M 70 (M 61 13) (bo_land (bo_lshr x2 (8 * x4)) 255)) 61 13 ((M 61 13) + 1))))) : ax_J Y_X11_feed (ax_Ki Y_X11_feed SH post) 0 0 37 [(0, aR 61), (2, aL x2), (4, aI x4)] [] SH M := by
  refine j_iload 2 dX11_feed_37 rfl ?_
  refine j_if_lt (tgt := 79) dX11_feed_39 (by decide) (fun c1 => ?_) (fun c1 => ?_)
  · replace h := h.1 c1
    refine j_aload_n 0 dX11_feed_79 rfl ?_
    refine j_geti (i := 13) dX11_feed_80 f_X11_145 sh_61 rfl rfl (fun _ => ?_)
    exact j_iret dX11_feed_83 rfl ⟨Nat.le_of_ble_eq_true rfl, Nat.le_of_ble_eq_true rfl⟩ (fun _ => h)
  · replace h := h.2 c1
    refine j_aload_n 0 dX11_feed_42 rfl ?_
    refine j_getc 70 dX11_feed_43 f_X11_39 sh_61 rfl ?_
    refine j_aload_n 0 dX11_feed_46 rfl ?_
    refine j_geti (i := 13) dX11_feed_47 f_X11_145 sh_61 rfl rfl (fun _ => ?_)
    refine j_lload_n 1 dX11_feed_50 rfl ?_
    refine j_bipush (x := 8) dX11_feed_51 rfl (i32_c rfl) ?_
    refine j_iload 2 dX11_feed_53 rfl ?_
    obtain ⟨o2, h⟩ := h
    refine j_imul (z := (8 * x4)) dX11_feed_55 rfl o2 ?_
    refine j_lshr dX11_feed_56 ?_
    refine j_ldc2 (x := 255) dX11_feed_57 (ax_in 1299 (by decide +kernel) rfl) (i64_c rfl) ?_
    refine j_land dX11_feed_60 ?_
    obtain ⟨o3, h⟩ := h
    refine j_l2i dX11_feed_61 o3 ?_
    obtain ⟨o4, h⟩ := h
    refine j_iast dX11_feed_62 sh_70 o4.1 o4.2 ?_
    refine j_aload_n 0 dX11_feed_63 rfl ?_
    refine j_dup dX11_feed_64 rfl ?_
    refine j_geti (i := 13) dX11_feed_65 f_X11_145 sh_61 rfl rfl (fun _ => ?_)
    refine j_iconst (x := 1) dX11_feed_68 rfl (i32_c rfl) ?_
    obtain ⟨o5, h⟩ := h
    refine j_iadd (z := ((M 61 13) + 1)) dX11_feed_69 rfl o5 ?_
    refine j_puti (i := 13) dX11_feed_70 p_X11_145 (fun h => by cases h) sh_61 rfl rfl ?_
    obtain ⟨o6, h⟩ := h
    refine j_iinc (ll' := [(4, aI (x4 + (-1))), (0, aR 61), (2, aL x2)]) 2 dX11_feed_73 rfl (Nat.le_of_ble_eq_true rfl) o6 rfl ?_
    refine j_goto (tgt := 37) dX11_feed_76 (by decide) ?_
    refine j_sub [1, 2, 0] rfl ?_
    exact h
set_option maxRecDepth 100000 in
set_option maxHeartbeats 4000000 in
theorem B_X11_pit_0 {post : Int → ax_M → Prop} {M : ax_M} (h : ax_Ti Y_X11_takePlaces [aR 61] SH (ax_up (ax_up (ax_up (ax_up (ax_up M 61 14 (-1)) 61 15 0) 61 20 0) 61 21 (-1)) 61 23 0) (fun z2 u1 => ax_J Y_X11_pit (ax_Ki Y_X11_pit SH post) 0 0 30 [(0, aR 61), (1, aI z2)] [] SH u1)) : ax_J Y_X11_pit (ax_Ki Y_X11_pit SH post) 0 0 0 [(0, aR 61)] [] SH M := by
  refine j_aload_n 0 dX11_pit_0 rfl ?_
  refine j_iconst (x := (-1)) dX11_pit_1 rfl (i32_c rfl) ?_
  refine j_puti (i := 14) dX11_pit_2 p_X11_42 (fun h => by cases h) sh_61 rfl rfl ?_
  refine j_aload_n 0 dX11_pit_5 rfl ?_
  refine j_iconst (x := 0) dX11_pit_6 rfl (i32_c rfl) ?_
  refine j_puti (i := 15) dX11_pit_7 p_X11_150 (fun h => by cases h) sh_61 rfl rfl ?_
  refine j_aload_n 0 dX11_pit_10 rfl ?_
  refine j_iconst (x := 0) dX11_pit_11 rfl (i32_c rfl) ?_
  refine j_puti (i := 20) dX11_pit_12 p_X11_204 (fun h => by cases h) sh_61 rfl rfl ?_
  refine j_aload_n 0 dX11_pit_15 rfl ?_
  refine j_iconst (x := (-1)) dX11_pit_16 rfl (i32_c rfl) ?_
  refine j_puti (i := 21) dX11_pit_17 p_X11_210 (fun h => by cases h) sh_61 rfl rfl ?_
  refine j_aload_n 0 dX11_pit_20 rfl ?_
  refine j_iconst (x := 0) dX11_pit_21 rfl (i32_c rfl) ?_
  refine j_puti (i := 23) dX11_pit_22 p_X11_216 (fun h => by cases h) sh_61 rfl rfl ?_
  refine j_aload_n 0 dX11_pit_25 rfl ?_
  refine j_calliV (Yc := Y_X11_takePlaces) (as := []) (rest := []) dX11_pit_26 q_X11_228 ⟨Nat.le_of_ble_eq_true rfl, Nat.le_of_ble_eq_true rfl, Nat.le_of_ble_eq_true rfl, Nat.le_of_ble_eq_true rfl⟩ sh_61 rfl (Nat.le_of_ble_eq_true rfl) rfl (ti_mono h (fun z2 u1 h => ?_))
  refine j_istore_n (ll' := [(1, aI z2), (0, aR 61)]) dX11_pit_29 (Nat.le_of_ble_eq_true rfl) rfl ?_
  refine j_sub [1, 0] rfl ?_
  exact h
theorem E_X11_pit {post : Int → ax_M → Prop} {M : ax_M} (h : ax_mr SH M → ax_Ti Y_X11_takePlaces [aR 61] SH (ax_up (ax_up (ax_up (ax_up (ax_up M 61 14 (-1)) 61 15 0) 61 20 0) 61 21 (-1)) 61 23 0) (fun z2 u1 => ax_J Y_X11_pit (ax_Ki Y_X11_pit SH post) 0 0 30 [(0, aR 61), (1, aI z2)] [] SH u1)) : ax_Ti Y_X11_pit [aR 61] SH M post :=
  ti_of rfl (Nat.le_of_ble_eq_true rfl) rfl (fun q => B_X11_pit_0 (h q))
set_option maxRecDepth 100000 in
set_option maxHeartbeats 4000000 in
theorem B_X11_pit_30 {post : Int → ax_M → Prop} {M : ax_M} {x1 : Int} (h : (((¬ x1 = 0) → (((x1 ≤ 0) → ax_Tv Y_X11_keepPit [aR 61] SH (ax_up M 61 13 0) (fun u1 => post (u1 61 3) u1)) ∧ ((0 < x1) → (-2147483648 ≤ ((-10) - x1) ∧ ((-10) - x1) ≤ 2147483647) ∧ post ((-10) - x1) (ax_up M 61 13 0)))) ∧ ((x1 = 0) → ax_Ti Y_X11_here [aR 61] SH M (fun z3 u2 => (((z3 < 0) → (((0 ≤ (u2 61 21)) → (((x1 ≤ 0) → ax_Tv Y_X11_keepPit [aR 61] SH (ax_up u2 61 13 0) (fun u4 => post (u4 61 3) u4)) ∧ ((0 < x1) → (-2147483648 ≤ ((-10) - x1) ∧ ((-10) - x1) ≤ 2147483647) ∧ post ((-10) - x1) (ax_up u2 61 13 0)))) ∧ (((u2 61 21) < 0) → post (-11) (ax_up (ax_up u2 61 14 (u2 61 13)) 61 13 0)))) ∧ ((0 ≤ z3) → ax_Ti Y_X11_takeClause [aR 61] SH u2 (fun z6 u5 => ax_J Y_X11_pit (ax_Ki Y_X11_pit SH post) 0 0 30 [(0, aR 61), (1, aI z6)] [] SH u5))))))) : ax_J Y_X11_pit (ax_Ki Y_X11_pit SH post) 0 0 30 [(0, aR 61), (1, aI x1)] [] SH M := by
  refine j_iload_n 1 dX11_pit_30 rfl ?_
  refine j_if_ne (tgt := 49) dX11_pit_31 (by decide) (fun c1 => ?_) (fun c1 => ?_)
  · replace h := h.1 c1
    refine j_iload_n 1 dX11_pit_49 rfl ?_
    refine j_if_ne (tgt := 72) dX11_pit_50 (by decide) (fun _ => ?_) (fun c => by have := c1; omega)
    refine j_iload_n 1 dX11_pit_72 rfl ?_
    refine j_istore_n (ll' := [(1, aI x1), (0, aR 61)]) dX11_pit_73 (Nat.le_of_ble_eq_true rfl) rfl ?_
    refine j_aload_n 1 dX11_pit_74 rfl ?_
    refine j_iconst (x := 0) dX11_pit_75 rfl (i32_c rfl) ?_
    refine j_puti (i := 13) dX11_pit_76 p_X11_145 (fun h => by cases h) sh_61 rfl rfl ?_
    refine j_iload_n 0 dX11_pit_79 rfl ?_
    refine j_if_le (tgt := 88) dX11_pit_80 (by decide) (fun c2 => ?_) (fun c2 => ?_)
    · replace h := h.1 c2
      refine j_aload_n 1 dX11_pit_88 rfl ?_
      refine j_callvV (Yc := Y_X11_keepPit) (as := []) (rest := []) dX11_pit_89 q_X11_234 ⟨Nat.le_of_ble_eq_true rfl, Nat.le_of_ble_eq_true rfl, Nat.le_of_ble_eq_true rfl, Nat.le_of_ble_eq_true rfl⟩ sh_61 rfl (Nat.le_of_ble_eq_true rfl) rfl (tv_mono h (fun u1 h => ?_))
      refine j_aload_n 1 dX11_pit_92 rfl ?_
      refine j_geti (i := 3) dX11_pit_93 f_X11_140 sh_61 rfl rfl (fun _ => ?_)
      exact j_iret dX11_pit_96 rfl ⟨Nat.le_of_ble_eq_true rfl, Nat.le_of_ble_eq_true rfl⟩ (fun _ => h)
    · replace h := h.2 c2
      refine j_bipush (x := (-10)) dX11_pit_83 rfl (i32_c rfl) ?_
      refine j_iload_n 0 dX11_pit_85 rfl ?_
      obtain ⟨o3, h⟩ := h
      refine j_isub (z := ((-10) - x1)) dX11_pit_86 rfl o3 ?_
      exact j_iret dX11_pit_87 rfl ⟨Nat.le_of_ble_eq_true rfl, Nat.le_of_ble_eq_true rfl⟩ (fun _ => h)
  · replace h := h.2 c1
    refine j_aload_n 0 dX11_pit_34 rfl ?_
    refine j_calliV (Yc := Y_X11_here) (as := []) (rest := []) dX11_pit_35 q_X11_153 ⟨Nat.le_of_ble_eq_true rfl, Nat.le_of_ble_eq_true rfl, Nat.le_of_ble_eq_true rfl, Nat.le_of_ble_eq_true rfl⟩ sh_61 rfl (Nat.le_of_ble_eq_true rfl) rfl (ti_mono h (fun z3 u2 h => ?_))
    refine j_if_lt (tgt := 49) dX11_pit_38 (by decide) (fun c4 => ?_) (fun c4 => ?_)
    · replace h := h.1 c4
      refine j_iload_n 1 dX11_pit_49 rfl ?_
      refine j_if_ne (tgt := 72) dX11_pit_50 (by decide) (fun c => by have := c1; omega) (fun _ => ?_)
      refine j_aload_n 0 dX11_pit_53 rfl ?_
      refine j_geti (i := 21) dX11_pit_54 f_X11_210 sh_61 rfl rfl (fun _ => ?_)
      refine j_if_ge (tgt := 72) dX11_pit_57 (by decide) (fun c5 => ?_) (fun c5 => ?_)
      · replace h := h.1 c5
        refine j_iload_n 1 dX11_pit_72 rfl ?_
        refine j_istore_n (ll' := [(1, aI x1), (0, aR 61)]) dX11_pit_73 (Nat.le_of_ble_eq_true rfl) rfl ?_
        refine j_aload_n 1 dX11_pit_74 rfl ?_
        refine j_iconst (x := 0) dX11_pit_75 rfl (i32_c rfl) ?_
        refine j_puti (i := 13) dX11_pit_76 p_X11_145 (fun h => by cases h) sh_61 rfl rfl ?_
        refine j_iload_n 0 dX11_pit_79 rfl ?_
        refine j_if_le (tgt := 88) dX11_pit_80 (by decide) (fun c6 => ?_) (fun c6 => ?_)
        · replace h := h.1 c6
          refine j_aload_n 1 dX11_pit_88 rfl ?_
          refine j_callvV (Yc := Y_X11_keepPit) (as := []) (rest := []) dX11_pit_89 q_X11_234 ⟨Nat.le_of_ble_eq_true rfl, Nat.le_of_ble_eq_true rfl, Nat.le_of_ble_eq_true rfl, Nat.le_of_ble_eq_true rfl⟩ sh_61 rfl (Nat.le_of_ble_eq_true rfl) rfl (tv_mono h (fun u4 h => ?_))
          refine j_aload_n 1 dX11_pit_92 rfl ?_
          refine j_geti (i := 3) dX11_pit_93 f_X11_140 sh_61 rfl rfl (fun _ => ?_)
          exact j_iret dX11_pit_96 rfl ⟨Nat.le_of_ble_eq_true rfl, Nat.le_of_ble_eq_true rfl⟩ (fun _ => h)
        · replace h := h.2 c6
          refine j_bipush (x := (-10)) dX11_pit_83 rfl (i32_c rfl) ?_
          refine j_iload_n 0 dX11_pit_85 rfl ?_
          obtain ⟨o7, h⟩ := h
          refine j_isub (z := ((-10) - x1)) dX11_pit_86 rfl o7 ?_
          exact j_iret dX11_pit_87 rfl ⟨Nat.le_of_ble_eq_true rfl, Nat.le_of_ble_eq_true rfl⟩ (fun _ => h)
      · replace h := h.2 c5
        refine j_aload_n 0 dX11_pit_60 rfl ?_
        refine j_iconst (x := 1) dX11_pit_61 rfl (i32_c rfl) ?_
        refine j_aload_n 0 dX11_pit_62 rfl ?_
        refine j_geti (i := 13) dX11_pit_63 f_X11_145 sh_61 rfl rfl (fun _ => ?_)
        refine j_calliV (Yc := Y_X11_fails) (as := [aI 1, aI (u2 61 13)]) (rest := []) dX11_pit_66 q_X11_180 ⟨Nat.le_of_ble_eq_true rfl, Nat.le_of_ble_eq_true rfl, Nat.le_of_ble_eq_true rfl, Nat.le_of_ble_eq_true rfl⟩ sh_61 rfl (Nat.le_of_ble_eq_true rfl) rfl (ti_of (ll := [(0, aR 61), (1, aI 1), (2, aI (u2 61 13))]) rfl (Nat.le_of_ble_eq_true rfl) rfl (fun _ => ?_))
        refine j_aload_n 0 dX11_fails_0 rfl ?_
        refine j_iload_n 2 dX11_fails_1 rfl ?_
        refine j_puti (i := 14) dX11_fails_2 p_X11_42 (fun h => by cases h) sh_61 rfl rfl ?_
        refine j_iload_n 1 dX11_fails_5 rfl ?_
        refine j_iret dX11_fails_6 rfl ⟨Nat.le_of_ble_eq_true rfl, Nat.le_of_ble_eq_true rfl⟩ (fun _ => ?_)
        refine j_goto (tgt := 73) dX11_pit_69 (by decide) ?_
        refine j_istore_n (ll' := [(1, aI 1), (0, aR 61)]) dX11_pit_73 (Nat.le_of_ble_eq_true rfl) rfl ?_
        refine j_aload_n 1 dX11_pit_74 rfl ?_
        refine j_iconst (x := 0) dX11_pit_75 rfl (i32_c rfl) ?_
        refine j_puti (i := 13) dX11_pit_76 p_X11_145 (fun h => by cases h) sh_61 rfl rfl ?_
        refine j_iload_n 0 dX11_pit_79 rfl ?_
        refine j_if_le (tgt := 88) dX11_pit_80 (by decide) (fun c => absurd c (by decide)) (fun _ => ?_)
        refine j_bipush (x := (-10)) dX11_pit_83 rfl (i32_c rfl) ?_
        refine j_iload_n 0 dX11_pit_85 rfl ?_
        refine j_isub (z := (-11)) dX11_pit_86 rfl (i32_c rfl) ?_
        exact j_iret dX11_pit_87 rfl ⟨Nat.le_of_ble_eq_true rfl, Nat.le_of_ble_eq_true rfl⟩ (fun _ => h)
    · replace h := h.2 c4
      refine j_aload_n 0 dX11_pit_41 rfl ?_
      refine j_calliV (Yc := Y_X11_takeClause) (as := []) (rest := []) dX11_pit_42 q_X11_231 ⟨Nat.le_of_ble_eq_true rfl, Nat.le_of_ble_eq_true rfl, Nat.le_of_ble_eq_true rfl, Nat.le_of_ble_eq_true rfl⟩ sh_61 rfl (Nat.le_of_ble_eq_true rfl) rfl (ti_mono h (fun z6 u5 h => ?_))
      refine j_istore_n (ll' := [(1, aI z6), (0, aR 61)]) dX11_pit_45 (Nat.le_of_ble_eq_true rfl) rfl ?_
      refine j_goto (tgt := 30) dX11_pit_46 (by decide) ?_
      refine j_sub [1, 0] rfl ?_
      exact h
set_option maxRecDepth 100000 in
set_option maxHeartbeats 4000000 in
theorem B_X11_fault_0 {post : Int → ax_M → Prop} {M : ax_M} (h : post (M 61 14) M) : ax_J Y_X11_fault (ax_Ki Y_X11_fault SH post) 0 0 0 [(0, aR 61)] [] SH M := by
  refine j_aload_n 0 dX11_fault_0 rfl ?_
  refine j_geti (i := 14) dX11_fault_1 f_X11_42 sh_61 rfl rfl (fun _ => ?_)
  exact j_iret dX11_fault_4 rfl ⟨Nat.le_of_ble_eq_true rfl, Nat.le_of_ble_eq_true rfl⟩ (fun _ => h)
theorem E_X11_fault {post : Int → ax_M → Prop} {M : ax_M} (h : ax_mr SH M → post (M 61 14) M) : ax_Ti Y_X11_fault [aR 61] SH M post :=
  ti_of rfl (Nat.le_of_ble_eq_true rfl) rfl (fun q => B_X11_fault_0 (h q))
set_option maxRecDepth 100000 in
set_option maxHeartbeats 4000000 in
theorem B_X11_way_0 {post : Int → ax_M → Prop} {M : ax_M} {x1 x2 : Int} (h : (-2147483648 ≤ ((M 61 3) - 1) ∧ ((M 61 3) - 1) ≤ 2147483647) ∧ (((x1 < 0) → post (-1001) M) ∧ ((0 ≤ x1) → (((((M 61 3) - 1) < x1) → post (-1001) M) ∧ ((x1 ≤ ((M 61 3) - 1)) → (((x2 = 0) → (0 ≤ x1 ∧ x1 < 24) ∧ post (M 62 x1) M) ∧ (((x2 = 1) → (0 ≤ x1 ∧ x1 < 24) ∧ post (M 63 x1) M) ∧ (((x2 = 2) → (0 ≤ x1 ∧ x1 < 24) ∧ post (M 64 x1) M) ∧ (((x2 = 3) → (0 ≤ x1 ∧ x1 < 24) ∧ post (M 65 x1) M) ∧ (((x2 = 4) → (0 ≤ x1 ∧ x1 < 24) ∧ post (M 66 x1) M) ∧ (((x2 = 5) → (0 ≤ x1 ∧ x1 < 24) ∧ post (M 67 x1) M) ∧ (((x2 = 6) → (0 ≤ x1 ∧ x1 < 24) ∧ post (M 68 x1) M) ∧ (((x2 = 7) → (0 ≤ x1 ∧ x1 < 24) ∧ ((((M 69 x1) = 0) → post 0 M) ∧ ((¬ (M 69 x1) = 0) → post 1 M))) ∧ ((x2 < 0 ∨ 7 < x2) → post (-1002) M)))))))))))))) : ax_J Y_X11_way (ax_Ki Y_X11_way SH post) 0 0 0 [(0, aR 61), (1, aI x1), (2, aI x2)] [] SH M := by
  refine j_aload_n 0 dX11_way_0 rfl ?_
  refine j_iload_n 1 dX11_way_1 rfl ?_
  refine j_calliV (Yc := Y_X11_isWay) (as := [aI x1]) (rest := []) dX11_way_2 q_X11_249 ⟨Nat.le_of_ble_eq_true rfl, Nat.le_of_ble_eq_true rfl, Nat.le_of_ble_eq_true rfl, Nat.le_of_ble_eq_true rfl⟩ sh_61 rfl (Nat.le_of_ble_eq_true rfl) rfl (ti_of (ll := [(0, aR 61), (1, aI x1)]) rfl (Nat.le_of_ble_eq_true rfl) rfl (fun _ => ?_))
  refine j_iload_n 1 dX11_isWay_0 rfl ?_
  refine j_i2l dX11_isWay_1 ?_
  refine j_lconst (x := 0) dX11_isWay_2 rfl (i64_c rfl) ?_
  refine j_aload_n 0 dX11_isWay_3 rfl ?_
  refine j_geti (i := 3) dX11_isWay_4 f_X11_140 sh_61 rfl rfl (fun _ => ?_)
  refine j_iconst (x := 1) dX11_isWay_7 rfl (i32_c rfl) ?_
  obtain ⟨o1, h⟩ := h
  refine j_isub (z := ((M 61 3) - 1)) dX11_isWay_8 rfl o1 ?_
  refine j_i2l dX11_isWay_9 ?_
  refine j_calliS (Yc := Y_X11_in) (as := [aL x1, aL 0, aL ((M 61 3) - 1)]) (rest := []) dX11_isWay_10 q_X11_136 ⟨Nat.le_of_ble_eq_true rfl, Nat.le_of_ble_eq_true rfl, Nat.le_of_ble_eq_true rfl, Nat.le_of_ble_eq_true rfl⟩ rfl (Nat.le_of_ble_eq_true rfl) rfl (ti_of (ll := [(0, aL x1), (2, aL 0), (4, aL ((M 61 3) - 1))]) rfl (Nat.le_of_ble_eq_true rfl) rfl (fun _ => ?_))
  refine j_lload_n 0 dX11_in_0 rfl ?_
  refine j_lload_n 1 dX11_in_1 rfl ?_
  refine j_lcmp_lt (tgt := 17) dX11_in_2 dX11_in_3 (by decide) (fun c2 => ?_) (fun c2 => ?_)
  · replace h := h.1 c2
    refine j_iconst (x := 0) dX11_in_17 rfl (i32_c rfl) ?_
    refine j_zret dX11_in_18 rfl ⟨Nat.le_of_ble_eq_true rfl, Nat.le_of_ble_eq_true rfl⟩ (by decide) ?_
    refine j_zret dX11_isWay_13 rfl ⟨Nat.le_of_ble_eq_true rfl, Nat.le_of_ble_eq_true rfl⟩ (by decide) ?_
    refine j_if_ne (tgt := 12) dX11_way_5 (by decide) (fun c => absurd c (by decide)) (fun _ => ?_)
    refine j_sipush (x := (-1001)) dX11_way_8 rfl (i32_c rfl) ?_
    exact j_iret dX11_way_11 rfl ⟨Nat.le_of_ble_eq_true rfl, Nat.le_of_ble_eq_true rfl⟩ (fun _ => h)
  · replace h := h.2 c2
    refine j_lload_n 0 dX11_in_6 rfl ?_
    refine j_lload 2 dX11_in_7 rfl ?_
    refine j_lcmp_gt (tgt := 17) dX11_in_9 dX11_in_10 (by decide) (fun c3 => ?_) (fun c3 => ?_)
    · replace h := h.1 c3
      refine j_iconst (x := 0) dX11_in_17 rfl (i32_c rfl) ?_
      refine j_zret dX11_in_18 rfl ⟨Nat.le_of_ble_eq_true rfl, Nat.le_of_ble_eq_true rfl⟩ (by decide) ?_
      refine j_zret dX11_isWay_13 rfl ⟨Nat.le_of_ble_eq_true rfl, Nat.le_of_ble_eq_true rfl⟩ (by decide) ?_
      refine j_if_ne (tgt := 12) dX11_way_5 (by decide) (fun c => absurd c (by decide)) (fun _ => ?_)
      refine j_sipush (x := (-1001)) dX11_way_8 rfl (i32_c rfl) ?_
      exact j_iret dX11_way_11 rfl ⟨Nat.le_of_ble_eq_true rfl, Nat.le_of_ble_eq_true rfl⟩ (fun _ => h)
    · replace h := h.2 c3
      refine j_iconst (x := 1) dX11_in_13 rfl (i32_c rfl) ?_
      refine j_goto (tgt := 18) dX11_in_14 (by decide) ?_
      refine j_zret dX11_in_18 rfl ⟨Nat.le_of_ble_eq_true rfl, Nat.le_of_ble_eq_true rfl⟩ (by decide) ?_
      refine j_zret dX11_isWay_13 rfl ⟨Nat.le_of_ble_eq_true rfl, Nat.le_of_ble_eq_true rfl⟩ (by decide) ?_
      refine j_if_ne (tgt := 12) dX11_way_5 (by decide) (fun _ => ?_) (fun c => absurd c (by decide))
      refine j_iload_n 2 dX11_way_12 rfl ?_
      rcases (show (x2 = 0) ∨ (x2 = 1) ∨ (x2 = 2) ∨ (x2 = 3) ∨ (x2 = 4) ∨ (x2 = 5) ∨ (x2 = 6) ∨ (x2 = 7) ∨ (x2 < 0 ∨ 7 < x2) by omega) with c | c | c | c | c | c | c | c | c
      · replace h := h.1 c
        refine j_tableC (v := 0) (tgt := 60) c dX11_way_13 (by decide) (by decide) rfl (by decide) ?_
        refine j_aload_n 0 dX11_way_60 rfl ?_
        refine j_getc 62 dX11_way_61 f_X11_13 sh_61 rfl ?_
        refine j_iload_n 1 dX11_way_64 rfl ?_
        obtain ⟨o4, h⟩ := h
        refine j_iald dX11_way_65 sh_62 o4.1 o4.2 (fun _ => ?_)
        exact j_iret dX11_way_66 rfl ⟨Nat.le_of_ble_eq_true rfl, Nat.le_of_ble_eq_true rfl⟩ (fun _ => h)
      · replace h := h.2.1 c
        refine j_tableC (v := 1) (tgt := 67) c dX11_way_13 (by decide) (by decide) rfl (by decide) ?_
        refine j_aload_n 0 dX11_way_67 rfl ?_
        refine j_getc 63 dX11_way_68 f_X11_17 sh_61 rfl ?_
        refine j_iload_n 1 dX11_way_71 rfl ?_
        obtain ⟨o5, h⟩ := h
        refine j_iald dX11_way_72 sh_63 o5.1 o5.2 (fun _ => ?_)
        exact j_iret dX11_way_73 rfl ⟨Nat.le_of_ble_eq_true rfl, Nat.le_of_ble_eq_true rfl⟩ (fun _ => h)
      · replace h := h.2.2.1 c
        refine j_tableC (v := 2) (tgt := 74) c dX11_way_13 (by decide) (by decide) rfl (by decide) ?_
        refine j_aload_n 0 dX11_way_74 rfl ?_
        refine j_getc 64 dX11_way_75 f_X11_20 sh_61 rfl ?_
        refine j_iload_n 1 dX11_way_78 rfl ?_
        obtain ⟨o6, h⟩ := h
        refine j_iald dX11_way_79 sh_64 o6.1 o6.2 (fun _ => ?_)
        exact j_iret dX11_way_80 rfl ⟨Nat.le_of_ble_eq_true rfl, Nat.le_of_ble_eq_true rfl⟩ (fun _ => h)
      · replace h := h.2.2.2.1 c
        refine j_tableC (v := 3) (tgt := 81) c dX11_way_13 (by decide) (by decide) rfl (by decide) ?_
        refine j_aload_n 0 dX11_way_81 rfl ?_
        refine j_getc 65 dX11_way_82 f_X11_23 sh_61 rfl ?_
        refine j_iload_n 1 dX11_way_85 rfl ?_
        obtain ⟨o7, h⟩ := h
        refine j_iald dX11_way_86 sh_65 o7.1 o7.2 (fun _ => ?_)
        exact j_iret dX11_way_87 rfl ⟨Nat.le_of_ble_eq_true rfl, Nat.le_of_ble_eq_true rfl⟩ (fun _ => h)
      · replace h := h.2.2.2.2.1 c
        refine j_tableC (v := 4) (tgt := 88) c dX11_way_13 (by decide) (by decide) rfl (by decide) ?_
        refine j_aload_n 0 dX11_way_88 rfl ?_
        refine j_getc 66 dX11_way_89 f_X11_26 sh_61 rfl ?_
        refine j_iload_n 1 dX11_way_92 rfl ?_
        obtain ⟨o8, h⟩ := h
        refine j_iald dX11_way_93 sh_66 o8.1 o8.2 (fun _ => ?_)
        exact j_iret dX11_way_94 rfl ⟨Nat.le_of_ble_eq_true rfl, Nat.le_of_ble_eq_true rfl⟩ (fun _ => h)
      · replace h := h.2.2.2.2.2.1 c
        refine j_tableC (v := 5) (tgt := 95) c dX11_way_13 (by decide) (by decide) rfl (by decide) ?_
        refine j_aload_n 0 dX11_way_95 rfl ?_
        refine j_getc 67 dX11_way_96 f_X11_29 sh_61 rfl ?_
        refine j_iload_n 1 dX11_way_99 rfl ?_
        obtain ⟨o9, h⟩ := h
        refine j_iald dX11_way_100 sh_67 o9.1 o9.2 (fun _ => ?_)
        exact j_iret dX11_way_101 rfl ⟨Nat.le_of_ble_eq_true rfl, Nat.le_of_ble_eq_true rfl⟩ (fun _ => h)
      · replace h := h.2.2.2.2.2.2.1 c
        refine j_tableC (v := 6) (tgt := 102) c dX11_way_13 (by decide) (by decide) rfl (by decide) ?_
        refine j_aload_n 0 dX11_way_102 rfl ?_
        refine j_getc 68 dX11_way_103 f_X11_32 sh_61 rfl ?_
        refine j_iload_n 1 dX11_way_106 rfl ?_
        obtain ⟨o10, h⟩ := h
        refine j_iald dX11_way_107 sh_68 o10.1 o10.2 (fun _ => ?_)
        exact j_iret dX11_way_108 rfl ⟨Nat.le_of_ble_eq_true rfl, Nat.le_of_ble_eq_true rfl⟩ (fun _ => h)
      · replace h := h.2.2.2.2.2.2.2.1 c
        refine j_tableC (v := 7) (tgt := 109) c dX11_way_13 (by decide) (by decide) rfl (by decide) ?_
        refine j_aload_n 0 dX11_way_109 rfl ?_
        refine j_getc 69 dX11_way_110 f_X11_35 sh_61 rfl ?_
        refine j_iload_n 1 dX11_way_113 rfl ?_
        obtain ⟨o11, h⟩ := h
        refine j_zald dX11_way_114 sh_69 o11.1 o11.2 (fun _ => ?_)
        refine j_if_eq (tgt := 122) dX11_way_115 (by decide) (fun c12 => ?_) (fun c12 => ?_)
        · replace h := h.1 c12
          refine j_iconst (x := 0) dX11_way_122 rfl (i32_c rfl) ?_
          exact j_iret dX11_way_123 rfl ⟨Nat.le_of_ble_eq_true rfl, Nat.le_of_ble_eq_true rfl⟩ (fun _ => h)
        · replace h := h.2 c12
          refine j_iconst (x := 1) dX11_way_118 rfl (i32_c rfl) ?_
          refine j_goto (tgt := 123) dX11_way_119 (by decide) ?_
          exact j_iret dX11_way_123 rfl ⟨Nat.le_of_ble_eq_true rfl, Nat.le_of_ble_eq_true rfl⟩ (fun _ => h)
      · replace h := h.2.2.2.2.2.2.2.2 c
        refine j_tableOut (tgt := 124) dX11_way_13 c (by decide) ?_
        refine j_sipush (x := (-1002)) dX11_way_124 rfl (i32_c rfl) ?_
        exact j_iret dX11_way_127 rfl ⟨Nat.le_of_ble_eq_true rfl, Nat.le_of_ble_eq_true rfl⟩ (fun _ => h)
theorem E_X11_way {post : Int → ax_M → Prop} {M : ax_M} {x1 x2 : Int} (h : ax_mr SH M → (-2147483648 ≤ ((M 61 3) - 1) ∧ ((M 61 3) - 1) ≤ 2147483647) ∧ (((x1 < 0) → post (-1001) M) ∧ ((0 ≤ x1) → (((((M 61 3) - 1) < x1) → post (-1001) M) ∧ ((x1 ≤ ((M 61 3) - 1)) → (((x2 = 0) → (0 ≤ x1 ∧ x1 < 24) ∧ post (M 62 x1) M) ∧ (((x2 = 1) → (0 ≤ x1 ∧ x1 < 24) ∧ post (M 63 x1) M) ∧ (((x2 = 2) → (0 ≤ x1 ∧ x1 < 24) ∧ post (M 64 x1) M) ∧ (((x2 = 3) → (0 ≤ x1 ∧ x1 < 24) ∧ post (M 65 x1) M) ∧ (((x2 = 4) → (0 ≤ x1 ∧ x1 < 24) ∧ post (M 66 x1) M) ∧ (((x2 = 5) → (0 ≤ x1 ∧ x1 < 24) ∧ post (M 67 x1) M) ∧ (((x2 = 6) → (0 ≤ x1 ∧ x1 < 24) ∧ post (M 68 x1) M) ∧ (((x2 = 7) → (0 ≤ x1 ∧ x1 < 24) ∧ ((((M 69 x1) = 0) → post 0 M) ∧ ((¬ (M 69 x1) = 0) → post 1 M))) ∧ ((x2 < 0 ∨ 7 < x2) → post (-1002) M)))))))))))))) : ax_Ti Y_X11_way [aR 61, aI x1, aI x2] SH M post :=
  ti_of rfl (Nat.le_of_ble_eq_true rfl) rfl (fun q => B_X11_way_0 (h q))
set_option maxRecDepth 100000 in
set_option maxHeartbeats 4000000 in
theorem B_X11_fall_0 {post : Int → ax_M → Prop} {M : ax_M} {x1 x2 : Int} (h : (-2147483648 ≤ ((M 61 3) - 1) ∧ ((M 61 3) - 1) ≤ 2147483647) ∧ (((x1 < 0) → post (-1001) M) ∧ ((0 ≤ x1) → (((((M 61 3) - 1) < x1) → post (-1001) M) ∧ ((x1 ≤ ((M 61 3) - 1)) → (0 ≤ x1 ∧ x1 < 24) ∧ ((((M 69 x1) = 0) → (x2 = 0 ∨ x2 = 1) ∧ post 0 (ax_up M 69 x1 x2)) ∧ ((¬ (M 69 x1) = 0) → (x2 = 0 ∨ x2 = 1) ∧ post 1 (ax_up M 69 x1 x2)))))))) : ax_J Y_X11_fall (ax_Ki Y_X11_fall SH post) 0 0 0 [(0, aR 61), (1, aI x1), (2, aI x2)] [] SH M := by
  refine j_aload_n 0 dX11_fall_0 rfl ?_
  refine j_iload_n 1 dX11_fall_1 rfl ?_
  refine j_calliV (Yc := Y_X11_isWay) (as := [aI x1]) (rest := []) dX11_fall_2 q_X11_249 ⟨Nat.le_of_ble_eq_true rfl, Nat.le_of_ble_eq_true rfl, Nat.le_of_ble_eq_true rfl, Nat.le_of_ble_eq_true rfl⟩ sh_61 rfl (Nat.le_of_ble_eq_true rfl) rfl (ti_of (ll := [(0, aR 61), (1, aI x1)]) rfl (Nat.le_of_ble_eq_true rfl) rfl (fun _ => ?_))
  refine j_iload_n 1 dX11_isWay_0 rfl ?_
  refine j_i2l dX11_isWay_1 ?_
  refine j_lconst (x := 0) dX11_isWay_2 rfl (i64_c rfl) ?_
  refine j_aload_n 0 dX11_isWay_3 rfl ?_
  refine j_geti (i := 3) dX11_isWay_4 f_X11_140 sh_61 rfl rfl (fun _ => ?_)
  refine j_iconst (x := 1) dX11_isWay_7 rfl (i32_c rfl) ?_
  obtain ⟨o1, h⟩ := h
  refine j_isub (z := ((M 61 3) - 1)) dX11_isWay_8 rfl o1 ?_
  refine j_i2l dX11_isWay_9 ?_
  refine j_calliS (Yc := Y_X11_in) (as := [aL x1, aL 0, aL ((M 61 3) - 1)]) (rest := []) dX11_isWay_10 q_X11_136 ⟨Nat.le_of_ble_eq_true rfl, Nat.le_of_ble_eq_true rfl, Nat.le_of_ble_eq_true rfl, Nat.le_of_ble_eq_true rfl⟩ rfl (Nat.le_of_ble_eq_true rfl) rfl (ti_of (ll := [(0, aL x1), (2, aL 0), (4, aL ((M 61 3) - 1))]) rfl (Nat.le_of_ble_eq_true rfl) rfl (fun _ => ?_))
  refine j_lload_n 0 dX11_in_0 rfl ?_
  refine j_lload_n 1 dX11_in_1 rfl ?_
  refine j_lcmp_lt (tgt := 17) dX11_in_2 dX11_in_3 (by decide) (fun c2 => ?_) (fun c2 => ?_)
  · replace h := h.1 c2
    refine j_iconst (x := 0) dX11_in_17 rfl (i32_c rfl) ?_
    refine j_zret dX11_in_18 rfl ⟨Nat.le_of_ble_eq_true rfl, Nat.le_of_ble_eq_true rfl⟩ (by decide) ?_
    refine j_zret dX11_isWay_13 rfl ⟨Nat.le_of_ble_eq_true rfl, Nat.le_of_ble_eq_true rfl⟩ (by decide) ?_
    refine j_if_ne (tgt := 12) dX11_fall_5 (by decide) (fun c => absurd c (by decide)) (fun _ => ?_)
    refine j_sipush (x := (-1001)) dX11_fall_8 rfl (i32_c rfl) ?_
    exact j_iret dX11_fall_11 rfl ⟨Nat.le_of_ble_eq_true rfl, Nat.le_of_ble_eq_true rfl⟩ (fun _ => h)
  · replace h := h.2 c2
    refine j_lload_n 0 dX11_in_6 rfl ?_
    refine j_lload 2 dX11_in_7 rfl ?_
    refine j_lcmp_gt (tgt := 17) dX11_in_9 dX11_in_10 (by decide) (fun c3 => ?_) (fun c3 => ?_)
    · replace h := h.1 c3
      refine j_iconst (x := 0) dX11_in_17 rfl (i32_c rfl) ?_
      refine j_zret dX11_in_18 rfl ⟨Nat.le_of_ble_eq_true rfl, Nat.le_of_ble_eq_true rfl⟩ (by decide) ?_
      refine j_zret dX11_isWay_13 rfl ⟨Nat.le_of_ble_eq_true rfl, Nat.le_of_ble_eq_true rfl⟩ (by decide) ?_
      refine j_if_ne (tgt := 12) dX11_fall_5 (by decide) (fun c => absurd c (by decide)) (fun _ => ?_)
      refine j_sipush (x := (-1001)) dX11_fall_8 rfl (i32_c rfl) ?_
      exact j_iret dX11_fall_11 rfl ⟨Nat.le_of_ble_eq_true rfl, Nat.le_of_ble_eq_true rfl⟩ (fun _ => h)
    · replace h := h.2 c3
      refine j_iconst (x := 1) dX11_in_13 rfl (i32_c rfl) ?_
      refine j_goto (tgt := 18) dX11_in_14 (by decide) ?_
      refine j_zret dX11_in_18 rfl ⟨Nat.le_of_ble_eq_true rfl, Nat.le_of_ble_eq_true rfl⟩ (by decide) ?_
      refine j_zret dX11_isWay_13 rfl ⟨Nat.le_of_ble_eq_true rfl, Nat.le_of_ble_eq_true rfl⟩ (by decide) ?_
      refine j_if_ne (tgt := 12) dX11_fall_5 (by decide) (fun _ => ?_) (fun c => absurd c (by decide))
      refine j_aload_n 0 dX11_fall_12 rfl ?_
      refine j_getc 69 dX11_fall_13 f_X11_35 sh_61 rfl ?_
      refine j_iload_n 1 dX11_fall_16 rfl ?_
      obtain ⟨o4, h⟩ := h
      refine j_zald dX11_fall_17 sh_69 o4.1 o4.2 (fun _ => ?_)
      refine j_if_eq (tgt := 25) dX11_fall_18 (by decide) (fun c5 => ?_) (fun c5 => ?_)
      · replace h := h.1 c5
        refine j_iconst (x := 0) dX11_fall_25 rfl (i32_c rfl) ?_
        refine j_istore_n (ll' := [(3, aI 0), (0, aR 61), (1, aI x1), (2, aI x2)]) dX11_fall_26 (Nat.le_of_ble_eq_true rfl) rfl ?_
        refine j_aload_n 1 dX11_fall_27 rfl ?_
        refine j_getc 69 dX11_fall_28 f_X11_35 sh_61 rfl ?_
        refine j_iload_n 2 dX11_fall_31 rfl ?_
        refine j_iload_n 3 dX11_fall_32 rfl ?_
        obtain ⟨o6, h⟩ := h
        refine j_zast dX11_fall_33 sh_69 o4.1 o4.2 o6 ?_
        refine j_iload_n 0 dX11_fall_34 rfl ?_
        exact j_iret dX11_fall_35 rfl ⟨Nat.le_of_ble_eq_true rfl, Nat.le_of_ble_eq_true rfl⟩ (fun _ => h)
      · replace h := h.2 c5
        refine j_iconst (x := 1) dX11_fall_21 rfl (i32_c rfl) ?_
        refine j_goto (tgt := 26) dX11_fall_22 (by decide) ?_
        refine j_istore_n (ll' := [(3, aI 1), (0, aR 61), (1, aI x1), (2, aI x2)]) dX11_fall_26 (Nat.le_of_ble_eq_true rfl) rfl ?_
        refine j_aload_n 1 dX11_fall_27 rfl ?_
        refine j_getc 69 dX11_fall_28 f_X11_35 sh_61 rfl ?_
        refine j_iload_n 2 dX11_fall_31 rfl ?_
        refine j_iload_n 3 dX11_fall_32 rfl ?_
        obtain ⟨o7, h⟩ := h
        refine j_zast dX11_fall_33 sh_69 o4.1 o4.2 o7 ?_
        refine j_iload_n 0 dX11_fall_34 rfl ?_
        exact j_iret dX11_fall_35 rfl ⟨Nat.le_of_ble_eq_true rfl, Nat.le_of_ble_eq_true rfl⟩ (fun _ => h)
theorem E_X11_fall {post : Int → ax_M → Prop} {M : ax_M} {x1 x2 : Int} (h : ax_mr SH M → (-2147483648 ≤ ((M 61 3) - 1) ∧ ((M 61 3) - 1) ≤ 2147483647) ∧ (((x1 < 0) → post (-1001) M) ∧ ((0 ≤ x1) → (((((M 61 3) - 1) < x1) → post (-1001) M) ∧ ((x1 ≤ ((M 61 3) - 1)) → (0 ≤ x1 ∧ x1 < 24) ∧ ((((M 69 x1) = 0) → (x2 = 0 ∨ x2 = 1) ∧ post 0 (ax_up M 69 x1 x2)) ∧ ((¬ (M 69 x1) = 0) → (x2 = 0 ∨ x2 = 1) ∧ post 1 (ax_up M 69 x1 x2)))))))) : ax_Ti Y_X11_fall [aR 61, aI x1, aI x2] SH M post :=
  ti_of rfl (Nat.le_of_ble_eq_true rfl) rfl (fun q => B_X11_fall_0 (h q))
set_option maxRecDepth 100000 in
set_option maxHeartbeats 4000000 in
theorem B_X11_man_0 {post : Int → ax_M → Prop} {M : ax_M} {x1 x2 x3 : Int} (h : (-2147483648 ≤ ((M 61 0) - 1) ∧ ((M 61 0) - 1) ≤ 2147483647) ∧ (((x1 < 0) → post (-1001) M) ∧ ((0 ≤ x1) → (((((M 61 0) - 1) < x1) → post (-1001) M) ∧ ((x1 ≤ ((M 61 0) - 1)) → (((¬ (M 61 25) = 8) → (0 ≤ (M 61 25) ∧ (M 61 25) < 8) ∧ (x2 = 0 ∨ x2 = 1) ∧ (x3 = 0 ∨ x3 = 1) ∧ (-2147483648 ≤ ((M 61 25) + 1) ∧ ((M 61 25) + 1) ≤ 2147483647) ∧ (-2147483648 ≤ (((M 61 25) + 1) - 1) ∧ (((M 61 25) + 1) - 1) ≤ 2147483647) ∧ post (((M 61 25) + 1) - 1) (ax_up (ax_up (ax_up (ax_up M 72 (M 61 25) x1) 73 (M 61 25) x2) 74 (M 61 25) x3) 61 25 ((M 61 25) + 1))) ∧ (((M 61 25) = 8) → post (-1004) M))))))) : ax_J Y_X11_man (ax_Ki Y_X11_man SH post) 0 0 0 [(0, aR 61), (1, aI x1), (2, aI x2), (3, aI x3)] [] SH M := by
  refine j_aload_n 0 dX11_man_0 rfl ?_
  refine j_iload_n 1 dX11_man_1 rfl ?_
  refine j_calliV (Yc := Y_X11_isPlace) (as := [aI x1]) (rest := []) dX11_man_2 q_X11_257 ⟨Nat.le_of_ble_eq_true rfl, Nat.le_of_ble_eq_true rfl, Nat.le_of_ble_eq_true rfl, Nat.le_of_ble_eq_true rfl⟩ sh_61 rfl (Nat.le_of_ble_eq_true rfl) rfl (ti_of (ll := [(0, aR 61), (1, aI x1)]) rfl (Nat.le_of_ble_eq_true rfl) rfl (fun _ => ?_))
  refine j_iload_n 1 dX11_isPlace_0 rfl ?_
  refine j_i2l dX11_isPlace_1 ?_
  refine j_lconst (x := 0) dX11_isPlace_2 rfl (i64_c rfl) ?_
  refine j_aload_n 0 dX11_isPlace_3 rfl ?_
  refine j_geti (i := 0) dX11_isPlace_4 f_X11_133 sh_61 rfl rfl (fun _ => ?_)
  refine j_iconst (x := 1) dX11_isPlace_7 rfl (i32_c rfl) ?_
  obtain ⟨o1, h⟩ := h
  refine j_isub (z := ((M 61 0) - 1)) dX11_isPlace_8 rfl o1 ?_
  refine j_i2l dX11_isPlace_9 ?_
  refine j_calliS (Yc := Y_X11_in) (as := [aL x1, aL 0, aL ((M 61 0) - 1)]) (rest := []) dX11_isPlace_10 q_X11_136 ⟨Nat.le_of_ble_eq_true rfl, Nat.le_of_ble_eq_true rfl, Nat.le_of_ble_eq_true rfl, Nat.le_of_ble_eq_true rfl⟩ rfl (Nat.le_of_ble_eq_true rfl) rfl (ti_of (ll := [(0, aL x1), (2, aL 0), (4, aL ((M 61 0) - 1))]) rfl (Nat.le_of_ble_eq_true rfl) rfl (fun _ => ?_))
  refine j_lload_n 0 dX11_in_0 rfl ?_
  refine j_lload_n 1 dX11_in_1 rfl ?_
  refine j_lcmp_lt (tgt := 17) dX11_in_2 dX11_in_3 (by decide) (fun c2 => ?_) (fun c2 => ?_)
  · replace h := h.1 c2
    refine j_iconst (x := 0) dX11_in_17 rfl (i32_c rfl) ?_
    refine j_zret dX11_in_18 rfl ⟨Nat.le_of_ble_eq_true rfl, Nat.le_of_ble_eq_true rfl⟩ (by decide) ?_
    refine j_zret dX11_isPlace_13 rfl ⟨Nat.le_of_ble_eq_true rfl, Nat.le_of_ble_eq_true rfl⟩ (by decide) ?_
    refine j_if_ne (tgt := 12) dX11_man_5 (by decide) (fun c => absurd c (by decide)) (fun _ => ?_)
    refine j_sipush (x := (-1001)) dX11_man_8 rfl (i32_c rfl) ?_
    exact j_iret dX11_man_11 rfl ⟨Nat.le_of_ble_eq_true rfl, Nat.le_of_ble_eq_true rfl⟩ (fun _ => h)
  · replace h := h.2 c2
    refine j_lload_n 0 dX11_in_6 rfl ?_
    refine j_lload 2 dX11_in_7 rfl ?_
    refine j_lcmp_gt (tgt := 17) dX11_in_9 dX11_in_10 (by decide) (fun c3 => ?_) (fun c3 => ?_)
    · replace h := h.1 c3
      refine j_iconst (x := 0) dX11_in_17 rfl (i32_c rfl) ?_
      refine j_zret dX11_in_18 rfl ⟨Nat.le_of_ble_eq_true rfl, Nat.le_of_ble_eq_true rfl⟩ (by decide) ?_
      refine j_zret dX11_isPlace_13 rfl ⟨Nat.le_of_ble_eq_true rfl, Nat.le_of_ble_eq_true rfl⟩ (by decide) ?_
      refine j_if_ne (tgt := 12) dX11_man_5 (by decide) (fun c => absurd c (by decide)) (fun _ => ?_)
      refine j_sipush (x := (-1001)) dX11_man_8 rfl (i32_c rfl) ?_
      exact j_iret dX11_man_11 rfl ⟨Nat.le_of_ble_eq_true rfl, Nat.le_of_ble_eq_true rfl⟩ (fun _ => h)
    · replace h := h.2 c3
      refine j_iconst (x := 1) dX11_in_13 rfl (i32_c rfl) ?_
      refine j_goto (tgt := 18) dX11_in_14 (by decide) ?_
      refine j_zret dX11_in_18 rfl ⟨Nat.le_of_ble_eq_true rfl, Nat.le_of_ble_eq_true rfl⟩ (by decide) ?_
      refine j_zret dX11_isPlace_13 rfl ⟨Nat.le_of_ble_eq_true rfl, Nat.le_of_ble_eq_true rfl⟩ (by decide) ?_
      refine j_if_ne (tgt := 12) dX11_man_5 (by decide) (fun _ => ?_) (fun c => absurd c (by decide))
      refine j_aload_n 0 dX11_man_12 rfl ?_
      refine j_geti (i := 25) dX11_man_13 f_X11_240 sh_61 rfl rfl (fun _ => ?_)
      refine j_bipush (x := 8) dX11_man_16 rfl (i32_c rfl) ?_
      refine j_icmp_ne (tgt := 25) dX11_man_18 (by decide) (fun c4 => ?_) (fun c4 => ?_)
      · replace h := h.1 c4
        refine j_aload_n 0 dX11_man_25 rfl ?_
        refine j_getc 72 dX11_man_26 f_X11_48 sh_61 rfl ?_
        refine j_aload_n 0 dX11_man_29 rfl ?_
        refine j_geti (i := 25) dX11_man_30 f_X11_240 sh_61 rfl rfl (fun _ => ?_)
        refine j_iload_n 1 dX11_man_33 rfl ?_
        obtain ⟨o5, h⟩ := h
        refine j_iast dX11_man_34 sh_72 o5.1 o5.2 ?_
        refine j_aload_n 0 dX11_man_35 rfl ?_
        refine j_getc 73 dX11_man_36 f_X11_51 sh_61 rfl ?_
        refine j_aload_n 0 dX11_man_39 rfl ?_
        refine j_geti (i := 25) dX11_man_40 f_X11_240 sh_61 rfl rfl (fun _ => ?_)
        refine j_iload_n 2 dX11_man_43 rfl ?_
        obtain ⟨o6, h⟩ := h
        refine j_zast dX11_man_44 sh_73 o5.1 o5.2 o6 ?_
        refine j_aload_n 0 dX11_man_45 rfl ?_
        refine j_getc 74 dX11_man_46 f_X11_54 sh_61 rfl ?_
        refine j_aload_n 0 dX11_man_49 rfl ?_
        refine j_geti (i := 25) dX11_man_50 f_X11_240 sh_61 rfl rfl (fun _ => ?_)
        refine j_iload_n 3 dX11_man_53 rfl ?_
        obtain ⟨o7, h⟩ := h
        refine j_zast dX11_man_54 sh_74 o5.1 o5.2 o7 ?_
        refine j_aload_n 0 dX11_man_55 rfl ?_
        refine j_dup dX11_man_56 rfl ?_
        refine j_geti (i := 25) dX11_man_57 f_X11_240 sh_61 rfl rfl (fun _ => ?_)
        refine j_iconst (x := 1) dX11_man_60 rfl (i32_c rfl) ?_
        obtain ⟨o8, h⟩ := h
        refine j_iadd (z := ((M 61 25) + 1)) dX11_man_61 rfl o8 ?_
        refine j_puti (i := 25) dX11_man_62 p_X11_240 (fun h => by cases h) sh_61 rfl rfl ?_
        refine j_aload_n 0 dX11_man_65 rfl ?_
        refine j_geti (i := 25) dX11_man_66 f_X11_240 sh_61 rfl rfl (fun _ => ?_)
        refine j_iconst (x := 1) dX11_man_69 rfl (i32_c rfl) ?_
        obtain ⟨o9, h⟩ := h
        refine j_isub (z := (((M 61 25) + 1) - 1)) dX11_man_70 rfl o9 ?_
        exact j_iret dX11_man_71 rfl ⟨Nat.le_of_ble_eq_true rfl, Nat.le_of_ble_eq_true rfl⟩ (fun _ => h)
      · replace h := h.2 c4
        refine j_sipush (x := (-1004)) dX11_man_21 rfl (i32_c rfl) ?_
        exact j_iret dX11_man_24 rfl ⟨Nat.le_of_ble_eq_true rfl, Nat.le_of_ble_eq_true rfl⟩ (fun _ => h)
theorem E_X11_man {post : Int → ax_M → Prop} {M : ax_M} {x1 x2 x3 : Int} (h : ax_mr SH M → (-2147483648 ≤ ((M 61 0) - 1) ∧ ((M 61 0) - 1) ≤ 2147483647) ∧ (((x1 < 0) → post (-1001) M) ∧ ((0 ≤ x1) → (((((M 61 0) - 1) < x1) → post (-1001) M) ∧ ((x1 ≤ ((M 61 0) - 1)) → (((¬ (M 61 25) = 8) → (0 ≤ (M 61 25) ∧ (M 61 25) < 8) ∧ (x2 = 0 ∨ x2 = 1) ∧ (x3 = 0 ∨ x3 = 1) ∧ (-2147483648 ≤ ((M 61 25) + 1) ∧ ((M 61 25) + 1) ≤ 2147483647) ∧ (-2147483648 ≤ (((M 61 25) + 1) - 1) ∧ (((M 61 25) + 1) - 1) ≤ 2147483647) ∧ post (((M 61 25) + 1) - 1) (ax_up (ax_up (ax_up (ax_up M 72 (M 61 25) x1) 73 (M 61 25) x2) 74 (M 61 25) x3) 61 25 ((M 61 25) + 1))) ∧ (((M 61 25) = 8) → post (-1004) M))))))) : ax_Ti Y_X11_man [aR 61, aI x1, aI x2, aI x3] SH M post :=
  ti_of rfl (Nat.le_of_ble_eq_true rfl) rfl (fun q => B_X11_man_0 (h q))
set_option maxRecDepth 100000 in
set_option maxHeartbeats 4000000 in
theorem B_X11_lamp_0 {post : Int → ax_M → Prop} {M : ax_M} {x1 x2 : Int} (h : (-2147483648 ≤ ((M 61 0) - 1) ∧ ((M 61 0) - 1) ≤ 2147483647) ∧ (((x1 < 0) → post (-1001) M) ∧ ((0 ≤ x1) → (((((M 61 0) - 1) < x1) → post (-1001) M) ∧ ((x1 ≤ ((M 61 0) - 1)) → (((x2 < 0) → post (-1002) M) ∧ ((0 ≤ x2) → (((99 < x2) → post (-1002) M) ∧ ((x2 ≤ 99) → (((¬ (M 61 29) = 4) → (0 ≤ (M 61 29) ∧ (M 61 29) < 4) ∧ (-2147483648 ≤ ((M 61 29) + 1) ∧ ((M 61 29) + 1) ≤ 2147483647) ∧ (-2147483648 ≤ (((M 61 29) + 1) - 1) ∧ (((M 61 29) + 1) - 1) ≤ 2147483647) ∧ post (((M 61 29) + 1) - 1) (ax_up (ax_up (ax_up M 75 (M 61 29) x1) 76 (M 61 29) x2) 61 29 ((M 61 29) + 1))) ∧ (((M 61 29) = 4) → post (-1004) M))))))))))) : ax_J Y_X11_lamp (ax_Ki Y_X11_lamp SH post) 0 0 0 [(0, aR 61), (1, aI x1), (2, aI x2)] [] SH M := by
  refine j_aload_n 0 dX11_lamp_0 rfl ?_
  refine j_iload_n 1 dX11_lamp_1 rfl ?_
  refine j_calliV (Yc := Y_X11_isPlace) (as := [aI x1]) (rest := []) dX11_lamp_2 q_X11_257 ⟨Nat.le_of_ble_eq_true rfl, Nat.le_of_ble_eq_true rfl, Nat.le_of_ble_eq_true rfl, Nat.le_of_ble_eq_true rfl⟩ sh_61 rfl (Nat.le_of_ble_eq_true rfl) rfl (ti_of (ll := [(0, aR 61), (1, aI x1)]) rfl (Nat.le_of_ble_eq_true rfl) rfl (fun _ => ?_))
  refine j_iload_n 1 dX11_isPlace_0 rfl ?_
  refine j_i2l dX11_isPlace_1 ?_
  refine j_lconst (x := 0) dX11_isPlace_2 rfl (i64_c rfl) ?_
  refine j_aload_n 0 dX11_isPlace_3 rfl ?_
  refine j_geti (i := 0) dX11_isPlace_4 f_X11_133 sh_61 rfl rfl (fun _ => ?_)
  refine j_iconst (x := 1) dX11_isPlace_7 rfl (i32_c rfl) ?_
  obtain ⟨o1, h⟩ := h
  refine j_isub (z := ((M 61 0) - 1)) dX11_isPlace_8 rfl o1 ?_
  refine j_i2l dX11_isPlace_9 ?_
  refine j_calliS (Yc := Y_X11_in) (as := [aL x1, aL 0, aL ((M 61 0) - 1)]) (rest := []) dX11_isPlace_10 q_X11_136 ⟨Nat.le_of_ble_eq_true rfl, Nat.le_of_ble_eq_true rfl, Nat.le_of_ble_eq_true rfl, Nat.le_of_ble_eq_true rfl⟩ rfl (Nat.le_of_ble_eq_true rfl) rfl (ti_of (ll := [(0, aL x1), (2, aL 0), (4, aL ((M 61 0) - 1))]) rfl (Nat.le_of_ble_eq_true rfl) rfl (fun _ => ?_))
  refine j_lload_n 0 dX11_in_0 rfl ?_
  refine j_lload_n 1 dX11_in_1 rfl ?_
  refine j_lcmp_lt (tgt := 17) dX11_in_2 dX11_in_3 (by decide) (fun c2 => ?_) (fun c2 => ?_)
  · replace h := h.1 c2
    refine j_iconst (x := 0) dX11_in_17 rfl (i32_c rfl) ?_
    refine j_zret dX11_in_18 rfl ⟨Nat.le_of_ble_eq_true rfl, Nat.le_of_ble_eq_true rfl⟩ (by decide) ?_
    refine j_zret dX11_isPlace_13 rfl ⟨Nat.le_of_ble_eq_true rfl, Nat.le_of_ble_eq_true rfl⟩ (by decide) ?_
    refine j_if_ne (tgt := 12) dX11_lamp_5 (by decide) (fun c => absurd c (by decide)) (fun _ => ?_)
    refine j_sipush (x := (-1001)) dX11_lamp_8 rfl (i32_c rfl) ?_
    exact j_iret dX11_lamp_11 rfl ⟨Nat.le_of_ble_eq_true rfl, Nat.le_of_ble_eq_true rfl⟩ (fun _ => h)
  · replace h := h.2 c2
    refine j_lload_n 0 dX11_in_6 rfl ?_
    refine j_lload 2 dX11_in_7 rfl ?_
    refine j_lcmp_gt (tgt := 17) dX11_in_9 dX11_in_10 (by decide) (fun c3 => ?_) (fun c3 => ?_)
    · replace h := h.1 c3
      refine j_iconst (x := 0) dX11_in_17 rfl (i32_c rfl) ?_
      refine j_zret dX11_in_18 rfl ⟨Nat.le_of_ble_eq_true rfl, Nat.le_of_ble_eq_true rfl⟩ (by decide) ?_
      refine j_zret dX11_isPlace_13 rfl ⟨Nat.le_of_ble_eq_true rfl, Nat.le_of_ble_eq_true rfl⟩ (by decide) ?_
      refine j_if_ne (tgt := 12) dX11_lamp_5 (by decide) (fun c => absurd c (by decide)) (fun _ => ?_)
      refine j_sipush (x := (-1001)) dX11_lamp_8 rfl (i32_c rfl) ?_
      exact j_iret dX11_lamp_11 rfl ⟨Nat.le_of_ble_eq_true rfl, Nat.le_of_ble_eq_true rfl⟩ (fun _ => h)
    · replace h := h.2 c3
      refine j_iconst (x := 1) dX11_in_13 rfl (i32_c rfl) ?_
      refine j_goto (tgt := 18) dX11_in_14 (by decide) ?_
      refine j_zret dX11_in_18 rfl ⟨Nat.le_of_ble_eq_true rfl, Nat.le_of_ble_eq_true rfl⟩ (by decide) ?_
      refine j_zret dX11_isPlace_13 rfl ⟨Nat.le_of_ble_eq_true rfl, Nat.le_of_ble_eq_true rfl⟩ (by decide) ?_
      refine j_if_ne (tgt := 12) dX11_lamp_5 (by decide) (fun _ => ?_) (fun c => absurd c (by decide))
      refine j_iload_n 2 dX11_lamp_12 rfl ?_
      refine j_calliS (Yc := Y_X11_isMinute) (as := [aI x2]) (rest := []) dX11_lamp_13 q_X11_260 ⟨Nat.le_of_ble_eq_true rfl, Nat.le_of_ble_eq_true rfl, Nat.le_of_ble_eq_true rfl, Nat.le_of_ble_eq_true rfl⟩ rfl (Nat.le_of_ble_eq_true rfl) rfl (ti_of (ll := [(0, aI x2)]) rfl (Nat.le_of_ble_eq_true rfl) rfl (fun _ => ?_))
      refine j_iload_n 0 dX11_isMinute_0 rfl ?_
      refine j_i2l dX11_isMinute_1 ?_
      refine j_lconst (x := 0) dX11_isMinute_2 rfl (i64_c rfl) ?_
      refine j_ldc2 (x := 99) dX11_isMinute_3 (ax_in 1393 (by decide +kernel) rfl) (i64_c rfl) ?_
      refine j_calliS (Yc := Y_X11_in) (as := [aL x2, aL 0, aL 99]) (rest := []) dX11_isMinute_6 q_X11_136 ⟨Nat.le_of_ble_eq_true rfl, Nat.le_of_ble_eq_true rfl, Nat.le_of_ble_eq_true rfl, Nat.le_of_ble_eq_true rfl⟩ rfl (Nat.le_of_ble_eq_true rfl) rfl (ti_of (ll := [(0, aL x2), (2, aL 0), (4, aL 99)]) rfl (Nat.le_of_ble_eq_true rfl) rfl (fun _ => ?_))
      refine j_lload_n 0 dX11_in_0 rfl ?_
      refine j_lload_n 1 dX11_in_1 rfl ?_
      refine j_lcmp_lt (tgt := 17) dX11_in_2 dX11_in_3 (by decide) (fun c4 => ?_) (fun c4 => ?_)
      · replace h := h.1 c4
        refine j_iconst (x := 0) dX11_in_17 rfl (i32_c rfl) ?_
        refine j_zret dX11_in_18 rfl ⟨Nat.le_of_ble_eq_true rfl, Nat.le_of_ble_eq_true rfl⟩ (by decide) ?_
        refine j_zret dX11_isMinute_9 rfl ⟨Nat.le_of_ble_eq_true rfl, Nat.le_of_ble_eq_true rfl⟩ (by decide) ?_
        refine j_if_ne (tgt := 23) dX11_lamp_16 (by decide) (fun c => absurd c (by decide)) (fun _ => ?_)
        refine j_sipush (x := (-1002)) dX11_lamp_19 rfl (i32_c rfl) ?_
        exact j_iret dX11_lamp_22 rfl ⟨Nat.le_of_ble_eq_true rfl, Nat.le_of_ble_eq_true rfl⟩ (fun _ => h)
      · replace h := h.2 c4
        refine j_lload_n 0 dX11_in_6 rfl ?_
        refine j_lload 2 dX11_in_7 rfl ?_
        refine j_lcmp_gt (tgt := 17) dX11_in_9 dX11_in_10 (by decide) (fun c5 => ?_) (fun c5 => ?_)
        · replace h := h.1 c5
          refine j_iconst (x := 0) dX11_in_17 rfl (i32_c rfl) ?_
          refine j_zret dX11_in_18 rfl ⟨Nat.le_of_ble_eq_true rfl, Nat.le_of_ble_eq_true rfl⟩ (by decide) ?_
          refine j_zret dX11_isMinute_9 rfl ⟨Nat.le_of_ble_eq_true rfl, Nat.le_of_ble_eq_true rfl⟩ (by decide) ?_
          refine j_if_ne (tgt := 23) dX11_lamp_16 (by decide) (fun c => absurd c (by decide)) (fun _ => ?_)
          refine j_sipush (x := (-1002)) dX11_lamp_19 rfl (i32_c rfl) ?_
          exact j_iret dX11_lamp_22 rfl ⟨Nat.le_of_ble_eq_true rfl, Nat.le_of_ble_eq_true rfl⟩ (fun _ => h)
        · replace h := h.2 c5
          refine j_iconst (x := 1) dX11_in_13 rfl (i32_c rfl) ?_
          refine j_goto (tgt := 18) dX11_in_14 (by decide) ?_
          refine j_zret dX11_in_18 rfl ⟨Nat.le_of_ble_eq_true rfl, Nat.le_of_ble_eq_true rfl⟩ (by decide) ?_
          refine j_zret dX11_isMinute_9 rfl ⟨Nat.le_of_ble_eq_true rfl, Nat.le_of_ble_eq_true rfl⟩ (by decide) ?_
          refine j_if_ne (tgt := 23) dX11_lamp_16 (by decide) (fun _ => ?_) (fun c => absurd c (by decide))
          refine j_aload_n 0 dX11_lamp_23 rfl ?_
          refine j_geti (i := 29) dX11_lamp_24 f_X11_243 sh_61 rfl rfl (fun _ => ?_)
          refine j_iconst (x := 4) dX11_lamp_27 rfl (i32_c rfl) ?_
          refine j_icmp_ne (tgt := 35) dX11_lamp_28 (by decide) (fun c6 => ?_) (fun c6 => ?_)
          · replace h := h.1 c6
            refine j_aload_n 0 dX11_lamp_35 rfl ?_
            refine j_getc 75 dX11_lamp_36 f_X11_57 sh_61 rfl ?_
            refine j_aload_n 0 dX11_lamp_39 rfl ?_
            refine j_geti (i := 29) dX11_lamp_40 f_X11_243 sh_61 rfl rfl (fun _ => ?_)
            refine j_iload_n 1 dX11_lamp_43 rfl ?_
            obtain ⟨o7, h⟩ := h
            refine j_iast dX11_lamp_44 sh_75 o7.1 o7.2 ?_
            refine j_aload_n 0 dX11_lamp_45 rfl ?_
            refine j_getc 76 dX11_lamp_46 f_X11_60 sh_61 rfl ?_
            refine j_aload_n 0 dX11_lamp_49 rfl ?_
            refine j_geti (i := 29) dX11_lamp_50 f_X11_243 sh_61 rfl rfl (fun _ => ?_)
            refine j_iload_n 2 dX11_lamp_53 rfl ?_
            refine j_iast dX11_lamp_54 sh_76 o7.1 o7.2 ?_
            refine j_aload_n 0 dX11_lamp_55 rfl ?_
            refine j_dup dX11_lamp_56 rfl ?_
            refine j_geti (i := 29) dX11_lamp_57 f_X11_243 sh_61 rfl rfl (fun _ => ?_)
            refine j_iconst (x := 1) dX11_lamp_60 rfl (i32_c rfl) ?_
            obtain ⟨o8, h⟩ := h
            refine j_iadd (z := ((M 61 29) + 1)) dX11_lamp_61 rfl o8 ?_
            refine j_puti (i := 29) dX11_lamp_62 p_X11_243 (fun h => by cases h) sh_61 rfl rfl ?_
            refine j_aload_n 0 dX11_lamp_65 rfl ?_
            refine j_geti (i := 29) dX11_lamp_66 f_X11_243 sh_61 rfl rfl (fun _ => ?_)
            refine j_iconst (x := 1) dX11_lamp_69 rfl (i32_c rfl) ?_
            obtain ⟨o9, h⟩ := h
            refine j_isub (z := (((M 61 29) + 1) - 1)) dX11_lamp_70 rfl o9 ?_
            exact j_iret dX11_lamp_71 rfl ⟨Nat.le_of_ble_eq_true rfl, Nat.le_of_ble_eq_true rfl⟩ (fun _ => h)
          · replace h := h.2 c6
            refine j_sipush (x := (-1004)) dX11_lamp_31 rfl (i32_c rfl) ?_
            exact j_iret dX11_lamp_34 rfl ⟨Nat.le_of_ble_eq_true rfl, Nat.le_of_ble_eq_true rfl⟩ (fun _ => h)
theorem E_X11_lamp {post : Int → ax_M → Prop} {M : ax_M} {x1 x2 : Int} (h : ax_mr SH M → (-2147483648 ≤ ((M 61 0) - 1) ∧ ((M 61 0) - 1) ≤ 2147483647) ∧ (((x1 < 0) → post (-1001) M) ∧ ((0 ≤ x1) → (((((M 61 0) - 1) < x1) → post (-1001) M) ∧ ((x1 ≤ ((M 61 0) - 1)) → (((x2 < 0) → post (-1002) M) ∧ ((0 ≤ x2) → (((99 < x2) → post (-1002) M) ∧ ((x2 ≤ 99) → (((¬ (M 61 29) = 4) → (0 ≤ (M 61 29) ∧ (M 61 29) < 4) ∧ (-2147483648 ≤ ((M 61 29) + 1) ∧ ((M 61 29) + 1) ≤ 2147483647) ∧ (-2147483648 ≤ (((M 61 29) + 1) - 1) ∧ (((M 61 29) + 1) - 1) ≤ 2147483647) ∧ post (((M 61 29) + 1) - 1) (ax_up (ax_up (ax_up M 75 (M 61 29) x1) 76 (M 61 29) x2) 61 29 ((M 61 29) + 1))) ∧ (((M 61 29) = 4) → post (-1004) M))))))))))) : ax_Ti Y_X11_lamp [aR 61, aI x1, aI x2] SH M post :=
  ti_of rfl (Nat.le_of_ble_eq_true rfl) rfl (fun q => B_X11_lamp_0 (h q))
set_option maxRecDepth 100000 in
set_option maxHeartbeats 4000000 in
theorem B_X11_told_0 {post : Int → ax_M → Prop} {M : ax_M} {x1 x2 : Int} (h : (-2147483648 ≤ ((M 61 25) - 1) ∧ ((M 61 25) - 1) ≤ 2147483647) ∧ (((x1 < 0) → post (-1001) M) ∧ ((0 ≤ x1) → (((((M 61 25) - 1) < x1) → post (-1001) M) ∧ ((x1 ≤ ((M 61 25) - 1)) → (((x2 = 0) → (0 ≤ x1 ∧ x1 < 8) ∧ post (M 72 x1) M) ∧ (((x2 = 1) → (0 ≤ x1 ∧ x1 < 8) ∧ ((((M 73 x1) = 0) → post 0 M) ∧ ((¬ (M 73 x1) = 0) → post 1 M))) ∧ (((x2 = 2) → (0 ≤ x1 ∧ x1 < 8) ∧ ((((M 74 x1) = 0) → post 0 M) ∧ ((¬ (M 74 x1) = 0) → post 1 M))) ∧ ((x2 < 0 ∨ 2 < x2) → post (-1002) M))))))))) : ax_J Y_X11_told (ax_Ki Y_X11_told SH post) 0 0 0 [(0, aR 61), (1, aI x1), (2, aI x2)] [] SH M := by
  refine j_aload_n 0 dX11_told_0 rfl ?_
  refine j_iload_n 1 dX11_told_1 rfl ?_
  refine j_calliV (Yc := Y_X11_isMan) (as := [aI x1]) (rest := []) dX11_told_2 q_X11_263 ⟨Nat.le_of_ble_eq_true rfl, Nat.le_of_ble_eq_true rfl, Nat.le_of_ble_eq_true rfl, Nat.le_of_ble_eq_true rfl⟩ sh_61 rfl (Nat.le_of_ble_eq_true rfl) rfl (ti_of (ll := [(0, aR 61), (1, aI x1)]) rfl (Nat.le_of_ble_eq_true rfl) rfl (fun _ => ?_))
  refine j_iload_n 1 dX11_isMan_0 rfl ?_
  refine j_i2l dX11_isMan_1 ?_
  refine j_lconst (x := 0) dX11_isMan_2 rfl (i64_c rfl) ?_
  refine j_aload_n 0 dX11_isMan_3 rfl ?_
  refine j_geti (i := 25) dX11_isMan_4 f_X11_240 sh_61 rfl rfl (fun _ => ?_)
  refine j_iconst (x := 1) dX11_isMan_7 rfl (i32_c rfl) ?_
  obtain ⟨o1, h⟩ := h
  refine j_isub (z := ((M 61 25) - 1)) dX11_isMan_8 rfl o1 ?_
  refine j_i2l dX11_isMan_9 ?_
  refine j_calliS (Yc := Y_X11_in) (as := [aL x1, aL 0, aL ((M 61 25) - 1)]) (rest := []) dX11_isMan_10 q_X11_136 ⟨Nat.le_of_ble_eq_true rfl, Nat.le_of_ble_eq_true rfl, Nat.le_of_ble_eq_true rfl, Nat.le_of_ble_eq_true rfl⟩ rfl (Nat.le_of_ble_eq_true rfl) rfl (ti_of (ll := [(0, aL x1), (2, aL 0), (4, aL ((M 61 25) - 1))]) rfl (Nat.le_of_ble_eq_true rfl) rfl (fun _ => ?_))
  refine j_lload_n 0 dX11_in_0 rfl ?_
  refine j_lload_n 1 dX11_in_1 rfl ?_
  refine j_lcmp_lt (tgt := 17) dX11_in_2 dX11_in_3 (by decide) (fun c2 => ?_) (fun c2 => ?_)
  · replace h := h.1 c2
    refine j_iconst (x := 0) dX11_in_17 rfl (i32_c rfl) ?_
    refine j_zret dX11_in_18 rfl ⟨Nat.le_of_ble_eq_true rfl, Nat.le_of_ble_eq_true rfl⟩ (by decide) ?_
    refine j_zret dX11_isMan_13 rfl ⟨Nat.le_of_ble_eq_true rfl, Nat.le_of_ble_eq_true rfl⟩ (by decide) ?_
    refine j_if_ne (tgt := 12) dX11_told_5 (by decide) (fun c => absurd c (by decide)) (fun _ => ?_)
    refine j_sipush (x := (-1001)) dX11_told_8 rfl (i32_c rfl) ?_
    exact j_iret dX11_told_11 rfl ⟨Nat.le_of_ble_eq_true rfl, Nat.le_of_ble_eq_true rfl⟩ (fun _ => h)
  · replace h := h.2 c2
    refine j_lload_n 0 dX11_in_6 rfl ?_
    refine j_lload 2 dX11_in_7 rfl ?_
    refine j_lcmp_gt (tgt := 17) dX11_in_9 dX11_in_10 (by decide) (fun c3 => ?_) (fun c3 => ?_)
    · replace h := h.1 c3
      refine j_iconst (x := 0) dX11_in_17 rfl (i32_c rfl) ?_
      refine j_zret dX11_in_18 rfl ⟨Nat.le_of_ble_eq_true rfl, Nat.le_of_ble_eq_true rfl⟩ (by decide) ?_
      refine j_zret dX11_isMan_13 rfl ⟨Nat.le_of_ble_eq_true rfl, Nat.le_of_ble_eq_true rfl⟩ (by decide) ?_
      refine j_if_ne (tgt := 12) dX11_told_5 (by decide) (fun c => absurd c (by decide)) (fun _ => ?_)
      refine j_sipush (x := (-1001)) dX11_told_8 rfl (i32_c rfl) ?_
      exact j_iret dX11_told_11 rfl ⟨Nat.le_of_ble_eq_true rfl, Nat.le_of_ble_eq_true rfl⟩ (fun _ => h)
    · replace h := h.2 c3
      refine j_iconst (x := 1) dX11_in_13 rfl (i32_c rfl) ?_
      refine j_goto (tgt := 18) dX11_in_14 (by decide) ?_
      refine j_zret dX11_in_18 rfl ⟨Nat.le_of_ble_eq_true rfl, Nat.le_of_ble_eq_true rfl⟩ (by decide) ?_
      refine j_zret dX11_isMan_13 rfl ⟨Nat.le_of_ble_eq_true rfl, Nat.le_of_ble_eq_true rfl⟩ (by decide) ?_
      refine j_if_ne (tgt := 12) dX11_told_5 (by decide) (fun _ => ?_) (fun c => absurd c (by decide))
      refine j_iload_n 2 dX11_told_12 rfl ?_
      rcases (show (x2 = 0) ∨ (x2 = 1) ∨ (x2 = 2) ∨ (x2 < 0 ∨ 2 < x2) by omega) with c | c | c | c
      · replace h := h.1 c
        refine j_tableC (v := 0) (tgt := 40) c dX11_told_13 (by decide) (by decide) rfl (by decide) ?_
        refine j_aload_n 0 dX11_told_40 rfl ?_
        refine j_getc 72 dX11_told_41 f_X11_48 sh_61 rfl ?_
        refine j_iload_n 1 dX11_told_44 rfl ?_
        obtain ⟨o4, h⟩ := h
        refine j_iald dX11_told_45 sh_72 o4.1 o4.2 (fun _ => ?_)
        exact j_iret dX11_told_46 rfl ⟨Nat.le_of_ble_eq_true rfl, Nat.le_of_ble_eq_true rfl⟩ (fun _ => h)
      · replace h := h.2.1 c
        refine j_tableC (v := 1) (tgt := 47) c dX11_told_13 (by decide) (by decide) rfl (by decide) ?_
        refine j_aload_n 0 dX11_told_47 rfl ?_
        refine j_getc 73 dX11_told_48 f_X11_51 sh_61 rfl ?_
        refine j_iload_n 1 dX11_told_51 rfl ?_
        obtain ⟨o5, h⟩ := h
        refine j_zald dX11_told_52 sh_73 o5.1 o5.2 (fun _ => ?_)
        refine j_if_eq (tgt := 60) dX11_told_53 (by decide) (fun c6 => ?_) (fun c6 => ?_)
        · replace h := h.1 c6
          refine j_iconst (x := 0) dX11_told_60 rfl (i32_c rfl) ?_
          exact j_iret dX11_told_61 rfl ⟨Nat.le_of_ble_eq_true rfl, Nat.le_of_ble_eq_true rfl⟩ (fun _ => h)
        · replace h := h.2 c6
          refine j_iconst (x := 1) dX11_told_56 rfl (i32_c rfl) ?_
          refine j_goto (tgt := 61) dX11_told_57 (by decide) ?_
          exact j_iret dX11_told_61 rfl ⟨Nat.le_of_ble_eq_true rfl, Nat.le_of_ble_eq_true rfl⟩ (fun _ => h)
      · replace h := h.2.2.1 c
        refine j_tableC (v := 2) (tgt := 62) c dX11_told_13 (by decide) (by decide) rfl (by decide) ?_
        refine j_aload_n 0 dX11_told_62 rfl ?_
        refine j_getc 74 dX11_told_63 f_X11_54 sh_61 rfl ?_
        refine j_iload_n 1 dX11_told_66 rfl ?_
        obtain ⟨o7, h⟩ := h
        refine j_zald dX11_told_67 sh_74 o7.1 o7.2 (fun _ => ?_)
        refine j_if_eq (tgt := 75) dX11_told_68 (by decide) (fun c8 => ?_) (fun c8 => ?_)
        · replace h := h.1 c8
          refine j_iconst (x := 0) dX11_told_75 rfl (i32_c rfl) ?_
          exact j_iret dX11_told_76 rfl ⟨Nat.le_of_ble_eq_true rfl, Nat.le_of_ble_eq_true rfl⟩ (fun _ => h)
        · replace h := h.2 c8
          refine j_iconst (x := 1) dX11_told_71 rfl (i32_c rfl) ?_
          refine j_goto (tgt := 76) dX11_told_72 (by decide) ?_
          exact j_iret dX11_told_76 rfl ⟨Nat.le_of_ble_eq_true rfl, Nat.le_of_ble_eq_true rfl⟩ (fun _ => h)
      · replace h := h.2.2.2 c
        refine j_tableOut (tgt := 77) dX11_told_13 c (by decide) ?_
        refine j_sipush (x := (-1002)) dX11_told_77 rfl (i32_c rfl) ?_
        exact j_iret dX11_told_80 rfl ⟨Nat.le_of_ble_eq_true rfl, Nat.le_of_ble_eq_true rfl⟩ (fun _ => h)
theorem E_X11_told {post : Int → ax_M → Prop} {M : ax_M} {x1 x2 : Int} (h : ax_mr SH M → (-2147483648 ≤ ((M 61 25) - 1) ∧ ((M 61 25) - 1) ≤ 2147483647) ∧ (((x1 < 0) → post (-1001) M) ∧ ((0 ≤ x1) → (((((M 61 25) - 1) < x1) → post (-1001) M) ∧ ((x1 ≤ ((M 61 25) - 1)) → (((x2 = 0) → (0 ≤ x1 ∧ x1 < 8) ∧ post (M 72 x1) M) ∧ (((x2 = 1) → (0 ≤ x1 ∧ x1 < 8) ∧ ((((M 73 x1) = 0) → post 0 M) ∧ ((¬ (M 73 x1) = 0) → post 1 M))) ∧ (((x2 = 2) → (0 ≤ x1 ∧ x1 < 8) ∧ ((((M 74 x1) = 0) → post 0 M) ∧ ((¬ (M 74 x1) = 0) → post 1 M))) ∧ ((x2 < 0 ∨ 2 < x2) → post (-1002) M))))))))) : ax_Ti Y_X11_told [aR 61, aI x1, aI x2] SH M post :=
  ti_of rfl (Nat.le_of_ble_eq_true rfl) rfl (fun q => B_X11_told_0 (h q))
set_option maxRecDepth 100000 in
set_option maxHeartbeats 4000000 in
theorem B_X11_light_0 {post : Int → ax_M → Prop} {M : ax_M} {x1 x2 : Int} (h : (-2147483648 ≤ ((M 61 29) - 1) ∧ ((M 61 29) - 1) ≤ 2147483647) ∧ (((x1 < 0) → post (-1001) M) ∧ ((0 ≤ x1) → (((((M 61 29) - 1) < x1) → post (-1001) M) ∧ ((x1 ≤ ((M 61 29) - 1)) → (((¬ x2 = 0) → (((¬ x2 = 1) → post (-1002) M) ∧ ((x2 = 1) → (0 ≤ x1 ∧ x1 < 4) ∧ post (M 76 x1) M))) ∧ ((x2 = 0) → (0 ≤ x1 ∧ x1 < 4) ∧ post (M 75 x1) M))))))) : ax_J Y_X11_light (ax_Ki Y_X11_light SH post) 0 0 0 [(0, aR 61), (1, aI x1), (2, aI x2)] [] SH M := by
  refine j_aload_n 0 dX11_light_0 rfl ?_
  refine j_iload_n 1 dX11_light_1 rfl ?_
  refine j_calliV (Yc := Y_X11_isLamp) (as := [aI x1]) (rest := []) dX11_light_2 q_X11_266 ⟨Nat.le_of_ble_eq_true rfl, Nat.le_of_ble_eq_true rfl, Nat.le_of_ble_eq_true rfl, Nat.le_of_ble_eq_true rfl⟩ sh_61 rfl (Nat.le_of_ble_eq_true rfl) rfl (ti_of (ll := [(0, aR 61), (1, aI x1)]) rfl (Nat.le_of_ble_eq_true rfl) rfl (fun _ => ?_))
  refine j_iload_n 1 dX11_isLamp_0 rfl ?_
  refine j_i2l dX11_isLamp_1 ?_
  refine j_lconst (x := 0) dX11_isLamp_2 rfl (i64_c rfl) ?_
  refine j_aload_n 0 dX11_isLamp_3 rfl ?_
  refine j_geti (i := 29) dX11_isLamp_4 f_X11_243 sh_61 rfl rfl (fun _ => ?_)
  refine j_iconst (x := 1) dX11_isLamp_7 rfl (i32_c rfl) ?_
  obtain ⟨o1, h⟩ := h
  refine j_isub (z := ((M 61 29) - 1)) dX11_isLamp_8 rfl o1 ?_
  refine j_i2l dX11_isLamp_9 ?_
  refine j_calliS (Yc := Y_X11_in) (as := [aL x1, aL 0, aL ((M 61 29) - 1)]) (rest := []) dX11_isLamp_10 q_X11_136 ⟨Nat.le_of_ble_eq_true rfl, Nat.le_of_ble_eq_true rfl, Nat.le_of_ble_eq_true rfl, Nat.le_of_ble_eq_true rfl⟩ rfl (Nat.le_of_ble_eq_true rfl) rfl (ti_of (ll := [(0, aL x1), (2, aL 0), (4, aL ((M 61 29) - 1))]) rfl (Nat.le_of_ble_eq_true rfl) rfl (fun _ => ?_))
  refine j_lload_n 0 dX11_in_0 rfl ?_
  refine j_lload_n 1 dX11_in_1 rfl ?_
  refine j_lcmp_lt (tgt := 17) dX11_in_2 dX11_in_3 (by decide) (fun c2 => ?_) (fun c2 => ?_)
  · replace h := h.1 c2
    refine j_iconst (x := 0) dX11_in_17 rfl (i32_c rfl) ?_
    refine j_zret dX11_in_18 rfl ⟨Nat.le_of_ble_eq_true rfl, Nat.le_of_ble_eq_true rfl⟩ (by decide) ?_
    refine j_zret dX11_isLamp_13 rfl ⟨Nat.le_of_ble_eq_true rfl, Nat.le_of_ble_eq_true rfl⟩ (by decide) ?_
    refine j_if_ne (tgt := 12) dX11_light_5 (by decide) (fun c => absurd c (by decide)) (fun _ => ?_)
    refine j_sipush (x := (-1001)) dX11_light_8 rfl (i32_c rfl) ?_
    exact j_iret dX11_light_11 rfl ⟨Nat.le_of_ble_eq_true rfl, Nat.le_of_ble_eq_true rfl⟩ (fun _ => h)
  · replace h := h.2 c2
    refine j_lload_n 0 dX11_in_6 rfl ?_
    refine j_lload 2 dX11_in_7 rfl ?_
    refine j_lcmp_gt (tgt := 17) dX11_in_9 dX11_in_10 (by decide) (fun c3 => ?_) (fun c3 => ?_)
    · replace h := h.1 c3
      refine j_iconst (x := 0) dX11_in_17 rfl (i32_c rfl) ?_
      refine j_zret dX11_in_18 rfl ⟨Nat.le_of_ble_eq_true rfl, Nat.le_of_ble_eq_true rfl⟩ (by decide) ?_
      refine j_zret dX11_isLamp_13 rfl ⟨Nat.le_of_ble_eq_true rfl, Nat.le_of_ble_eq_true rfl⟩ (by decide) ?_
      refine j_if_ne (tgt := 12) dX11_light_5 (by decide) (fun c => absurd c (by decide)) (fun _ => ?_)
      refine j_sipush (x := (-1001)) dX11_light_8 rfl (i32_c rfl) ?_
      exact j_iret dX11_light_11 rfl ⟨Nat.le_of_ble_eq_true rfl, Nat.le_of_ble_eq_true rfl⟩ (fun _ => h)
    · replace h := h.2 c3
      refine j_iconst (x := 1) dX11_in_13 rfl (i32_c rfl) ?_
      refine j_goto (tgt := 18) dX11_in_14 (by decide) ?_
      refine j_zret dX11_in_18 rfl ⟨Nat.le_of_ble_eq_true rfl, Nat.le_of_ble_eq_true rfl⟩ (by decide) ?_
      refine j_zret dX11_isLamp_13 rfl ⟨Nat.le_of_ble_eq_true rfl, Nat.le_of_ble_eq_true rfl⟩ (by decide) ?_
      refine j_if_ne (tgt := 12) dX11_light_5 (by decide) (fun _ => ?_) (fun c => absurd c (by decide))
      refine j_iload_n 2 dX11_light_12 rfl ?_
      refine j_if_ne (tgt := 25) dX11_light_13 (by decide) (fun c4 => ?_) (fun c4 => ?_)
      · replace h := h.1 c4
        refine j_iload_n 2 dX11_light_25 rfl ?_
        refine j_iconst (x := 1) dX11_light_26 rfl (i32_c rfl) ?_
        refine j_icmp_ne (tgt := 39) dX11_light_27 (by decide) (fun c5 => ?_) (fun c5 => ?_)
        · replace h := h.1 c5
          refine j_sipush (x := (-1002)) dX11_light_39 rfl (i32_c rfl) ?_
          exact j_iret dX11_light_42 rfl ⟨Nat.le_of_ble_eq_true rfl, Nat.le_of_ble_eq_true rfl⟩ (fun _ => h)
        · replace h := h.2 c5
          refine j_aload_n 0 dX11_light_30 rfl ?_
          refine j_getc 76 dX11_light_31 f_X11_60 sh_61 rfl ?_
          refine j_iload_n 1 dX11_light_34 rfl ?_
          obtain ⟨o6, h⟩ := h
          refine j_iald dX11_light_35 sh_76 o6.1 o6.2 (fun _ => ?_)
          refine j_goto (tgt := 42) dX11_light_36 (by decide) ?_
          exact j_iret dX11_light_42 rfl ⟨Nat.le_of_ble_eq_true rfl, Nat.le_of_ble_eq_true rfl⟩ (fun _ => h)
      · replace h := h.2 c4
        refine j_aload_n 0 dX11_light_16 rfl ?_
        refine j_getc 75 dX11_light_17 f_X11_57 sh_61 rfl ?_
        refine j_iload_n 1 dX11_light_20 rfl ?_
        obtain ⟨o7, h⟩ := h
        refine j_iald dX11_light_21 sh_75 o7.1 o7.2 (fun _ => ?_)
        refine j_goto (tgt := 42) dX11_light_22 (by decide) ?_
        exact j_iret dX11_light_42 rfl ⟨Nat.le_of_ble_eq_true rfl, Nat.le_of_ble_eq_true rfl⟩ (fun _ => h)
theorem E_X11_light {post : Int → ax_M → Prop} {M : ax_M} {x1 x2 : Int} (h : ax_mr SH M → (-2147483648 ≤ ((M 61 29) - 1) ∧ ((M 61 29) - 1) ≤ 2147483647) ∧ (((x1 < 0) → post (-1001) M) ∧ ((0 ≤ x1) → (((((M 61 29) - 1) < x1) → post (-1001) M) ∧ ((x1 ≤ ((M 61 29) - 1)) → (((¬ x2 = 0) → (((¬ x2 = 1) → post (-1002) M) ∧ ((x2 = 1) → (0 ≤ x1 ∧ x1 < 4) ∧ post (M 76 x1) M))) ∧ ((x2 = 0) → (0 ≤ x1 ∧ x1 < 4) ∧ post (M 75 x1) M))))))) : ax_Ti Y_X11_light [aR 61, aI x1, aI x2] SH M post :=
  ti_of rfl (Nat.le_of_ble_eq_true rfl) rfl (fun q => B_X11_light_0 (h q))
set_option maxRecDepth 100000 in
set_option maxHeartbeats 4000000 in
theorem B_X11_moves_0 {post : Int → ax_M → Prop} {M : ax_M} {x1 x2 x3 : Int} (h : (-2147483648 ≤ ((M 61 25) - 1) ∧ ((M 61 25) - 1) ≤ 2147483647) ∧ (((x1 < 0) → post (-1001) M) ∧ ((0 ≤ x1) → (((((M 61 25) - 1) < x1) → post (-1001) M) ∧ ((x1 ≤ ((M 61 25) - 1)) → (-2147483648 ≤ ((M 61 0) - 1) ∧ ((M 61 0) - 1) ≤ 2147483647) ∧ (((x2 < 0) → post (-1001) M) ∧ ((0 ≤ x2) → (((((M 61 0) - 1) < x2) → post (-1001) M) ∧ ((x2 ≤ ((M 61 0) - 1)) → (0 ≤ x1 ∧ x1 < 8) ∧ (x3 = 0 ∨ x3 = 1) ∧ post (M 72 x1) (ax_up (ax_up M 72 x1 x2) 73 x1 x3)))))))))) : ax_J Y_X11_moves (ax_Ki Y_X11_moves SH post) 0 0 0 [(0, aR 61), (1, aI x1), (2, aI x2), (3, aI x3)] [] SH M := by
  refine j_aload_n 0 dX11_moves_0 rfl ?_
  refine j_iload_n 1 dX11_moves_1 rfl ?_
  refine j_calliV (Yc := Y_X11_isMan) (as := [aI x1]) (rest := []) dX11_moves_2 q_X11_263 ⟨Nat.le_of_ble_eq_true rfl, Nat.le_of_ble_eq_true rfl, Nat.le_of_ble_eq_true rfl, Nat.le_of_ble_eq_true rfl⟩ sh_61 rfl (Nat.le_of_ble_eq_true rfl) rfl (ti_of (ll := [(0, aR 61), (1, aI x1)]) rfl (Nat.le_of_ble_eq_true rfl) rfl (fun _ => ?_))
  refine j_iload_n 1 dX11_isMan_0 rfl ?_
  refine j_i2l dX11_isMan_1 ?_
  refine j_lconst (x := 0) dX11_isMan_2 rfl (i64_c rfl) ?_
  refine j_aload_n 0 dX11_isMan_3 rfl ?_
  refine j_geti (i := 25) dX11_isMan_4 f_X11_240 sh_61 rfl rfl (fun _ => ?_)
  refine j_iconst (x := 1) dX11_isMan_7 rfl (i32_c rfl) ?_
  obtain ⟨o1, h⟩ := h
  refine j_isub (z := ((M 61 25) - 1)) dX11_isMan_8 rfl o1 ?_
  refine j_i2l dX11_isMan_9 ?_
  refine j_calliS (Yc := Y_X11_in) (as := [aL x1, aL 0, aL ((M 61 25) - 1)]) (rest := []) dX11_isMan_10 q_X11_136 ⟨Nat.le_of_ble_eq_true rfl, Nat.le_of_ble_eq_true rfl, Nat.le_of_ble_eq_true rfl, Nat.le_of_ble_eq_true rfl⟩ rfl (Nat.le_of_ble_eq_true rfl) rfl (ti_of (ll := [(0, aL x1), (2, aL 0), (4, aL ((M 61 25) - 1))]) rfl (Nat.le_of_ble_eq_true rfl) rfl (fun _ => ?_))
  refine j_lload_n 0 dX11_in_0 rfl ?_
  refine j_lload_n 1 dX11_in_1 rfl ?_
  refine j_lcmp_lt (tgt := 17) dX11_in_2 dX11_in_3 (by decide) (fun c2 => ?_) (fun c2 => ?_)
  · replace h := h.1 c2
    refine j_iconst (x := 0) dX11_in_17 rfl (i32_c rfl) ?_
    refine j_zret dX11_in_18 rfl ⟨Nat.le_of_ble_eq_true rfl, Nat.le_of_ble_eq_true rfl⟩ (by decide) ?_
    refine j_zret dX11_isMan_13 rfl ⟨Nat.le_of_ble_eq_true rfl, Nat.le_of_ble_eq_true rfl⟩ (by decide) ?_
    refine j_if_eq (tgt := 16) dX11_moves_5 (by decide) (fun _ => ?_) (fun c => absurd c (by decide))
    refine j_sipush (x := (-1001)) dX11_moves_16 rfl (i32_c rfl) ?_
    exact j_iret dX11_moves_19 rfl ⟨Nat.le_of_ble_eq_true rfl, Nat.le_of_ble_eq_true rfl⟩ (fun _ => h)
  · replace h := h.2 c2
    refine j_lload_n 0 dX11_in_6 rfl ?_
    refine j_lload 2 dX11_in_7 rfl ?_
    refine j_lcmp_gt (tgt := 17) dX11_in_9 dX11_in_10 (by decide) (fun c3 => ?_) (fun c3 => ?_)
    · replace h := h.1 c3
      refine j_iconst (x := 0) dX11_in_17 rfl (i32_c rfl) ?_
      refine j_zret dX11_in_18 rfl ⟨Nat.le_of_ble_eq_true rfl, Nat.le_of_ble_eq_true rfl⟩ (by decide) ?_
      refine j_zret dX11_isMan_13 rfl ⟨Nat.le_of_ble_eq_true rfl, Nat.le_of_ble_eq_true rfl⟩ (by decide) ?_
      refine j_if_eq (tgt := 16) dX11_moves_5 (by decide) (fun _ => ?_) (fun c => absurd c (by decide))
      refine j_sipush (x := (-1001)) dX11_moves_16 rfl (i32_c rfl) ?_
      exact j_iret dX11_moves_19 rfl ⟨Nat.le_of_ble_eq_true rfl, Nat.le_of_ble_eq_true rfl⟩ (fun _ => h)
    · replace h := h.2 c3
      refine j_iconst (x := 1) dX11_in_13 rfl (i32_c rfl) ?_
      refine j_goto (tgt := 18) dX11_in_14 (by decide) ?_
      refine j_zret dX11_in_18 rfl ⟨Nat.le_of_ble_eq_true rfl, Nat.le_of_ble_eq_true rfl⟩ (by decide) ?_
      refine j_zret dX11_isMan_13 rfl ⟨Nat.le_of_ble_eq_true rfl, Nat.le_of_ble_eq_true rfl⟩ (by decide) ?_
      refine j_if_eq (tgt := 16) dX11_moves_5 (by decide) (fun c => absurd c (by decide)) (fun _ => ?_)
      refine j_aload_n 0 dX11_moves_8 rfl ?_
      refine j_iload_n 2 dX11_moves_9 rfl ?_
      refine j_calliV (Yc := Y_X11_isPlace) (as := [aI x2]) (rest := []) dX11_moves_10 q_X11_257 ⟨Nat.le_of_ble_eq_true rfl, Nat.le_of_ble_eq_true rfl, Nat.le_of_ble_eq_true rfl, Nat.le_of_ble_eq_true rfl⟩ sh_61 rfl (Nat.le_of_ble_eq_true rfl) rfl (ti_of (ll := [(0, aR 61), (1, aI x2)]) rfl (Nat.le_of_ble_eq_true rfl) rfl (fun _ => ?_))
      refine j_iload_n 1 dX11_isPlace_0 rfl ?_
      refine j_i2l dX11_isPlace_1 ?_
      refine j_lconst (x := 0) dX11_isPlace_2 rfl (i64_c rfl) ?_
      refine j_aload_n 0 dX11_isPlace_3 rfl ?_
      refine j_geti (i := 0) dX11_isPlace_4 f_X11_133 sh_61 rfl rfl (fun _ => ?_)
      refine j_iconst (x := 1) dX11_isPlace_7 rfl (i32_c rfl) ?_
      obtain ⟨o4, h⟩ := h
      refine j_isub (z := ((M 61 0) - 1)) dX11_isPlace_8 rfl o4 ?_
      refine j_i2l dX11_isPlace_9 ?_
      refine j_calliS (Yc := Y_X11_in) (as := [aL x2, aL 0, aL ((M 61 0) - 1)]) (rest := []) dX11_isPlace_10 q_X11_136 ⟨Nat.le_of_ble_eq_true rfl, Nat.le_of_ble_eq_true rfl, Nat.le_of_ble_eq_true rfl, Nat.le_of_ble_eq_true rfl⟩ rfl (Nat.le_of_ble_eq_true rfl) rfl (ti_of (ll := [(0, aL x2), (2, aL 0), (4, aL ((M 61 0) - 1))]) rfl (Nat.le_of_ble_eq_true rfl) rfl (fun _ => ?_))
      refine j_lload_n 0 dX11_in_0 rfl ?_
      refine j_lload_n 1 dX11_in_1 rfl ?_
      refine j_lcmp_lt (tgt := 17) dX11_in_2 dX11_in_3 (by decide) (fun c5 => ?_) (fun c5 => ?_)
      · replace h := h.1 c5
        refine j_iconst (x := 0) dX11_in_17 rfl (i32_c rfl) ?_
        refine j_zret dX11_in_18 rfl ⟨Nat.le_of_ble_eq_true rfl, Nat.le_of_ble_eq_true rfl⟩ (by decide) ?_
        refine j_zret dX11_isPlace_13 rfl ⟨Nat.le_of_ble_eq_true rfl, Nat.le_of_ble_eq_true rfl⟩ (by decide) ?_
        refine j_if_ne (tgt := 20) dX11_moves_13 (by decide) (fun c => absurd c (by decide)) (fun _ => ?_)
        refine j_sipush (x := (-1001)) dX11_moves_16 rfl (i32_c rfl) ?_
        exact j_iret dX11_moves_19 rfl ⟨Nat.le_of_ble_eq_true rfl, Nat.le_of_ble_eq_true rfl⟩ (fun _ => h)
      · replace h := h.2 c5
        refine j_lload_n 0 dX11_in_6 rfl ?_
        refine j_lload 2 dX11_in_7 rfl ?_
        refine j_lcmp_gt (tgt := 17) dX11_in_9 dX11_in_10 (by decide) (fun c6 => ?_) (fun c6 => ?_)
        · replace h := h.1 c6
          refine j_iconst (x := 0) dX11_in_17 rfl (i32_c rfl) ?_
          refine j_zret dX11_in_18 rfl ⟨Nat.le_of_ble_eq_true rfl, Nat.le_of_ble_eq_true rfl⟩ (by decide) ?_
          refine j_zret dX11_isPlace_13 rfl ⟨Nat.le_of_ble_eq_true rfl, Nat.le_of_ble_eq_true rfl⟩ (by decide) ?_
          refine j_if_ne (tgt := 20) dX11_moves_13 (by decide) (fun c => absurd c (by decide)) (fun _ => ?_)
          refine j_sipush (x := (-1001)) dX11_moves_16 rfl (i32_c rfl) ?_
          exact j_iret dX11_moves_19 rfl ⟨Nat.le_of_ble_eq_true rfl, Nat.le_of_ble_eq_true rfl⟩ (fun _ => h)
        · replace h := h.2 c6
          refine j_iconst (x := 1) dX11_in_13 rfl (i32_c rfl) ?_
          refine j_goto (tgt := 18) dX11_in_14 (by decide) ?_
          refine j_zret dX11_in_18 rfl ⟨Nat.le_of_ble_eq_true rfl, Nat.le_of_ble_eq_true rfl⟩ (by decide) ?_
          refine j_zret dX11_isPlace_13 rfl ⟨Nat.le_of_ble_eq_true rfl, Nat.le_of_ble_eq_true rfl⟩ (by decide) ?_
          refine j_if_ne (tgt := 20) dX11_moves_13 (by decide) (fun _ => ?_) (fun c => absurd c (by decide))
          refine j_aload_n 0 dX11_moves_20 rfl ?_
          refine j_getc 72 dX11_moves_21 f_X11_48 sh_61 rfl ?_
          refine j_iload_n 1 dX11_moves_24 rfl ?_
          obtain ⟨o7, h⟩ := h
          refine j_iald dX11_moves_25 sh_72 o7.1 o7.2 (fun _ => ?_)
          refine j_istore (ll' := [(4, aI (M 72 x1)), (0, aR 61), (1, aI x1), (2, aI x2), (3, aI x3)]) dX11_moves_26 (Nat.le_of_ble_eq_true rfl) rfl ?_
          refine j_aload_n 1 dX11_moves_28 rfl ?_
          refine j_getc 72 dX11_moves_29 f_X11_48 sh_61 rfl ?_
          refine j_iload_n 2 dX11_moves_32 rfl ?_
          refine j_iload_n 3 dX11_moves_33 rfl ?_
          refine j_iast dX11_moves_34 sh_72 o7.1 o7.2 ?_
          refine j_aload_n 1 dX11_moves_35 rfl ?_
          refine j_getc 73 dX11_moves_36 f_X11_51 sh_61 rfl ?_
          refine j_iload_n 2 dX11_moves_39 rfl ?_
          refine j_iload_n 4 dX11_moves_40 rfl ?_
          obtain ⟨o8, h⟩ := h
          refine j_zast dX11_moves_41 sh_73 o7.1 o7.2 o8 ?_
          refine j_iload 0 dX11_moves_42 rfl ?_
          exact j_iret dX11_moves_44 rfl ⟨Nat.le_of_ble_eq_true rfl, Nat.le_of_ble_eq_true rfl⟩ (fun _ => h)
theorem E_X11_moves {post : Int → ax_M → Prop} {M : ax_M} {x1 x2 x3 : Int} (h : ax_mr SH M → (-2147483648 ≤ ((M 61 25) - 1) ∧ ((M 61 25) - 1) ≤ 2147483647) ∧ (((x1 < 0) → post (-1001) M) ∧ ((0 ≤ x1) → (((((M 61 25) - 1) < x1) → post (-1001) M) ∧ ((x1 ≤ ((M 61 25) - 1)) → (-2147483648 ≤ ((M 61 0) - 1) ∧ ((M 61 0) - 1) ≤ 2147483647) ∧ (((x2 < 0) → post (-1001) M) ∧ ((0 ≤ x2) → (((((M 61 0) - 1) < x2) → post (-1001) M) ∧ ((x2 ≤ ((M 61 0) - 1)) → (0 ≤ x1 ∧ x1 < 8) ∧ (x3 = 0 ∨ x3 = 1) ∧ post (M 72 x1) (ax_up (ax_up M 72 x1 x2) 73 x1 x3)))))))))) : ax_Ti Y_X11_moves [aR 61, aI x1, aI x2, aI x3] SH M post :=
  ti_of rfl (Nat.le_of_ble_eq_true rfl) rfl (fun q => B_X11_moves_0 (h q))
set_option maxRecDepth 100000 in
set_option maxHeartbeats 4000000 in
theorem B_X11_count_0 {post : Int → ax_M → Prop} {M : ax_M} {x1 : Int} (h : ax_J Y_X11_count (ax_Ki Y_X11_count SH post) 0 0 4 [(0, aR 61), (1, aI x1), (2, aI 0), (3, aI 0)] [] SH M) : ax_J Y_X11_count (ax_Ki Y_X11_count SH post) 0 0 0 [(0, aR 61), (1, aI x1)] [] SH M := by
  refine j_iconst (x := 0) dX11_count_0 rfl (i32_c rfl) ?_
  refine j_istore_n (ll' := [(2, aI 0), (0, aR 61), (1, aI x1)]) dX11_count_1 (Nat.le_of_ble_eq_true rfl) rfl ?_
  refine j_iconst (x := 0) dX11_count_2 rfl (i32_c rfl) ?_
  refine j_istore_n (ll' := [(3, aI 0), (2, aI 0), (0, aR 61), (1, aI x1)]) dX11_count_3 (Nat.le_of_ble_eq_true rfl) rfl ?_
  refine j_sub [2, 3, 1, 0] rfl ?_
  exact h
theorem E_X11_count {post : Int → ax_M → Prop} {M : ax_M} {x1 : Int} (h : ax_mr SH M → ax_J Y_X11_count (ax_Ki Y_X11_count SH post) 0 0 4 [(0, aR 61), (1, aI x1), (2, aI 0), (3, aI 0)] [] SH M) : ax_Ti Y_X11_count [aR 61, aI x1] SH M post :=
  ti_of rfl (Nat.le_of_ble_eq_true rfl) rfl (fun q => B_X11_count_0 (h q))
set_option maxRecDepth 100000 in
set_option maxHeartbeats 4000000 in
theorem B_X11_count_4 {post : Int → ax_M → Prop} {M : ax_M} {x1 x2 x3 : Int} (h : ((((M 61 25) ≤ x3) → (((x1 = 0) → post (M 61 0) M) ∧ (((x1 = 1) → post (M 61 3) M) ∧ (((x1 = 2) → post (M 61 25) M) ∧ (((x1 = 3) → post (M 61 29) M) ∧ (((x1 = 4) → post (M 61 50) M) ∧ (((x1 = 5) → post (M 61 13) M) ∧ (((x1 = 6) → post (M 61 1) M) ∧ (((x1 = 7) → post (M 61 2) M) ∧ (((x1 = 8) → post x2 M) ∧ ((x1 < 0 ∨ 8 < x1) → post (-1002) M))))))))))) ∧ ((x3 < (M 61 25)) → (0 ≤ x3 ∧ x3 < 8) ∧ ((((M 73 x3) = 0) → (-2147483648 ≤ (x2 + 0) ∧ (x2 + 0) ≤ 2147483647) ∧ (-2147483648 ≤ (x3 + 1) ∧ (x3 + 1) ≤ 2147483647) ∧ ax_J Y_X11_count (ax_Ki Y_X11_count SH post) 0 0 4 [(0, aR 61), (1, aI x1), (2, aI (x2 + 0)), (3, aI (x3 + 1))] [] SH M) ∧ ((¬ (M 73 x3) = 0) → (-2147483648 ≤ (x2 + 1) ∧ (x2 + 1) ≤ 2147483647) ∧ (-2147483648 ≤ (x3 + 1) ∧ (x3 + 1) ≤ 2147483647) ∧ ax_J Y_X11_count (ax_Ki Y_X11_count SH post) 0 0 4 [(0, aR 61), (1, aI x1), (2, aI (x2 + 1)), (3, aI (x3 + 1))] [] SH M))))) : ax_J Y_X11_count (ax_Ki Y_X11_count SH post) 0 0 4 [(0, aR 61), (1, aI x1), (2, aI x2), (3, aI x3)] [] SH M := by
  refine j_iload_n 3 dX11_count_4 rfl ?_
  refine j_aload_n 0 dX11_count_5 rfl ?_
  refine j_geti (i := 25) dX11_count_6 f_X11_240 sh_61 rfl rfl (fun _ => ?_)
  refine j_icmp_ge (tgt := 35) dX11_count_9 (by decide) (fun c1 => ?_) (fun c1 => ?_)
  · replace h := h.1 c1
    refine j_iload_n 1 dX11_count_35 rfl ?_
    rcases (show (x1 = 0) ∨ (x1 = 1) ∨ (x1 = 2) ∨ (x1 = 3) ∨ (x1 = 4) ∨ (x1 = 5) ∨ (x1 = 6) ∨ (x1 = 7) ∨ (x1 = 8) ∨ (x1 < 0 ∨ 8 < x1) by omega) with c | c | c | c | c | c | c | c | c | c
    · replace h := h.1 c
      refine j_tableC (v := 0) (tgt := 88) c dX11_count_36 (by decide) (by decide) rfl (by decide) ?_
      refine j_aload_n 0 dX11_count_88 rfl ?_
      refine j_geti (i := 0) dX11_count_89 f_X11_133 sh_61 rfl rfl (fun _ => ?_)
      exact j_iret dX11_count_92 rfl ⟨Nat.le_of_ble_eq_true rfl, Nat.le_of_ble_eq_true rfl⟩ (fun _ => h)
    · replace h := h.2.1 c
      refine j_tableC (v := 1) (tgt := 93) c dX11_count_36 (by decide) (by decide) rfl (by decide) ?_
      refine j_aload_n 0 dX11_count_93 rfl ?_
      refine j_geti (i := 3) dX11_count_94 f_X11_140 sh_61 rfl rfl (fun _ => ?_)
      exact j_iret dX11_count_97 rfl ⟨Nat.le_of_ble_eq_true rfl, Nat.le_of_ble_eq_true rfl⟩ (fun _ => h)
    · replace h := h.2.2.1 c
      refine j_tableC (v := 2) (tgt := 98) c dX11_count_36 (by decide) (by decide) rfl (by decide) ?_
      refine j_aload_n 0 dX11_count_98 rfl ?_
      refine j_geti (i := 25) dX11_count_99 f_X11_240 sh_61 rfl rfl (fun _ => ?_)
      exact j_iret dX11_count_102 rfl ⟨Nat.le_of_ble_eq_true rfl, Nat.le_of_ble_eq_true rfl⟩ (fun _ => h)
    · replace h := h.2.2.2.1 c
      refine j_tableC (v := 3) (tgt := 103) c dX11_count_36 (by decide) (by decide) rfl (by decide) ?_
      refine j_aload_n 0 dX11_count_103 rfl ?_
      refine j_geti (i := 29) dX11_count_104 f_X11_243 sh_61 rfl rfl (fun _ => ?_)
      exact j_iret dX11_count_107 rfl ⟨Nat.le_of_ble_eq_true rfl, Nat.le_of_ble_eq_true rfl⟩ (fun _ => h)
    · replace h := h.2.2.2.2.1 c
      refine j_tableC (v := 4) (tgt := 108) c dX11_count_36 (by decide) (by decide) rfl (by decide) ?_
      refine j_aload_n 0 dX11_count_108 rfl ?_
      refine j_geti (i := 50) dX11_count_109 f_X11_246 sh_61 rfl rfl (fun _ => ?_)
      exact j_iret dX11_count_112 rfl ⟨Nat.le_of_ble_eq_true rfl, Nat.le_of_ble_eq_true rfl⟩ (fun _ => h)
    · replace h := h.2.2.2.2.2.1 c
      refine j_tableC (v := 5) (tgt := 113) c dX11_count_36 (by decide) (by decide) rfl (by decide) ?_
      refine j_aload_n 0 dX11_count_113 rfl ?_
      refine j_geti (i := 13) dX11_count_114 f_X11_145 sh_61 rfl rfl (fun _ => ?_)
      exact j_iret dX11_count_117 rfl ⟨Nat.le_of_ble_eq_true rfl, Nat.le_of_ble_eq_true rfl⟩ (fun _ => h)
    · replace h := h.2.2.2.2.2.2.1 c
      refine j_tableC (v := 6) (tgt := 118) c dX11_count_36 (by decide) (by decide) rfl (by decide) ?_
      refine j_aload_n 0 dX11_count_118 rfl ?_
      refine j_geti (i := 1) dX11_count_119 f_X11_9 sh_61 rfl rfl (fun _ => ?_)
      exact j_iret dX11_count_122 rfl ⟨Nat.le_of_ble_eq_true rfl, Nat.le_of_ble_eq_true rfl⟩ (fun _ => h)
    · replace h := h.2.2.2.2.2.2.2.1 c
      refine j_tableC (v := 7) (tgt := 123) c dX11_count_36 (by decide) (by decide) rfl (by decide) ?_
      refine j_aload_n 0 dX11_count_123 rfl ?_
      refine j_geti (i := 2) dX11_count_124 f_X11_237 sh_61 rfl rfl (fun _ => ?_)
      exact j_iret dX11_count_127 rfl ⟨Nat.le_of_ble_eq_true rfl, Nat.le_of_ble_eq_true rfl⟩ (fun _ => h)
    · replace h := h.2.2.2.2.2.2.2.2.1 c
      refine j_tableC (v := 8) (tgt := 128) c dX11_count_36 (by decide) (by decide) rfl (by decide) ?_
      refine j_iload_n 2 dX11_count_128 rfl ?_
      exact j_iret dX11_count_129 rfl ⟨Nat.le_of_ble_eq_true rfl, Nat.le_of_ble_eq_true rfl⟩ (fun _ => h)
    · replace h := h.2.2.2.2.2.2.2.2.2 c
      refine j_tableOut (tgt := 130) dX11_count_36 c (by decide) ?_
      refine j_sipush (x := (-1002)) dX11_count_130 rfl (i32_c rfl) ?_
      exact j_iret dX11_count_133 rfl ⟨Nat.le_of_ble_eq_true rfl, Nat.le_of_ble_eq_true rfl⟩ (fun _ => h)
  · replace h := h.2 c1
    refine j_iload_n 2 dX11_count_12 rfl ?_
    refine j_aload_n 0 dX11_count_13 rfl ?_
    refine j_getc 73 dX11_count_14 f_X11_51 sh_61 rfl ?_
    refine j_iload_n 3 dX11_count_17 rfl ?_
    obtain ⟨o2, h⟩ := h
    refine j_zald dX11_count_18 sh_73 o2.1 o2.2 (fun _ => ?_)
    refine j_if_eq (tgt := 26) dX11_count_19 (by decide) (fun c3 => ?_) (fun c3 => ?_)
    · replace h := h.1 c3
      refine j_iconst (x := 0) dX11_count_26 rfl (i32_c rfl) ?_
      obtain ⟨o4, h⟩ := h
      refine j_iadd (z := (x2 + 0)) dX11_count_27 rfl o4 ?_
      refine j_istore_n (ll' := [(2, aI (x2 + 0)), (0, aR 61), (1, aI x1), (3, aI x3)]) dX11_count_28 (Nat.le_of_ble_eq_true rfl) rfl ?_
      obtain ⟨o5, h⟩ := h
      refine j_iinc (ll' := [(3, aI (x3 + 1)), (2, aI (x2 + 0)), (0, aR 61), (1, aI x1)]) 3 dX11_count_29 rfl (Nat.le_of_ble_eq_true rfl) o5 rfl ?_
      refine j_goto (tgt := 4) dX11_count_32 (by decide) ?_
      refine j_sub [2, 3, 1, 0] rfl ?_
      exact h
    · replace h := h.2 c3
      refine j_iconst (x := 1) dX11_count_22 rfl (i32_c rfl) ?_
      refine j_goto (tgt := 27) dX11_count_23 (by decide) ?_
      obtain ⟨o6, h⟩ := h
      refine j_iadd (z := (x2 + 1)) dX11_count_27 rfl o6 ?_
      refine j_istore_n (ll' := [(2, aI (x2 + 1)), (0, aR 61), (1, aI x1), (3, aI x3)]) dX11_count_28 (Nat.le_of_ble_eq_true rfl) rfl ?_
      obtain ⟨o7, h⟩ := h
      refine j_iinc (ll' := [(3, aI (x3 + 1)), (2, aI (x2 + 1)), (0, aR 61), (1, aI x1)]) 3 dX11_count_29 rfl (Nat.le_of_ble_eq_true rfl) o7 rfl ?_
      refine j_goto (tgt := 4) dX11_count_32 (by decide) ?_
      refine j_sub [2, 3, 1, 0] rfl ?_
      exact h
set_option maxRecDepth 100000 in
set_option maxHeartbeats 4000000 in
theorem B_X11_soonest_0 {post : Int → ax_M → Prop} {M : ax_M} {x1 x2 x3 x4 x5 : Int} (h : (-2147483648 ≤ ((M 61 0) - 1) ∧ ((M 61 0) - 1) ≤ 2147483647) ∧ (((x1 < 0) → post (-1001) M) ∧ ((0 ≤ x1) → (((((M 61 0) - 1) < x1) → post (-1001) M) ∧ ((x1 ≤ ((M 61 0) - 1)) → (((x2 < 0) → post (-1001) M) ∧ ((0 ≤ x2) → (((((M 61 0) - 1) < x2) → post (-1001) M) ∧ ((x2 ≤ ((M 61 0) - 1)) → (((x3 < 0) → post (-1002) M) ∧ ((0 ≤ x3) → (((99 < x3) → post (-1002) M) ∧ ((x3 ≤ 99) → (((x4 < (-1)) → post (-1002) M) ∧ (((-1) ≤ x4) → (((99 < x4) → post (-1002) M) ∧ ((x4 ≤ 99) → ax_Ti Y_X11_comes [aR 61, aI x1, aI x2, aI x3, aI x4, aI x5] SH M (fun z2 u1 => post z2 u1)))))))))))))))))) : ax_J Y_X11_soonest (ax_Ki Y_X11_soonest SH post) 0 0 0 [(0, aR 61), (1, aI x1), (2, aI x2), (3, aI x3), (4, aI x4), (5, aI x5)] [] SH M := by
  refine j_aload_n 0 dX11_soonest_0 rfl ?_
  refine j_iload_n 1 dX11_soonest_1 rfl ?_
  refine j_calliV (Yc := Y_X11_isPlace) (as := [aI x1]) (rest := []) dX11_soonest_2 q_X11_257 ⟨Nat.le_of_ble_eq_true rfl, Nat.le_of_ble_eq_true rfl, Nat.le_of_ble_eq_true rfl, Nat.le_of_ble_eq_true rfl⟩ sh_61 rfl (Nat.le_of_ble_eq_true rfl) rfl (ti_of (ll := [(0, aR 61), (1, aI x1)]) rfl (Nat.le_of_ble_eq_true rfl) rfl (fun _ => ?_))
  refine j_iload_n 1 dX11_isPlace_0 rfl ?_
  refine j_i2l dX11_isPlace_1 ?_
  refine j_lconst (x := 0) dX11_isPlace_2 rfl (i64_c rfl) ?_
  refine j_aload_n 0 dX11_isPlace_3 rfl ?_
  refine j_geti (i := 0) dX11_isPlace_4 f_X11_133 sh_61 rfl rfl (fun _ => ?_)
  refine j_iconst (x := 1) dX11_isPlace_7 rfl (i32_c rfl) ?_
  obtain ⟨o1, h⟩ := h
  refine j_isub (z := ((M 61 0) - 1)) dX11_isPlace_8 rfl o1 ?_
  refine j_i2l dX11_isPlace_9 ?_
  refine j_calliS (Yc := Y_X11_in) (as := [aL x1, aL 0, aL ((M 61 0) - 1)]) (rest := []) dX11_isPlace_10 q_X11_136 ⟨Nat.le_of_ble_eq_true rfl, Nat.le_of_ble_eq_true rfl, Nat.le_of_ble_eq_true rfl, Nat.le_of_ble_eq_true rfl⟩ rfl (Nat.le_of_ble_eq_true rfl) rfl (ti_of (ll := [(0, aL x1), (2, aL 0), (4, aL ((M 61 0) - 1))]) rfl (Nat.le_of_ble_eq_true rfl) rfl (fun _ => ?_))
  refine j_lload_n 0 dX11_in_0 rfl ?_
  refine j_lload_n 1 dX11_in_1 rfl ?_
  refine j_lcmp_lt (tgt := 17) dX11_in_2 dX11_in_3 (by decide) (fun c2 => ?_) (fun c2 => ?_)
  · replace h := h.1 c2
    refine j_iconst (x := 0) dX11_in_17 rfl (i32_c rfl) ?_
    refine j_zret dX11_in_18 rfl ⟨Nat.le_of_ble_eq_true rfl, Nat.le_of_ble_eq_true rfl⟩ (by decide) ?_
    refine j_zret dX11_isPlace_13 rfl ⟨Nat.le_of_ble_eq_true rfl, Nat.le_of_ble_eq_true rfl⟩ (by decide) ?_
    refine j_if_eq (tgt := 16) dX11_soonest_5 (by decide) (fun _ => ?_) (fun c => absurd c (by decide))
    refine j_sipush (x := (-1001)) dX11_soonest_16 rfl (i32_c rfl) ?_
    exact j_iret dX11_soonest_19 rfl ⟨Nat.le_of_ble_eq_true rfl, Nat.le_of_ble_eq_true rfl⟩ (fun _ => h)
  · replace h := h.2 c2
    refine j_lload_n 0 dX11_in_6 rfl ?_
    refine j_lload 2 dX11_in_7 rfl ?_
    refine j_lcmp_gt (tgt := 17) dX11_in_9 dX11_in_10 (by decide) (fun c3 => ?_) (fun c3 => ?_)
    · replace h := h.1 c3
      refine j_iconst (x := 0) dX11_in_17 rfl (i32_c rfl) ?_
      refine j_zret dX11_in_18 rfl ⟨Nat.le_of_ble_eq_true rfl, Nat.le_of_ble_eq_true rfl⟩ (by decide) ?_
      refine j_zret dX11_isPlace_13 rfl ⟨Nat.le_of_ble_eq_true rfl, Nat.le_of_ble_eq_true rfl⟩ (by decide) ?_
      refine j_if_eq (tgt := 16) dX11_soonest_5 (by decide) (fun _ => ?_) (fun c => absurd c (by decide))
      refine j_sipush (x := (-1001)) dX11_soonest_16 rfl (i32_c rfl) ?_
      exact j_iret dX11_soonest_19 rfl ⟨Nat.le_of_ble_eq_true rfl, Nat.le_of_ble_eq_true rfl⟩ (fun _ => h)
    · replace h := h.2 c3
      refine j_iconst (x := 1) dX11_in_13 rfl (i32_c rfl) ?_
      refine j_goto (tgt := 18) dX11_in_14 (by decide) ?_
      refine j_zret dX11_in_18 rfl ⟨Nat.le_of_ble_eq_true rfl, Nat.le_of_ble_eq_true rfl⟩ (by decide) ?_
      refine j_zret dX11_isPlace_13 rfl ⟨Nat.le_of_ble_eq_true rfl, Nat.le_of_ble_eq_true rfl⟩ (by decide) ?_
      refine j_if_eq (tgt := 16) dX11_soonest_5 (by decide) (fun c => absurd c (by decide)) (fun _ => ?_)
      refine j_aload_n 0 dX11_soonest_8 rfl ?_
      refine j_iload_n 2 dX11_soonest_9 rfl ?_
      refine j_calliV (Yc := Y_X11_isPlace) (as := [aI x2]) (rest := []) dX11_soonest_10 q_X11_257 ⟨Nat.le_of_ble_eq_true rfl, Nat.le_of_ble_eq_true rfl, Nat.le_of_ble_eq_true rfl, Nat.le_of_ble_eq_true rfl⟩ sh_61 rfl (Nat.le_of_ble_eq_true rfl) rfl (ti_of (ll := [(0, aR 61), (1, aI x2)]) rfl (Nat.le_of_ble_eq_true rfl) rfl (fun _ => ?_))
      refine j_iload_n 1 dX11_isPlace_0 rfl ?_
      refine j_i2l dX11_isPlace_1 ?_
      refine j_lconst (x := 0) dX11_isPlace_2 rfl (i64_c rfl) ?_
      refine j_aload_n 0 dX11_isPlace_3 rfl ?_
      refine j_geti (i := 0) dX11_isPlace_4 f_X11_133 sh_61 rfl rfl (fun _ => ?_)
      refine j_iconst (x := 1) dX11_isPlace_7 rfl (i32_c rfl) ?_
      refine j_isub (z := ((M 61 0) - 1)) dX11_isPlace_8 rfl o1 ?_
      refine j_i2l dX11_isPlace_9 ?_
      refine j_calliS (Yc := Y_X11_in) (as := [aL x2, aL 0, aL ((M 61 0) - 1)]) (rest := []) dX11_isPlace_10 q_X11_136 ⟨Nat.le_of_ble_eq_true rfl, Nat.le_of_ble_eq_true rfl, Nat.le_of_ble_eq_true rfl, Nat.le_of_ble_eq_true rfl⟩ rfl (Nat.le_of_ble_eq_true rfl) rfl (ti_of (ll := [(0, aL x2), (2, aL 0), (4, aL ((M 61 0) - 1))]) rfl (Nat.le_of_ble_eq_true rfl) rfl (fun _ => ?_))
      refine j_lload_n 0 dX11_in_0 rfl ?_
      refine j_lload_n 1 dX11_in_1 rfl ?_
      refine j_lcmp_lt (tgt := 17) dX11_in_2 dX11_in_3 (by decide) (fun c4 => ?_) (fun c4 => ?_)
      · replace h := h.1 c4
        refine j_iconst (x := 0) dX11_in_17 rfl (i32_c rfl) ?_
        refine j_zret dX11_in_18 rfl ⟨Nat.le_of_ble_eq_true rfl, Nat.le_of_ble_eq_true rfl⟩ (by decide) ?_
        refine j_zret dX11_isPlace_13 rfl ⟨Nat.le_of_ble_eq_true rfl, Nat.le_of_ble_eq_true rfl⟩ (by decide) ?_
        refine j_if_ne (tgt := 20) dX11_soonest_13 (by decide) (fun c => absurd c (by decide)) (fun _ => ?_)
        refine j_sipush (x := (-1001)) dX11_soonest_16 rfl (i32_c rfl) ?_
        exact j_iret dX11_soonest_19 rfl ⟨Nat.le_of_ble_eq_true rfl, Nat.le_of_ble_eq_true rfl⟩ (fun _ => h)
      · replace h := h.2 c4
        refine j_lload_n 0 dX11_in_6 rfl ?_
        refine j_lload 2 dX11_in_7 rfl ?_
        refine j_lcmp_gt (tgt := 17) dX11_in_9 dX11_in_10 (by decide) (fun c5 => ?_) (fun c5 => ?_)
        · replace h := h.1 c5
          refine j_iconst (x := 0) dX11_in_17 rfl (i32_c rfl) ?_
          refine j_zret dX11_in_18 rfl ⟨Nat.le_of_ble_eq_true rfl, Nat.le_of_ble_eq_true rfl⟩ (by decide) ?_
          refine j_zret dX11_isPlace_13 rfl ⟨Nat.le_of_ble_eq_true rfl, Nat.le_of_ble_eq_true rfl⟩ (by decide) ?_
          refine j_if_ne (tgt := 20) dX11_soonest_13 (by decide) (fun c => absurd c (by decide)) (fun _ => ?_)
          refine j_sipush (x := (-1001)) dX11_soonest_16 rfl (i32_c rfl) ?_
          exact j_iret dX11_soonest_19 rfl ⟨Nat.le_of_ble_eq_true rfl, Nat.le_of_ble_eq_true rfl⟩ (fun _ => h)
        · replace h := h.2 c5
          refine j_iconst (x := 1) dX11_in_13 rfl (i32_c rfl) ?_
          refine j_goto (tgt := 18) dX11_in_14 (by decide) ?_
          refine j_zret dX11_in_18 rfl ⟨Nat.le_of_ble_eq_true rfl, Nat.le_of_ble_eq_true rfl⟩ (by decide) ?_
          refine j_zret dX11_isPlace_13 rfl ⟨Nat.le_of_ble_eq_true rfl, Nat.le_of_ble_eq_true rfl⟩ (by decide) ?_
          refine j_if_ne (tgt := 20) dX11_soonest_13 (by decide) (fun _ => ?_) (fun c => absurd c (by decide))
          refine j_iload_n 3 dX11_soonest_20 rfl ?_
          refine j_calliS (Yc := Y_X11_isMinute) (as := [aI x3]) (rest := []) dX11_soonest_21 q_X11_260 ⟨Nat.le_of_ble_eq_true rfl, Nat.le_of_ble_eq_true rfl, Nat.le_of_ble_eq_true rfl, Nat.le_of_ble_eq_true rfl⟩ rfl (Nat.le_of_ble_eq_true rfl) rfl (ti_of (ll := [(0, aI x3)]) rfl (Nat.le_of_ble_eq_true rfl) rfl (fun _ => ?_))
          refine j_iload_n 0 dX11_isMinute_0 rfl ?_
          refine j_i2l dX11_isMinute_1 ?_
          refine j_lconst (x := 0) dX11_isMinute_2 rfl (i64_c rfl) ?_
          refine j_ldc2 (x := 99) dX11_isMinute_3 (ax_in 1393 (by decide +kernel) rfl) (i64_c rfl) ?_
          refine j_calliS (Yc := Y_X11_in) (as := [aL x3, aL 0, aL 99]) (rest := []) dX11_isMinute_6 q_X11_136 ⟨Nat.le_of_ble_eq_true rfl, Nat.le_of_ble_eq_true rfl, Nat.le_of_ble_eq_true rfl, Nat.le_of_ble_eq_true rfl⟩ rfl (Nat.le_of_ble_eq_true rfl) rfl (ti_of (ll := [(0, aL x3), (2, aL 0), (4, aL 99)]) rfl (Nat.le_of_ble_eq_true rfl) rfl (fun _ => ?_))
          refine j_lload_n 0 dX11_in_0 rfl ?_
          refine j_lload_n 1 dX11_in_1 rfl ?_
          refine j_lcmp_lt (tgt := 17) dX11_in_2 dX11_in_3 (by decide) (fun c6 => ?_) (fun c6 => ?_)
          · replace h := h.1 c6
            refine j_iconst (x := 0) dX11_in_17 rfl (i32_c rfl) ?_
            refine j_zret dX11_in_18 rfl ⟨Nat.le_of_ble_eq_true rfl, Nat.le_of_ble_eq_true rfl⟩ (by decide) ?_
            refine j_zret dX11_isMinute_9 rfl ⟨Nat.le_of_ble_eq_true rfl, Nat.le_of_ble_eq_true rfl⟩ (by decide) ?_
            refine j_if_eq (tgt := 49) dX11_soonest_24 (by decide) (fun _ => ?_) (fun c => absurd c (by decide))
            refine j_sipush (x := (-1002)) dX11_soonest_49 rfl (i32_c rfl) ?_
            exact j_iret dX11_soonest_52 rfl ⟨Nat.le_of_ble_eq_true rfl, Nat.le_of_ble_eq_true rfl⟩ (fun _ => h)
          · replace h := h.2 c6
            refine j_lload_n 0 dX11_in_6 rfl ?_
            refine j_lload 2 dX11_in_7 rfl ?_
            refine j_lcmp_gt (tgt := 17) dX11_in_9 dX11_in_10 (by decide) (fun c7 => ?_) (fun c7 => ?_)
            · replace h := h.1 c7
              refine j_iconst (x := 0) dX11_in_17 rfl (i32_c rfl) ?_
              refine j_zret dX11_in_18 rfl ⟨Nat.le_of_ble_eq_true rfl, Nat.le_of_ble_eq_true rfl⟩ (by decide) ?_
              refine j_zret dX11_isMinute_9 rfl ⟨Nat.le_of_ble_eq_true rfl, Nat.le_of_ble_eq_true rfl⟩ (by decide) ?_
              refine j_if_eq (tgt := 49) dX11_soonest_24 (by decide) (fun _ => ?_) (fun c => absurd c (by decide))
              refine j_sipush (x := (-1002)) dX11_soonest_49 rfl (i32_c rfl) ?_
              exact j_iret dX11_soonest_52 rfl ⟨Nat.le_of_ble_eq_true rfl, Nat.le_of_ble_eq_true rfl⟩ (fun _ => h)
            · replace h := h.2 c7
              refine j_iconst (x := 1) dX11_in_13 rfl (i32_c rfl) ?_
              refine j_goto (tgt := 18) dX11_in_14 (by decide) ?_
              refine j_zret dX11_in_18 rfl ⟨Nat.le_of_ble_eq_true rfl, Nat.le_of_ble_eq_true rfl⟩ (by decide) ?_
              refine j_zret dX11_isMinute_9 rfl ⟨Nat.le_of_ble_eq_true rfl, Nat.le_of_ble_eq_true rfl⟩ (by decide) ?_
              refine j_if_eq (tgt := 49) dX11_soonest_24 (by decide) (fun c => absurd c (by decide)) (fun _ => ?_)
              refine j_iload 4 dX11_soonest_27 rfl ?_
              refine j_calliS (Yc := Y_X11_isLight) (as := [aI x4]) (rest := []) dX11_soonest_29 q_X11_284 ⟨Nat.le_of_ble_eq_true rfl, Nat.le_of_ble_eq_true rfl, Nat.le_of_ble_eq_true rfl, Nat.le_of_ble_eq_true rfl⟩ rfl (Nat.le_of_ble_eq_true rfl) rfl (ti_of (ll := [(0, aI x4)]) rfl (Nat.le_of_ble_eq_true rfl) rfl (fun _ => ?_))
              refine j_iload_n 0 dX11_isLight_0 rfl ?_
              refine j_i2l dX11_isLight_1 ?_
              refine j_ldc2 (x := (-1)) dX11_isLight_2 (ax_in 1425 (by decide +kernel) rfl) (i64_c rfl) ?_
              refine j_ldc2 (x := 99) dX11_isLight_5 (ax_in 1393 (by decide +kernel) rfl) (i64_c rfl) ?_
              refine j_calliS (Yc := Y_X11_in) (as := [aL x4, aL (-1), aL 99]) (rest := []) dX11_isLight_8 q_X11_136 ⟨Nat.le_of_ble_eq_true rfl, Nat.le_of_ble_eq_true rfl, Nat.le_of_ble_eq_true rfl, Nat.le_of_ble_eq_true rfl⟩ rfl (Nat.le_of_ble_eq_true rfl) rfl (ti_of (ll := [(0, aL x4), (2, aL (-1)), (4, aL 99)]) rfl (Nat.le_of_ble_eq_true rfl) rfl (fun _ => ?_))
              refine j_lload_n 0 dX11_in_0 rfl ?_
              refine j_lload_n 1 dX11_in_1 rfl ?_
              refine j_lcmp_lt (tgt := 17) dX11_in_2 dX11_in_3 (by decide) (fun c8 => ?_) (fun c8 => ?_)
              · replace h := h.1 c8
                refine j_iconst (x := 0) dX11_in_17 rfl (i32_c rfl) ?_
                refine j_zret dX11_in_18 rfl ⟨Nat.le_of_ble_eq_true rfl, Nat.le_of_ble_eq_true rfl⟩ (by decide) ?_
                refine j_zret dX11_isLight_11 rfl ⟨Nat.le_of_ble_eq_true rfl, Nat.le_of_ble_eq_true rfl⟩ (by decide) ?_
                refine j_if_eq (tgt := 49) dX11_soonest_32 (by decide) (fun _ => ?_) (fun c => absurd c (by decide))
                refine j_sipush (x := (-1002)) dX11_soonest_49 rfl (i32_c rfl) ?_
                exact j_iret dX11_soonest_52 rfl ⟨Nat.le_of_ble_eq_true rfl, Nat.le_of_ble_eq_true rfl⟩ (fun _ => h)
              · replace h := h.2 c8
                refine j_lload_n 0 dX11_in_6 rfl ?_
                refine j_lload 2 dX11_in_7 rfl ?_
                refine j_lcmp_gt (tgt := 17) dX11_in_9 dX11_in_10 (by decide) (fun c9 => ?_) (fun c9 => ?_)
                · replace h := h.1 c9
                  refine j_iconst (x := 0) dX11_in_17 rfl (i32_c rfl) ?_
                  refine j_zret dX11_in_18 rfl ⟨Nat.le_of_ble_eq_true rfl, Nat.le_of_ble_eq_true rfl⟩ (by decide) ?_
                  refine j_zret dX11_isLight_11 rfl ⟨Nat.le_of_ble_eq_true rfl, Nat.le_of_ble_eq_true rfl⟩ (by decide) ?_
                  refine j_if_eq (tgt := 49) dX11_soonest_32 (by decide) (fun _ => ?_) (fun c => absurd c (by decide))
                  refine j_sipush (x := (-1002)) dX11_soonest_49 rfl (i32_c rfl) ?_
                  exact j_iret dX11_soonest_52 rfl ⟨Nat.le_of_ble_eq_true rfl, Nat.le_of_ble_eq_true rfl⟩ (fun _ => h)
                · replace h := h.2 c9
                  refine j_iconst (x := 1) dX11_in_13 rfl (i32_c rfl) ?_
                  refine j_goto (tgt := 18) dX11_in_14 (by decide) ?_
                  refine j_zret dX11_in_18 rfl ⟨Nat.le_of_ble_eq_true rfl, Nat.le_of_ble_eq_true rfl⟩ (by decide) ?_
                  refine j_zret dX11_isLight_11 rfl ⟨Nat.le_of_ble_eq_true rfl, Nat.le_of_ble_eq_true rfl⟩ (by decide) ?_
                  refine j_if_eq (tgt := 49) dX11_soonest_32 (by decide) (fun c => absurd c (by decide)) (fun _ => ?_)
                  refine j_aload_n 0 dX11_soonest_35 rfl ?_
                  refine j_iload_n 1 dX11_soonest_36 rfl ?_
                  refine j_iload_n 2 dX11_soonest_37 rfl ?_
                  refine j_iload_n 3 dX11_soonest_38 rfl ?_
                  refine j_iload 4 dX11_soonest_39 rfl ?_
                  refine j_iload 5 dX11_soonest_41 rfl ?_
                  refine j_calliV (Yc := Y_X11_comes) (as := [aI x1, aI x2, aI x3, aI x4, aI x5]) (rest := []) dX11_soonest_43 q_X11_287 ⟨Nat.le_of_ble_eq_true rfl, Nat.le_of_ble_eq_true rfl, Nat.le_of_ble_eq_true rfl, Nat.le_of_ble_eq_true rfl⟩ sh_61 rfl (Nat.le_of_ble_eq_true rfl) rfl (ti_mono h (fun z2 u1 h => ?_))
                  refine j_goto (tgt := 52) dX11_soonest_46 (by decide) ?_
                  exact j_iret dX11_soonest_52 rfl ⟨Nat.le_of_ble_eq_true rfl, Nat.le_of_ble_eq_true rfl⟩ (fun _ => h)
theorem E_X11_soonest {post : Int → ax_M → Prop} {M : ax_M} {x1 x2 x3 x4 x5 : Int} (h : ax_mr SH M → (-2147483648 ≤ ((M 61 0) - 1) ∧ ((M 61 0) - 1) ≤ 2147483647) ∧ (((x1 < 0) → post (-1001) M) ∧ ((0 ≤ x1) → (((((M 61 0) - 1) < x1) → post (-1001) M) ∧ ((x1 ≤ ((M 61 0) - 1)) → (((x2 < 0) → post (-1001) M) ∧ ((0 ≤ x2) → (((((M 61 0) - 1) < x2) → post (-1001) M) ∧ ((x2 ≤ ((M 61 0) - 1)) → (((x3 < 0) → post (-1002) M) ∧ ((0 ≤ x3) → (((99 < x3) → post (-1002) M) ∧ ((x3 ≤ 99) → (((x4 < (-1)) → post (-1002) M) ∧ (((-1) ≤ x4) → (((99 < x4) → post (-1002) M) ∧ ((x4 ≤ 99) → ax_Ti Y_X11_comes [aR 61, aI x1, aI x2, aI x3, aI x4, aI x5] SH M (fun z2 u1 => post z2 u1)))))))))))))))))) : ax_Ti Y_X11_soonest [aR 61, aI x1, aI x2, aI x3, aI x4, aI x5] SH M post :=
  ti_of rfl (Nat.le_of_ble_eq_true rfl) rfl (fun q => B_X11_soonest_0 (h q))
set_option maxRecDepth 100000 in
set_option maxHeartbeats 4000000 in
theorem B_X11_last_0 {post : Int → ax_M → Prop} {M : ax_M} {x1 x2 x3 : Int} (h : (-2147483648 ≤ ((M 61 0) - 1) ∧ ((M 61 0) - 1) ≤ 2147483647) ∧ (((x1 < 0) → post (-1001) M) ∧ ((0 ≤ x1) → (((((M 61 0) - 1) < x1) → post (-1001) M) ∧ ((x1 ≤ ((M 61 0) - 1)) → (((x2 < (-1)) → post (-1002) M) ∧ (((-1) ≤ x2) → (((99 < x2) → post (-1002) M) ∧ ((x2 ≤ 99) → ax_Ti Y_X11_lastOf [aR 61, aI x1, aI x2, aI x3] SH M (fun z2 u1 => post z2 u1)))))))))) : ax_J Y_X11_last (ax_Ki Y_X11_last SH post) 0 0 0 [(0, aR 61), (1, aI x1), (2, aI x2), (3, aI x3)] [] SH M := by
  refine j_aload_n 0 dX11_last_0 rfl ?_
  refine j_iload_n 1 dX11_last_1 rfl ?_
  refine j_calliV (Yc := Y_X11_isPlace) (as := [aI x1]) (rest := []) dX11_last_2 q_X11_257 ⟨Nat.le_of_ble_eq_true rfl, Nat.le_of_ble_eq_true rfl, Nat.le_of_ble_eq_true rfl, Nat.le_of_ble_eq_true rfl⟩ sh_61 rfl (Nat.le_of_ble_eq_true rfl) rfl (ti_of (ll := [(0, aR 61), (1, aI x1)]) rfl (Nat.le_of_ble_eq_true rfl) rfl (fun _ => ?_))
  refine j_iload_n 1 dX11_isPlace_0 rfl ?_
  refine j_i2l dX11_isPlace_1 ?_
  refine j_lconst (x := 0) dX11_isPlace_2 rfl (i64_c rfl) ?_
  refine j_aload_n 0 dX11_isPlace_3 rfl ?_
  refine j_geti (i := 0) dX11_isPlace_4 f_X11_133 sh_61 rfl rfl (fun _ => ?_)
  refine j_iconst (x := 1) dX11_isPlace_7 rfl (i32_c rfl) ?_
  obtain ⟨o1, h⟩ := h
  refine j_isub (z := ((M 61 0) - 1)) dX11_isPlace_8 rfl o1 ?_
  refine j_i2l dX11_isPlace_9 ?_
  refine j_calliS (Yc := Y_X11_in) (as := [aL x1, aL 0, aL ((M 61 0) - 1)]) (rest := []) dX11_isPlace_10 q_X11_136 ⟨Nat.le_of_ble_eq_true rfl, Nat.le_of_ble_eq_true rfl, Nat.le_of_ble_eq_true rfl, Nat.le_of_ble_eq_true rfl⟩ rfl (Nat.le_of_ble_eq_true rfl) rfl (ti_of (ll := [(0, aL x1), (2, aL 0), (4, aL ((M 61 0) - 1))]) rfl (Nat.le_of_ble_eq_true rfl) rfl (fun _ => ?_))
  refine j_lload_n 0 dX11_in_0 rfl ?_
  refine j_lload_n 1 dX11_in_1 rfl ?_
  refine j_lcmp_lt (tgt := 17) dX11_in_2 dX11_in_3 (by decide) (fun c2 => ?_) (fun c2 => ?_)
  · replace h := h.1 c2
    refine j_iconst (x := 0) dX11_in_17 rfl (i32_c rfl) ?_
    refine j_zret dX11_in_18 rfl ⟨Nat.le_of_ble_eq_true rfl, Nat.le_of_ble_eq_true rfl⟩ (by decide) ?_
    refine j_zret dX11_isPlace_13 rfl ⟨Nat.le_of_ble_eq_true rfl, Nat.le_of_ble_eq_true rfl⟩ (by decide) ?_
    refine j_if_ne (tgt := 12) dX11_last_5 (by decide) (fun c => absurd c (by decide)) (fun _ => ?_)
    refine j_sipush (x := (-1001)) dX11_last_8 rfl (i32_c rfl) ?_
    exact j_iret dX11_last_11 rfl ⟨Nat.le_of_ble_eq_true rfl, Nat.le_of_ble_eq_true rfl⟩ (fun _ => h)
  · replace h := h.2 c2
    refine j_lload_n 0 dX11_in_6 rfl ?_
    refine j_lload 2 dX11_in_7 rfl ?_
    refine j_lcmp_gt (tgt := 17) dX11_in_9 dX11_in_10 (by decide) (fun c3 => ?_) (fun c3 => ?_)
    · replace h := h.1 c3
      refine j_iconst (x := 0) dX11_in_17 rfl (i32_c rfl) ?_
      refine j_zret dX11_in_18 rfl ⟨Nat.le_of_ble_eq_true rfl, Nat.le_of_ble_eq_true rfl⟩ (by decide) ?_
      refine j_zret dX11_isPlace_13 rfl ⟨Nat.le_of_ble_eq_true rfl, Nat.le_of_ble_eq_true rfl⟩ (by decide) ?_
      refine j_if_ne (tgt := 12) dX11_last_5 (by decide) (fun c => absurd c (by decide)) (fun _ => ?_)
      refine j_sipush (x := (-1001)) dX11_last_8 rfl (i32_c rfl) ?_
      exact j_iret dX11_last_11 rfl ⟨Nat.le_of_ble_eq_true rfl, Nat.le_of_ble_eq_true rfl⟩ (fun _ => h)
    · replace h := h.2 c3
      refine j_iconst (x := 1) dX11_in_13 rfl (i32_c rfl) ?_
      refine j_goto (tgt := 18) dX11_in_14 (by decide) ?_
      refine j_zret dX11_in_18 rfl ⟨Nat.le_of_ble_eq_true rfl, Nat.le_of_ble_eq_true rfl⟩ (by decide) ?_
      refine j_zret dX11_isPlace_13 rfl ⟨Nat.le_of_ble_eq_true rfl, Nat.le_of_ble_eq_true rfl⟩ (by decide) ?_
      refine j_if_ne (tgt := 12) dX11_last_5 (by decide) (fun _ => ?_) (fun c => absurd c (by decide))
      refine j_iload_n 2 dX11_last_12 rfl ?_
      refine j_calliS (Yc := Y_X11_isLight) (as := [aI x2]) (rest := []) dX11_last_13 q_X11_284 ⟨Nat.le_of_ble_eq_true rfl, Nat.le_of_ble_eq_true rfl, Nat.le_of_ble_eq_true rfl, Nat.le_of_ble_eq_true rfl⟩ rfl (Nat.le_of_ble_eq_true rfl) rfl (ti_of (ll := [(0, aI x2)]) rfl (Nat.le_of_ble_eq_true rfl) rfl (fun _ => ?_))
      refine j_iload_n 0 dX11_isLight_0 rfl ?_
      refine j_i2l dX11_isLight_1 ?_
      refine j_ldc2 (x := (-1)) dX11_isLight_2 (ax_in 1425 (by decide +kernel) rfl) (i64_c rfl) ?_
      refine j_ldc2 (x := 99) dX11_isLight_5 (ax_in 1393 (by decide +kernel) rfl) (i64_c rfl) ?_
      refine j_calliS (Yc := Y_X11_in) (as := [aL x2, aL (-1), aL 99]) (rest := []) dX11_isLight_8 q_X11_136 ⟨Nat.le_of_ble_eq_true rfl, Nat.le_of_ble_eq_true rfl, Nat.le_of_ble_eq_true rfl, Nat.le_of_ble_eq_true rfl⟩ rfl (Nat.le_of_ble_eq_true rfl) rfl (ti_of (ll := [(0, aL x2), (2, aL (-1)), (4, aL 99)]) rfl (Nat.le_of_ble_eq_true rfl) rfl (fun _ => ?_))
      refine j_lload_n 0 dX11_in_0 rfl ?_
      refine j_lload_n 1 dX11_in_1 rfl ?_
      refine j_lcmp_lt (tgt := 17) dX11_in_2 dX11_in_3 (by decide) (fun c4 => ?_) (fun c4 => ?_)
      · replace h := h.1 c4
        refine j_iconst (x := 0) dX11_in_17 rfl (i32_c rfl) ?_
        refine j_zret dX11_in_18 rfl ⟨Nat.le_of_ble_eq_true rfl, Nat.le_of_ble_eq_true rfl⟩ (by decide) ?_
        refine j_zret dX11_isLight_11 rfl ⟨Nat.le_of_ble_eq_true rfl, Nat.le_of_ble_eq_true rfl⟩ (by decide) ?_
        refine j_if_eq (tgt := 29) dX11_last_16 (by decide) (fun _ => ?_) (fun c => absurd c (by decide))
        refine j_sipush (x := (-1002)) dX11_last_29 rfl (i32_c rfl) ?_
        exact j_iret dX11_last_32 rfl ⟨Nat.le_of_ble_eq_true rfl, Nat.le_of_ble_eq_true rfl⟩ (fun _ => h)
      · replace h := h.2 c4
        refine j_lload_n 0 dX11_in_6 rfl ?_
        refine j_lload 2 dX11_in_7 rfl ?_
        refine j_lcmp_gt (tgt := 17) dX11_in_9 dX11_in_10 (by decide) (fun c5 => ?_) (fun c5 => ?_)
        · replace h := h.1 c5
          refine j_iconst (x := 0) dX11_in_17 rfl (i32_c rfl) ?_
          refine j_zret dX11_in_18 rfl ⟨Nat.le_of_ble_eq_true rfl, Nat.le_of_ble_eq_true rfl⟩ (by decide) ?_
          refine j_zret dX11_isLight_11 rfl ⟨Nat.le_of_ble_eq_true rfl, Nat.le_of_ble_eq_true rfl⟩ (by decide) ?_
          refine j_if_eq (tgt := 29) dX11_last_16 (by decide) (fun _ => ?_) (fun c => absurd c (by decide))
          refine j_sipush (x := (-1002)) dX11_last_29 rfl (i32_c rfl) ?_
          exact j_iret dX11_last_32 rfl ⟨Nat.le_of_ble_eq_true rfl, Nat.le_of_ble_eq_true rfl⟩ (fun _ => h)
        · replace h := h.2 c5
          refine j_iconst (x := 1) dX11_in_13 rfl (i32_c rfl) ?_
          refine j_goto (tgt := 18) dX11_in_14 (by decide) ?_
          refine j_zret dX11_in_18 rfl ⟨Nat.le_of_ble_eq_true rfl, Nat.le_of_ble_eq_true rfl⟩ (by decide) ?_
          refine j_zret dX11_isLight_11 rfl ⟨Nat.le_of_ble_eq_true rfl, Nat.le_of_ble_eq_true rfl⟩ (by decide) ?_
          refine j_if_eq (tgt := 29) dX11_last_16 (by decide) (fun c => absurd c (by decide)) (fun _ => ?_)
          refine j_aload_n 0 dX11_last_19 rfl ?_
          refine j_iload_n 1 dX11_last_20 rfl ?_
          refine j_iload_n 2 dX11_last_21 rfl ?_
          refine j_iload_n 3 dX11_last_22 rfl ?_
          refine j_calliV (Yc := Y_X11_lastOf) (as := [aI x1, aI x2, aI x3]) (rest := []) dX11_last_23 q_X11_291 ⟨Nat.le_of_ble_eq_true rfl, Nat.le_of_ble_eq_true rfl, Nat.le_of_ble_eq_true rfl, Nat.le_of_ble_eq_true rfl⟩ sh_61 rfl (Nat.le_of_ble_eq_true rfl) rfl (ti_mono h (fun z2 u1 h => ?_))
          refine j_goto (tgt := 32) dX11_last_26 (by decide) ?_
          exact j_iret dX11_last_32 rfl ⟨Nat.le_of_ble_eq_true rfl, Nat.le_of_ble_eq_true rfl⟩ (fun _ => h)
theorem E_X11_last {post : Int → ax_M → Prop} {M : ax_M} {x1 x2 x3 : Int} (h : ax_mr SH M → (-2147483648 ≤ ((M 61 0) - 1) ∧ ((M 61 0) - 1) ≤ 2147483647) ∧ (((x1 < 0) → post (-1001) M) ∧ ((0 ≤ x1) → (((((M 61 0) - 1) < x1) → post (-1001) M) ∧ ((x1 ≤ ((M 61 0) - 1)) → (((x2 < (-1)) → post (-1002) M) ∧ (((-1) ≤ x2) → (((99 < x2) → post (-1002) M) ∧ ((x2 ≤ 99) → ax_Ti Y_X11_lastOf [aR 61, aI x1, aI x2, aI x3] SH M (fun z2 u1 => post z2 u1)))))))))) : ax_Ti Y_X11_last [aR 61, aI x1, aI x2, aI x3] SH M post :=
  ti_of rfl (Nat.le_of_ble_eq_true rfl) rfl (fun q => B_X11_last_0 (h q))
set_option maxRecDepth 100000 in
set_option maxHeartbeats 4000000 in
theorem B_X11_open_0 {post : Int → ax_M → Prop} {M : ax_M} {x1 x2 x3 : Int} (h : (((x1 < 0) → post (-1002) M) ∧ ((0 ≤ x1) → (((99 < x1) → post (-1002) M) ∧ ((x1 ≤ 99) → (((x2 < (-1)) → post (-1002) M) ∧ (((-1) ≤ x2) → (((99 < x2) → post (-1002) M) ∧ ((x2 ≤ 99) → ax_J Y_X11_open (ax_Ki Y_X11_open SH post) 0 0 24 [(0, aR 61), (1, aI x1), (2, aI x2), (3, aI x3), (4, aI 0), (5, aI 0)] [] SH M))))))))) : ax_J Y_X11_open (ax_Ki Y_X11_open SH post) 0 0 0 [(0, aR 61), (1, aI x1), (2, aI x2), (3, aI x3)] [] SH M := by
  refine j_iload_n 1 dX11_open_0 rfl ?_
  refine j_calliS (Yc := Y_X11_isMinute) (as := [aI x1]) (rest := []) dX11_open_1 q_X11_260 ⟨Nat.le_of_ble_eq_true rfl, Nat.le_of_ble_eq_true rfl, Nat.le_of_ble_eq_true rfl, Nat.le_of_ble_eq_true rfl⟩ rfl (Nat.le_of_ble_eq_true rfl) rfl (ti_of (ll := [(0, aI x1)]) rfl (Nat.le_of_ble_eq_true rfl) rfl (fun _ => ?_))
  refine j_iload_n 0 dX11_isMinute_0 rfl ?_
  refine j_i2l dX11_isMinute_1 ?_
  refine j_lconst (x := 0) dX11_isMinute_2 rfl (i64_c rfl) ?_
  refine j_ldc2 (x := 99) dX11_isMinute_3 (ax_in 1393 (by decide +kernel) rfl) (i64_c rfl) ?_
  refine j_calliS (Yc := Y_X11_in) (as := [aL x1, aL 0, aL 99]) (rest := []) dX11_isMinute_6 q_X11_136 ⟨Nat.le_of_ble_eq_true rfl, Nat.le_of_ble_eq_true rfl, Nat.le_of_ble_eq_true rfl, Nat.le_of_ble_eq_true rfl⟩ rfl (Nat.le_of_ble_eq_true rfl) rfl (ti_of (ll := [(0, aL x1), (2, aL 0), (4, aL 99)]) rfl (Nat.le_of_ble_eq_true rfl) rfl (fun _ => ?_))
  refine j_lload_n 0 dX11_in_0 rfl ?_
  refine j_lload_n 1 dX11_in_1 rfl ?_
  refine j_lcmp_lt (tgt := 17) dX11_in_2 dX11_in_3 (by decide) (fun c1 => ?_) (fun c1 => ?_)
  · replace h := h.1 c1
    refine j_iconst (x := 0) dX11_in_17 rfl (i32_c rfl) ?_
    refine j_zret dX11_in_18 rfl ⟨Nat.le_of_ble_eq_true rfl, Nat.le_of_ble_eq_true rfl⟩ (by decide) ?_
    refine j_zret dX11_isMinute_9 rfl ⟨Nat.le_of_ble_eq_true rfl, Nat.le_of_ble_eq_true rfl⟩ (by decide) ?_
    refine j_if_eq (tgt := 14) dX11_open_4 (by decide) (fun _ => ?_) (fun c => absurd c (by decide))
    refine j_sipush (x := (-1002)) dX11_open_14 rfl (i32_c rfl) ?_
    exact j_iret dX11_open_17 rfl ⟨Nat.le_of_ble_eq_true rfl, Nat.le_of_ble_eq_true rfl⟩ (fun _ => h)
  · replace h := h.2 c1
    refine j_lload_n 0 dX11_in_6 rfl ?_
    refine j_lload 2 dX11_in_7 rfl ?_
    refine j_lcmp_gt (tgt := 17) dX11_in_9 dX11_in_10 (by decide) (fun c2 => ?_) (fun c2 => ?_)
    · replace h := h.1 c2
      refine j_iconst (x := 0) dX11_in_17 rfl (i32_c rfl) ?_
      refine j_zret dX11_in_18 rfl ⟨Nat.le_of_ble_eq_true rfl, Nat.le_of_ble_eq_true rfl⟩ (by decide) ?_
      refine j_zret dX11_isMinute_9 rfl ⟨Nat.le_of_ble_eq_true rfl, Nat.le_of_ble_eq_true rfl⟩ (by decide) ?_
      refine j_if_eq (tgt := 14) dX11_open_4 (by decide) (fun _ => ?_) (fun c => absurd c (by decide))
      refine j_sipush (x := (-1002)) dX11_open_14 rfl (i32_c rfl) ?_
      exact j_iret dX11_open_17 rfl ⟨Nat.le_of_ble_eq_true rfl, Nat.le_of_ble_eq_true rfl⟩ (fun _ => h)
    · replace h := h.2 c2
      refine j_iconst (x := 1) dX11_in_13 rfl (i32_c rfl) ?_
      refine j_goto (tgt := 18) dX11_in_14 (by decide) ?_
      refine j_zret dX11_in_18 rfl ⟨Nat.le_of_ble_eq_true rfl, Nat.le_of_ble_eq_true rfl⟩ (by decide) ?_
      refine j_zret dX11_isMinute_9 rfl ⟨Nat.le_of_ble_eq_true rfl, Nat.le_of_ble_eq_true rfl⟩ (by decide) ?_
      refine j_if_eq (tgt := 14) dX11_open_4 (by decide) (fun c => absurd c (by decide)) (fun _ => ?_)
      refine j_iload_n 2 dX11_open_7 rfl ?_
      refine j_calliS (Yc := Y_X11_isLight) (as := [aI x2]) (rest := []) dX11_open_8 q_X11_284 ⟨Nat.le_of_ble_eq_true rfl, Nat.le_of_ble_eq_true rfl, Nat.le_of_ble_eq_true rfl, Nat.le_of_ble_eq_true rfl⟩ rfl (Nat.le_of_ble_eq_true rfl) rfl (ti_of (ll := [(0, aI x2)]) rfl (Nat.le_of_ble_eq_true rfl) rfl (fun _ => ?_))
      refine j_iload_n 0 dX11_isLight_0 rfl ?_
      refine j_i2l dX11_isLight_1 ?_
      refine j_ldc2 (x := (-1)) dX11_isLight_2 (ax_in 1425 (by decide +kernel) rfl) (i64_c rfl) ?_
      refine j_ldc2 (x := 99) dX11_isLight_5 (ax_in 1393 (by decide +kernel) rfl) (i64_c rfl) ?_
      refine j_calliS (Yc := Y_X11_in) (as := [aL x2, aL (-1), aL 99]) (rest := []) dX11_isLight_8 q_X11_136 ⟨Nat.le_of_ble_eq_true rfl, Nat.le_of_ble_eq_true rfl, Nat.le_of_ble_eq_true rfl, Nat.le_of_ble_eq_true rfl⟩ rfl (Nat.le_of_ble_eq_true rfl) rfl (ti_of (ll := [(0, aL x2), (2, aL (-1)), (4, aL 99)]) rfl (Nat.le_of_ble_eq_true rfl) rfl (fun _ => ?_))
      refine j_lload_n 0 dX11_in_0 rfl ?_
      refine j_lload_n 1 dX11_in_1 rfl ?_
      refine j_lcmp_lt (tgt := 17) dX11_in_2 dX11_in_3 (by decide) (fun c3 => ?_) (fun c3 => ?_)
      · replace h := h.1 c3
        refine j_iconst (x := 0) dX11_in_17 rfl (i32_c rfl) ?_
        refine j_zret dX11_in_18 rfl ⟨Nat.le_of_ble_eq_true rfl, Nat.le_of_ble_eq_true rfl⟩ (by decide) ?_
        refine j_zret dX11_isLight_11 rfl ⟨Nat.le_of_ble_eq_true rfl, Nat.le_of_ble_eq_true rfl⟩ (by decide) ?_
        refine j_if_ne (tgt := 18) dX11_open_11 (by decide) (fun c => absurd c (by decide)) (fun _ => ?_)
        refine j_sipush (x := (-1002)) dX11_open_14 rfl (i32_c rfl) ?_
        exact j_iret dX11_open_17 rfl ⟨Nat.le_of_ble_eq_true rfl, Nat.le_of_ble_eq_true rfl⟩ (fun _ => h)
      · replace h := h.2 c3
        refine j_lload_n 0 dX11_in_6 rfl ?_
        refine j_lload 2 dX11_in_7 rfl ?_
        refine j_lcmp_gt (tgt := 17) dX11_in_9 dX11_in_10 (by decide) (fun c4 => ?_) (fun c4 => ?_)
        · replace h := h.1 c4
          refine j_iconst (x := 0) dX11_in_17 rfl (i32_c rfl) ?_
          refine j_zret dX11_in_18 rfl ⟨Nat.le_of_ble_eq_true rfl, Nat.le_of_ble_eq_true rfl⟩ (by decide) ?_
          refine j_zret dX11_isLight_11 rfl ⟨Nat.le_of_ble_eq_true rfl, Nat.le_of_ble_eq_true rfl⟩ (by decide) ?_
          refine j_if_ne (tgt := 18) dX11_open_11 (by decide) (fun c => absurd c (by decide)) (fun _ => ?_)
          refine j_sipush (x := (-1002)) dX11_open_14 rfl (i32_c rfl) ?_
          exact j_iret dX11_open_17 rfl ⟨Nat.le_of_ble_eq_true rfl, Nat.le_of_ble_eq_true rfl⟩ (fun _ => h)
        · replace h := h.2 c4
          refine j_iconst (x := 1) dX11_in_13 rfl (i32_c rfl) ?_
          refine j_goto (tgt := 18) dX11_in_14 (by decide) ?_
          refine j_zret dX11_in_18 rfl ⟨Nat.le_of_ble_eq_true rfl, Nat.le_of_ble_eq_true rfl⟩ (by decide) ?_
          refine j_zret dX11_isLight_11 rfl ⟨Nat.le_of_ble_eq_true rfl, Nat.le_of_ble_eq_true rfl⟩ (by decide) ?_
          refine j_if_ne (tgt := 18) dX11_open_11 (by decide) (fun _ => ?_) (fun c => absurd c (by decide))
          refine j_iconst (x := 0) dX11_open_18 rfl (i32_c rfl) ?_
          refine j_istore (ll' := [(4, aI 0), (0, aR 61), (1, aI x1), (2, aI x2), (3, aI x3)]) dX11_open_19 (Nat.le_of_ble_eq_true rfl) rfl ?_
          refine j_iconst (x := 0) dX11_open_21 rfl (i32_c rfl) ?_
          refine j_istore (ll' := [(5, aI 0), (4, aI 0), (0, aR 61), (1, aI x1), (2, aI x2), (3, aI x3)]) dX11_open_22 (Nat.le_of_ble_eq_true rfl) rfl ?_
          refine j_sub [2, 3, 4, 5, 1, 0] rfl ?_
          exact h
theorem E_X11_open {post : Int → ax_M → Prop} {M : ax_M} {x1 x2 x3 : Int} (h : ax_mr SH M → (((x1 < 0) → post (-1002) M) ∧ ((0 ≤ x1) → (((99 < x1) → post (-1002) M) ∧ ((x1 ≤ 99) → (((x2 < (-1)) → post (-1002) M) ∧ (((-1) ≤ x2) → (((99 < x2) → post (-1002) M) ∧ ((x2 ≤ 99) → ax_J Y_X11_open (ax_Ki Y_X11_open SH post) 0 0 24 [(0, aR 61), (1, aI x1), (2, aI x2), (3, aI x3), (4, aI 0), (5, aI 0)] [] SH M))))))))) : ax_Ti Y_X11_open [aR 61, aI x1, aI x2, aI x3] SH M post :=
  ti_of rfl (Nat.le_of_ble_eq_true rfl) rfl (fun q => B_X11_open_0 (h q))
set_option maxRecDepth 100000 in
set_option maxHeartbeats 4000000 in
theorem B_X11_open_24 {post : Int → ax_M → Prop} {M : ax_M} {x1 x2 x3 x4 x5 : Int} (h : ((((M 61 0) ≤ x5) → post x4 M) ∧ ((x5 < (M 61 0)) → ax_Ti Y_X11_comes [aR 61, aI x5, aI (M 61 1), aI x1, aI x2, aI x3] SH M (fun z2 u1 => (((z2 < 0) → (-2147483648 ≤ (x5 + 1) ∧ (x5 + 1) ≤ 2147483647) ∧ ax_J Y_X11_open (ax_Ki Y_X11_open SH post) 0 0 24 [(0, aR 61), (1, aI x1), (2, aI x2), (3, aI x3), (4, aI (bo_or x4 0)), (5, aI (x5 + 1))] [] SH u1) ∧ ((0 ≤ z2) → (-2147483648 ≤ (x5 + 1) ∧ (x5 + 1) ≤ 2147483647) ∧ ax_J Y_X11_open (ax_Ki Y_X11_open SH post) 0 0 24 [(0, aR 61), (1, aI x1), (2, aI x2), (3, aI x3), (4, aI (bo_or x4 (bo_shl 1 x5))), (5, aI (x5 + 1))] [] SH u1)))))) : ax_J Y_X11_open (ax_Ki Y_X11_open SH post) 0 0 24 [(0, aR 61), (1, aI x1), (2, aI x2), (3, aI x3), (4, aI x4), (5, aI x5)] [] SH M := by
  refine j_iload 5 dX11_open_24 rfl ?_
  refine j_aload_n 0 dX11_open_26 rfl ?_
  refine j_geti (i := 0) dX11_open_27 f_X11_133 sh_61 rfl rfl (fun _ => ?_)
  refine j_icmp_ge (tgt := 68) dX11_open_30 (by decide) (fun c1 => ?_) (fun c1 => ?_)
  · replace h := h.1 c1
    refine j_iload 4 dX11_open_68 rfl ?_
    exact j_iret dX11_open_70 rfl ⟨Nat.le_of_ble_eq_true rfl, Nat.le_of_ble_eq_true rfl⟩ (fun _ => h)
  · replace h := h.2 c1
    refine j_iload 4 dX11_open_33 rfl ?_
    refine j_aload_n 0 dX11_open_35 rfl ?_
    refine j_iload 5 dX11_open_36 rfl ?_
    refine j_aload_n 0 dX11_open_38 rfl ?_
    refine j_geti (i := 1) dX11_open_39 f_X11_9 sh_61 rfl rfl (fun _ => ?_)
    refine j_iload_n 1 dX11_open_42 rfl ?_
    refine j_iload_n 2 dX11_open_43 rfl ?_
    refine j_iload_n 3 dX11_open_44 rfl ?_
    refine j_calliV (Yc := Y_X11_comes) (as := [aI x5, aI (M 61 1), aI x1, aI x2, aI x3]) (rest := [aI x4]) dX11_open_45 q_X11_287 ⟨Nat.le_of_ble_eq_true rfl, Nat.le_of_ble_eq_true rfl, Nat.le_of_ble_eq_true rfl, Nat.le_of_ble_eq_true rfl⟩ sh_61 rfl (Nat.le_of_ble_eq_true rfl) rfl (ti_mono h (fun z2 u1 h => ?_))
    refine j_if_lt (tgt := 58) dX11_open_48 (by decide) (fun c2 => ?_) (fun c2 => ?_)
    · replace h := h.1 c2
      refine j_iconst (x := 0) dX11_open_58 rfl (i32_c rfl) ?_
      refine j_ior (z := (bo_or x4 0)) dX11_open_59 rfl ?_
      refine j_istore (ll' := [(4, aI (bo_or x4 0)), (0, aR 61), (1, aI x1), (2, aI x2), (3, aI x3), (5, aI x5)]) dX11_open_60 (Nat.le_of_ble_eq_true rfl) rfl ?_
      obtain ⟨o3, h⟩ := h
      refine j_iinc (ll' := [(5, aI (x5 + 1)), (4, aI (bo_or x4 0)), (0, aR 61), (1, aI x1), (2, aI x2), (3, aI x3)]) 5 dX11_open_62 rfl (Nat.le_of_ble_eq_true rfl) o3 rfl ?_
      refine j_goto (tgt := 24) dX11_open_65 (by decide) ?_
      refine j_sub [2, 3, 4, 5, 1, 0] rfl ?_
      exact h
    · replace h := h.2 c2
      refine j_iconst (x := 1) dX11_open_51 rfl (i32_c rfl) ?_
      refine j_iload 5 dX11_open_52 rfl ?_
      refine j_ishl (z := (bo_shl 1 x5)) dX11_open_54 rfl ?_
      refine j_goto (tgt := 59) dX11_open_55 (by decide) ?_
      refine j_ior (z := (bo_or x4 (bo_shl 1 x5))) dX11_open_59 rfl ?_
      refine j_istore (ll' := [(4, aI (bo_or x4 (bo_shl 1 x5))), (0, aR 61), (1, aI x1), (2, aI x2), (3, aI x3), (5, aI x5)]) dX11_open_60 (Nat.le_of_ble_eq_true rfl) rfl ?_
      obtain ⟨o4, h⟩ := h
      refine j_iinc (ll' := [(5, aI (x5 + 1)), (4, aI (bo_or x4 (bo_shl 1 x5))), (0, aR 61), (1, aI x1), (2, aI x2), (3, aI x3)]) 5 dX11_open_62 rfl (Nat.le_of_ble_eq_true rfl) o4 rfl ?_
      refine j_goto (tgt := 24) dX11_open_65 (by decide) ?_
      refine j_sub [2, 3, 4, 5, 1, 0] rfl ?_
      exact h
set_option maxRecDepth 100000 in
set_option maxHeartbeats 4000000 in
theorem B_X11_most_0 {post : Int → ax_M → Prop} {M : ax_M} {x1 : Int} (h : (((x1 < 0) → post (-1002) M) ∧ ((0 ≤ x1) → (((60 < x1) → post (-1002) M) ∧ ((x1 ≤ 60) → (((¬ (M 61 0) = 0) → ax_Ti Y_X11_findMost [aR 61, aI x1] SH M (fun z2 u1 => post z2 u1)) ∧ (((M 61 0) = 0) → post (-1003) M))))))) : ax_J Y_X11_most (ax_Ki Y_X11_most SH post) 0 0 0 [(0, aR 61), (1, aI x1)] [] SH M := by
  refine j_iload_n 1 dX11_most_0 rfl ?_
  refine j_i2l dX11_most_1 ?_
  refine j_lconst (x := 0) dX11_most_2 rfl (i64_c rfl) ?_
  refine j_ldc2 (x := 60) dX11_most_3 (ax_in 1458 (by decide +kernel) rfl) (i64_c rfl) ?_
  refine j_calliS (Yc := Y_X11_in) (as := [aL x1, aL 0, aL 60]) (rest := []) dX11_most_6 q_X11_136 ⟨Nat.le_of_ble_eq_true rfl, Nat.le_of_ble_eq_true rfl, Nat.le_of_ble_eq_true rfl, Nat.le_of_ble_eq_true rfl⟩ rfl (Nat.le_of_ble_eq_true rfl) rfl (ti_of (ll := [(0, aL x1), (2, aL 0), (4, aL 60)]) rfl (Nat.le_of_ble_eq_true rfl) rfl (fun _ => ?_))
  refine j_lload_n 0 dX11_in_0 rfl ?_
  refine j_lload_n 1 dX11_in_1 rfl ?_
  refine j_lcmp_lt (tgt := 17) dX11_in_2 dX11_in_3 (by decide) (fun c1 => ?_) (fun c1 => ?_)
  · replace h := h.1 c1
    refine j_iconst (x := 0) dX11_in_17 rfl (i32_c rfl) ?_
    refine j_zret dX11_in_18 rfl ⟨Nat.le_of_ble_eq_true rfl, Nat.le_of_ble_eq_true rfl⟩ (by decide) ?_
    refine j_if_ne (tgt := 16) dX11_most_9 (by decide) (fun c => absurd c (by decide)) (fun _ => ?_)
    refine j_sipush (x := (-1002)) dX11_most_12 rfl (i32_c rfl) ?_
    exact j_iret dX11_most_15 rfl ⟨Nat.le_of_ble_eq_true rfl, Nat.le_of_ble_eq_true rfl⟩ (fun _ => h)
  · replace h := h.2 c1
    refine j_lload_n 0 dX11_in_6 rfl ?_
    refine j_lload 2 dX11_in_7 rfl ?_
    refine j_lcmp_gt (tgt := 17) dX11_in_9 dX11_in_10 (by decide) (fun c2 => ?_) (fun c2 => ?_)
    · replace h := h.1 c2
      refine j_iconst (x := 0) dX11_in_17 rfl (i32_c rfl) ?_
      refine j_zret dX11_in_18 rfl ⟨Nat.le_of_ble_eq_true rfl, Nat.le_of_ble_eq_true rfl⟩ (by decide) ?_
      refine j_if_ne (tgt := 16) dX11_most_9 (by decide) (fun c => absurd c (by decide)) (fun _ => ?_)
      refine j_sipush (x := (-1002)) dX11_most_12 rfl (i32_c rfl) ?_
      exact j_iret dX11_most_15 rfl ⟨Nat.le_of_ble_eq_true rfl, Nat.le_of_ble_eq_true rfl⟩ (fun _ => h)
    · replace h := h.2 c2
      refine j_iconst (x := 1) dX11_in_13 rfl (i32_c rfl) ?_
      refine j_goto (tgt := 18) dX11_in_14 (by decide) ?_
      refine j_zret dX11_in_18 rfl ⟨Nat.le_of_ble_eq_true rfl, Nat.le_of_ble_eq_true rfl⟩ (by decide) ?_
      refine j_if_ne (tgt := 16) dX11_most_9 (by decide) (fun _ => ?_) (fun c => absurd c (by decide))
      refine j_aload_n 0 dX11_most_16 rfl ?_
      refine j_geti (i := 0) dX11_most_17 f_X11_133 sh_61 rfl rfl (fun _ => ?_)
      refine j_if_ne (tgt := 29) dX11_most_20 (by decide) (fun c3 => ?_) (fun c3 => ?_)
      · replace h := h.1 c3
        refine j_aload_n 0 dX11_most_29 rfl ?_
        refine j_iload_n 1 dX11_most_30 rfl ?_
        refine j_calliV (Yc := Y_X11_findMost) (as := [aI x1]) (rest := []) dX11_most_31 q_X11_325 ⟨Nat.le_of_ble_eq_true rfl, Nat.le_of_ble_eq_true rfl, Nat.le_of_ble_eq_true rfl, Nat.le_of_ble_eq_true rfl⟩ sh_61 rfl (Nat.le_of_ble_eq_true rfl) rfl (ti_mono h (fun z2 u1 h => ?_))
        exact j_iret dX11_most_34 rfl ⟨Nat.le_of_ble_eq_true rfl, Nat.le_of_ble_eq_true rfl⟩ (fun _ => h)
      · replace h := h.2 c3
        refine j_sipush (x := (-1003)) dX11_most_23 rfl (i32_c rfl) ?_
        refine j_goto (tgt := 34) dX11_most_26 (by decide) ?_
        exact j_iret dX11_most_34 rfl ⟨Nat.le_of_ble_eq_true rfl, Nat.le_of_ble_eq_true rfl⟩ (fun _ => h)
theorem E_X11_most {post : Int → ax_M → Prop} {M : ax_M} {x1 : Int} (h : ax_mr SH M → (((x1 < 0) → post (-1002) M) ∧ ((0 ≤ x1) → (((60 < x1) → post (-1002) M) ∧ ((x1 ≤ 60) → (((¬ (M 61 0) = 0) → ax_Ti Y_X11_findMost [aR 61, aI x1] SH M (fun z2 u1 => post z2 u1)) ∧ (((M 61 0) = 0) → post (-1003) M))))))) : ax_Ti Y_X11_most [aR 61, aI x1] SH M post :=
  ti_of rfl (Nat.le_of_ble_eq_true rfl) rfl (fun q => B_X11_most_0 (h q))
set_option maxRecDepth 100000 in
set_option maxHeartbeats 4000000 in
theorem B_X11_cut_0 {post : Int → ax_M → Prop} {M : ax_M} {x1 : Int} (h : (((x1 < 0) → post (-1002) M) ∧ ((0 ≤ x1) → (((60 < x1) → post (-1002) M) ∧ ((x1 ≤ 60) → (((¬ (M 61 0) = 0) → ax_Ti Y_X11_findMost [aR 61, aI x1] SH M (fun z2 u1 => ax_J Y_X11_cut (ax_Ki Y_X11_cut SH post) 0 0 38 [(0, aR 61), (2, aI z2), (3, aI 0), (4, aI 0)] [] SH u1)) ∧ (((M 61 0) = 0) → post (-1003) M))))))) : ax_J Y_X11_cut (ax_Ki Y_X11_cut SH post) 0 0 0 [(0, aR 61), (1, aI x1)] [] SH M := by
  refine j_iload_n 1 dX11_cut_0 rfl ?_
  refine j_i2l dX11_cut_1 ?_
  refine j_lconst (x := 0) dX11_cut_2 rfl (i64_c rfl) ?_
  refine j_ldc2 (x := 60) dX11_cut_3 (ax_in 1458 (by decide +kernel) rfl) (i64_c rfl) ?_
  refine j_calliS (Yc := Y_X11_in) (as := [aL x1, aL 0, aL 60]) (rest := []) dX11_cut_6 q_X11_136 ⟨Nat.le_of_ble_eq_true rfl, Nat.le_of_ble_eq_true rfl, Nat.le_of_ble_eq_true rfl, Nat.le_of_ble_eq_true rfl⟩ rfl (Nat.le_of_ble_eq_true rfl) rfl (ti_of (ll := [(0, aL x1), (2, aL 0), (4, aL 60)]) rfl (Nat.le_of_ble_eq_true rfl) rfl (fun _ => ?_))
  refine j_lload_n 0 dX11_in_0 rfl ?_
  refine j_lload_n 1 dX11_in_1 rfl ?_
  refine j_lcmp_lt (tgt := 17) dX11_in_2 dX11_in_3 (by decide) (fun c1 => ?_) (fun c1 => ?_)
  · replace h := h.1 c1
    refine j_iconst (x := 0) dX11_in_17 rfl (i32_c rfl) ?_
    refine j_zret dX11_in_18 rfl ⟨Nat.le_of_ble_eq_true rfl, Nat.le_of_ble_eq_true rfl⟩ (by decide) ?_
    refine j_if_ne (tgt := 16) dX11_cut_9 (by decide) (fun c => absurd c (by decide)) (fun _ => ?_)
    refine j_sipush (x := (-1002)) dX11_cut_12 rfl (i32_c rfl) ?_
    exact j_iret dX11_cut_15 rfl ⟨Nat.le_of_ble_eq_true rfl, Nat.le_of_ble_eq_true rfl⟩ (fun _ => h)
  · replace h := h.2 c1
    refine j_lload_n 0 dX11_in_6 rfl ?_
    refine j_lload 2 dX11_in_7 rfl ?_
    refine j_lcmp_gt (tgt := 17) dX11_in_9 dX11_in_10 (by decide) (fun c2 => ?_) (fun c2 => ?_)
    · replace h := h.1 c2
      refine j_iconst (x := 0) dX11_in_17 rfl (i32_c rfl) ?_
      refine j_zret dX11_in_18 rfl ⟨Nat.le_of_ble_eq_true rfl, Nat.le_of_ble_eq_true rfl⟩ (by decide) ?_
      refine j_if_ne (tgt := 16) dX11_cut_9 (by decide) (fun c => absurd c (by decide)) (fun _ => ?_)
      refine j_sipush (x := (-1002)) dX11_cut_12 rfl (i32_c rfl) ?_
      exact j_iret dX11_cut_15 rfl ⟨Nat.le_of_ble_eq_true rfl, Nat.le_of_ble_eq_true rfl⟩ (fun _ => h)
    · replace h := h.2 c2
      refine j_iconst (x := 1) dX11_in_13 rfl (i32_c rfl) ?_
      refine j_goto (tgt := 18) dX11_in_14 (by decide) ?_
      refine j_zret dX11_in_18 rfl ⟨Nat.le_of_ble_eq_true rfl, Nat.le_of_ble_eq_true rfl⟩ (by decide) ?_
      refine j_if_ne (tgt := 16) dX11_cut_9 (by decide) (fun _ => ?_) (fun c => absurd c (by decide))
      refine j_aload_n 0 dX11_cut_16 rfl ?_
      refine j_geti (i := 0) dX11_cut_17 f_X11_133 sh_61 rfl rfl (fun _ => ?_)
      refine j_if_ne (tgt := 27) dX11_cut_20 (by decide) (fun c3 => ?_) (fun c3 => ?_)
      · replace h := h.1 c3
        refine j_aload_n 0 dX11_cut_27 rfl ?_
        refine j_iload_n 1 dX11_cut_28 rfl ?_
        refine j_calliV (Yc := Y_X11_findMost) (as := [aI x1]) (rest := []) dX11_cut_29 q_X11_325 ⟨Nat.le_of_ble_eq_true rfl, Nat.le_of_ble_eq_true rfl, Nat.le_of_ble_eq_true rfl, Nat.le_of_ble_eq_true rfl⟩ sh_61 rfl (Nat.le_of_ble_eq_true rfl) rfl (ti_mono h (fun z2 u1 h => ?_))
        refine j_istore_n (ll' := [(2, aI z2), (0, aR 61), (1, aI x1)]) dX11_cut_32 (Nat.le_of_ble_eq_true rfl) rfl ?_
        refine j_iconst (x := 0) dX11_cut_33 rfl (i32_c rfl) ?_
        refine j_istore_n (ll' := [(3, aI 0), (2, aI z2), (0, aR 61), (1, aI x1)]) dX11_cut_34 (Nat.le_of_ble_eq_true rfl) rfl ?_
        refine j_iconst (x := 0) dX11_cut_35 rfl (i32_c rfl) ?_
        refine j_istore (ll' := [(4, aI 0), (3, aI 0), (2, aI z2), (0, aR 61), (1, aI x1)]) dX11_cut_36 (Nat.le_of_ble_eq_true rfl) rfl ?_
        refine j_sub [3, 2, 1, 0] rfl ?_
        exact h
      · replace h := h.2 c3
        refine j_sipush (x := (-1003)) dX11_cut_23 rfl (i32_c rfl) ?_
        exact j_iret dX11_cut_26 rfl ⟨Nat.le_of_ble_eq_true rfl, Nat.le_of_ble_eq_true rfl⟩ (fun _ => h)
theorem E_X11_cut {post : Int → ax_M → Prop} {M : ax_M} {x1 : Int} (h : ax_mr SH M → (((x1 < 0) → post (-1002) M) ∧ ((0 ≤ x1) → (((60 < x1) → post (-1002) M) ∧ ((x1 ≤ 60) → (((¬ (M 61 0) = 0) → ax_Ti Y_X11_findMost [aR 61, aI x1] SH M (fun z2 u1 => ax_J Y_X11_cut (ax_Ki Y_X11_cut SH post) 0 0 38 [(0, aR 61), (2, aI z2), (3, aI 0), (4, aI 0)] [] SH u1)) ∧ (((M 61 0) = 0) → post (-1003) M))))))) : ax_Ti Y_X11_cut [aR 61, aI x1] SH M post :=
  ti_of rfl (Nat.le_of_ble_eq_true rfl) rfl (fun q => B_X11_cut_0 (h q))
set_option maxRecDepth 100000 in
set_option maxHeartbeats 4000000 in
theorem B_X11_cut_38 {post : Int → ax_M → Prop} {M : ax_M} {x2 x3 x4 : Int} (h : ((((M 61 43) ≤ x4) → post x3 M) ∧ ((x4 < (M 61 43)) → (((x2 < 0) → post x3 M) ∧ ((0 ≤ x2) → (0 ≤ x4 ∧ x4 < 732) ∧ (0 ≤ (M 85 x4)) ∧ (-2147483648 ≤ (x4 + 1) ∧ (x4 + 1) ≤ 2147483647) ∧ ax_J Y_X11_cut (ax_Ki Y_X11_cut SH post) 0 0 38 [(0, aR 61), (2, aI x2), (3, aI (bo_or x3 (bo_shl 1 ((M 85 x4) / 61)))), (4, aI (x4 + 1))] [] SH M))))) : ax_J Y_X11_cut (ax_Ki Y_X11_cut SH post) 0 0 38 [(0, aR 61), (2, aI x2), (3, aI x3), (4, aI x4)] [] SH M := by
  refine j_iload 3 dX11_cut_38 rfl ?_
  refine j_aload_n 0 dX11_cut_40 rfl ?_
  refine j_geti (i := 43) dX11_cut_41 f_X11_295 sh_61 rfl rfl (fun _ => ?_)
  refine j_icmp_ge (tgt := 72) dX11_cut_44 (by decide) (fun c1 => ?_) (fun c1 => ?_)
  · replace h := h.1 c1
    refine j_iload_n 2 dX11_cut_72 rfl ?_
    exact j_iret dX11_cut_73 rfl ⟨Nat.le_of_ble_eq_true rfl, Nat.le_of_ble_eq_true rfl⟩ (fun _ => h)
  · replace h := h.2 c1
    refine j_iload_n 1 dX11_cut_47 rfl ?_
    refine j_if_lt (tgt := 72) dX11_cut_48 (by decide) (fun c2 => ?_) (fun c2 => ?_)
    · replace h := h.1 c2
      refine j_iload_n 2 dX11_cut_72 rfl ?_
      exact j_iret dX11_cut_73 rfl ⟨Nat.le_of_ble_eq_true rfl, Nat.le_of_ble_eq_true rfl⟩ (fun _ => h)
    · replace h := h.2 c2
      refine j_iload_n 2 dX11_cut_51 rfl ?_
      refine j_iconst (x := 1) dX11_cut_52 rfl (i32_c rfl) ?_
      refine j_aload_n 0 dX11_cut_53 rfl ?_
      refine j_getc 85 dX11_cut_54 f_X11_90 sh_61 rfl ?_
      refine j_iload 3 dX11_cut_57 rfl ?_
      obtain ⟨o3, h⟩ := h
      refine j_iald dX11_cut_59 sh_85 o3.1 o3.2 (fun _ => ?_)
      refine j_bipush (x := 61) dX11_cut_60 rfl (i32_c rfl) ?_
      obtain ⟨o4, h⟩ := h
      refine j_idiv (z := ((M 85 x4) / 61)) dX11_cut_62 rfl o4 (by decide) ?_
      refine j_ishl (z := (bo_shl 1 ((M 85 x4) / 61))) dX11_cut_63 rfl ?_
      refine j_ior (z := (bo_or x3 (bo_shl 1 ((M 85 x4) / 61)))) dX11_cut_64 rfl ?_
      refine j_istore_n (ll' := [(3, aI (bo_or x3 (bo_shl 1 ((M 85 x4) / 61)))), (0, aR 61), (2, aI x2), (4, aI x4)]) dX11_cut_65 (Nat.le_of_ble_eq_true rfl) rfl ?_
      obtain ⟨o5, h⟩ := h
      refine j_iinc (ll' := [(4, aI (x4 + 1)), (3, aI (bo_or x3 (bo_shl 1 ((M 85 x4) / 61)))), (0, aR 61), (2, aI x2)]) 3 dX11_cut_66 rfl (Nat.le_of_ble_eq_true rfl) o5 rfl ?_
      refine j_goto (tgt := 38) dX11_cut_69 (by decide) ?_
      refine j_sub [2, 3, 1, 0] rfl ?_
      exact h
set_option maxRecDepth 100000 in
set_option maxHeartbeats 4000000 in
theorem B_X11_up_0 {post : Int → ax_M → Prop} {M : ax_M} {x1 x2 : Int} (h : (((x2 = (-1)) → (((x1 < 0) → post (-1002) M) ∧ ((0 ≤ x1) → (((7 < x1) → post (-1002) M) ∧ ((x1 ≤ 7) → (((¬ (M 61 0) = 0) → ax_Ti Y_X11_upAll [aR 61, aI x1, aI (-1)] SH M (fun z2 u1 => post z2 u1)) ∧ (((M 61 0) = 0) → post (-1003) M))))))) ∧ ((¬ x2 = (-1)) → (-2147483648 ≤ ((M 61 0) - 1) ∧ ((M 61 0) - 1) ≤ 2147483647) ∧ (((x2 < 0) → post (-1001) M) ∧ ((0 ≤ x2) → (((((M 61 0) - 1) < x2) → post (-1001) M) ∧ ((x2 ≤ ((M 61 0) - 1)) → (((x1 < 0) → post (-1002) M) ∧ ((0 ≤ x1) → (((7 < x1) → post (-1002) M) ∧ ((x1 ≤ 7) → (((¬ (M 61 0) = 0) → ax_Ti Y_X11_upFrom [aR 61, aI x2, aI x1, aI (-1)] SH M (fun z4 u3 => post z4 u3)) ∧ (((M 61 0) = 0) → post (-1003) M))))))))))))) : ax_J Y_X11_up (ax_Ki Y_X11_up SH post) 0 0 0 [(0, aR 61), (1, aI x1), (2, aI x2)] [] SH M := by
  refine j_iload_n 2 dX11_up_0 rfl ?_
  refine j_iconst (x := (-1)) dX11_up_1 rfl (i32_c rfl) ?_
  refine j_icmp_eq (tgt := 17) dX11_up_2 (by decide) (fun c1 => ?_) (fun c1 => ?_)
  · replace h := h.1 c1
    refine j_iload_n 1 dX11_up_17 rfl ?_
    refine j_i2l dX11_up_18 ?_
    refine j_lconst (x := 0) dX11_up_19 rfl (i64_c rfl) ?_
    refine j_ldc2 (x := 7) dX11_up_20 (ax_in 1498 (by decide +kernel) rfl) (i64_c rfl) ?_
    refine j_calliS (Yc := Y_X11_in) (as := [aL x1, aL 0, aL 7]) (rest := []) dX11_up_23 q_X11_136 ⟨Nat.le_of_ble_eq_true rfl, Nat.le_of_ble_eq_true rfl, Nat.le_of_ble_eq_true rfl, Nat.le_of_ble_eq_true rfl⟩ rfl (Nat.le_of_ble_eq_true rfl) rfl (ti_of (ll := [(0, aL x1), (2, aL 0), (4, aL 7)]) rfl (Nat.le_of_ble_eq_true rfl) rfl (fun _ => ?_))
    refine j_lload_n 0 dX11_in_0 rfl ?_
    refine j_lload_n 1 dX11_in_1 rfl ?_
    refine j_lcmp_lt (tgt := 17) dX11_in_2 dX11_in_3 (by decide) (fun c2 => ?_) (fun c2 => ?_)
    · replace h := h.1 c2
      refine j_iconst (x := 0) dX11_in_17 rfl (i32_c rfl) ?_
      refine j_zret dX11_in_18 rfl ⟨Nat.le_of_ble_eq_true rfl, Nat.le_of_ble_eq_true rfl⟩ (by decide) ?_
      refine j_if_ne (tgt := 33) dX11_up_26 (by decide) (fun c => absurd c (by decide)) (fun _ => ?_)
      refine j_sipush (x := (-1002)) dX11_up_29 rfl (i32_c rfl) ?_
      exact j_iret dX11_up_32 rfl ⟨Nat.le_of_ble_eq_true rfl, Nat.le_of_ble_eq_true rfl⟩ (fun _ => h)
    · replace h := h.2 c2
      refine j_lload_n 0 dX11_in_6 rfl ?_
      refine j_lload 2 dX11_in_7 rfl ?_
      refine j_lcmp_gt (tgt := 17) dX11_in_9 dX11_in_10 (by decide) (fun c3 => ?_) (fun c3 => ?_)
      · replace h := h.1 c3
        refine j_iconst (x := 0) dX11_in_17 rfl (i32_c rfl) ?_
        refine j_zret dX11_in_18 rfl ⟨Nat.le_of_ble_eq_true rfl, Nat.le_of_ble_eq_true rfl⟩ (by decide) ?_
        refine j_if_ne (tgt := 33) dX11_up_26 (by decide) (fun c => absurd c (by decide)) (fun _ => ?_)
        refine j_sipush (x := (-1002)) dX11_up_29 rfl (i32_c rfl) ?_
        exact j_iret dX11_up_32 rfl ⟨Nat.le_of_ble_eq_true rfl, Nat.le_of_ble_eq_true rfl⟩ (fun _ => h)
      · replace h := h.2 c3
        refine j_iconst (x := 1) dX11_in_13 rfl (i32_c rfl) ?_
        refine j_goto (tgt := 18) dX11_in_14 (by decide) ?_
        refine j_zret dX11_in_18 rfl ⟨Nat.le_of_ble_eq_true rfl, Nat.le_of_ble_eq_true rfl⟩ (by decide) ?_
        refine j_if_ne (tgt := 33) dX11_up_26 (by decide) (fun _ => ?_) (fun c => absurd c (by decide))
        refine j_aload_n 0 dX11_up_33 rfl ?_
        refine j_geti (i := 0) dX11_up_34 f_X11_133 sh_61 rfl rfl (fun _ => ?_)
        refine j_if_ne (tgt := 46) dX11_up_37 (by decide) (fun c4 => ?_) (fun c4 => ?_)
        · replace h := h.1 c4
          refine j_iload_n 2 dX11_up_46 rfl ?_
          refine j_iconst (x := (-1)) dX11_up_47 rfl (i32_c rfl) ?_
          refine j_icmp_ne (tgt := 60) dX11_up_48 (by decide) (fun c => by have := c1; omega) (fun _ => ?_)
          refine j_aload_n 0 dX11_up_51 rfl ?_
          refine j_iload_n 1 dX11_up_52 rfl ?_
          refine j_iconst (x := (-1)) dX11_up_53 rfl (i32_c rfl) ?_
          refine j_calliV (Yc := Y_X11_upAll) (as := [aI x1, aI (-1)]) (rest := []) dX11_up_54 q_X11_337 ⟨Nat.le_of_ble_eq_true rfl, Nat.le_of_ble_eq_true rfl, Nat.le_of_ble_eq_true rfl, Nat.le_of_ble_eq_true rfl⟩ sh_61 rfl (Nat.le_of_ble_eq_true rfl) rfl (ti_mono h (fun z2 u1 h => ?_))
          refine j_goto (tgt := 67) dX11_up_57 (by decide) ?_
          exact j_iret dX11_up_67 rfl ⟨Nat.le_of_ble_eq_true rfl, Nat.le_of_ble_eq_true rfl⟩ (fun _ => h)
        · replace h := h.2 c4
          refine j_sipush (x := (-1003)) dX11_up_40 rfl (i32_c rfl) ?_
          refine j_goto (tgt := 67) dX11_up_43 (by decide) ?_
          exact j_iret dX11_up_67 rfl ⟨Nat.le_of_ble_eq_true rfl, Nat.le_of_ble_eq_true rfl⟩ (fun _ => h)
  · replace h := h.2 c1
    refine j_aload_n 0 dX11_up_5 rfl ?_
    refine j_iload_n 2 dX11_up_6 rfl ?_
    refine j_calliV (Yc := Y_X11_isPlace) (as := [aI x2]) (rest := []) dX11_up_7 q_X11_257 ⟨Nat.le_of_ble_eq_true rfl, Nat.le_of_ble_eq_true rfl, Nat.le_of_ble_eq_true rfl, Nat.le_of_ble_eq_true rfl⟩ sh_61 rfl (Nat.le_of_ble_eq_true rfl) rfl (ti_of (ll := [(0, aR 61), (1, aI x2)]) rfl (Nat.le_of_ble_eq_true rfl) rfl (fun _ => ?_))
    refine j_iload_n 1 dX11_isPlace_0 rfl ?_
    refine j_i2l dX11_isPlace_1 ?_
    refine j_lconst (x := 0) dX11_isPlace_2 rfl (i64_c rfl) ?_
    refine j_aload_n 0 dX11_isPlace_3 rfl ?_
    refine j_geti (i := 0) dX11_isPlace_4 f_X11_133 sh_61 rfl rfl (fun _ => ?_)
    refine j_iconst (x := 1) dX11_isPlace_7 rfl (i32_c rfl) ?_
    obtain ⟨o5, h⟩ := h
    refine j_isub (z := ((M 61 0) - 1)) dX11_isPlace_8 rfl o5 ?_
    refine j_i2l dX11_isPlace_9 ?_
    refine j_calliS (Yc := Y_X11_in) (as := [aL x2, aL 0, aL ((M 61 0) - 1)]) (rest := []) dX11_isPlace_10 q_X11_136 ⟨Nat.le_of_ble_eq_true rfl, Nat.le_of_ble_eq_true rfl, Nat.le_of_ble_eq_true rfl, Nat.le_of_ble_eq_true rfl⟩ rfl (Nat.le_of_ble_eq_true rfl) rfl (ti_of (ll := [(0, aL x2), (2, aL 0), (4, aL ((M 61 0) - 1))]) rfl (Nat.le_of_ble_eq_true rfl) rfl (fun _ => ?_))
    refine j_lload_n 0 dX11_in_0 rfl ?_
    refine j_lload_n 1 dX11_in_1 rfl ?_
    refine j_lcmp_lt (tgt := 17) dX11_in_2 dX11_in_3 (by decide) (fun c6 => ?_) (fun c6 => ?_)
    · replace h := h.1 c6
      refine j_iconst (x := 0) dX11_in_17 rfl (i32_c rfl) ?_
      refine j_zret dX11_in_18 rfl ⟨Nat.le_of_ble_eq_true rfl, Nat.le_of_ble_eq_true rfl⟩ (by decide) ?_
      refine j_zret dX11_isPlace_13 rfl ⟨Nat.le_of_ble_eq_true rfl, Nat.le_of_ble_eq_true rfl⟩ (by decide) ?_
      refine j_if_ne (tgt := 17) dX11_up_10 (by decide) (fun c => absurd c (by decide)) (fun _ => ?_)
      refine j_sipush (x := (-1001)) dX11_up_13 rfl (i32_c rfl) ?_
      exact j_iret dX11_up_16 rfl ⟨Nat.le_of_ble_eq_true rfl, Nat.le_of_ble_eq_true rfl⟩ (fun _ => h)
    · replace h := h.2 c6
      refine j_lload_n 0 dX11_in_6 rfl ?_
      refine j_lload 2 dX11_in_7 rfl ?_
      refine j_lcmp_gt (tgt := 17) dX11_in_9 dX11_in_10 (by decide) (fun c7 => ?_) (fun c7 => ?_)
      · replace h := h.1 c7
        refine j_iconst (x := 0) dX11_in_17 rfl (i32_c rfl) ?_
        refine j_zret dX11_in_18 rfl ⟨Nat.le_of_ble_eq_true rfl, Nat.le_of_ble_eq_true rfl⟩ (by decide) ?_
        refine j_zret dX11_isPlace_13 rfl ⟨Nat.le_of_ble_eq_true rfl, Nat.le_of_ble_eq_true rfl⟩ (by decide) ?_
        refine j_if_ne (tgt := 17) dX11_up_10 (by decide) (fun c => absurd c (by decide)) (fun _ => ?_)
        refine j_sipush (x := (-1001)) dX11_up_13 rfl (i32_c rfl) ?_
        exact j_iret dX11_up_16 rfl ⟨Nat.le_of_ble_eq_true rfl, Nat.le_of_ble_eq_true rfl⟩ (fun _ => h)
      · replace h := h.2 c7
        refine j_iconst (x := 1) dX11_in_13 rfl (i32_c rfl) ?_
        refine j_goto (tgt := 18) dX11_in_14 (by decide) ?_
        refine j_zret dX11_in_18 rfl ⟨Nat.le_of_ble_eq_true rfl, Nat.le_of_ble_eq_true rfl⟩ (by decide) ?_
        refine j_zret dX11_isPlace_13 rfl ⟨Nat.le_of_ble_eq_true rfl, Nat.le_of_ble_eq_true rfl⟩ (by decide) ?_
        refine j_if_ne (tgt := 17) dX11_up_10 (by decide) (fun _ => ?_) (fun c => absurd c (by decide))
        refine j_iload_n 1 dX11_up_17 rfl ?_
        refine j_i2l dX11_up_18 ?_
        refine j_lconst (x := 0) dX11_up_19 rfl (i64_c rfl) ?_
        refine j_ldc2 (x := 7) dX11_up_20 (ax_in 1498 (by decide +kernel) rfl) (i64_c rfl) ?_
        refine j_calliS (Yc := Y_X11_in) (as := [aL x1, aL 0, aL 7]) (rest := []) dX11_up_23 q_X11_136 ⟨Nat.le_of_ble_eq_true rfl, Nat.le_of_ble_eq_true rfl, Nat.le_of_ble_eq_true rfl, Nat.le_of_ble_eq_true rfl⟩ rfl (Nat.le_of_ble_eq_true rfl) rfl (ti_of (ll := [(0, aL x1), (2, aL 0), (4, aL 7)]) rfl (Nat.le_of_ble_eq_true rfl) rfl (fun _ => ?_))
        refine j_lload_n 0 dX11_in_0 rfl ?_
        refine j_lload_n 1 dX11_in_1 rfl ?_
        refine j_lcmp_lt (tgt := 17) dX11_in_2 dX11_in_3 (by decide) (fun c8 => ?_) (fun c8 => ?_)
        · replace h := h.1 c8
          refine j_iconst (x := 0) dX11_in_17 rfl (i32_c rfl) ?_
          refine j_zret dX11_in_18 rfl ⟨Nat.le_of_ble_eq_true rfl, Nat.le_of_ble_eq_true rfl⟩ (by decide) ?_
          refine j_if_ne (tgt := 33) dX11_up_26 (by decide) (fun c => absurd c (by decide)) (fun _ => ?_)
          refine j_sipush (x := (-1002)) dX11_up_29 rfl (i32_c rfl) ?_
          exact j_iret dX11_up_32 rfl ⟨Nat.le_of_ble_eq_true rfl, Nat.le_of_ble_eq_true rfl⟩ (fun _ => h)
        · replace h := h.2 c8
          refine j_lload_n 0 dX11_in_6 rfl ?_
          refine j_lload 2 dX11_in_7 rfl ?_
          refine j_lcmp_gt (tgt := 17) dX11_in_9 dX11_in_10 (by decide) (fun c9 => ?_) (fun c9 => ?_)
          · replace h := h.1 c9
            refine j_iconst (x := 0) dX11_in_17 rfl (i32_c rfl) ?_
            refine j_zret dX11_in_18 rfl ⟨Nat.le_of_ble_eq_true rfl, Nat.le_of_ble_eq_true rfl⟩ (by decide) ?_
            refine j_if_ne (tgt := 33) dX11_up_26 (by decide) (fun c => absurd c (by decide)) (fun _ => ?_)
            refine j_sipush (x := (-1002)) dX11_up_29 rfl (i32_c rfl) ?_
            exact j_iret dX11_up_32 rfl ⟨Nat.le_of_ble_eq_true rfl, Nat.le_of_ble_eq_true rfl⟩ (fun _ => h)
          · replace h := h.2 c9
            refine j_iconst (x := 1) dX11_in_13 rfl (i32_c rfl) ?_
            refine j_goto (tgt := 18) dX11_in_14 (by decide) ?_
            refine j_zret dX11_in_18 rfl ⟨Nat.le_of_ble_eq_true rfl, Nat.le_of_ble_eq_true rfl⟩ (by decide) ?_
            refine j_if_ne (tgt := 33) dX11_up_26 (by decide) (fun _ => ?_) (fun c => absurd c (by decide))
            refine j_aload_n 0 dX11_up_33 rfl ?_
            refine j_geti (i := 0) dX11_up_34 f_X11_133 sh_61 rfl rfl (fun _ => ?_)
            refine j_if_ne (tgt := 46) dX11_up_37 (by decide) (fun c10 => ?_) (fun c10 => ?_)
            · replace h := h.1 c10
              refine j_iload_n 2 dX11_up_46 rfl ?_
              refine j_iconst (x := (-1)) dX11_up_47 rfl (i32_c rfl) ?_
              refine j_icmp_ne (tgt := 60) dX11_up_48 (by decide) (fun _ => ?_) (fun c => by have := c1; omega)
              refine j_aload_n 0 dX11_up_60 rfl ?_
              refine j_iload_n 2 dX11_up_61 rfl ?_
              refine j_iload_n 1 dX11_up_62 rfl ?_
              refine j_iconst (x := (-1)) dX11_up_63 rfl (i32_c rfl) ?_
              refine j_calliV (Yc := Y_X11_upFrom) (as := [aI x2, aI x1, aI (-1)]) (rest := []) dX11_up_64 q_X11_331 ⟨Nat.le_of_ble_eq_true rfl, Nat.le_of_ble_eq_true rfl, Nat.le_of_ble_eq_true rfl, Nat.le_of_ble_eq_true rfl⟩ sh_61 rfl (Nat.le_of_ble_eq_true rfl) rfl (ti_mono h (fun z4 u3 h => ?_))
              exact j_iret dX11_up_67 rfl ⟨Nat.le_of_ble_eq_true rfl, Nat.le_of_ble_eq_true rfl⟩ (fun _ => h)
            · replace h := h.2 c10
              refine j_sipush (x := (-1003)) dX11_up_40 rfl (i32_c rfl) ?_
              refine j_goto (tgt := 67) dX11_up_43 (by decide) ?_
              exact j_iret dX11_up_67 rfl ⟨Nat.le_of_ble_eq_true rfl, Nat.le_of_ble_eq_true rfl⟩ (fun _ => h)
theorem E_X11_up {post : Int → ax_M → Prop} {M : ax_M} {x1 x2 : Int} (h : ax_mr SH M → (((x2 = (-1)) → (((x1 < 0) → post (-1002) M) ∧ ((0 ≤ x1) → (((7 < x1) → post (-1002) M) ∧ ((x1 ≤ 7) → (((¬ (M 61 0) = 0) → ax_Ti Y_X11_upAll [aR 61, aI x1, aI (-1)] SH M (fun z2 u1 => post z2 u1)) ∧ (((M 61 0) = 0) → post (-1003) M))))))) ∧ ((¬ x2 = (-1)) → (-2147483648 ≤ ((M 61 0) - 1) ∧ ((M 61 0) - 1) ≤ 2147483647) ∧ (((x2 < 0) → post (-1001) M) ∧ ((0 ≤ x2) → (((((M 61 0) - 1) < x2) → post (-1001) M) ∧ ((x2 ≤ ((M 61 0) - 1)) → (((x1 < 0) → post (-1002) M) ∧ ((0 ≤ x1) → (((7 < x1) → post (-1002) M) ∧ ((x1 ≤ 7) → (((¬ (M 61 0) = 0) → ax_Ti Y_X11_upFrom [aR 61, aI x2, aI x1, aI (-1)] SH M (fun z4 u3 => post z4 u3)) ∧ (((M 61 0) = 0) → post (-1003) M))))))))))))) : ax_Ti Y_X11_up [aR 61, aI x1, aI x2] SH M post :=
  ti_of rfl (Nat.le_of_ble_eq_true rfl) rfl (fun q => B_X11_up_0 (h q))
set_option maxRecDepth 100000 in
set_option maxHeartbeats 4000000 in
theorem B_X11_lent_0 {post : Int → ax_M → Prop} {M : ax_M} {x1 x2 : Int} (h : (-2147483648 ≤ ((M 61 29) - 1) ∧ ((M 61 29) - 1) ≤ 2147483647) ∧ (((x1 < 0) → post (-1001) M) ∧ ((0 ≤ x1) → (((((M 61 29) - 1) < x1) → post (-1001) M) ∧ ((x1 ≤ ((M 61 29) - 1)) → (-2147483648 ≤ ((M 61 0) - 1) ∧ ((M 61 0) - 1) ≤ 2147483647) ∧ (((x2 < 0) → post (-1001) M) ∧ ((0 ≤ x2) → (((((M 61 0) - 1) < x2) → post (-1001) M) ∧ ((x2 ≤ ((M 61 0) - 1)) → (0 ≤ x1 ∧ x1 < 4) ∧ ax_Ti Y_X11_lineUp [aR 61, aI (M 75 x1)] SH M (fun z2 u1 => (((¬ z2 = 0) → (0 ≤ (u1 86 0) ∧ (u1 86 0) < 8) ∧ ax_Ti Y_X11_comes [aR 61, aI (u1 75 x1), aI x2, aI 0, aI (u1 76 x1), aI (u1 74 (u1 86 0))] SH u1 (fun z4 u3 => ax_J Y_X11_lent (ax_Ki Y_X11_lent SH post) 0 0 75 [(0, aR 61), (1, aI x1), (2, aI x2), (4, aI (u1 74 (u1 86 0))), (5, aI z4), (6, aI 0)] [] SH u3)) ∧ ((z2 = 0) → post (-1) u1)))))))))))) : ax_J Y_X11_lent (ax_Ki Y_X11_lent SH post) 0 0 0 [(0, aR 61), (1, aI x1), (2, aI x2)] [] SH M := by
  refine j_aload_n 0 dX11_lent_0 rfl ?_
  refine j_iload_n 1 dX11_lent_1 rfl ?_
  refine j_calliV (Yc := Y_X11_isLamp) (as := [aI x1]) (rest := []) dX11_lent_2 q_X11_266 ⟨Nat.le_of_ble_eq_true rfl, Nat.le_of_ble_eq_true rfl, Nat.le_of_ble_eq_true rfl, Nat.le_of_ble_eq_true rfl⟩ sh_61 rfl (Nat.le_of_ble_eq_true rfl) rfl (ti_of (ll := [(0, aR 61), (1, aI x1)]) rfl (Nat.le_of_ble_eq_true rfl) rfl (fun _ => ?_))
  refine j_iload_n 1 dX11_isLamp_0 rfl ?_
  refine j_i2l dX11_isLamp_1 ?_
  refine j_lconst (x := 0) dX11_isLamp_2 rfl (i64_c rfl) ?_
  refine j_aload_n 0 dX11_isLamp_3 rfl ?_
  refine j_geti (i := 29) dX11_isLamp_4 f_X11_243 sh_61 rfl rfl (fun _ => ?_)
  refine j_iconst (x := 1) dX11_isLamp_7 rfl (i32_c rfl) ?_
  obtain ⟨o1, h⟩ := h
  refine j_isub (z := ((M 61 29) - 1)) dX11_isLamp_8 rfl o1 ?_
  refine j_i2l dX11_isLamp_9 ?_
  refine j_calliS (Yc := Y_X11_in) (as := [aL x1, aL 0, aL ((M 61 29) - 1)]) (rest := []) dX11_isLamp_10 q_X11_136 ⟨Nat.le_of_ble_eq_true rfl, Nat.le_of_ble_eq_true rfl, Nat.le_of_ble_eq_true rfl, Nat.le_of_ble_eq_true rfl⟩ rfl (Nat.le_of_ble_eq_true rfl) rfl (ti_of (ll := [(0, aL x1), (2, aL 0), (4, aL ((M 61 29) - 1))]) rfl (Nat.le_of_ble_eq_true rfl) rfl (fun _ => ?_))
  refine j_lload_n 0 dX11_in_0 rfl ?_
  refine j_lload_n 1 dX11_in_1 rfl ?_
  refine j_lcmp_lt (tgt := 17) dX11_in_2 dX11_in_3 (by decide) (fun c2 => ?_) (fun c2 => ?_)
  · replace h := h.1 c2
    refine j_iconst (x := 0) dX11_in_17 rfl (i32_c rfl) ?_
    refine j_zret dX11_in_18 rfl ⟨Nat.le_of_ble_eq_true rfl, Nat.le_of_ble_eq_true rfl⟩ (by decide) ?_
    refine j_zret dX11_isLamp_13 rfl ⟨Nat.le_of_ble_eq_true rfl, Nat.le_of_ble_eq_true rfl⟩ (by decide) ?_
    refine j_if_eq (tgt := 16) dX11_lent_5 (by decide) (fun _ => ?_) (fun c => absurd c (by decide))
    refine j_sipush (x := (-1001)) dX11_lent_16 rfl (i32_c rfl) ?_
    exact j_iret dX11_lent_19 rfl ⟨Nat.le_of_ble_eq_true rfl, Nat.le_of_ble_eq_true rfl⟩ (fun _ => h)
  · replace h := h.2 c2
    refine j_lload_n 0 dX11_in_6 rfl ?_
    refine j_lload 2 dX11_in_7 rfl ?_
    refine j_lcmp_gt (tgt := 17) dX11_in_9 dX11_in_10 (by decide) (fun c3 => ?_) (fun c3 => ?_)
    · replace h := h.1 c3
      refine j_iconst (x := 0) dX11_in_17 rfl (i32_c rfl) ?_
      refine j_zret dX11_in_18 rfl ⟨Nat.le_of_ble_eq_true rfl, Nat.le_of_ble_eq_true rfl⟩ (by decide) ?_
      refine j_zret dX11_isLamp_13 rfl ⟨Nat.le_of_ble_eq_true rfl, Nat.le_of_ble_eq_true rfl⟩ (by decide) ?_
      refine j_if_eq (tgt := 16) dX11_lent_5 (by decide) (fun _ => ?_) (fun c => absurd c (by decide))
      refine j_sipush (x := (-1001)) dX11_lent_16 rfl (i32_c rfl) ?_
      exact j_iret dX11_lent_19 rfl ⟨Nat.le_of_ble_eq_true rfl, Nat.le_of_ble_eq_true rfl⟩ (fun _ => h)
    · replace h := h.2 c3
      refine j_iconst (x := 1) dX11_in_13 rfl (i32_c rfl) ?_
      refine j_goto (tgt := 18) dX11_in_14 (by decide) ?_
      refine j_zret dX11_in_18 rfl ⟨Nat.le_of_ble_eq_true rfl, Nat.le_of_ble_eq_true rfl⟩ (by decide) ?_
      refine j_zret dX11_isLamp_13 rfl ⟨Nat.le_of_ble_eq_true rfl, Nat.le_of_ble_eq_true rfl⟩ (by decide) ?_
      refine j_if_eq (tgt := 16) dX11_lent_5 (by decide) (fun c => absurd c (by decide)) (fun _ => ?_)
      refine j_aload_n 0 dX11_lent_8 rfl ?_
      refine j_iload_n 2 dX11_lent_9 rfl ?_
      refine j_calliV (Yc := Y_X11_isPlace) (as := [aI x2]) (rest := []) dX11_lent_10 q_X11_257 ⟨Nat.le_of_ble_eq_true rfl, Nat.le_of_ble_eq_true rfl, Nat.le_of_ble_eq_true rfl, Nat.le_of_ble_eq_true rfl⟩ sh_61 rfl (Nat.le_of_ble_eq_true rfl) rfl (ti_of (ll := [(0, aR 61), (1, aI x2)]) rfl (Nat.le_of_ble_eq_true rfl) rfl (fun _ => ?_))
      refine j_iload_n 1 dX11_isPlace_0 rfl ?_
      refine j_i2l dX11_isPlace_1 ?_
      refine j_lconst (x := 0) dX11_isPlace_2 rfl (i64_c rfl) ?_
      refine j_aload_n 0 dX11_isPlace_3 rfl ?_
      refine j_geti (i := 0) dX11_isPlace_4 f_X11_133 sh_61 rfl rfl (fun _ => ?_)
      refine j_iconst (x := 1) dX11_isPlace_7 rfl (i32_c rfl) ?_
      obtain ⟨o4, h⟩ := h
      refine j_isub (z := ((M 61 0) - 1)) dX11_isPlace_8 rfl o4 ?_
      refine j_i2l dX11_isPlace_9 ?_
      refine j_calliS (Yc := Y_X11_in) (as := [aL x2, aL 0, aL ((M 61 0) - 1)]) (rest := []) dX11_isPlace_10 q_X11_136 ⟨Nat.le_of_ble_eq_true rfl, Nat.le_of_ble_eq_true rfl, Nat.le_of_ble_eq_true rfl, Nat.le_of_ble_eq_true rfl⟩ rfl (Nat.le_of_ble_eq_true rfl) rfl (ti_of (ll := [(0, aL x2), (2, aL 0), (4, aL ((M 61 0) - 1))]) rfl (Nat.le_of_ble_eq_true rfl) rfl (fun _ => ?_))
      refine j_lload_n 0 dX11_in_0 rfl ?_
      refine j_lload_n 1 dX11_in_1 rfl ?_
      refine j_lcmp_lt (tgt := 17) dX11_in_2 dX11_in_3 (by decide) (fun c5 => ?_) (fun c5 => ?_)
      · replace h := h.1 c5
        refine j_iconst (x := 0) dX11_in_17 rfl (i32_c rfl) ?_
        refine j_zret dX11_in_18 rfl ⟨Nat.le_of_ble_eq_true rfl, Nat.le_of_ble_eq_true rfl⟩ (by decide) ?_
        refine j_zret dX11_isPlace_13 rfl ⟨Nat.le_of_ble_eq_true rfl, Nat.le_of_ble_eq_true rfl⟩ (by decide) ?_
        refine j_if_ne (tgt := 20) dX11_lent_13 (by decide) (fun c => absurd c (by decide)) (fun _ => ?_)
        refine j_sipush (x := (-1001)) dX11_lent_16 rfl (i32_c rfl) ?_
        exact j_iret dX11_lent_19 rfl ⟨Nat.le_of_ble_eq_true rfl, Nat.le_of_ble_eq_true rfl⟩ (fun _ => h)
      · replace h := h.2 c5
        refine j_lload_n 0 dX11_in_6 rfl ?_
        refine j_lload 2 dX11_in_7 rfl ?_
        refine j_lcmp_gt (tgt := 17) dX11_in_9 dX11_in_10 (by decide) (fun c6 => ?_) (fun c6 => ?_)
        · replace h := h.1 c6
          refine j_iconst (x := 0) dX11_in_17 rfl (i32_c rfl) ?_
          refine j_zret dX11_in_18 rfl ⟨Nat.le_of_ble_eq_true rfl, Nat.le_of_ble_eq_true rfl⟩ (by decide) ?_
          refine j_zret dX11_isPlace_13 rfl ⟨Nat.le_of_ble_eq_true rfl, Nat.le_of_ble_eq_true rfl⟩ (by decide) ?_
          refine j_if_ne (tgt := 20) dX11_lent_13 (by decide) (fun c => absurd c (by decide)) (fun _ => ?_)
          refine j_sipush (x := (-1001)) dX11_lent_16 rfl (i32_c rfl) ?_
          exact j_iret dX11_lent_19 rfl ⟨Nat.le_of_ble_eq_true rfl, Nat.le_of_ble_eq_true rfl⟩ (fun _ => h)
        · replace h := h.2 c6
          refine j_iconst (x := 1) dX11_in_13 rfl (i32_c rfl) ?_
          refine j_goto (tgt := 18) dX11_in_14 (by decide) ?_
          refine j_zret dX11_in_18 rfl ⟨Nat.le_of_ble_eq_true rfl, Nat.le_of_ble_eq_true rfl⟩ (by decide) ?_
          refine j_zret dX11_isPlace_13 rfl ⟨Nat.le_of_ble_eq_true rfl, Nat.le_of_ble_eq_true rfl⟩ (by decide) ?_
          refine j_if_ne (tgt := 20) dX11_lent_13 (by decide) (fun _ => ?_) (fun c => absurd c (by decide))
          refine j_aload_n 0 dX11_lent_20 rfl ?_
          refine j_aload_n 0 dX11_lent_21 rfl ?_
          refine j_getc 75 dX11_lent_22 f_X11_57 sh_61 rfl ?_
          refine j_iload_n 1 dX11_lent_25 rfl ?_
          obtain ⟨o7, h⟩ := h
          refine j_iald dX11_lent_26 sh_75 o7.1 o7.2 (fun _ => ?_)
          refine j_calliV (Yc := Y_X11_lineUp) (as := [aI (M 75 x1)]) (rest := []) dX11_lent_27 q_X11_328 ⟨Nat.le_of_ble_eq_true rfl, Nat.le_of_ble_eq_true rfl, Nat.le_of_ble_eq_true rfl, Nat.le_of_ble_eq_true rfl⟩ sh_61 rfl (Nat.le_of_ble_eq_true rfl) rfl (ti_mono h (fun z2 u1 h => ?_))
          refine j_if_ne (tgt := 35) dX11_lent_30 (by decide) (fun c8 => ?_) (fun c8 => ?_)
          · replace h := h.1 c8
            refine j_aload_n 0 dX11_lent_35 rfl ?_
            refine j_getc 86 dX11_lent_36 f_X11_93 sh_61 rfl ?_
            refine j_iconst (x := 0) dX11_lent_39 rfl (i32_c rfl) ?_
            refine j_iald dX11_lent_40 sh_86 (by decide) (by decide) (fun _ => ?_)
            refine j_istore_n (ll' := [(3, aI (u1 86 0)), (0, aR 61), (1, aI x1), (2, aI x2)]) dX11_lent_41 (Nat.le_of_ble_eq_true rfl) rfl ?_
            refine j_aload_n 1 dX11_lent_42 rfl ?_
            refine j_getc 74 dX11_lent_43 f_X11_54 sh_61 rfl ?_
            refine j_iload_n 0 dX11_lent_46 rfl ?_
            obtain ⟨o9, h⟩ := h
            refine j_zald dX11_lent_47 sh_74 o9.1 o9.2 (fun _ => ?_)
            refine j_istore (ll' := [(4, aI (u1 74 (u1 86 0))), (3, aI (u1 86 0)), (0, aR 61), (1, aI x1), (2, aI x2)]) dX11_lent_48 (Nat.le_of_ble_eq_true rfl) rfl ?_
            refine j_aload_n 2 dX11_lent_50 rfl ?_
            refine j_aload_n 2 dX11_lent_51 rfl ?_
            refine j_getc 75 dX11_lent_52 f_X11_57 sh_61 rfl ?_
            refine j_iload_n 3 dX11_lent_55 rfl ?_
            refine j_iald dX11_lent_56 sh_75 o7.1 o7.2 (fun _ => ?_)
            refine j_iload_n 4 dX11_lent_57 rfl ?_
            refine j_iconst (x := 0) dX11_lent_58 rfl (i32_c rfl) ?_
            refine j_aload_n 2 dX11_lent_59 rfl ?_
            refine j_getc 76 dX11_lent_60 f_X11_60 sh_61 rfl ?_
            refine j_iload_n 3 dX11_lent_63 rfl ?_
            refine j_iald dX11_lent_64 sh_76 o7.1 o7.2 (fun _ => ?_)
            refine j_iload 0 dX11_lent_65 rfl ?_
            refine j_calliV (Yc := Y_X11_comes) (as := [aI (u1 75 x1), aI x2, aI 0, aI (u1 76 x1), aI (u1 74 (u1 86 0))]) (rest := []) dX11_lent_67 q_X11_287 ⟨Nat.le_of_ble_eq_true rfl, Nat.le_of_ble_eq_true rfl, Nat.le_of_ble_eq_true rfl, Nat.le_of_ble_eq_true rfl⟩ sh_61 rfl (Nat.le_of_ble_eq_true rfl) rfl (ti_mono h (fun z4 u3 h => ?_))
            refine j_istore (ll' := [(5, aI z4), (4, aI (u1 74 (u1 86 0))), (3, aI (u1 86 0)), (0, aR 61), (1, aI x1), (2, aI x2)]) dX11_lent_70 (Nat.le_of_ble_eq_true rfl) rfl ?_
            refine j_iconst (x := 0) dX11_lent_72 rfl (i32_c rfl) ?_
            refine j_istore (ll' := [(6, aI 0), (5, aI z4), (4, aI (u1 74 (u1 86 0))), (3, aI (u1 86 0)), (0, aR 61), (1, aI x1), (2, aI x2)]) dX11_lent_73 (Nat.le_of_ble_eq_true rfl) rfl ?_
            refine j_sub [4, 5, 6, 2, 1, 0] rfl ?_
            exact h
          · replace h := h.2 c8
            refine j_iconst (x := (-1)) dX11_lent_33 rfl (i32_c rfl) ?_
            exact j_iret dX11_lent_34 rfl ⟨Nat.le_of_ble_eq_true rfl, Nat.le_of_ble_eq_true rfl⟩ (fun _ => h)
theorem E_X11_lent {post : Int → ax_M → Prop} {M : ax_M} {x1 x2 : Int} (h : ax_mr SH M → (-2147483648 ≤ ((M 61 29) - 1) ∧ ((M 61 29) - 1) ≤ 2147483647) ∧ (((x1 < 0) → post (-1001) M) ∧ ((0 ≤ x1) → (((((M 61 29) - 1) < x1) → post (-1001) M) ∧ ((x1 ≤ ((M 61 29) - 1)) → (-2147483648 ≤ ((M 61 0) - 1) ∧ ((M 61 0) - 1) ≤ 2147483647) ∧ (((x2 < 0) → post (-1001) M) ∧ ((0 ≤ x2) → (((((M 61 0) - 1) < x2) → post (-1001) M) ∧ ((x2 ≤ ((M 61 0) - 1)) → (0 ≤ x1 ∧ x1 < 4) ∧ ax_Ti Y_X11_lineUp [aR 61, aI (M 75 x1)] SH M (fun z2 u1 => (((¬ z2 = 0) → (0 ≤ (u1 86 0) ∧ (u1 86 0) < 8) ∧ ax_Ti Y_X11_comes [aR 61, aI (u1 75 x1), aI x2, aI 0, aI (u1 76 x1), aI (u1 74 (u1 86 0))] SH u1 (fun z4 u3 => ax_J Y_X11_lent (ax_Ki Y_X11_lent SH post) 0 0 75 [(0, aR 61), (1, aI x1), (2, aI x2), (4, aI (u1 74 (u1 86 0))), (5, aI z4), (6, aI 0)] [] SH u3)) ∧ ((z2 = 0) → post (-1) u1)))))))))))) : ax_Ti Y_X11_lent [aR 61, aI x1, aI x2] SH M post :=
  ti_of rfl (Nat.le_of_ble_eq_true rfl) rfl (fun q => B_X11_lent_0 (h q))
set_option maxRecDepth 100000 in
set_option maxHeartbeats 4000000 in
theorem B_X11_lent_75 {post : Int → ax_M → Prop} {M : ax_M} {x1 x2 x4 x5 x6 : Int} (h : ((((M 61 25) ≤ x6) → (((0 ≤ x5) → (0 ≤ x1 ∧ x1 < 4) ∧ ax_Ti Y_X11_comes [aR 61, aI x2, aI (M 61 1), aI x5, aI (M 76 x1), aI x4] SH M (fun z2 u1 => post z2 u1)) ∧ ((x5 < 0) → post (-1) M))) ∧ ((x6 < (M 61 25)) → (((¬ x4 = 0) → (-2147483648 ≤ (x6 + 1) ∧ (x6 + 1) ≤ 2147483647) ∧ ax_J Y_X11_lent (ax_Ki Y_X11_lent SH post) 0 0 75 [(0, aR 61), (1, aI x1), (2, aI x2), (4, aI 1), (5, aI x5), (6, aI (x6 + 1))] [] SH M) ∧ ((x4 = 0) → (0 ≤ x6 ∧ x6 < 8) ∧ (((¬ (M 72 x6) = x2) → (-2147483648 ≤ (x6 + 1) ∧ (x6 + 1) ≤ 2147483647) ∧ ax_J Y_X11_lent (ax_Ki Y_X11_lent SH post) 0 0 75 [(0, aR 61), (1, aI x1), (2, aI x2), (4, aI 0), (5, aI x5), (6, aI (x6 + 1))] [] SH M) ∧ (((M 72 x6) = x2) → ((((M 74 x6) = 0) → (-2147483648 ≤ (x6 + 1) ∧ (x6 + 1) ≤ 2147483647) ∧ ax_J Y_X11_lent (ax_Ki Y_X11_lent SH post) 0 0 75 [(0, aR 61), (1, aI x1), (2, aI x2), (4, aI 0), (5, aI x5), (6, aI (x6 + 1))] [] SH M) ∧ ((¬ (M 74 x6) = 0) → (-2147483648 ≤ (x6 + 1) ∧ (x6 + 1) ≤ 2147483647) ∧ ax_J Y_X11_lent (ax_Ki Y_X11_lent SH post) 0 0 75 [(0, aR 61), (1, aI x1), (2, aI x2), (4, aI 1), (5, aI x5), (6, aI (x6 + 1))] [] SH M))))))))) : ax_J Y_X11_lent (ax_Ki Y_X11_lent SH post) 0 0 75 [(0, aR 61), (1, aI x1), (2, aI x2), (4, aI x4), (5, aI x5), (6, aI x6)] [] SH M := by
  refine j_iload 5 dX11_lent_75 rfl ?_
  refine j_aload_n 0 dX11_lent_77 rfl ?_
  refine j_geti (i := 25) dX11_lent_78 f_X11_240 sh_61 rfl rfl (fun _ => ?_)
  refine j_icmp_ge (tgt := 123) dX11_lent_81 (by decide) (fun c1 => ?_) (fun c1 => ?_)
  · replace h := h.1 c1
    refine j_iload 4 dX11_lent_123 rfl ?_
    refine j_if_ge (tgt := 132) dX11_lent_125 (by decide) (fun c2 => ?_) (fun c2 => ?_)
    · replace h := h.1 c2
      refine j_aload_n 0 dX11_lent_132 rfl ?_
      refine j_iload_n 2 dX11_lent_133 rfl ?_
      refine j_aload_n 0 dX11_lent_134 rfl ?_
      refine j_geti (i := 1) dX11_lent_135 f_X11_9 sh_61 rfl rfl (fun _ => ?_)
      refine j_iload 4 dX11_lent_138 rfl ?_
      refine j_aload_n 0 dX11_lent_140 rfl ?_
      refine j_getc 76 dX11_lent_141 f_X11_60 sh_61 rfl ?_
      refine j_iload_n 1 dX11_lent_144 rfl ?_
      obtain ⟨o3, h⟩ := h
      refine j_iald dX11_lent_145 sh_76 o3.1 o3.2 (fun _ => ?_)
      refine j_iload 3 dX11_lent_146 rfl ?_
      refine j_calliV (Yc := Y_X11_comes) (as := [aI x2, aI (M 61 1), aI x5, aI (M 76 x1), aI x4]) (rest := []) dX11_lent_148 q_X11_287 ⟨Nat.le_of_ble_eq_true rfl, Nat.le_of_ble_eq_true rfl, Nat.le_of_ble_eq_true rfl, Nat.le_of_ble_eq_true rfl⟩ sh_61 rfl (Nat.le_of_ble_eq_true rfl) rfl (ti_mono h (fun z2 u1 h => ?_))
      exact j_iret dX11_lent_151 rfl ⟨Nat.le_of_ble_eq_true rfl, Nat.le_of_ble_eq_true rfl⟩ (fun _ => h)
    · replace h := h.2 c2
      refine j_iconst (x := (-1)) dX11_lent_128 rfl (i32_c rfl) ?_
      refine j_goto (tgt := 151) dX11_lent_129 (by decide) ?_
      exact j_iret dX11_lent_151 rfl ⟨Nat.le_of_ble_eq_true rfl, Nat.le_of_ble_eq_true rfl⟩ (fun _ => h)
  · replace h := h.2 c1
    refine j_iload 3 dX11_lent_84 rfl ?_
    refine j_if_ne (tgt := 110) dX11_lent_86 (by decide) (fun c4 => ?_) (fun c4 => ?_)
    · replace h := h.1 c4
      refine j_iconst (x := 1) dX11_lent_110 rfl (i32_c rfl) ?_
      refine j_goto (tgt := 115) dX11_lent_111 (by decide) ?_
      refine j_istore (ll' := [(4, aI 1), (0, aR 61), (1, aI x1), (2, aI x2), (5, aI x5), (6, aI x6)]) dX11_lent_115 (Nat.le_of_ble_eq_true rfl) rfl ?_
      obtain ⟨o5, h⟩ := h
      refine j_iinc (ll' := [(6, aI (x6 + 1)), (4, aI 1), (0, aR 61), (1, aI x1), (2, aI x2), (5, aI x5)]) 5 dX11_lent_117 rfl (Nat.le_of_ble_eq_true rfl) o5 rfl ?_
      refine j_goto (tgt := 75) dX11_lent_120 (by decide) ?_
      refine j_sub [2, 3, 4, 1, 5, 0] rfl ?_
      exact h
    · replace h := h.2 c4
      refine j_aload_n 0 dX11_lent_89 rfl ?_
      refine j_getc 72 dX11_lent_90 f_X11_48 sh_61 rfl ?_
      refine j_iload 5 dX11_lent_93 rfl ?_
      obtain ⟨o6, h⟩ := h
      refine j_iald dX11_lent_95 sh_72 o6.1 o6.2 (fun _ => ?_)
      refine j_iload_n 2 dX11_lent_96 rfl ?_
      refine j_icmp_ne (tgt := 114) dX11_lent_97 (by decide) (fun c7 => ?_) (fun c7 => ?_)
      · replace h := h.1 c7
        refine j_iconst (x := 0) dX11_lent_114 rfl (i32_c rfl) ?_
        refine j_istore (ll' := [(4, aI 0), (0, aR 61), (1, aI x1), (2, aI x2), (5, aI x5), (6, aI x6)]) dX11_lent_115 (Nat.le_of_ble_eq_true rfl) rfl ?_
        obtain ⟨o8, h⟩ := h
        refine j_iinc (ll' := [(6, aI (x6 + 1)), (4, aI 0), (0, aR 61), (1, aI x1), (2, aI x2), (5, aI x5)]) 5 dX11_lent_117 rfl (Nat.le_of_ble_eq_true rfl) o8 rfl ?_
        refine j_goto (tgt := 75) dX11_lent_120 (by decide) ?_
        refine j_sub [2, 3, 4, 1, 5, 0] rfl ?_
        exact h
      · replace h := h.2 c7
        refine j_aload_n 0 dX11_lent_100 rfl ?_
        refine j_getc 74 dX11_lent_101 f_X11_54 sh_61 rfl ?_
        refine j_iload 5 dX11_lent_104 rfl ?_
        refine j_zald dX11_lent_106 sh_74 o6.1 o6.2 (fun _ => ?_)
        refine j_if_eq (tgt := 114) dX11_lent_107 (by decide) (fun c9 => ?_) (fun c9 => ?_)
        · replace h := h.1 c9
          refine j_iconst (x := 0) dX11_lent_114 rfl (i32_c rfl) ?_
          refine j_istore (ll' := [(4, aI 0), (0, aR 61), (1, aI x1), (2, aI x2), (5, aI x5), (6, aI x6)]) dX11_lent_115 (Nat.le_of_ble_eq_true rfl) rfl ?_
          obtain ⟨o10, h⟩ := h
          refine j_iinc (ll' := [(6, aI (x6 + 1)), (4, aI 0), (0, aR 61), (1, aI x1), (2, aI x2), (5, aI x5)]) 5 dX11_lent_117 rfl (Nat.le_of_ble_eq_true rfl) o10 rfl ?_
          refine j_goto (tgt := 75) dX11_lent_120 (by decide) ?_
          refine j_sub [2, 3, 4, 1, 5, 0] rfl ?_
          exact h
        · replace h := h.2 c9
          refine j_iconst (x := 1) dX11_lent_110 rfl (i32_c rfl) ?_
          refine j_goto (tgt := 115) dX11_lent_111 (by decide) ?_
          refine j_istore (ll' := [(4, aI 1), (0, aR 61), (1, aI x1), (2, aI x2), (5, aI x5), (6, aI x6)]) dX11_lent_115 (Nat.le_of_ble_eq_true rfl) rfl ?_
          obtain ⟨o11, h⟩ := h
          refine j_iinc (ll' := [(6, aI (x6 + 1)), (4, aI 1), (0, aR 61), (1, aI x1), (2, aI x2), (5, aI x5)]) 5 dX11_lent_117 rfl (Nat.le_of_ble_eq_true rfl) o11 rfl ?_
          refine j_goto (tgt := 75) dX11_lent_120 (by decide) ?_
          refine j_sub [2, 3, 4, 1, 5, 0] rfl ?_
          exact h
set_option maxRecDepth 100000 in
set_option maxHeartbeats 4000000 in
theorem B_X11_mark_0 {post : Int → ax_M → Prop} {M : ax_M} {x1 x2 x3 : Int} (h : (-2147483648 ≤ ((M 61 29) - 1) ∧ ((M 61 29) - 1) ≤ 2147483647) ∧ (((x1 < 0) → post (-1001) M) ∧ ((0 ≤ x1) → (((((M 61 29) - 1) < x1) → post (-1001) M) ∧ ((x1 ≤ ((M 61 29) - 1)) → (-2147483648 ≤ ((M 61 0) - 1) ∧ ((M 61 0) - 1) ≤ 2147483647) ∧ (((x2 < 0) → post (-1001) M) ∧ ((0 ≤ x2) → (((((M 61 0) - 1) < x2) → post (-1001) M) ∧ ((x2 ≤ ((M 61 0) - 1)) → (((x3 < 0) → post (-1002) M) ∧ ((0 ≤ x3) → (((7 < x3) → post (-1002) M) ∧ ((x3 ≤ 7) → ax_Ti Y_X11_upAll [aR 61, aI x3, aI (-1)] SH M (fun z2 u1 => (0 ≤ x1 ∧ x1 < 4) ∧ ax_Ti Y_X11_upAll [aR 61, aI x3, aI x1] SH (ax_up (ax_up u1 61 32 x2) 61 33 (u1 76 x1)) (fun z4 u3 => (-2147483648 ≤ (100 + z4) ∧ (100 + z4) ≤ 2147483647) ∧ (-2147483648 ≤ ((100 + z4) - z2) ∧ ((100 + z4) - z2) ≤ 2147483647) ∧ post ((100 + z4) - z2) (ax_up u3 61 32 (-1))))))))))))))))) : ax_J Y_X11_mark (ax_Ki Y_X11_mark SH post) 0 0 0 [(0, aR 61), (1, aI x1), (2, aI x2), (3, aI x3)] [] SH M := by
  refine j_aload_n 0 dX11_mark_0 rfl ?_
  refine j_iload_n 1 dX11_mark_1 rfl ?_
  refine j_calliV (Yc := Y_X11_isLamp) (as := [aI x1]) (rest := []) dX11_mark_2 q_X11_266 ⟨Nat.le_of_ble_eq_true rfl, Nat.le_of_ble_eq_true rfl, Nat.le_of_ble_eq_true rfl, Nat.le_of_ble_eq_true rfl⟩ sh_61 rfl (Nat.le_of_ble_eq_true rfl) rfl (ti_of (ll := [(0, aR 61), (1, aI x1)]) rfl (Nat.le_of_ble_eq_true rfl) rfl (fun _ => ?_))
  refine j_iload_n 1 dX11_isLamp_0 rfl ?_
  refine j_i2l dX11_isLamp_1 ?_
  refine j_lconst (x := 0) dX11_isLamp_2 rfl (i64_c rfl) ?_
  refine j_aload_n 0 dX11_isLamp_3 rfl ?_
  refine j_geti (i := 29) dX11_isLamp_4 f_X11_243 sh_61 rfl rfl (fun _ => ?_)
  refine j_iconst (x := 1) dX11_isLamp_7 rfl (i32_c rfl) ?_
  obtain ⟨o1, h⟩ := h
  refine j_isub (z := ((M 61 29) - 1)) dX11_isLamp_8 rfl o1 ?_
  refine j_i2l dX11_isLamp_9 ?_
  refine j_calliS (Yc := Y_X11_in) (as := [aL x1, aL 0, aL ((M 61 29) - 1)]) (rest := []) dX11_isLamp_10 q_X11_136 ⟨Nat.le_of_ble_eq_true rfl, Nat.le_of_ble_eq_true rfl, Nat.le_of_ble_eq_true rfl, Nat.le_of_ble_eq_true rfl⟩ rfl (Nat.le_of_ble_eq_true rfl) rfl (ti_of (ll := [(0, aL x1), (2, aL 0), (4, aL ((M 61 29) - 1))]) rfl (Nat.le_of_ble_eq_true rfl) rfl (fun _ => ?_))
  refine j_lload_n 0 dX11_in_0 rfl ?_
  refine j_lload_n 1 dX11_in_1 rfl ?_
  refine j_lcmp_lt (tgt := 17) dX11_in_2 dX11_in_3 (by decide) (fun c2 => ?_) (fun c2 => ?_)
  · replace h := h.1 c2
    refine j_iconst (x := 0) dX11_in_17 rfl (i32_c rfl) ?_
    refine j_zret dX11_in_18 rfl ⟨Nat.le_of_ble_eq_true rfl, Nat.le_of_ble_eq_true rfl⟩ (by decide) ?_
    refine j_zret dX11_isLamp_13 rfl ⟨Nat.le_of_ble_eq_true rfl, Nat.le_of_ble_eq_true rfl⟩ (by decide) ?_
    refine j_if_eq (tgt := 16) dX11_mark_5 (by decide) (fun _ => ?_) (fun c => absurd c (by decide))
    refine j_sipush (x := (-1001)) dX11_mark_16 rfl (i32_c rfl) ?_
    exact j_iret dX11_mark_19 rfl ⟨Nat.le_of_ble_eq_true rfl, Nat.le_of_ble_eq_true rfl⟩ (fun _ => h)
  · replace h := h.2 c2
    refine j_lload_n 0 dX11_in_6 rfl ?_
    refine j_lload 2 dX11_in_7 rfl ?_
    refine j_lcmp_gt (tgt := 17) dX11_in_9 dX11_in_10 (by decide) (fun c3 => ?_) (fun c3 => ?_)
    · replace h := h.1 c3
      refine j_iconst (x := 0) dX11_in_17 rfl (i32_c rfl) ?_
      refine j_zret dX11_in_18 rfl ⟨Nat.le_of_ble_eq_true rfl, Nat.le_of_ble_eq_true rfl⟩ (by decide) ?_
      refine j_zret dX11_isLamp_13 rfl ⟨Nat.le_of_ble_eq_true rfl, Nat.le_of_ble_eq_true rfl⟩ (by decide) ?_
      refine j_if_eq (tgt := 16) dX11_mark_5 (by decide) (fun _ => ?_) (fun c => absurd c (by decide))
      refine j_sipush (x := (-1001)) dX11_mark_16 rfl (i32_c rfl) ?_
      exact j_iret dX11_mark_19 rfl ⟨Nat.le_of_ble_eq_true rfl, Nat.le_of_ble_eq_true rfl⟩ (fun _ => h)
    · replace h := h.2 c3
      refine j_iconst (x := 1) dX11_in_13 rfl (i32_c rfl) ?_
      refine j_goto (tgt := 18) dX11_in_14 (by decide) ?_
      refine j_zret dX11_in_18 rfl ⟨Nat.le_of_ble_eq_true rfl, Nat.le_of_ble_eq_true rfl⟩ (by decide) ?_
      refine j_zret dX11_isLamp_13 rfl ⟨Nat.le_of_ble_eq_true rfl, Nat.le_of_ble_eq_true rfl⟩ (by decide) ?_
      refine j_if_eq (tgt := 16) dX11_mark_5 (by decide) (fun c => absurd c (by decide)) (fun _ => ?_)
      refine j_aload_n 0 dX11_mark_8 rfl ?_
      refine j_iload_n 2 dX11_mark_9 rfl ?_
      refine j_calliV (Yc := Y_X11_isPlace) (as := [aI x2]) (rest := []) dX11_mark_10 q_X11_257 ⟨Nat.le_of_ble_eq_true rfl, Nat.le_of_ble_eq_true rfl, Nat.le_of_ble_eq_true rfl, Nat.le_of_ble_eq_true rfl⟩ sh_61 rfl (Nat.le_of_ble_eq_true rfl) rfl (ti_of (ll := [(0, aR 61), (1, aI x2)]) rfl (Nat.le_of_ble_eq_true rfl) rfl (fun _ => ?_))
      refine j_iload_n 1 dX11_isPlace_0 rfl ?_
      refine j_i2l dX11_isPlace_1 ?_
      refine j_lconst (x := 0) dX11_isPlace_2 rfl (i64_c rfl) ?_
      refine j_aload_n 0 dX11_isPlace_3 rfl ?_
      refine j_geti (i := 0) dX11_isPlace_4 f_X11_133 sh_61 rfl rfl (fun _ => ?_)
      refine j_iconst (x := 1) dX11_isPlace_7 rfl (i32_c rfl) ?_
      obtain ⟨o4, h⟩ := h
      refine j_isub (z := ((M 61 0) - 1)) dX11_isPlace_8 rfl o4 ?_
      refine j_i2l dX11_isPlace_9 ?_
      refine j_calliS (Yc := Y_X11_in) (as := [aL x2, aL 0, aL ((M 61 0) - 1)]) (rest := []) dX11_isPlace_10 q_X11_136 ⟨Nat.le_of_ble_eq_true rfl, Nat.le_of_ble_eq_true rfl, Nat.le_of_ble_eq_true rfl, Nat.le_of_ble_eq_true rfl⟩ rfl (Nat.le_of_ble_eq_true rfl) rfl (ti_of (ll := [(0, aL x2), (2, aL 0), (4, aL ((M 61 0) - 1))]) rfl (Nat.le_of_ble_eq_true rfl) rfl (fun _ => ?_))
      refine j_lload_n 0 dX11_in_0 rfl ?_
      refine j_lload_n 1 dX11_in_1 rfl ?_
      refine j_lcmp_lt (tgt := 17) dX11_in_2 dX11_in_3 (by decide) (fun c5 => ?_) (fun c5 => ?_)
      · replace h := h.1 c5
        refine j_iconst (x := 0) dX11_in_17 rfl (i32_c rfl) ?_
        refine j_zret dX11_in_18 rfl ⟨Nat.le_of_ble_eq_true rfl, Nat.le_of_ble_eq_true rfl⟩ (by decide) ?_
        refine j_zret dX11_isPlace_13 rfl ⟨Nat.le_of_ble_eq_true rfl, Nat.le_of_ble_eq_true rfl⟩ (by decide) ?_
        refine j_if_ne (tgt := 20) dX11_mark_13 (by decide) (fun c => absurd c (by decide)) (fun _ => ?_)
        refine j_sipush (x := (-1001)) dX11_mark_16 rfl (i32_c rfl) ?_
        exact j_iret dX11_mark_19 rfl ⟨Nat.le_of_ble_eq_true rfl, Nat.le_of_ble_eq_true rfl⟩ (fun _ => h)
      · replace h := h.2 c5
        refine j_lload_n 0 dX11_in_6 rfl ?_
        refine j_lload 2 dX11_in_7 rfl ?_
        refine j_lcmp_gt (tgt := 17) dX11_in_9 dX11_in_10 (by decide) (fun c6 => ?_) (fun c6 => ?_)
        · replace h := h.1 c6
          refine j_iconst (x := 0) dX11_in_17 rfl (i32_c rfl) ?_
          refine j_zret dX11_in_18 rfl ⟨Nat.le_of_ble_eq_true rfl, Nat.le_of_ble_eq_true rfl⟩ (by decide) ?_
          refine j_zret dX11_isPlace_13 rfl ⟨Nat.le_of_ble_eq_true rfl, Nat.le_of_ble_eq_true rfl⟩ (by decide) ?_
          refine j_if_ne (tgt := 20) dX11_mark_13 (by decide) (fun c => absurd c (by decide)) (fun _ => ?_)
          refine j_sipush (x := (-1001)) dX11_mark_16 rfl (i32_c rfl) ?_
          exact j_iret dX11_mark_19 rfl ⟨Nat.le_of_ble_eq_true rfl, Nat.le_of_ble_eq_true rfl⟩ (fun _ => h)
        · replace h := h.2 c6
          refine j_iconst (x := 1) dX11_in_13 rfl (i32_c rfl) ?_
          refine j_goto (tgt := 18) dX11_in_14 (by decide) ?_
          refine j_zret dX11_in_18 rfl ⟨Nat.le_of_ble_eq_true rfl, Nat.le_of_ble_eq_true rfl⟩ (by decide) ?_
          refine j_zret dX11_isPlace_13 rfl ⟨Nat.le_of_ble_eq_true rfl, Nat.le_of_ble_eq_true rfl⟩ (by decide) ?_
          refine j_if_ne (tgt := 20) dX11_mark_13 (by decide) (fun _ => ?_) (fun c => absurd c (by decide))
          refine j_iload_n 3 dX11_mark_20 rfl ?_
          refine j_i2l dX11_mark_21 ?_
          refine j_lconst (x := 0) dX11_mark_22 rfl (i64_c rfl) ?_
          refine j_ldc2 (x := 7) dX11_mark_23 (ax_in 1498 (by decide +kernel) rfl) (i64_c rfl) ?_
          refine j_calliS (Yc := Y_X11_in) (as := [aL x3, aL 0, aL 7]) (rest := []) dX11_mark_26 q_X11_136 ⟨Nat.le_of_ble_eq_true rfl, Nat.le_of_ble_eq_true rfl, Nat.le_of_ble_eq_true rfl, Nat.le_of_ble_eq_true rfl⟩ rfl (Nat.le_of_ble_eq_true rfl) rfl (ti_of (ll := [(0, aL x3), (2, aL 0), (4, aL 7)]) rfl (Nat.le_of_ble_eq_true rfl) rfl (fun _ => ?_))
          refine j_lload_n 0 dX11_in_0 rfl ?_
          refine j_lload_n 1 dX11_in_1 rfl ?_
          refine j_lcmp_lt (tgt := 17) dX11_in_2 dX11_in_3 (by decide) (fun c7 => ?_) (fun c7 => ?_)
          · replace h := h.1 c7
            refine j_iconst (x := 0) dX11_in_17 rfl (i32_c rfl) ?_
            refine j_zret dX11_in_18 rfl ⟨Nat.le_of_ble_eq_true rfl, Nat.le_of_ble_eq_true rfl⟩ (by decide) ?_
            refine j_if_ne (tgt := 36) dX11_mark_29 (by decide) (fun c => absurd c (by decide)) (fun _ => ?_)
            refine j_sipush (x := (-1002)) dX11_mark_32 rfl (i32_c rfl) ?_
            exact j_iret dX11_mark_35 rfl ⟨Nat.le_of_ble_eq_true rfl, Nat.le_of_ble_eq_true rfl⟩ (fun _ => h)
          · replace h := h.2 c7
            refine j_lload_n 0 dX11_in_6 rfl ?_
            refine j_lload 2 dX11_in_7 rfl ?_
            refine j_lcmp_gt (tgt := 17) dX11_in_9 dX11_in_10 (by decide) (fun c8 => ?_) (fun c8 => ?_)
            · replace h := h.1 c8
              refine j_iconst (x := 0) dX11_in_17 rfl (i32_c rfl) ?_
              refine j_zret dX11_in_18 rfl ⟨Nat.le_of_ble_eq_true rfl, Nat.le_of_ble_eq_true rfl⟩ (by decide) ?_
              refine j_if_ne (tgt := 36) dX11_mark_29 (by decide) (fun c => absurd c (by decide)) (fun _ => ?_)
              refine j_sipush (x := (-1002)) dX11_mark_32 rfl (i32_c rfl) ?_
              exact j_iret dX11_mark_35 rfl ⟨Nat.le_of_ble_eq_true rfl, Nat.le_of_ble_eq_true rfl⟩ (fun _ => h)
            · replace h := h.2 c8
              refine j_iconst (x := 1) dX11_in_13 rfl (i32_c rfl) ?_
              refine j_goto (tgt := 18) dX11_in_14 (by decide) ?_
              refine j_zret dX11_in_18 rfl ⟨Nat.le_of_ble_eq_true rfl, Nat.le_of_ble_eq_true rfl⟩ (by decide) ?_
              refine j_if_ne (tgt := 36) dX11_mark_29 (by decide) (fun _ => ?_) (fun c => absurd c (by decide))
              refine j_aload_n 0 dX11_mark_36 rfl ?_
              refine j_iload_n 3 dX11_mark_37 rfl ?_
              refine j_iconst (x := (-1)) dX11_mark_38 rfl (i32_c rfl) ?_
              refine j_calliV (Yc := Y_X11_upAll) (as := [aI x3, aI (-1)]) (rest := []) dX11_mark_39 q_X11_337 ⟨Nat.le_of_ble_eq_true rfl, Nat.le_of_ble_eq_true rfl, Nat.le_of_ble_eq_true rfl, Nat.le_of_ble_eq_true rfl⟩ sh_61 rfl (Nat.le_of_ble_eq_true rfl) rfl (ti_mono h (fun z2 u1 h => ?_))
              refine j_istore (ll' := [(4, aI z2), (0, aR 61), (1, aI x1), (2, aI x2), (3, aI x3)]) dX11_mark_42 (Nat.le_of_ble_eq_true rfl) rfl ?_
              refine j_aload_n 1 dX11_mark_44 rfl ?_
              refine j_iload_n 3 dX11_mark_45 rfl ?_
              refine j_puti (i := 32) dX11_mark_46 p_X11_63 (fun h => by cases h) sh_61 rfl rfl ?_
              refine j_aload_n 1 dX11_mark_49 rfl ?_
              refine j_aload_n 1 dX11_mark_50 rfl ?_
              refine j_getc 76 dX11_mark_51 f_X11_60 sh_61 rfl ?_
              refine j_iload_n 2 dX11_mark_54 rfl ?_
              obtain ⟨o9, h⟩ := h
              refine j_iald dX11_mark_55 sh_76 o9.1 o9.2 (fun _ => ?_)
              refine j_puti (i := 33) dX11_mark_56 p_X11_269 (fun h => by cases h) sh_61 rfl rfl ?_
              refine j_aload_n 1 dX11_mark_59 rfl ?_
              refine j_iload_n 4 dX11_mark_60 rfl ?_
              refine j_iload_n 2 dX11_mark_61 rfl ?_
              refine j_calliV (Yc := Y_X11_upAll) (as := [aI x3, aI x1]) (rest := []) dX11_mark_62 q_X11_337 ⟨Nat.le_of_ble_eq_true rfl, Nat.le_of_ble_eq_true rfl, Nat.le_of_ble_eq_true rfl, Nat.le_of_ble_eq_true rfl⟩ sh_61 rfl (Nat.le_of_ble_eq_true rfl) rfl (ti_mono h (fun z4 u3 h => ?_))
              refine j_istore (ll' := [(5, aI z4), (4, aI z2), (0, aR 61), (1, aI x1), (2, aI x2), (3, aI x3)]) dX11_mark_65 (Nat.le_of_ble_eq_true rfl) rfl ?_
              refine j_aload_n 2 dX11_mark_67 rfl ?_
              refine j_iconst (x := (-1)) dX11_mark_68 rfl (i32_c rfl) ?_
              refine j_puti (i := 32) dX11_mark_69 p_X11_63 (fun h => by cases h) sh_61 rfl rfl ?_
              refine j_bipush (x := 100) dX11_mark_72 rfl (i32_c rfl) ?_
              refine j_iload 0 dX11_mark_74 rfl ?_
              obtain ⟨o10, h⟩ := h
              refine j_iadd (z := (100 + z4)) dX11_mark_76 rfl o10 ?_
              refine j_iload 1 dX11_mark_77 rfl ?_
              obtain ⟨o11, h⟩ := h
              refine j_isub (z := ((100 + z4) - z2)) dX11_mark_79 rfl o11 ?_
              exact j_iret dX11_mark_80 rfl ⟨Nat.le_of_ble_eq_true rfl, Nat.le_of_ble_eq_true rfl⟩ (fun _ => h)
theorem E_X11_mark {post : Int → ax_M → Prop} {M : ax_M} {x1 x2 x3 : Int} (h : ax_mr SH M → (-2147483648 ≤ ((M 61 29) - 1) ∧ ((M 61 29) - 1) ≤ 2147483647) ∧ (((x1 < 0) → post (-1001) M) ∧ ((0 ≤ x1) → (((((M 61 29) - 1) < x1) → post (-1001) M) ∧ ((x1 ≤ ((M 61 29) - 1)) → (-2147483648 ≤ ((M 61 0) - 1) ∧ ((M 61 0) - 1) ≤ 2147483647) ∧ (((x2 < 0) → post (-1001) M) ∧ ((0 ≤ x2) → (((((M 61 0) - 1) < x2) → post (-1001) M) ∧ ((x2 ≤ ((M 61 0) - 1)) → (((x3 < 0) → post (-1002) M) ∧ ((0 ≤ x3) → (((7 < x3) → post (-1002) M) ∧ ((x3 ≤ 7) → ax_Ti Y_X11_upAll [aR 61, aI x3, aI (-1)] SH M (fun z2 u1 => (0 ≤ x1 ∧ x1 < 4) ∧ ax_Ti Y_X11_upAll [aR 61, aI x3, aI x1] SH (ax_up (ax_up u1 61 32 x2) 61 33 (u1 76 x1)) (fun z4 u3 => (-2147483648 ≤ (100 + z4) ∧ (100 + z4) ≤ 2147483647) ∧ (-2147483648 ≤ ((100 + z4) - z2) ∧ ((100 + z4) - z2) ≤ 2147483647) ∧ post ((100 + z4) - z2) (ax_up u3 61 32 (-1))))))))))))))))) : ax_Ti Y_X11_mark [aR 61, aI x1, aI x2, aI x3] SH M post :=
  ti_of rfl (Nat.le_of_ble_eq_true rfl) rfl (fun q => B_X11_mark_0 (h q))
set_option maxRecDepth 100000 in
set_option maxHeartbeats 4000000 in
theorem B_X11_tells_0 {post : Int → ax_M → Prop} {M : ax_M} {x1 x2 x3 x4 : Int} (h : (-2147483648 ≤ ((M 61 25) - 1) ∧ ((M 61 25) - 1) ≤ 2147483647) ∧ (((x1 < 0) → post (-1001) M) ∧ ((0 ≤ x1) → (((((M 61 25) - 1) < x1) → post (-1001) M) ∧ ((x1 ≤ ((M 61 25) - 1)) → ax_Ti Y_X11_unknowing [aR 61] SH M (fun z2 u1 => ((((bo_and x4 (bo_xor z2 (-1))) = 0) → (((x2 < (-1)) → post (-1002) u1) ∧ (((-1) ≤ x2) → (((99 < x2) → post (-1002) u1) ∧ ((x2 ≤ 99) → (((x3 < 0) → post (-1002) u1) ∧ ((0 ≤ x3) → (((99 < x3) → post (-1002) u1) ∧ ((x3 ≤ 99) → ax_Ti Y_X11_canTell [aR 61, aI x1] SH u1 (fun z4 u3 => (((¬ z4 = 0) → ax_Tv Y_X11_findDark [aR 61] SH u3 (fun u5 => ax_Ti Y_X11_tellSet [aR 61, aI x1, aI x2, aI x3, aI x4] SH u5 (fun z7 u6 => post z7 u6))) ∧ ((z4 = 0) → post (-1003) u3)))))))))))) ∧ ((¬ (bo_and x4 (bo_xor z2 (-1))) = 0) → post (-1001) u1)))))))) : ax_J Y_X11_tells (ax_Ki Y_X11_tells SH post) 0 0 0 [(0, aR 61), (1, aI x1), (2, aI x2), (3, aI x3), (4, aI x4)] [] SH M := by
  refine j_aload_n 0 dX11_tells_0 rfl ?_
  refine j_iload_n 1 dX11_tells_1 rfl ?_
  refine j_calliV (Yc := Y_X11_isMan) (as := [aI x1]) (rest := []) dX11_tells_2 q_X11_263 ⟨Nat.le_of_ble_eq_true rfl, Nat.le_of_ble_eq_true rfl, Nat.le_of_ble_eq_true rfl, Nat.le_of_ble_eq_true rfl⟩ sh_61 rfl (Nat.le_of_ble_eq_true rfl) rfl (ti_of (ll := [(0, aR 61), (1, aI x1)]) rfl (Nat.le_of_ble_eq_true rfl) rfl (fun _ => ?_))
  refine j_iload_n 1 dX11_isMan_0 rfl ?_
  refine j_i2l dX11_isMan_1 ?_
  refine j_lconst (x := 0) dX11_isMan_2 rfl (i64_c rfl) ?_
  refine j_aload_n 0 dX11_isMan_3 rfl ?_
  refine j_geti (i := 25) dX11_isMan_4 f_X11_240 sh_61 rfl rfl (fun _ => ?_)
  refine j_iconst (x := 1) dX11_isMan_7 rfl (i32_c rfl) ?_
  obtain ⟨o1, h⟩ := h
  refine j_isub (z := ((M 61 25) - 1)) dX11_isMan_8 rfl o1 ?_
  refine j_i2l dX11_isMan_9 ?_
  refine j_calliS (Yc := Y_X11_in) (as := [aL x1, aL 0, aL ((M 61 25) - 1)]) (rest := []) dX11_isMan_10 q_X11_136 ⟨Nat.le_of_ble_eq_true rfl, Nat.le_of_ble_eq_true rfl, Nat.le_of_ble_eq_true rfl, Nat.le_of_ble_eq_true rfl⟩ rfl (Nat.le_of_ble_eq_true rfl) rfl (ti_of (ll := [(0, aL x1), (2, aL 0), (4, aL ((M 61 25) - 1))]) rfl (Nat.le_of_ble_eq_true rfl) rfl (fun _ => ?_))
  refine j_lload_n 0 dX11_in_0 rfl ?_
  refine j_lload_n 1 dX11_in_1 rfl ?_
  refine j_lcmp_lt (tgt := 17) dX11_in_2 dX11_in_3 (by decide) (fun c2 => ?_) (fun c2 => ?_)
  · replace h := h.1 c2
    refine j_iconst (x := 0) dX11_in_17 rfl (i32_c rfl) ?_
    refine j_zret dX11_in_18 rfl ⟨Nat.le_of_ble_eq_true rfl, Nat.le_of_ble_eq_true rfl⟩ (by decide) ?_
    refine j_zret dX11_isMan_13 rfl ⟨Nat.le_of_ble_eq_true rfl, Nat.le_of_ble_eq_true rfl⟩ (by decide) ?_
    refine j_if_eq (tgt := 20) dX11_tells_5 (by decide) (fun _ => ?_) (fun c => absurd c (by decide))
    refine j_sipush (x := (-1001)) dX11_tells_20 rfl (i32_c rfl) ?_
    exact j_iret dX11_tells_23 rfl ⟨Nat.le_of_ble_eq_true rfl, Nat.le_of_ble_eq_true rfl⟩ (fun _ => h)
  · replace h := h.2 c2
    refine j_lload_n 0 dX11_in_6 rfl ?_
    refine j_lload 2 dX11_in_7 rfl ?_
    refine j_lcmp_gt (tgt := 17) dX11_in_9 dX11_in_10 (by decide) (fun c3 => ?_) (fun c3 => ?_)
    · replace h := h.1 c3
      refine j_iconst (x := 0) dX11_in_17 rfl (i32_c rfl) ?_
      refine j_zret dX11_in_18 rfl ⟨Nat.le_of_ble_eq_true rfl, Nat.le_of_ble_eq_true rfl⟩ (by decide) ?_
      refine j_zret dX11_isMan_13 rfl ⟨Nat.le_of_ble_eq_true rfl, Nat.le_of_ble_eq_true rfl⟩ (by decide) ?_
      refine j_if_eq (tgt := 20) dX11_tells_5 (by decide) (fun _ => ?_) (fun c => absurd c (by decide))
      refine j_sipush (x := (-1001)) dX11_tells_20 rfl (i32_c rfl) ?_
      exact j_iret dX11_tells_23 rfl ⟨Nat.le_of_ble_eq_true rfl, Nat.le_of_ble_eq_true rfl⟩ (fun _ => h)
    · replace h := h.2 c3
      refine j_iconst (x := 1) dX11_in_13 rfl (i32_c rfl) ?_
      refine j_goto (tgt := 18) dX11_in_14 (by decide) ?_
      refine j_zret dX11_in_18 rfl ⟨Nat.le_of_ble_eq_true rfl, Nat.le_of_ble_eq_true rfl⟩ (by decide) ?_
      refine j_zret dX11_isMan_13 rfl ⟨Nat.le_of_ble_eq_true rfl, Nat.le_of_ble_eq_true rfl⟩ (by decide) ?_
      refine j_if_eq (tgt := 20) dX11_tells_5 (by decide) (fun c => absurd c (by decide)) (fun _ => ?_)
      refine j_iload 4 dX11_tells_8 rfl ?_
      refine j_aload_n 0 dX11_tells_10 rfl ?_
      refine j_calliV (Yc := Y_X11_unknowing) (as := []) (rest := [aI x4]) dX11_tells_11 q_X11_357 ⟨Nat.le_of_ble_eq_true rfl, Nat.le_of_ble_eq_true rfl, Nat.le_of_ble_eq_true rfl, Nat.le_of_ble_eq_true rfl⟩ sh_61 rfl (Nat.le_of_ble_eq_true rfl) rfl (ti_mono h (fun z2 u1 h => ?_))
      refine j_iconst (x := (-1)) dX11_tells_14 rfl (i32_c rfl) ?_
      refine j_ixor (z := (bo_xor z2 (-1))) dX11_tells_15 rfl ?_
      refine j_iand (z := (bo_and x4 (bo_xor z2 (-1)))) dX11_tells_16 rfl ?_
      refine j_if_eq (tgt := 24) dX11_tells_17 (by decide) (fun c4 => ?_) (fun c4 => ?_)
      · replace h := h.1 c4
        refine j_iload_n 2 dX11_tells_24 rfl ?_
        refine j_calliS (Yc := Y_X11_isLight) (as := [aI x2]) (rest := []) dX11_tells_25 q_X11_284 ⟨Nat.le_of_ble_eq_true rfl, Nat.le_of_ble_eq_true rfl, Nat.le_of_ble_eq_true rfl, Nat.le_of_ble_eq_true rfl⟩ rfl (Nat.le_of_ble_eq_true rfl) rfl (ti_of (ll := [(0, aI x2)]) rfl (Nat.le_of_ble_eq_true rfl) rfl (fun _ => ?_))
        refine j_iload_n 0 dX11_isLight_0 rfl ?_
        refine j_i2l dX11_isLight_1 ?_
        refine j_ldc2 (x := (-1)) dX11_isLight_2 (ax_in 1425 (by decide +kernel) rfl) (i64_c rfl) ?_
        refine j_ldc2 (x := 99) dX11_isLight_5 (ax_in 1393 (by decide +kernel) rfl) (i64_c rfl) ?_
        refine j_calliS (Yc := Y_X11_in) (as := [aL x2, aL (-1), aL 99]) (rest := []) dX11_isLight_8 q_X11_136 ⟨Nat.le_of_ble_eq_true rfl, Nat.le_of_ble_eq_true rfl, Nat.le_of_ble_eq_true rfl, Nat.le_of_ble_eq_true rfl⟩ rfl (Nat.le_of_ble_eq_true rfl) rfl (ti_of (ll := [(0, aL x2), (2, aL (-1)), (4, aL 99)]) rfl (Nat.le_of_ble_eq_true rfl) rfl (fun _ => ?_))
        refine j_lload_n 0 dX11_in_0 rfl ?_
        refine j_lload_n 1 dX11_in_1 rfl ?_
        refine j_lcmp_lt (tgt := 17) dX11_in_2 dX11_in_3 (by decide) (fun c5 => ?_) (fun c5 => ?_)
        · replace h := h.1 c5
          refine j_iconst (x := 0) dX11_in_17 rfl (i32_c rfl) ?_
          refine j_zret dX11_in_18 rfl ⟨Nat.le_of_ble_eq_true rfl, Nat.le_of_ble_eq_true rfl⟩ (by decide) ?_
          refine j_zret dX11_isLight_11 rfl ⟨Nat.le_of_ble_eq_true rfl, Nat.le_of_ble_eq_true rfl⟩ (by decide) ?_
          refine j_if_eq (tgt := 38) dX11_tells_28 (by decide) (fun _ => ?_) (fun c => absurd c (by decide))
          refine j_sipush (x := (-1002)) dX11_tells_38 rfl (i32_c rfl) ?_
          exact j_iret dX11_tells_41 rfl ⟨Nat.le_of_ble_eq_true rfl, Nat.le_of_ble_eq_true rfl⟩ (fun _ => h)
        · replace h := h.2 c5
          refine j_lload_n 0 dX11_in_6 rfl ?_
          refine j_lload 2 dX11_in_7 rfl ?_
          refine j_lcmp_gt (tgt := 17) dX11_in_9 dX11_in_10 (by decide) (fun c6 => ?_) (fun c6 => ?_)
          · replace h := h.1 c6
            refine j_iconst (x := 0) dX11_in_17 rfl (i32_c rfl) ?_
            refine j_zret dX11_in_18 rfl ⟨Nat.le_of_ble_eq_true rfl, Nat.le_of_ble_eq_true rfl⟩ (by decide) ?_
            refine j_zret dX11_isLight_11 rfl ⟨Nat.le_of_ble_eq_true rfl, Nat.le_of_ble_eq_true rfl⟩ (by decide) ?_
            refine j_if_eq (tgt := 38) dX11_tells_28 (by decide) (fun _ => ?_) (fun c => absurd c (by decide))
            refine j_sipush (x := (-1002)) dX11_tells_38 rfl (i32_c rfl) ?_
            exact j_iret dX11_tells_41 rfl ⟨Nat.le_of_ble_eq_true rfl, Nat.le_of_ble_eq_true rfl⟩ (fun _ => h)
          · replace h := h.2 c6
            refine j_iconst (x := 1) dX11_in_13 rfl (i32_c rfl) ?_
            refine j_goto (tgt := 18) dX11_in_14 (by decide) ?_
            refine j_zret dX11_in_18 rfl ⟨Nat.le_of_ble_eq_true rfl, Nat.le_of_ble_eq_true rfl⟩ (by decide) ?_
            refine j_zret dX11_isLight_11 rfl ⟨Nat.le_of_ble_eq_true rfl, Nat.le_of_ble_eq_true rfl⟩ (by decide) ?_
            refine j_if_eq (tgt := 38) dX11_tells_28 (by decide) (fun c => absurd c (by decide)) (fun _ => ?_)
            refine j_iload_n 3 dX11_tells_31 rfl ?_
            refine j_calliS (Yc := Y_X11_isMinute) (as := [aI x3]) (rest := []) dX11_tells_32 q_X11_260 ⟨Nat.le_of_ble_eq_true rfl, Nat.le_of_ble_eq_true rfl, Nat.le_of_ble_eq_true rfl, Nat.le_of_ble_eq_true rfl⟩ rfl (Nat.le_of_ble_eq_true rfl) rfl (ti_of (ll := [(0, aI x3)]) rfl (Nat.le_of_ble_eq_true rfl) rfl (fun _ => ?_))
            refine j_iload_n 0 dX11_isMinute_0 rfl ?_
            refine j_i2l dX11_isMinute_1 ?_
            refine j_lconst (x := 0) dX11_isMinute_2 rfl (i64_c rfl) ?_
            refine j_ldc2 (x := 99) dX11_isMinute_3 (ax_in 1393 (by decide +kernel) rfl) (i64_c rfl) ?_
            refine j_calliS (Yc := Y_X11_in) (as := [aL x3, aL 0, aL 99]) (rest := []) dX11_isMinute_6 q_X11_136 ⟨Nat.le_of_ble_eq_true rfl, Nat.le_of_ble_eq_true rfl, Nat.le_of_ble_eq_true rfl, Nat.le_of_ble_eq_true rfl⟩ rfl (Nat.le_of_ble_eq_true rfl) rfl (ti_of (ll := [(0, aL x3), (2, aL 0), (4, aL 99)]) rfl (Nat.le_of_ble_eq_true rfl) rfl (fun _ => ?_))
            refine j_lload_n 0 dX11_in_0 rfl ?_
            refine j_lload_n 1 dX11_in_1 rfl ?_
            refine j_lcmp_lt (tgt := 17) dX11_in_2 dX11_in_3 (by decide) (fun c7 => ?_) (fun c7 => ?_)
            · replace h := h.1 c7
              refine j_iconst (x := 0) dX11_in_17 rfl (i32_c rfl) ?_
              refine j_zret dX11_in_18 rfl ⟨Nat.le_of_ble_eq_true rfl, Nat.le_of_ble_eq_true rfl⟩ (by decide) ?_
              refine j_zret dX11_isMinute_9 rfl ⟨Nat.le_of_ble_eq_true rfl, Nat.le_of_ble_eq_true rfl⟩ (by decide) ?_
              refine j_if_ne (tgt := 42) dX11_tells_35 (by decide) (fun c => absurd c (by decide)) (fun _ => ?_)
              refine j_sipush (x := (-1002)) dX11_tells_38 rfl (i32_c rfl) ?_
              exact j_iret dX11_tells_41 rfl ⟨Nat.le_of_ble_eq_true rfl, Nat.le_of_ble_eq_true rfl⟩ (fun _ => h)
            · replace h := h.2 c7
              refine j_lload_n 0 dX11_in_6 rfl ?_
              refine j_lload 2 dX11_in_7 rfl ?_
              refine j_lcmp_gt (tgt := 17) dX11_in_9 dX11_in_10 (by decide) (fun c8 => ?_) (fun c8 => ?_)
              · replace h := h.1 c8
                refine j_iconst (x := 0) dX11_in_17 rfl (i32_c rfl) ?_
                refine j_zret dX11_in_18 rfl ⟨Nat.le_of_ble_eq_true rfl, Nat.le_of_ble_eq_true rfl⟩ (by decide) ?_
                refine j_zret dX11_isMinute_9 rfl ⟨Nat.le_of_ble_eq_true rfl, Nat.le_of_ble_eq_true rfl⟩ (by decide) ?_
                refine j_if_ne (tgt := 42) dX11_tells_35 (by decide) (fun c => absurd c (by decide)) (fun _ => ?_)
                refine j_sipush (x := (-1002)) dX11_tells_38 rfl (i32_c rfl) ?_
                exact j_iret dX11_tells_41 rfl ⟨Nat.le_of_ble_eq_true rfl, Nat.le_of_ble_eq_true rfl⟩ (fun _ => h)
              · replace h := h.2 c8
                refine j_iconst (x := 1) dX11_in_13 rfl (i32_c rfl) ?_
                refine j_goto (tgt := 18) dX11_in_14 (by decide) ?_
                refine j_zret dX11_in_18 rfl ⟨Nat.le_of_ble_eq_true rfl, Nat.le_of_ble_eq_true rfl⟩ (by decide) ?_
                refine j_zret dX11_isMinute_9 rfl ⟨Nat.le_of_ble_eq_true rfl, Nat.le_of_ble_eq_true rfl⟩ (by decide) ?_
                refine j_if_ne (tgt := 42) dX11_tells_35 (by decide) (fun _ => ?_) (fun c => absurd c (by decide))
                refine j_aload_n 0 dX11_tells_42 rfl ?_
                refine j_iload_n 1 dX11_tells_43 rfl ?_
                refine j_calliV (Yc := Y_X11_canTell) (as := [aI x1]) (rest := []) dX11_tells_44 q_X11_363 ⟨Nat.le_of_ble_eq_true rfl, Nat.le_of_ble_eq_true rfl, Nat.le_of_ble_eq_true rfl, Nat.le_of_ble_eq_true rfl⟩ sh_61 rfl (Nat.le_of_ble_eq_true rfl) rfl (ti_mono h (fun z4 u3 h => ?_))
                refine j_if_ne (tgt := 54) dX11_tells_47 (by decide) (fun c9 => ?_) (fun c9 => ?_)
                · replace h := h.1 c9
                  refine j_aload_n 0 dX11_tells_54 rfl ?_
                  refine j_callvV (Yc := Y_X11_findDark) (as := []) (rest := []) dX11_tells_55 q_X11_366 ⟨Nat.le_of_ble_eq_true rfl, Nat.le_of_ble_eq_true rfl, Nat.le_of_ble_eq_true rfl, Nat.le_of_ble_eq_true rfl⟩ sh_61 rfl (Nat.le_of_ble_eq_true rfl) rfl (tv_mono h (fun u5 h => ?_))
                  refine j_aload_n 0 dX11_tells_58 rfl ?_
                  refine j_iload_n 1 dX11_tells_59 rfl ?_
                  refine j_iload_n 2 dX11_tells_60 rfl ?_
                  refine j_iload_n 3 dX11_tells_61 rfl ?_
                  refine j_iload 4 dX11_tells_62 rfl ?_
                  refine j_calliV (Yc := Y_X11_tellSet) (as := [aI x1, aI x2, aI x3, aI x4]) (rest := []) dX11_tells_64 q_X11_369 ⟨Nat.le_of_ble_eq_true rfl, Nat.le_of_ble_eq_true rfl, Nat.le_of_ble_eq_true rfl, Nat.le_of_ble_eq_true rfl⟩ sh_61 rfl (Nat.le_of_ble_eq_true rfl) rfl (ti_mono h (fun z7 u6 h => ?_))
                  exact j_iret dX11_tells_67 rfl ⟨Nat.le_of_ble_eq_true rfl, Nat.le_of_ble_eq_true rfl⟩ (fun _ => h)
                · replace h := h.2 c9
                  refine j_sipush (x := (-1003)) dX11_tells_50 rfl (i32_c rfl) ?_
                  exact j_iret dX11_tells_53 rfl ⟨Nat.le_of_ble_eq_true rfl, Nat.le_of_ble_eq_true rfl⟩ (fun _ => h)
      · replace h := h.2 c4
        refine j_sipush (x := (-1001)) dX11_tells_20 rfl (i32_c rfl) ?_
        exact j_iret dX11_tells_23 rfl ⟨Nat.le_of_ble_eq_true rfl, Nat.le_of_ble_eq_true rfl⟩ (fun _ => h)
theorem E_X11_tells {post : Int → ax_M → Prop} {M : ax_M} {x1 x2 x3 x4 : Int} (h : ax_mr SH M → (-2147483648 ≤ ((M 61 25) - 1) ∧ ((M 61 25) - 1) ≤ 2147483647) ∧ (((x1 < 0) → post (-1001) M) ∧ ((0 ≤ x1) → (((((M 61 25) - 1) < x1) → post (-1001) M) ∧ ((x1 ≤ ((M 61 25) - 1)) → ax_Ti Y_X11_unknowing [aR 61] SH M (fun z2 u1 => ((((bo_and x4 (bo_xor z2 (-1))) = 0) → (((x2 < (-1)) → post (-1002) u1) ∧ (((-1) ≤ x2) → (((99 < x2) → post (-1002) u1) ∧ ((x2 ≤ 99) → (((x3 < 0) → post (-1002) u1) ∧ ((0 ≤ x3) → (((99 < x3) → post (-1002) u1) ∧ ((x3 ≤ 99) → ax_Ti Y_X11_canTell [aR 61, aI x1] SH u1 (fun z4 u3 => (((¬ z4 = 0) → ax_Tv Y_X11_findDark [aR 61] SH u3 (fun u5 => ax_Ti Y_X11_tellSet [aR 61, aI x1, aI x2, aI x3, aI x4] SH u5 (fun z7 u6 => post z7 u6))) ∧ ((z4 = 0) → post (-1003) u3)))))))))))) ∧ ((¬ (bo_and x4 (bo_xor z2 (-1))) = 0) → post (-1001) u1)))))))) : ax_Ti Y_X11_tells [aR 61, aI x1, aI x2, aI x3, aI x4] SH M post :=
  ti_of rfl (Nat.le_of_ble_eq_true rfl) rfl (fun q => B_X11_tells_0 (h q))
set_option maxRecDepth 100000 in
set_option maxHeartbeats 4000000 in
theorem B_X11_toldBest_0 {post : Int → ax_M → Prop} {M : ax_M} {x1 x2 x3 x4 : Int} (h : (-2147483648 ≤ ((M 61 25) - 1) ∧ ((M 61 25) - 1) ≤ 2147483647) ∧ (((x1 < 0) → post (-1001) M) ∧ ((0 ≤ x1) → (((((M 61 25) - 1) < x1) → post (-1001) M) ∧ ((x1 ≤ ((M 61 25) - 1)) → (((x2 < (-1)) → post (-1002) M) ∧ (((-1) ≤ x2) → (((99 < x2) → post (-1002) M) ∧ ((x2 ≤ 99) → (((x3 < 0) → post (-1002) M) ∧ ((0 ≤ x3) → (((99 < x3) → post (-1002) M) ∧ ((x3 ≤ 99) → (((x4 < 0) → post (-1002) M) ∧ ((0 ≤ x4) → (((1 < x4) → post (-1002) M) ∧ ((x4 ≤ 1) → ax_Ti Y_X11_canTell [aR 61, aI x1] SH M (fun z2 u1 => (((¬ z2 = 0) → ax_Tv Y_X11_findDark [aR 61] SH u1 (fun u3 => ax_Ti Y_X11_unknowing [aR 61] SH u3 (fun z5 u4 => ax_J Y_X11_toldBest (ax_Ki Y_X11_toldBest SH post) 0 0 72 [(0, aR 61), (1, aI x1), (2, aI x2), (3, aI x3), (4, aI x4), (5, aI z5), (6, aI (-1)), (7, aI (-1)), (8, aI 0)] [] SH u4))) ∧ ((z2 = 0) → post (-1003) u1)))))))))))))))))))) : ax_J Y_X11_toldBest (ax_Ki Y_X11_toldBest SH post) 0 0 0 [(0, aR 61), (1, aI x1), (2, aI x2), (3, aI x3), (4, aI x4)] [] SH M := by
  refine j_aload_n 0 dX11_toldBest_0 rfl ?_
  refine j_iload_n 1 dX11_toldBest_1 rfl ?_
  refine j_calliV (Yc := Y_X11_isMan) (as := [aI x1]) (rest := []) dX11_toldBest_2 q_X11_263 ⟨Nat.le_of_ble_eq_true rfl, Nat.le_of_ble_eq_true rfl, Nat.le_of_ble_eq_true rfl, Nat.le_of_ble_eq_true rfl⟩ sh_61 rfl (Nat.le_of_ble_eq_true rfl) rfl (ti_of (ll := [(0, aR 61), (1, aI x1)]) rfl (Nat.le_of_ble_eq_true rfl) rfl (fun _ => ?_))
  refine j_iload_n 1 dX11_isMan_0 rfl ?_
  refine j_i2l dX11_isMan_1 ?_
  refine j_lconst (x := 0) dX11_isMan_2 rfl (i64_c rfl) ?_
  refine j_aload_n 0 dX11_isMan_3 rfl ?_
  refine j_geti (i := 25) dX11_isMan_4 f_X11_240 sh_61 rfl rfl (fun _ => ?_)
  refine j_iconst (x := 1) dX11_isMan_7 rfl (i32_c rfl) ?_
  obtain ⟨o1, h⟩ := h
  refine j_isub (z := ((M 61 25) - 1)) dX11_isMan_8 rfl o1 ?_
  refine j_i2l dX11_isMan_9 ?_
  refine j_calliS (Yc := Y_X11_in) (as := [aL x1, aL 0, aL ((M 61 25) - 1)]) (rest := []) dX11_isMan_10 q_X11_136 ⟨Nat.le_of_ble_eq_true rfl, Nat.le_of_ble_eq_true rfl, Nat.le_of_ble_eq_true rfl, Nat.le_of_ble_eq_true rfl⟩ rfl (Nat.le_of_ble_eq_true rfl) rfl (ti_of (ll := [(0, aL x1), (2, aL 0), (4, aL ((M 61 25) - 1))]) rfl (Nat.le_of_ble_eq_true rfl) rfl (fun _ => ?_))
  refine j_lload_n 0 dX11_in_0 rfl ?_
  refine j_lload_n 1 dX11_in_1 rfl ?_
  refine j_lcmp_lt (tgt := 17) dX11_in_2 dX11_in_3 (by decide) (fun c2 => ?_) (fun c2 => ?_)
  · replace h := h.1 c2
    refine j_iconst (x := 0) dX11_in_17 rfl (i32_c rfl) ?_
    refine j_zret dX11_in_18 rfl ⟨Nat.le_of_ble_eq_true rfl, Nat.le_of_ble_eq_true rfl⟩ (by decide) ?_
    refine j_zret dX11_isMan_13 rfl ⟨Nat.le_of_ble_eq_true rfl, Nat.le_of_ble_eq_true rfl⟩ (by decide) ?_
    refine j_if_ne (tgt := 12) dX11_toldBest_5 (by decide) (fun c => absurd c (by decide)) (fun _ => ?_)
    refine j_sipush (x := (-1001)) dX11_toldBest_8 rfl (i32_c rfl) ?_
    exact j_iret dX11_toldBest_11 rfl ⟨Nat.le_of_ble_eq_true rfl, Nat.le_of_ble_eq_true rfl⟩ (fun _ => h)
  · replace h := h.2 c2
    refine j_lload_n 0 dX11_in_6 rfl ?_
    refine j_lload 2 dX11_in_7 rfl ?_
    refine j_lcmp_gt (tgt := 17) dX11_in_9 dX11_in_10 (by decide) (fun c3 => ?_) (fun c3 => ?_)
    · replace h := h.1 c3
      refine j_iconst (x := 0) dX11_in_17 rfl (i32_c rfl) ?_
      refine j_zret dX11_in_18 rfl ⟨Nat.le_of_ble_eq_true rfl, Nat.le_of_ble_eq_true rfl⟩ (by decide) ?_
      refine j_zret dX11_isMan_13 rfl ⟨Nat.le_of_ble_eq_true rfl, Nat.le_of_ble_eq_true rfl⟩ (by decide) ?_
      refine j_if_ne (tgt := 12) dX11_toldBest_5 (by decide) (fun c => absurd c (by decide)) (fun _ => ?_)
      refine j_sipush (x := (-1001)) dX11_toldBest_8 rfl (i32_c rfl) ?_
      exact j_iret dX11_toldBest_11 rfl ⟨Nat.le_of_ble_eq_true rfl, Nat.le_of_ble_eq_true rfl⟩ (fun _ => h)
    · replace h := h.2 c3
      refine j_iconst (x := 1) dX11_in_13 rfl (i32_c rfl) ?_
      refine j_goto (tgt := 18) dX11_in_14 (by decide) ?_
      refine j_zret dX11_in_18 rfl ⟨Nat.le_of_ble_eq_true rfl, Nat.le_of_ble_eq_true rfl⟩ (by decide) ?_
      refine j_zret dX11_isMan_13 rfl ⟨Nat.le_of_ble_eq_true rfl, Nat.le_of_ble_eq_true rfl⟩ (by decide) ?_
      refine j_if_ne (tgt := 12) dX11_toldBest_5 (by decide) (fun _ => ?_) (fun c => absurd c (by decide))
      refine j_iload_n 2 dX11_toldBest_12 rfl ?_
      refine j_calliS (Yc := Y_X11_isLight) (as := [aI x2]) (rest := []) dX11_toldBest_13 q_X11_284 ⟨Nat.le_of_ble_eq_true rfl, Nat.le_of_ble_eq_true rfl, Nat.le_of_ble_eq_true rfl, Nat.le_of_ble_eq_true rfl⟩ rfl (Nat.le_of_ble_eq_true rfl) rfl (ti_of (ll := [(0, aI x2)]) rfl (Nat.le_of_ble_eq_true rfl) rfl (fun _ => ?_))
      refine j_iload_n 0 dX11_isLight_0 rfl ?_
      refine j_i2l dX11_isLight_1 ?_
      refine j_ldc2 (x := (-1)) dX11_isLight_2 (ax_in 1425 (by decide +kernel) rfl) (i64_c rfl) ?_
      refine j_ldc2 (x := 99) dX11_isLight_5 (ax_in 1393 (by decide +kernel) rfl) (i64_c rfl) ?_
      refine j_calliS (Yc := Y_X11_in) (as := [aL x2, aL (-1), aL 99]) (rest := []) dX11_isLight_8 q_X11_136 ⟨Nat.le_of_ble_eq_true rfl, Nat.le_of_ble_eq_true rfl, Nat.le_of_ble_eq_true rfl, Nat.le_of_ble_eq_true rfl⟩ rfl (Nat.le_of_ble_eq_true rfl) rfl (ti_of (ll := [(0, aL x2), (2, aL (-1)), (4, aL 99)]) rfl (Nat.le_of_ble_eq_true rfl) rfl (fun _ => ?_))
      refine j_lload_n 0 dX11_in_0 rfl ?_
      refine j_lload_n 1 dX11_in_1 rfl ?_
      refine j_lcmp_lt (tgt := 17) dX11_in_2 dX11_in_3 (by decide) (fun c4 => ?_) (fun c4 => ?_)
      · replace h := h.1 c4
        refine j_iconst (x := 0) dX11_in_17 rfl (i32_c rfl) ?_
        refine j_zret dX11_in_18 rfl ⟨Nat.le_of_ble_eq_true rfl, Nat.le_of_ble_eq_true rfl⟩ (by decide) ?_
        refine j_zret dX11_isLight_11 rfl ⟨Nat.le_of_ble_eq_true rfl, Nat.le_of_ble_eq_true rfl⟩ (by decide) ?_
        refine j_if_eq (tgt := 37) dX11_toldBest_16 (by decide) (fun _ => ?_) (fun c => absurd c (by decide))
        refine j_sipush (x := (-1002)) dX11_toldBest_37 rfl (i32_c rfl) ?_
        exact j_iret dX11_toldBest_40 rfl ⟨Nat.le_of_ble_eq_true rfl, Nat.le_of_ble_eq_true rfl⟩ (fun _ => h)
      · replace h := h.2 c4
        refine j_lload_n 0 dX11_in_6 rfl ?_
        refine j_lload 2 dX11_in_7 rfl ?_
        refine j_lcmp_gt (tgt := 17) dX11_in_9 dX11_in_10 (by decide) (fun c5 => ?_) (fun c5 => ?_)
        · replace h := h.1 c5
          refine j_iconst (x := 0) dX11_in_17 rfl (i32_c rfl) ?_
          refine j_zret dX11_in_18 rfl ⟨Nat.le_of_ble_eq_true rfl, Nat.le_of_ble_eq_true rfl⟩ (by decide) ?_
          refine j_zret dX11_isLight_11 rfl ⟨Nat.le_of_ble_eq_true rfl, Nat.le_of_ble_eq_true rfl⟩ (by decide) ?_
          refine j_if_eq (tgt := 37) dX11_toldBest_16 (by decide) (fun _ => ?_) (fun c => absurd c (by decide))
          refine j_sipush (x := (-1002)) dX11_toldBest_37 rfl (i32_c rfl) ?_
          exact j_iret dX11_toldBest_40 rfl ⟨Nat.le_of_ble_eq_true rfl, Nat.le_of_ble_eq_true rfl⟩ (fun _ => h)
        · replace h := h.2 c5
          refine j_iconst (x := 1) dX11_in_13 rfl (i32_c rfl) ?_
          refine j_goto (tgt := 18) dX11_in_14 (by decide) ?_
          refine j_zret dX11_in_18 rfl ⟨Nat.le_of_ble_eq_true rfl, Nat.le_of_ble_eq_true rfl⟩ (by decide) ?_
          refine j_zret dX11_isLight_11 rfl ⟨Nat.le_of_ble_eq_true rfl, Nat.le_of_ble_eq_true rfl⟩ (by decide) ?_
          refine j_if_eq (tgt := 37) dX11_toldBest_16 (by decide) (fun c => absurd c (by decide)) (fun _ => ?_)
          refine j_iload_n 3 dX11_toldBest_19 rfl ?_
          refine j_calliS (Yc := Y_X11_isMinute) (as := [aI x3]) (rest := []) dX11_toldBest_20 q_X11_260 ⟨Nat.le_of_ble_eq_true rfl, Nat.le_of_ble_eq_true rfl, Nat.le_of_ble_eq_true rfl, Nat.le_of_ble_eq_true rfl⟩ rfl (Nat.le_of_ble_eq_true rfl) rfl (ti_of (ll := [(0, aI x3)]) rfl (Nat.le_of_ble_eq_true rfl) rfl (fun _ => ?_))
          refine j_iload_n 0 dX11_isMinute_0 rfl ?_
          refine j_i2l dX11_isMinute_1 ?_
          refine j_lconst (x := 0) dX11_isMinute_2 rfl (i64_c rfl) ?_
          refine j_ldc2 (x := 99) dX11_isMinute_3 (ax_in 1393 (by decide +kernel) rfl) (i64_c rfl) ?_
          refine j_calliS (Yc := Y_X11_in) (as := [aL x3, aL 0, aL 99]) (rest := []) dX11_isMinute_6 q_X11_136 ⟨Nat.le_of_ble_eq_true rfl, Nat.le_of_ble_eq_true rfl, Nat.le_of_ble_eq_true rfl, Nat.le_of_ble_eq_true rfl⟩ rfl (Nat.le_of_ble_eq_true rfl) rfl (ti_of (ll := [(0, aL x3), (2, aL 0), (4, aL 99)]) rfl (Nat.le_of_ble_eq_true rfl) rfl (fun _ => ?_))
          refine j_lload_n 0 dX11_in_0 rfl ?_
          refine j_lload_n 1 dX11_in_1 rfl ?_
          refine j_lcmp_lt (tgt := 17) dX11_in_2 dX11_in_3 (by decide) (fun c6 => ?_) (fun c6 => ?_)
          · replace h := h.1 c6
            refine j_iconst (x := 0) dX11_in_17 rfl (i32_c rfl) ?_
            refine j_zret dX11_in_18 rfl ⟨Nat.le_of_ble_eq_true rfl, Nat.le_of_ble_eq_true rfl⟩ (by decide) ?_
            refine j_zret dX11_isMinute_9 rfl ⟨Nat.le_of_ble_eq_true rfl, Nat.le_of_ble_eq_true rfl⟩ (by decide) ?_
            refine j_if_eq (tgt := 37) dX11_toldBest_23 (by decide) (fun _ => ?_) (fun c => absurd c (by decide))
            refine j_sipush (x := (-1002)) dX11_toldBest_37 rfl (i32_c rfl) ?_
            exact j_iret dX11_toldBest_40 rfl ⟨Nat.le_of_ble_eq_true rfl, Nat.le_of_ble_eq_true rfl⟩ (fun _ => h)
          · replace h := h.2 c6
            refine j_lload_n 0 dX11_in_6 rfl ?_
            refine j_lload 2 dX11_in_7 rfl ?_
            refine j_lcmp_gt (tgt := 17) dX11_in_9 dX11_in_10 (by decide) (fun c7 => ?_) (fun c7 => ?_)
            · replace h := h.1 c7
              refine j_iconst (x := 0) dX11_in_17 rfl (i32_c rfl) ?_
              refine j_zret dX11_in_18 rfl ⟨Nat.le_of_ble_eq_true rfl, Nat.le_of_ble_eq_true rfl⟩ (by decide) ?_
              refine j_zret dX11_isMinute_9 rfl ⟨Nat.le_of_ble_eq_true rfl, Nat.le_of_ble_eq_true rfl⟩ (by decide) ?_
              refine j_if_eq (tgt := 37) dX11_toldBest_23 (by decide) (fun _ => ?_) (fun c => absurd c (by decide))
              refine j_sipush (x := (-1002)) dX11_toldBest_37 rfl (i32_c rfl) ?_
              exact j_iret dX11_toldBest_40 rfl ⟨Nat.le_of_ble_eq_true rfl, Nat.le_of_ble_eq_true rfl⟩ (fun _ => h)
            · replace h := h.2 c7
              refine j_iconst (x := 1) dX11_in_13 rfl (i32_c rfl) ?_
              refine j_goto (tgt := 18) dX11_in_14 (by decide) ?_
              refine j_zret dX11_in_18 rfl ⟨Nat.le_of_ble_eq_true rfl, Nat.le_of_ble_eq_true rfl⟩ (by decide) ?_
              refine j_zret dX11_isMinute_9 rfl ⟨Nat.le_of_ble_eq_true rfl, Nat.le_of_ble_eq_true rfl⟩ (by decide) ?_
              refine j_if_eq (tgt := 37) dX11_toldBest_23 (by decide) (fun c => absurd c (by decide)) (fun _ => ?_)
              refine j_iload 4 dX11_toldBest_26 rfl ?_
              refine j_i2l dX11_toldBest_28 ?_
              refine j_lconst (x := 0) dX11_toldBest_29 rfl (i64_c rfl) ?_
              refine j_lconst (x := 1) dX11_toldBest_30 rfl (i64_c rfl) ?_
              refine j_calliS (Yc := Y_X11_in) (as := [aL x4, aL 0, aL 1]) (rest := []) dX11_toldBest_31 q_X11_136 ⟨Nat.le_of_ble_eq_true rfl, Nat.le_of_ble_eq_true rfl, Nat.le_of_ble_eq_true rfl, Nat.le_of_ble_eq_true rfl⟩ rfl (Nat.le_of_ble_eq_true rfl) rfl (ti_of (ll := [(0, aL x4), (2, aL 0), (4, aL 1)]) rfl (Nat.le_of_ble_eq_true rfl) rfl (fun _ => ?_))
              refine j_lload_n 0 dX11_in_0 rfl ?_
              refine j_lload_n 1 dX11_in_1 rfl ?_
              refine j_lcmp_lt (tgt := 17) dX11_in_2 dX11_in_3 (by decide) (fun c8 => ?_) (fun c8 => ?_)
              · replace h := h.1 c8
                refine j_iconst (x := 0) dX11_in_17 rfl (i32_c rfl) ?_
                refine j_zret dX11_in_18 rfl ⟨Nat.le_of_ble_eq_true rfl, Nat.le_of_ble_eq_true rfl⟩ (by decide) ?_
                refine j_if_ne (tgt := 41) dX11_toldBest_34 (by decide) (fun c => absurd c (by decide)) (fun _ => ?_)
                refine j_sipush (x := (-1002)) dX11_toldBest_37 rfl (i32_c rfl) ?_
                exact j_iret dX11_toldBest_40 rfl ⟨Nat.le_of_ble_eq_true rfl, Nat.le_of_ble_eq_true rfl⟩ (fun _ => h)
              · replace h := h.2 c8
                refine j_lload_n 0 dX11_in_6 rfl ?_
                refine j_lload 2 dX11_in_7 rfl ?_
                refine j_lcmp_gt (tgt := 17) dX11_in_9 dX11_in_10 (by decide) (fun c9 => ?_) (fun c9 => ?_)
                · replace h := h.1 c9
                  refine j_iconst (x := 0) dX11_in_17 rfl (i32_c rfl) ?_
                  refine j_zret dX11_in_18 rfl ⟨Nat.le_of_ble_eq_true rfl, Nat.le_of_ble_eq_true rfl⟩ (by decide) ?_
                  refine j_if_ne (tgt := 41) dX11_toldBest_34 (by decide) (fun c => absurd c (by decide)) (fun _ => ?_)
                  refine j_sipush (x := (-1002)) dX11_toldBest_37 rfl (i32_c rfl) ?_
                  exact j_iret dX11_toldBest_40 rfl ⟨Nat.le_of_ble_eq_true rfl, Nat.le_of_ble_eq_true rfl⟩ (fun _ => h)
                · replace h := h.2 c9
                  refine j_iconst (x := 1) dX11_in_13 rfl (i32_c rfl) ?_
                  refine j_goto (tgt := 18) dX11_in_14 (by decide) ?_
                  refine j_zret dX11_in_18 rfl ⟨Nat.le_of_ble_eq_true rfl, Nat.le_of_ble_eq_true rfl⟩ (by decide) ?_
                  refine j_if_ne (tgt := 41) dX11_toldBest_34 (by decide) (fun _ => ?_) (fun c => absurd c (by decide))
                  refine j_aload_n 0 dX11_toldBest_41 rfl ?_
                  refine j_iload_n 1 dX11_toldBest_42 rfl ?_
                  refine j_calliV (Yc := Y_X11_canTell) (as := [aI x1]) (rest := []) dX11_toldBest_43 q_X11_363 ⟨Nat.le_of_ble_eq_true rfl, Nat.le_of_ble_eq_true rfl, Nat.le_of_ble_eq_true rfl, Nat.le_of_ble_eq_true rfl⟩ sh_61 rfl (Nat.le_of_ble_eq_true rfl) rfl (ti_mono h (fun z2 u1 h => ?_))
                  refine j_if_ne (tgt := 53) dX11_toldBest_46 (by decide) (fun c10 => ?_) (fun c10 => ?_)
                  · replace h := h.1 c10
                    refine j_aload_n 0 dX11_toldBest_53 rfl ?_
                    refine j_callvV (Yc := Y_X11_findDark) (as := []) (rest := []) dX11_toldBest_54 q_X11_366 ⟨Nat.le_of_ble_eq_true rfl, Nat.le_of_ble_eq_true rfl, Nat.le_of_ble_eq_true rfl, Nat.le_of_ble_eq_true rfl⟩ sh_61 rfl (Nat.le_of_ble_eq_true rfl) rfl (tv_mono h (fun u3 h => ?_))
                    refine j_aload_n 0 dX11_toldBest_57 rfl ?_
                    refine j_calliV (Yc := Y_X11_unknowing) (as := []) (rest := []) dX11_toldBest_58 q_X11_357 ⟨Nat.le_of_ble_eq_true rfl, Nat.le_of_ble_eq_true rfl, Nat.le_of_ble_eq_true rfl, Nat.le_of_ble_eq_true rfl⟩ sh_61 rfl (Nat.le_of_ble_eq_true rfl) rfl (ti_mono h (fun z5 u4 h => ?_))
                    refine j_istore (ll' := [(5, aI z5), (0, aR 61), (1, aI x1), (2, aI x2), (3, aI x3), (4, aI x4)]) dX11_toldBest_61 (Nat.le_of_ble_eq_true rfl) rfl ?_
                    refine j_iconst (x := (-1)) dX11_toldBest_63 rfl (i32_c rfl) ?_
                    refine j_istore (ll' := [(6, aI (-1)), (5, aI z5), (0, aR 61), (1, aI x1), (2, aI x2), (3, aI x3), (4, aI x4)]) dX11_toldBest_64 (Nat.le_of_ble_eq_true rfl) rfl ?_
                    refine j_iconst (x := (-1)) dX11_toldBest_66 rfl (i32_c rfl) ?_
                    refine j_istore (ll' := [(7, aI (-1)), (6, aI (-1)), (5, aI z5), (0, aR 61), (1, aI x1), (2, aI x2), (3, aI x3), (4, aI x4)]) dX11_toldBest_67 (Nat.le_of_ble_eq_true rfl) rfl ?_
                    refine j_iconst (x := 0) dX11_toldBest_69 rfl (i32_c rfl) ?_
                    refine j_istore (ll' := [(8, aI 0), (7, aI (-1)), (6, aI (-1)), (5, aI z5), (0, aR 61), (1, aI x1), (2, aI x2), (3, aI x3), (4, aI x4)]) dX11_toldBest_70 (Nat.le_of_ble_eq_true rfl) rfl ?_
                    refine j_sub [4, 5, 6, 7, 8, 3, 2, 1, 0] rfl ?_
                    exact h
                  · replace h := h.2 c10
                    refine j_sipush (x := (-1003)) dX11_toldBest_49 rfl (i32_c rfl) ?_
                    exact j_iret dX11_toldBest_52 rfl ⟨Nat.le_of_ble_eq_true rfl, Nat.le_of_ble_eq_true rfl⟩ (fun _ => h)
theorem E_X11_toldBest {post : Int → ax_M → Prop} {M : ax_M} {x1 x2 x3 x4 : Int} (h : ax_mr SH M → (-2147483648 ≤ ((M 61 25) - 1) ∧ ((M 61 25) - 1) ≤ 2147483647) ∧ (((x1 < 0) → post (-1001) M) ∧ ((0 ≤ x1) → (((((M 61 25) - 1) < x1) → post (-1001) M) ∧ ((x1 ≤ ((M 61 25) - 1)) → (((x2 < (-1)) → post (-1002) M) ∧ (((-1) ≤ x2) → (((99 < x2) → post (-1002) M) ∧ ((x2 ≤ 99) → (((x3 < 0) → post (-1002) M) ∧ ((0 ≤ x3) → (((99 < x3) → post (-1002) M) ∧ ((x3 ≤ 99) → (((x4 < 0) → post (-1002) M) ∧ ((0 ≤ x4) → (((1 < x4) → post (-1002) M) ∧ ((x4 ≤ 1) → ax_Ti Y_X11_canTell [aR 61, aI x1] SH M (fun z2 u1 => (((¬ z2 = 0) → ax_Tv Y_X11_findDark [aR 61] SH u1 (fun u3 => ax_Ti Y_X11_unknowing [aR 61] SH u3 (fun z5 u4 => ax_J Y_X11_toldBest (ax_Ki Y_X11_toldBest SH post) 0 0 72 [(0, aR 61), (1, aI x1), (2, aI x2), (3, aI x3), (4, aI x4), (5, aI z5), (6, aI (-1)), (7, aI (-1)), (8, aI 0)] [] SH u4))) ∧ ((z2 = 0) → post (-1003) u1)))))))))))))))))))) : ax_Ti Y_X11_toldBest [aR 61, aI x1, aI x2, aI x3, aI x4] SH M post :=
  ti_of rfl (Nat.le_of_ble_eq_true rfl) rfl (fun q => B_X11_toldBest_0 (h q))
set_option maxRecDepth 100000 in
set_option maxHeartbeats 4000000 in
theorem B_X11_toldBest_72 {post : Int → ax_M → Prop} {M : ax_M} {x1 x2 x3 x4 x5 x6 x7 x8 : Int} (h : (((4096 ≤ x8) → (((¬ x4 = 0) → post x7 M) ∧ ((x4 = 0) → post x6 M))) ∧ ((x8 < 4096) → (((¬ (bo_and x8 (bo_xor x5 (-1))) = 0) → ((((-1) ≤ x7) → (-2147483648 ≤ (x8 + 1) ∧ (x8 + 1) ≤ 2147483647) ∧ ax_J Y_X11_toldBest (ax_Ki Y_X11_toldBest SH post) 0 0 72 [(0, aR 61), (1, aI x1), (2, aI x2), (3, aI x3), (4, aI x4), (5, aI x5), (6, aI x6), (7, aI x7), (8, aI (x8 + 1))] [] SH M) ∧ ((x7 < (-1)) → (-2147483648 ≤ (x8 + 1) ∧ (x8 + 1) ≤ 2147483647) ∧ ax_J Y_X11_toldBest (ax_Ki Y_X11_toldBest SH post) 0 0 72 [(0, aR 61), (1, aI x1), (2, aI x2), (3, aI x3), (4, aI x4), (5, aI x5), (6, aI x8), (7, aI (-1)), (8, aI (x8 + 1))] [] SH M))) ∧ (((bo_and x8 (bo_xor x5 (-1))) = 0) → ax_Ti Y_X11_tellSet [aR 61, aI x1, aI x2, aI x3, aI x8] SH M (fun z2 u1 => (((z2 ≤ x7) → (-2147483648 ≤ (x8 + 1) ∧ (x8 + 1) ≤ 2147483647) ∧ ax_J Y_X11_toldBest (ax_Ki Y_X11_toldBest SH post) 0 0 72 [(0, aR 61), (1, aI x1), (2, aI x2), (3, aI x3), (4, aI x4), (5, aI x5), (6, aI x6), (7, aI x7), (8, aI (x8 + 1))] [] SH u1) ∧ ((x7 < z2) → (-2147483648 ≤ (x8 + 1) ∧ (x8 + 1) ≤ 2147483647) ∧ ax_J Y_X11_toldBest (ax_Ki Y_X11_toldBest SH post) 0 0 72 [(0, aR 61), (1, aI x1), (2, aI x2), (3, aI x3), (4, aI x4), (5, aI x5), (6, aI x8), (7, aI z2), (8, aI (x8 + 1))] [] SH u1)))))))) : ax_J Y_X11_toldBest (ax_Ki Y_X11_toldBest SH post) 0 0 72 [(0, aR 61), (1, aI x1), (2, aI x2), (3, aI x3), (4, aI x4), (5, aI x5), (6, aI x6), (7, aI x7), (8, aI x8)] [] SH M := by
  refine j_iload 8 dX11_toldBest_72 rfl ?_
  refine j_sipush (x := 4096) dX11_toldBest_74 rfl (i32_c rfl) ?_
  refine j_icmp_ge (tgt := 143) dX11_toldBest_77 (by decide) (fun c1 => ?_) (fun c1 => ?_)
  · replace h := h.1 c1
    refine j_iload 4 dX11_toldBest_143 rfl ?_
    refine j_if_ne (tgt := 153) dX11_toldBest_145 (by decide) (fun c2 => ?_) (fun c2 => ?_)
    · replace h := h.1 c2
      refine j_iload 7 dX11_toldBest_153 rfl ?_
      exact j_iret dX11_toldBest_155 rfl ⟨Nat.le_of_ble_eq_true rfl, Nat.le_of_ble_eq_true rfl⟩ (fun _ => h)
    · replace h := h.2 c2
      refine j_iload 6 dX11_toldBest_148 rfl ?_
      refine j_goto (tgt := 155) dX11_toldBest_150 (by decide) ?_
      exact j_iret dX11_toldBest_155 rfl ⟨Nat.le_of_ble_eq_true rfl, Nat.le_of_ble_eq_true rfl⟩ (fun _ => h)
  · replace h := h.2 c1
    refine j_iload 8 dX11_toldBest_80 rfl ?_
    refine j_iload 5 dX11_toldBest_82 rfl ?_
    refine j_iconst (x := (-1)) dX11_toldBest_84 rfl (i32_c rfl) ?_
    refine j_ixor (z := (bo_xor x5 (-1))) dX11_toldBest_85 rfl ?_
    refine j_iand (z := (bo_and x8 (bo_xor x5 (-1)))) dX11_toldBest_86 rfl ?_
    refine j_if_ne (tgt := 102) dX11_toldBest_87 (by decide) (fun c3 => ?_) (fun c3 => ?_)
    · replace h := h.1 c3
      refine j_iconst (x := (-1)) dX11_toldBest_102 rfl (i32_c rfl) ?_
      refine j_istore (ll' := [(9, aI (-1)), (0, aR 61), (1, aI x1), (2, aI x2), (3, aI x3), (4, aI x4), (5, aI x5), (6, aI x6), (7, aI x7), (8, aI x8)]) dX11_toldBest_103 (Nat.le_of_ble_eq_true rfl) rfl ?_
      refine j_iload 0 dX11_toldBest_105 rfl ?_
      refine j_iload 8 dX11_toldBest_107 rfl ?_
      refine j_icmp_le (tgt := 117) dX11_toldBest_109 (by decide) (fun c4 => ?_) (fun c4 => ?_)
      · replace h := h.1 c4
        refine j_iload 7 dX11_toldBest_117 rfl ?_
        refine j_istore (ll' := [(6, aI x6), (9, aI (-1)), (0, aR 61), (1, aI x1), (2, aI x2), (3, aI x3), (4, aI x4), (5, aI x5), (7, aI x7), (8, aI x8)]) dX11_toldBest_119 (Nat.le_of_ble_eq_true rfl) rfl ?_
        refine j_iload 1 dX11_toldBest_121 rfl ?_
        refine j_iload 8 dX11_toldBest_123 rfl ?_
        refine j_icmp_le (tgt := 133) dX11_toldBest_125 (by decide) (fun _ => ?_) (fun c => by have := c4; omega)
        refine j_iload 8 dX11_toldBest_133 rfl ?_
        refine j_istore (ll' := [(7, aI x7), (6, aI x6), (9, aI (-1)), (0, aR 61), (1, aI x1), (2, aI x2), (3, aI x3), (4, aI x4), (5, aI x5), (8, aI x8)]) dX11_toldBest_135 (Nat.le_of_ble_eq_true rfl) rfl ?_
        obtain ⟨o5, h⟩ := h
        refine j_iinc (ll' := [(8, aI (x8 + 1)), (7, aI x7), (6, aI x6), (9, aI (-1)), (0, aR 61), (1, aI x1), (2, aI x2), (3, aI x3), (4, aI x4), (5, aI x5)]) 9 dX11_toldBest_137 rfl (Nat.le_of_ble_eq_true rfl) o5 rfl ?_
        refine j_goto (tgt := 72) dX11_toldBest_140 (by decide) ?_
        refine j_sub [4, 5, 6, 7, 8, 9, 2, 1, 0] rfl ?_
        exact h
      · replace h := h.2 c4
        refine j_iload 9 dX11_toldBest_112 rfl ?_
        refine j_goto (tgt := 119) dX11_toldBest_114 (by decide) ?_
        refine j_istore (ll' := [(6, aI x8), (9, aI (-1)), (0, aR 61), (1, aI x1), (2, aI x2), (3, aI x3), (4, aI x4), (5, aI x5), (7, aI x7), (8, aI x8)]) dX11_toldBest_119 (Nat.le_of_ble_eq_true rfl) rfl ?_
        refine j_iload 1 dX11_toldBest_121 rfl ?_
        refine j_iload 8 dX11_toldBest_123 rfl ?_
        refine j_icmp_le (tgt := 133) dX11_toldBest_125 (by decide) (fun c => by have := c4; omega) (fun _ => ?_)
        refine j_iload 1 dX11_toldBest_128 rfl ?_
        refine j_goto (tgt := 135) dX11_toldBest_130 (by decide) ?_
        refine j_istore (ll' := [(7, aI (-1)), (6, aI x8), (9, aI (-1)), (0, aR 61), (1, aI x1), (2, aI x2), (3, aI x3), (4, aI x4), (5, aI x5), (8, aI x8)]) dX11_toldBest_135 (Nat.le_of_ble_eq_true rfl) rfl ?_
        obtain ⟨o6, h⟩ := h
        refine j_iinc (ll' := [(8, aI (x8 + 1)), (7, aI (-1)), (6, aI x8), (9, aI (-1)), (0, aR 61), (1, aI x1), (2, aI x2), (3, aI x3), (4, aI x4), (5, aI x5)]) 9 dX11_toldBest_137 rfl (Nat.le_of_ble_eq_true rfl) o6 rfl ?_
        refine j_goto (tgt := 72) dX11_toldBest_140 (by decide) ?_
        refine j_sub [4, 5, 6, 7, 8, 9, 2, 1, 0] rfl ?_
        exact h
    · replace h := h.2 c3
      refine j_aload_n 0 dX11_toldBest_90 rfl ?_
      refine j_iload_n 1 dX11_toldBest_91 rfl ?_
      refine j_iload_n 2 dX11_toldBest_92 rfl ?_
      refine j_iload_n 3 dX11_toldBest_93 rfl ?_
      refine j_iload 8 dX11_toldBest_94 rfl ?_
      refine j_calliV (Yc := Y_X11_tellSet) (as := [aI x1, aI x2, aI x3, aI x8]) (rest := []) dX11_toldBest_96 q_X11_369 ⟨Nat.le_of_ble_eq_true rfl, Nat.le_of_ble_eq_true rfl, Nat.le_of_ble_eq_true rfl, Nat.le_of_ble_eq_true rfl⟩ sh_61 rfl (Nat.le_of_ble_eq_true rfl) rfl (ti_mono h (fun z2 u1 h => ?_))
      refine j_goto (tgt := 103) dX11_toldBest_99 (by decide) ?_
      refine j_istore (ll' := [(9, aI z2), (0, aR 61), (1, aI x1), (2, aI x2), (3, aI x3), (4, aI x4), (5, aI x5), (6, aI x6), (7, aI x7), (8, aI x8)]) dX11_toldBest_103 (Nat.le_of_ble_eq_true rfl) rfl ?_
      refine j_iload 0 dX11_toldBest_105 rfl ?_
      refine j_iload 8 dX11_toldBest_107 rfl ?_
      refine j_icmp_le (tgt := 117) dX11_toldBest_109 (by decide) (fun c7 => ?_) (fun c7 => ?_)
      · replace h := h.1 c7
        refine j_iload 7 dX11_toldBest_117 rfl ?_
        refine j_istore (ll' := [(6, aI x6), (9, aI z2), (0, aR 61), (1, aI x1), (2, aI x2), (3, aI x3), (4, aI x4), (5, aI x5), (7, aI x7), (8, aI x8)]) dX11_toldBest_119 (Nat.le_of_ble_eq_true rfl) rfl ?_
        refine j_iload 1 dX11_toldBest_121 rfl ?_
        refine j_iload 8 dX11_toldBest_123 rfl ?_
        refine j_icmp_le (tgt := 133) dX11_toldBest_125 (by decide) (fun _ => ?_) (fun c => by have := c7; omega)
        refine j_iload 8 dX11_toldBest_133 rfl ?_
        refine j_istore (ll' := [(7, aI x7), (6, aI x6), (9, aI z2), (0, aR 61), (1, aI x1), (2, aI x2), (3, aI x3), (4, aI x4), (5, aI x5), (8, aI x8)]) dX11_toldBest_135 (Nat.le_of_ble_eq_true rfl) rfl ?_
        obtain ⟨o8, h⟩ := h
        refine j_iinc (ll' := [(8, aI (x8 + 1)), (7, aI x7), (6, aI x6), (9, aI z2), (0, aR 61), (1, aI x1), (2, aI x2), (3, aI x3), (4, aI x4), (5, aI x5)]) 9 dX11_toldBest_137 rfl (Nat.le_of_ble_eq_true rfl) o8 rfl ?_
        refine j_goto (tgt := 72) dX11_toldBest_140 (by decide) ?_
        refine j_sub [4, 5, 6, 7, 8, 9, 2, 1, 0] rfl ?_
        exact h
      · replace h := h.2 c7
        refine j_iload 9 dX11_toldBest_112 rfl ?_
        refine j_goto (tgt := 119) dX11_toldBest_114 (by decide) ?_
        refine j_istore (ll' := [(6, aI x8), (9, aI z2), (0, aR 61), (1, aI x1), (2, aI x2), (3, aI x3), (4, aI x4), (5, aI x5), (7, aI x7), (8, aI x8)]) dX11_toldBest_119 (Nat.le_of_ble_eq_true rfl) rfl ?_
        refine j_iload 1 dX11_toldBest_121 rfl ?_
        refine j_iload 8 dX11_toldBest_123 rfl ?_
        refine j_icmp_le (tgt := 133) dX11_toldBest_125 (by decide) (fun c => by have := c7; omega) (fun _ => ?_)
        refine j_iload 1 dX11_toldBest_128 rfl ?_
        refine j_goto (tgt := 135) dX11_toldBest_130 (by decide) ?_
        refine j_istore (ll' := [(7, aI z2), (6, aI x8), (9, aI z2), (0, aR 61), (1, aI x1), (2, aI x2), (3, aI x3), (4, aI x4), (5, aI x5), (8, aI x8)]) dX11_toldBest_135 (Nat.le_of_ble_eq_true rfl) rfl ?_
        obtain ⟨o9, h⟩ := h
        refine j_iinc (ll' := [(8, aI (x8 + 1)), (7, aI z2), (6, aI x8), (9, aI z2), (0, aR 61), (1, aI x1), (2, aI x2), (3, aI x3), (4, aI x4), (5, aI x5)]) 9 dX11_toldBest_137 rfl (Nat.le_of_ble_eq_true rfl) o9 rfl ?_
        refine j_goto (tgt := 72) dX11_toldBest_140 (by decide) ?_
        refine j_sub [4, 5, 6, 7, 8, 9, 2, 1, 0] rfl ?_
        exact h
set_option maxRecDepth 100000 in
set_option maxHeartbeats 4000000 in
theorem B_X11_byTwo_0 {post : Int → ax_M → Prop} {M : ax_M} {x1 x2 x3 x4 x5 x6 : Int} (h : (-2147483648 ≤ ((M 61 25) - 1) ∧ ((M 61 25) - 1) ≤ 2147483647) ∧ (((x1 < 0) → ax_J Y_X11_byTwo (ax_Ki Y_X11_byTwo SH post) 0 0 21 [] [] SH M) ∧ ((0 ≤ x1) → (((((M 61 25) - 1) < x1) → ax_J Y_X11_byTwo (ax_Ki Y_X11_byTwo SH post) 0 0 21 [] [] SH M) ∧ ((x1 ≤ ((M 61 25) - 1)) → (((x3 < 0) → ax_J Y_X11_byTwo (ax_Ki Y_X11_byTwo SH post) 0 0 21 [] [] SH M) ∧ ((0 ≤ x3) → (((((M 61 25) - 1) < x3) → ax_J Y_X11_byTwo (ax_Ki Y_X11_byTwo SH post) 0 0 21 [] [] SH M) ∧ ((x3 ≤ ((M 61 25) - 1)) → (((¬ x1 = x3) → (((x2 < (-1)) → ax_J Y_X11_byTwo (ax_Ki Y_X11_byTwo SH post) 0 0 61 [] [] SH M) ∧ (((-1) ≤ x2) → (((99 < x2) → ax_J Y_X11_byTwo (ax_Ki Y_X11_byTwo SH post) 0 0 61 [] [] SH M) ∧ ((x2 ≤ 99) → (((x4 < (-1)) → ax_J Y_X11_byTwo (ax_Ki Y_X11_byTwo SH post) 0 0 61 [] [] SH M) ∧ (((-1) ≤ x4) → (((99 < x4) → ax_J Y_X11_byTwo (ax_Ki Y_X11_byTwo SH post) 0 0 61 [] [] SH M) ∧ ((x4 ≤ 99) → (((x5 < 0) → ax_J Y_X11_byTwo (ax_Ki Y_X11_byTwo SH post) 0 0 61 [] [] SH M) ∧ ((0 ≤ x5) → (((99 < x5) → ax_J Y_X11_byTwo (ax_Ki Y_X11_byTwo SH post) 0 0 61 [] [] SH M) ∧ ((x5 ≤ 99) → (((x6 < 0) → ax_J Y_X11_byTwo (ax_Ki Y_X11_byTwo SH post) 0 0 61 [] [] SH M) ∧ ((0 ≤ x6) → (((2 < x6) → ax_J Y_X11_byTwo (ax_Ki Y_X11_byTwo SH post) 0 0 61 [] [] SH M) ∧ ((x6 ≤ 2) → ax_Ti Y_X11_canTell [aR 61, aI x1] SH M (fun z2 u1 => (((z2 = 0) → ax_J Y_X11_byTwo (ax_Ki Y_X11_byTwo SH post) 0 0 81 [] [] SH u1) ∧ ((¬ z2 = 0) → ax_Ti Y_X11_canTell [aR 61, aI x3] SH u1 (fun z4 u3 => (((¬ z4 = 0) → ax_Tv Y_X11_findDark [aR 61] SH u3 (fun u5 => ax_Ti Y_X11_unknowing [aR 61] SH u5 (fun z7 u6 => ax_J Y_X11_byTwo (ax_Ki Y_X11_byTwo SH post) 0 0 98 [(0, aR 61), (1, aI x1), (2, aI x2), (3, aI x3), (4, aI x4), (5, aI x5), (6, aI x6), (7, aI z7), (8, aI 0)] [] SH u6))) ∧ ((z4 = 0) → ax_J Y_X11_byTwo (ax_Ki Y_X11_byTwo SH post) 0 0 81 [] [] SH u3))))))))))))))))))))))) ∧ ((x1 = x3) → ax_J Y_X11_byTwo (ax_Ki Y_X11_byTwo SH post) 0 0 21 [] [] SH M))))))))))) : ax_J Y_X11_byTwo (ax_Ki Y_X11_byTwo SH post) 0 0 0 [(0, aR 61), (1, aI x1), (2, aI x2), (3, aI x3), (4, aI x4), (5, aI x5), (6, aI x6)] [] SH M := by
  refine j_aload_n 0 dX11_byTwo_0 rfl ?_
  refine j_iload_n 1 dX11_byTwo_1 rfl ?_
  refine j_calliV (Yc := Y_X11_isMan) (as := [aI x1]) (rest := []) dX11_byTwo_2 q_X11_263 ⟨Nat.le_of_ble_eq_true rfl, Nat.le_of_ble_eq_true rfl, Nat.le_of_ble_eq_true rfl, Nat.le_of_ble_eq_true rfl⟩ sh_61 rfl (Nat.le_of_ble_eq_true rfl) rfl (ti_of (ll := [(0, aR 61), (1, aI x1)]) rfl (Nat.le_of_ble_eq_true rfl) rfl (fun _ => ?_))
  refine j_iload_n 1 dX11_isMan_0 rfl ?_
  refine j_i2l dX11_isMan_1 ?_
  refine j_lconst (x := 0) dX11_isMan_2 rfl (i64_c rfl) ?_
  refine j_aload_n 0 dX11_isMan_3 rfl ?_
  refine j_geti (i := 25) dX11_isMan_4 f_X11_240 sh_61 rfl rfl (fun _ => ?_)
  refine j_iconst (x := 1) dX11_isMan_7 rfl (i32_c rfl) ?_
  obtain ⟨o1, h⟩ := h
  refine j_isub (z := ((M 61 25) - 1)) dX11_isMan_8 rfl o1 ?_
  refine j_i2l dX11_isMan_9 ?_
  refine j_calliS (Yc := Y_X11_in) (as := [aL x1, aL 0, aL ((M 61 25) - 1)]) (rest := []) dX11_isMan_10 q_X11_136 ⟨Nat.le_of_ble_eq_true rfl, Nat.le_of_ble_eq_true rfl, Nat.le_of_ble_eq_true rfl, Nat.le_of_ble_eq_true rfl⟩ rfl (Nat.le_of_ble_eq_true rfl) rfl (ti_of (ll := [(0, aL x1), (2, aL 0), (4, aL ((M 61 25) - 1))]) rfl (Nat.le_of_ble_eq_true rfl) rfl (fun _ => ?_))
  refine j_lload_n 0 dX11_in_0 rfl ?_
  refine j_lload_n 1 dX11_in_1 rfl ?_
  refine j_lcmp_lt (tgt := 17) dX11_in_2 dX11_in_3 (by decide) (fun c2 => ?_) (fun c2 => ?_)
  · replace h := h.1 c2
    refine j_iconst (x := 0) dX11_in_17 rfl (i32_c rfl) ?_
    refine j_zret dX11_in_18 rfl ⟨Nat.le_of_ble_eq_true rfl, Nat.le_of_ble_eq_true rfl⟩ (by decide) ?_
    refine j_zret dX11_isMan_13 rfl ⟨Nat.le_of_ble_eq_true rfl, Nat.le_of_ble_eq_true rfl⟩ (by decide) ?_
    refine j_if_eq (tgt := 21) dX11_byTwo_5 (by decide) (fun _ => ?_) (fun c => absurd c (by decide))
    refine j_sub [] rfl ?_
    exact h
  · replace h := h.2 c2
    refine j_lload_n 0 dX11_in_6 rfl ?_
    refine j_lload 2 dX11_in_7 rfl ?_
    refine j_lcmp_gt (tgt := 17) dX11_in_9 dX11_in_10 (by decide) (fun c3 => ?_) (fun c3 => ?_)
    · replace h := h.1 c3
      refine j_iconst (x := 0) dX11_in_17 rfl (i32_c rfl) ?_
      refine j_zret dX11_in_18 rfl ⟨Nat.le_of_ble_eq_true rfl, Nat.le_of_ble_eq_true rfl⟩ (by decide) ?_
      refine j_zret dX11_isMan_13 rfl ⟨Nat.le_of_ble_eq_true rfl, Nat.le_of_ble_eq_true rfl⟩ (by decide) ?_
      refine j_if_eq (tgt := 21) dX11_byTwo_5 (by decide) (fun _ => ?_) (fun c => absurd c (by decide))
      refine j_sub [] rfl ?_
      exact h
    · replace h := h.2 c3
      refine j_iconst (x := 1) dX11_in_13 rfl (i32_c rfl) ?_
      refine j_goto (tgt := 18) dX11_in_14 (by decide) ?_
      refine j_zret dX11_in_18 rfl ⟨Nat.le_of_ble_eq_true rfl, Nat.le_of_ble_eq_true rfl⟩ (by decide) ?_
      refine j_zret dX11_isMan_13 rfl ⟨Nat.le_of_ble_eq_true rfl, Nat.le_of_ble_eq_true rfl⟩ (by decide) ?_
      refine j_if_eq (tgt := 21) dX11_byTwo_5 (by decide) (fun c => absurd c (by decide)) (fun _ => ?_)
      refine j_aload_n 0 dX11_byTwo_8 rfl ?_
      refine j_iload_n 3 dX11_byTwo_9 rfl ?_
      refine j_calliV (Yc := Y_X11_isMan) (as := [aI x3]) (rest := []) dX11_byTwo_10 q_X11_263 ⟨Nat.le_of_ble_eq_true rfl, Nat.le_of_ble_eq_true rfl, Nat.le_of_ble_eq_true rfl, Nat.le_of_ble_eq_true rfl⟩ sh_61 rfl (Nat.le_of_ble_eq_true rfl) rfl (ti_of (ll := [(0, aR 61), (1, aI x3)]) rfl (Nat.le_of_ble_eq_true rfl) rfl (fun _ => ?_))
      refine j_iload_n 1 dX11_isMan_0 rfl ?_
      refine j_i2l dX11_isMan_1 ?_
      refine j_lconst (x := 0) dX11_isMan_2 rfl (i64_c rfl) ?_
      refine j_aload_n 0 dX11_isMan_3 rfl ?_
      refine j_geti (i := 25) dX11_isMan_4 f_X11_240 sh_61 rfl rfl (fun _ => ?_)
      refine j_iconst (x := 1) dX11_isMan_7 rfl (i32_c rfl) ?_
      refine j_isub (z := ((M 61 25) - 1)) dX11_isMan_8 rfl o1 ?_
      refine j_i2l dX11_isMan_9 ?_
      refine j_calliS (Yc := Y_X11_in) (as := [aL x3, aL 0, aL ((M 61 25) - 1)]) (rest := []) dX11_isMan_10 q_X11_136 ⟨Nat.le_of_ble_eq_true rfl, Nat.le_of_ble_eq_true rfl, Nat.le_of_ble_eq_true rfl, Nat.le_of_ble_eq_true rfl⟩ rfl (Nat.le_of_ble_eq_true rfl) rfl (ti_of (ll := [(0, aL x3), (2, aL 0), (4, aL ((M 61 25) - 1))]) rfl (Nat.le_of_ble_eq_true rfl) rfl (fun _ => ?_))
      refine j_lload_n 0 dX11_in_0 rfl ?_
      refine j_lload_n 1 dX11_in_1 rfl ?_
      refine j_lcmp_lt (tgt := 17) dX11_in_2 dX11_in_3 (by decide) (fun c4 => ?_) (fun c4 => ?_)
      · replace h := h.1 c4
        refine j_iconst (x := 0) dX11_in_17 rfl (i32_c rfl) ?_
        refine j_zret dX11_in_18 rfl ⟨Nat.le_of_ble_eq_true rfl, Nat.le_of_ble_eq_true rfl⟩ (by decide) ?_
        refine j_zret dX11_isMan_13 rfl ⟨Nat.le_of_ble_eq_true rfl, Nat.le_of_ble_eq_true rfl⟩ (by decide) ?_
        refine j_if_eq (tgt := 21) dX11_byTwo_13 (by decide) (fun _ => ?_) (fun c => absurd c (by decide))
        refine j_sub [] rfl ?_
        exact h
      · replace h := h.2 c4
        refine j_lload_n 0 dX11_in_6 rfl ?_
        refine j_lload 2 dX11_in_7 rfl ?_
        refine j_lcmp_gt (tgt := 17) dX11_in_9 dX11_in_10 (by decide) (fun c5 => ?_) (fun c5 => ?_)
        · replace h := h.1 c5
          refine j_iconst (x := 0) dX11_in_17 rfl (i32_c rfl) ?_
          refine j_zret dX11_in_18 rfl ⟨Nat.le_of_ble_eq_true rfl, Nat.le_of_ble_eq_true rfl⟩ (by decide) ?_
          refine j_zret dX11_isMan_13 rfl ⟨Nat.le_of_ble_eq_true rfl, Nat.le_of_ble_eq_true rfl⟩ (by decide) ?_
          refine j_if_eq (tgt := 21) dX11_byTwo_13 (by decide) (fun _ => ?_) (fun c => absurd c (by decide))
          refine j_sub [] rfl ?_
          exact h
        · replace h := h.2 c5
          refine j_iconst (x := 1) dX11_in_13 rfl (i32_c rfl) ?_
          refine j_goto (tgt := 18) dX11_in_14 (by decide) ?_
          refine j_zret dX11_in_18 rfl ⟨Nat.le_of_ble_eq_true rfl, Nat.le_of_ble_eq_true rfl⟩ (by decide) ?_
          refine j_zret dX11_isMan_13 rfl ⟨Nat.le_of_ble_eq_true rfl, Nat.le_of_ble_eq_true rfl⟩ (by decide) ?_
          refine j_if_eq (tgt := 21) dX11_byTwo_13 (by decide) (fun c => absurd c (by decide)) (fun _ => ?_)
          refine j_iload_n 1 dX11_byTwo_16 rfl ?_
          refine j_iload_n 3 dX11_byTwo_17 rfl ?_
          refine j_icmp_ne (tgt := 25) dX11_byTwo_18 (by decide) (fun c6 => ?_) (fun c6 => ?_)
          · replace h := h.1 c6
            refine j_iload_n 2 dX11_byTwo_25 rfl ?_
            refine j_calliS (Yc := Y_X11_isLight) (as := [aI x2]) (rest := []) dX11_byTwo_26 q_X11_284 ⟨Nat.le_of_ble_eq_true rfl, Nat.le_of_ble_eq_true rfl, Nat.le_of_ble_eq_true rfl, Nat.le_of_ble_eq_true rfl⟩ rfl (Nat.le_of_ble_eq_true rfl) rfl (ti_of (ll := [(0, aI x2)]) rfl (Nat.le_of_ble_eq_true rfl) rfl (fun _ => ?_))
            refine j_iload_n 0 dX11_isLight_0 rfl ?_
            refine j_i2l dX11_isLight_1 ?_
            refine j_ldc2 (x := (-1)) dX11_isLight_2 (ax_in 1425 (by decide +kernel) rfl) (i64_c rfl) ?_
            refine j_ldc2 (x := 99) dX11_isLight_5 (ax_in 1393 (by decide +kernel) rfl) (i64_c rfl) ?_
            refine j_calliS (Yc := Y_X11_in) (as := [aL x2, aL (-1), aL 99]) (rest := []) dX11_isLight_8 q_X11_136 ⟨Nat.le_of_ble_eq_true rfl, Nat.le_of_ble_eq_true rfl, Nat.le_of_ble_eq_true rfl, Nat.le_of_ble_eq_true rfl⟩ rfl (Nat.le_of_ble_eq_true rfl) rfl (ti_of (ll := [(0, aL x2), (2, aL (-1)), (4, aL 99)]) rfl (Nat.le_of_ble_eq_true rfl) rfl (fun _ => ?_))
            refine j_lload_n 0 dX11_in_0 rfl ?_
            refine j_lload_n 1 dX11_in_1 rfl ?_
            refine j_lcmp_lt (tgt := 17) dX11_in_2 dX11_in_3 (by decide) (fun c7 => ?_) (fun c7 => ?_)
            · replace h := h.1 c7
              refine j_iconst (x := 0) dX11_in_17 rfl (i32_c rfl) ?_
              refine j_zret dX11_in_18 rfl ⟨Nat.le_of_ble_eq_true rfl, Nat.le_of_ble_eq_true rfl⟩ (by decide) ?_
              refine j_zret dX11_isLight_11 rfl ⟨Nat.le_of_ble_eq_true rfl, Nat.le_of_ble_eq_true rfl⟩ (by decide) ?_
              refine j_if_eq (tgt := 61) dX11_byTwo_29 (by decide) (fun _ => ?_) (fun c => absurd c (by decide))
              refine j_sub [] rfl ?_
              exact h
            · replace h := h.2 c7
              refine j_lload_n 0 dX11_in_6 rfl ?_
              refine j_lload 2 dX11_in_7 rfl ?_
              refine j_lcmp_gt (tgt := 17) dX11_in_9 dX11_in_10 (by decide) (fun c8 => ?_) (fun c8 => ?_)
              · replace h := h.1 c8
                refine j_iconst (x := 0) dX11_in_17 rfl (i32_c rfl) ?_
                refine j_zret dX11_in_18 rfl ⟨Nat.le_of_ble_eq_true rfl, Nat.le_of_ble_eq_true rfl⟩ (by decide) ?_
                refine j_zret dX11_isLight_11 rfl ⟨Nat.le_of_ble_eq_true rfl, Nat.le_of_ble_eq_true rfl⟩ (by decide) ?_
                refine j_if_eq (tgt := 61) dX11_byTwo_29 (by decide) (fun _ => ?_) (fun c => absurd c (by decide))
                refine j_sub [] rfl ?_
                exact h
              · replace h := h.2 c8
                refine j_iconst (x := 1) dX11_in_13 rfl (i32_c rfl) ?_
                refine j_goto (tgt := 18) dX11_in_14 (by decide) ?_
                refine j_zret dX11_in_18 rfl ⟨Nat.le_of_ble_eq_true rfl, Nat.le_of_ble_eq_true rfl⟩ (by decide) ?_
                refine j_zret dX11_isLight_11 rfl ⟨Nat.le_of_ble_eq_true rfl, Nat.le_of_ble_eq_true rfl⟩ (by decide) ?_
                refine j_if_eq (tgt := 61) dX11_byTwo_29 (by decide) (fun c => absurd c (by decide)) (fun _ => ?_)
                refine j_iload 4 dX11_byTwo_32 rfl ?_
                refine j_calliS (Yc := Y_X11_isLight) (as := [aI x4]) (rest := []) dX11_byTwo_34 q_X11_284 ⟨Nat.le_of_ble_eq_true rfl, Nat.le_of_ble_eq_true rfl, Nat.le_of_ble_eq_true rfl, Nat.le_of_ble_eq_true rfl⟩ rfl (Nat.le_of_ble_eq_true rfl) rfl (ti_of (ll := [(0, aI x4)]) rfl (Nat.le_of_ble_eq_true rfl) rfl (fun _ => ?_))
                refine j_iload_n 0 dX11_isLight_0 rfl ?_
                refine j_i2l dX11_isLight_1 ?_
                refine j_ldc2 (x := (-1)) dX11_isLight_2 (ax_in 1425 (by decide +kernel) rfl) (i64_c rfl) ?_
                refine j_ldc2 (x := 99) dX11_isLight_5 (ax_in 1393 (by decide +kernel) rfl) (i64_c rfl) ?_
                refine j_calliS (Yc := Y_X11_in) (as := [aL x4, aL (-1), aL 99]) (rest := []) dX11_isLight_8 q_X11_136 ⟨Nat.le_of_ble_eq_true rfl, Nat.le_of_ble_eq_true rfl, Nat.le_of_ble_eq_true rfl, Nat.le_of_ble_eq_true rfl⟩ rfl (Nat.le_of_ble_eq_true rfl) rfl (ti_of (ll := [(0, aL x4), (2, aL (-1)), (4, aL 99)]) rfl (Nat.le_of_ble_eq_true rfl) rfl (fun _ => ?_))
                refine j_lload_n 0 dX11_in_0 rfl ?_
                refine j_lload_n 1 dX11_in_1 rfl ?_
                refine j_lcmp_lt (tgt := 17) dX11_in_2 dX11_in_3 (by decide) (fun c9 => ?_) (fun c9 => ?_)
                · replace h := h.1 c9
                  refine j_iconst (x := 0) dX11_in_17 rfl (i32_c rfl) ?_
                  refine j_zret dX11_in_18 rfl ⟨Nat.le_of_ble_eq_true rfl, Nat.le_of_ble_eq_true rfl⟩ (by decide) ?_
                  refine j_zret dX11_isLight_11 rfl ⟨Nat.le_of_ble_eq_true rfl, Nat.le_of_ble_eq_true rfl⟩ (by decide) ?_
                  refine j_if_eq (tgt := 61) dX11_byTwo_37 (by decide) (fun _ => ?_) (fun c => absurd c (by decide))
                  refine j_sub [] rfl ?_
                  exact h
                · replace h := h.2 c9
                  refine j_lload_n 0 dX11_in_6 rfl ?_
                  refine j_lload 2 dX11_in_7 rfl ?_
                  refine j_lcmp_gt (tgt := 17) dX11_in_9 dX11_in_10 (by decide) (fun c10 => ?_) (fun c10 => ?_)
                  · replace h := h.1 c10
                    refine j_iconst (x := 0) dX11_in_17 rfl (i32_c rfl) ?_
                    refine j_zret dX11_in_18 rfl ⟨Nat.le_of_ble_eq_true rfl, Nat.le_of_ble_eq_true rfl⟩ (by decide) ?_
                    refine j_zret dX11_isLight_11 rfl ⟨Nat.le_of_ble_eq_true rfl, Nat.le_of_ble_eq_true rfl⟩ (by decide) ?_
                    refine j_if_eq (tgt := 61) dX11_byTwo_37 (by decide) (fun _ => ?_) (fun c => absurd c (by decide))
                    refine j_sub [] rfl ?_
                    exact h
                  · replace h := h.2 c10
                    refine j_iconst (x := 1) dX11_in_13 rfl (i32_c rfl) ?_
                    refine j_goto (tgt := 18) dX11_in_14 (by decide) ?_
                    refine j_zret dX11_in_18 rfl ⟨Nat.le_of_ble_eq_true rfl, Nat.le_of_ble_eq_true rfl⟩ (by decide) ?_
                    refine j_zret dX11_isLight_11 rfl ⟨Nat.le_of_ble_eq_true rfl, Nat.le_of_ble_eq_true rfl⟩ (by decide) ?_
                    refine j_if_eq (tgt := 61) dX11_byTwo_37 (by decide) (fun c => absurd c (by decide)) (fun _ => ?_)
                    refine j_iload 5 dX11_byTwo_40 rfl ?_
                    refine j_calliS (Yc := Y_X11_isMinute) (as := [aI x5]) (rest := []) dX11_byTwo_42 q_X11_260 ⟨Nat.le_of_ble_eq_true rfl, Nat.le_of_ble_eq_true rfl, Nat.le_of_ble_eq_true rfl, Nat.le_of_ble_eq_true rfl⟩ rfl (Nat.le_of_ble_eq_true rfl) rfl (ti_of (ll := [(0, aI x5)]) rfl (Nat.le_of_ble_eq_true rfl) rfl (fun _ => ?_))
                    refine j_iload_n 0 dX11_isMinute_0 rfl ?_
                    refine j_i2l dX11_isMinute_1 ?_
                    refine j_lconst (x := 0) dX11_isMinute_2 rfl (i64_c rfl) ?_
                    refine j_ldc2 (x := 99) dX11_isMinute_3 (ax_in 1393 (by decide +kernel) rfl) (i64_c rfl) ?_
                    refine j_calliS (Yc := Y_X11_in) (as := [aL x5, aL 0, aL 99]) (rest := []) dX11_isMinute_6 q_X11_136 ⟨Nat.le_of_ble_eq_true rfl, Nat.le_of_ble_eq_true rfl, Nat.le_of_ble_eq_true rfl, Nat.le_of_ble_eq_true rfl⟩ rfl (Nat.le_of_ble_eq_true rfl) rfl (ti_of (ll := [(0, aL x5), (2, aL 0), (4, aL 99)]) rfl (Nat.le_of_ble_eq_true rfl) rfl (fun _ => ?_))
                    refine j_lload_n 0 dX11_in_0 rfl ?_
                    refine j_lload_n 1 dX11_in_1 rfl ?_
                    refine j_lcmp_lt (tgt := 17) dX11_in_2 dX11_in_3 (by decide) (fun c11 => ?_) (fun c11 => ?_)
                    · replace h := h.1 c11
                      refine j_iconst (x := 0) dX11_in_17 rfl (i32_c rfl) ?_
                      refine j_zret dX11_in_18 rfl ⟨Nat.le_of_ble_eq_true rfl, Nat.le_of_ble_eq_true rfl⟩ (by decide) ?_
                      refine j_zret dX11_isMinute_9 rfl ⟨Nat.le_of_ble_eq_true rfl, Nat.le_of_ble_eq_true rfl⟩ (by decide) ?_
                      refine j_if_eq (tgt := 61) dX11_byTwo_45 (by decide) (fun _ => ?_) (fun c => absurd c (by decide))
                      refine j_sub [] rfl ?_
                      exact h
                    · replace h := h.2 c11
                      refine j_lload_n 0 dX11_in_6 rfl ?_
                      refine j_lload 2 dX11_in_7 rfl ?_
                      refine j_lcmp_gt (tgt := 17) dX11_in_9 dX11_in_10 (by decide) (fun c12 => ?_) (fun c12 => ?_)
                      · replace h := h.1 c12
                        refine j_iconst (x := 0) dX11_in_17 rfl (i32_c rfl) ?_
                        refine j_zret dX11_in_18 rfl ⟨Nat.le_of_ble_eq_true rfl, Nat.le_of_ble_eq_true rfl⟩ (by decide) ?_
                        refine j_zret dX11_isMinute_9 rfl ⟨Nat.le_of_ble_eq_true rfl, Nat.le_of_ble_eq_true rfl⟩ (by decide) ?_
                        refine j_if_eq (tgt := 61) dX11_byTwo_45 (by decide) (fun _ => ?_) (fun c => absurd c (by decide))
                        refine j_sub [] rfl ?_
                        exact h
                      · replace h := h.2 c12
                        refine j_iconst (x := 1) dX11_in_13 rfl (i32_c rfl) ?_
                        refine j_goto (tgt := 18) dX11_in_14 (by decide) ?_
                        refine j_zret dX11_in_18 rfl ⟨Nat.le_of_ble_eq_true rfl, Nat.le_of_ble_eq_true rfl⟩ (by decide) ?_
                        refine j_zret dX11_isMinute_9 rfl ⟨Nat.le_of_ble_eq_true rfl, Nat.le_of_ble_eq_true rfl⟩ (by decide) ?_
                        refine j_if_eq (tgt := 61) dX11_byTwo_45 (by decide) (fun c => absurd c (by decide)) (fun _ => ?_)
                        refine j_iload 6 dX11_byTwo_48 rfl ?_
                        refine j_i2l dX11_byTwo_50 ?_
                        refine j_lconst (x := 0) dX11_byTwo_51 rfl (i64_c rfl) ?_
                        refine j_ldc2 (x := 2) dX11_byTwo_52 (ax_in 1565 (by decide +kernel) rfl) (i64_c rfl) ?_
                        refine j_calliS (Yc := Y_X11_in) (as := [aL x6, aL 0, aL 2]) (rest := []) dX11_byTwo_55 q_X11_136 ⟨Nat.le_of_ble_eq_true rfl, Nat.le_of_ble_eq_true rfl, Nat.le_of_ble_eq_true rfl, Nat.le_of_ble_eq_true rfl⟩ rfl (Nat.le_of_ble_eq_true rfl) rfl (ti_of (ll := [(0, aL x6), (2, aL 0), (4, aL 2)]) rfl (Nat.le_of_ble_eq_true rfl) rfl (fun _ => ?_))
                        refine j_lload_n 0 dX11_in_0 rfl ?_
                        refine j_lload_n 1 dX11_in_1 rfl ?_
                        refine j_lcmp_lt (tgt := 17) dX11_in_2 dX11_in_3 (by decide) (fun c13 => ?_) (fun c13 => ?_)
                        · replace h := h.1 c13
                          refine j_iconst (x := 0) dX11_in_17 rfl (i32_c rfl) ?_
                          refine j_zret dX11_in_18 rfl ⟨Nat.le_of_ble_eq_true rfl, Nat.le_of_ble_eq_true rfl⟩ (by decide) ?_
                          refine j_if_ne (tgt := 65) dX11_byTwo_58 (by decide) (fun c => absurd c (by decide)) (fun _ => ?_)
                          refine j_sub [] rfl ?_
                          exact h
                        · replace h := h.2 c13
                          refine j_lload_n 0 dX11_in_6 rfl ?_
                          refine j_lload 2 dX11_in_7 rfl ?_
                          refine j_lcmp_gt (tgt := 17) dX11_in_9 dX11_in_10 (by decide) (fun c14 => ?_) (fun c14 => ?_)
                          · replace h := h.1 c14
                            refine j_iconst (x := 0) dX11_in_17 rfl (i32_c rfl) ?_
                            refine j_zret dX11_in_18 rfl ⟨Nat.le_of_ble_eq_true rfl, Nat.le_of_ble_eq_true rfl⟩ (by decide) ?_
                            refine j_if_ne (tgt := 65) dX11_byTwo_58 (by decide) (fun c => absurd c (by decide)) (fun _ => ?_)
                            refine j_sub [] rfl ?_
                            exact h
                          · replace h := h.2 c14
                            refine j_iconst (x := 1) dX11_in_13 rfl (i32_c rfl) ?_
                            refine j_goto (tgt := 18) dX11_in_14 (by decide) ?_
                            refine j_zret dX11_in_18 rfl ⟨Nat.le_of_ble_eq_true rfl, Nat.le_of_ble_eq_true rfl⟩ (by decide) ?_
                            refine j_if_ne (tgt := 65) dX11_byTwo_58 (by decide) (fun _ => ?_) (fun c => absurd c (by decide))
                            refine j_aload_n 0 dX11_byTwo_65 rfl ?_
                            refine j_iload_n 1 dX11_byTwo_66 rfl ?_
                            refine j_calliV (Yc := Y_X11_canTell) (as := [aI x1]) (rest := []) dX11_byTwo_67 q_X11_363 ⟨Nat.le_of_ble_eq_true rfl, Nat.le_of_ble_eq_true rfl, Nat.le_of_ble_eq_true rfl, Nat.le_of_ble_eq_true rfl⟩ sh_61 rfl (Nat.le_of_ble_eq_true rfl) rfl (ti_mono h (fun z2 u1 h => ?_))
                            refine j_if_eq (tgt := 81) dX11_byTwo_70 (by decide) (fun c15 => ?_) (fun c15 => ?_)
                            · replace h := h.1 c15
                              refine j_sub [] rfl ?_
                              exact h
                            · replace h := h.2 c15
                              refine j_aload_n 0 dX11_byTwo_73 rfl ?_
                              refine j_iload_n 3 dX11_byTwo_74 rfl ?_
                              refine j_calliV (Yc := Y_X11_canTell) (as := [aI x3]) (rest := []) dX11_byTwo_75 q_X11_363 ⟨Nat.le_of_ble_eq_true rfl, Nat.le_of_ble_eq_true rfl, Nat.le_of_ble_eq_true rfl, Nat.le_of_ble_eq_true rfl⟩ sh_61 rfl (Nat.le_of_ble_eq_true rfl) rfl (ti_mono h (fun z4 u3 h => ?_))
                              refine j_if_ne (tgt := 85) dX11_byTwo_78 (by decide) (fun c16 => ?_) (fun c16 => ?_)
                              · replace h := h.1 c16
                                refine j_aload_n 0 dX11_byTwo_85 rfl ?_
                                refine j_callvV (Yc := Y_X11_findDark) (as := []) (rest := []) dX11_byTwo_86 q_X11_366 ⟨Nat.le_of_ble_eq_true rfl, Nat.le_of_ble_eq_true rfl, Nat.le_of_ble_eq_true rfl, Nat.le_of_ble_eq_true rfl⟩ sh_61 rfl (Nat.le_of_ble_eq_true rfl) rfl (tv_mono h (fun u5 h => ?_))
                                refine j_aload_n 0 dX11_byTwo_89 rfl ?_
                                refine j_calliV (Yc := Y_X11_unknowing) (as := []) (rest := []) dX11_byTwo_90 q_X11_357 ⟨Nat.le_of_ble_eq_true rfl, Nat.le_of_ble_eq_true rfl, Nat.le_of_ble_eq_true rfl, Nat.le_of_ble_eq_true rfl⟩ sh_61 rfl (Nat.le_of_ble_eq_true rfl) rfl (ti_mono h (fun z7 u6 h => ?_))
                                refine j_istore (ll' := [(7, aI z7), (0, aR 61), (1, aI x1), (2, aI x2), (3, aI x3), (4, aI x4), (5, aI x5), (6, aI x6)]) dX11_byTwo_93 (Nat.le_of_ble_eq_true rfl) rfl ?_
                                refine j_iconst (x := 0) dX11_byTwo_95 rfl (i32_c rfl) ?_
                                refine j_istore (ll' := [(8, aI 0), (7, aI z7), (0, aR 61), (1, aI x1), (2, aI x2), (3, aI x3), (4, aI x4), (5, aI x5), (6, aI x6)]) dX11_byTwo_96 (Nat.le_of_ble_eq_true rfl) rfl ?_
                                refine j_sub [2, 3, 4, 5, 6, 7, 8, 1, 0] rfl ?_
                                exact h
                              · replace h := h.2 c16
                                refine j_sub [] rfl ?_
                                exact h
          · replace h := h.2 c6
            refine j_sub [] rfl ?_
            exact h
theorem E_X11_byTwo {post : Int → ax_M → Prop} {M : ax_M} {x1 x2 x3 x4 x5 x6 : Int} (h : ax_mr SH M → (-2147483648 ≤ ((M 61 25) - 1) ∧ ((M 61 25) - 1) ≤ 2147483647) ∧ (((x1 < 0) → ax_J Y_X11_byTwo (ax_Ki Y_X11_byTwo SH post) 0 0 21 [] [] SH M) ∧ ((0 ≤ x1) → (((((M 61 25) - 1) < x1) → ax_J Y_X11_byTwo (ax_Ki Y_X11_byTwo SH post) 0 0 21 [] [] SH M) ∧ ((x1 ≤ ((M 61 25) - 1)) → (((x3 < 0) → ax_J Y_X11_byTwo (ax_Ki Y_X11_byTwo SH post) 0 0 21 [] [] SH M) ∧ ((0 ≤ x3) → (((((M 61 25) - 1) < x3) → ax_J Y_X11_byTwo (ax_Ki Y_X11_byTwo SH post) 0 0 21 [] [] SH M) ∧ ((x3 ≤ ((M 61 25) - 1)) → (((¬ x1 = x3) → (((x2 < (-1)) → ax_J Y_X11_byTwo (ax_Ki Y_X11_byTwo SH post) 0 0 61 [] [] SH M) ∧ (((-1) ≤ x2) → (((99 < x2) → ax_J Y_X11_byTwo (ax_Ki Y_X11_byTwo SH post) 0 0 61 [] [] SH M) ∧ ((x2 ≤ 99) → (((x4 < (-1)) → ax_J Y_X11_byTwo (ax_Ki Y_X11_byTwo SH post) 0 0 61 [] [] SH M) ∧ (((-1) ≤ x4) → (((99 < x4) → ax_J Y_X11_byTwo (ax_Ki Y_X11_byTwo SH post) 0 0 61 [] [] SH M) ∧ ((x4 ≤ 99) → (((x5 < 0) → ax_J Y_X11_byTwo (ax_Ki Y_X11_byTwo SH post) 0 0 61 [] [] SH M) ∧ ((0 ≤ x5) → (((99 < x5) → ax_J Y_X11_byTwo (ax_Ki Y_X11_byTwo SH post) 0 0 61 [] [] SH M) ∧ ((x5 ≤ 99) → (((x6 < 0) → ax_J Y_X11_byTwo (ax_Ki Y_X11_byTwo SH post) 0 0 61 [] [] SH M) ∧ ((0 ≤ x6) → (((2 < x6) → ax_J Y_X11_byTwo (ax_Ki Y_X11_byTwo SH post) 0 0 61 [] [] SH M) ∧ ((x6 ≤ 2) → ax_Ti Y_X11_canTell [aR 61, aI x1] SH M (fun z2 u1 => (((z2 = 0) → ax_J Y_X11_byTwo (ax_Ki Y_X11_byTwo SH post) 0 0 81 [] [] SH u1) ∧ ((¬ z2 = 0) → ax_Ti Y_X11_canTell [aR 61, aI x3] SH u1 (fun z4 u3 => (((¬ z4 = 0) → ax_Tv Y_X11_findDark [aR 61] SH u3 (fun u5 => ax_Ti Y_X11_unknowing [aR 61] SH u5 (fun z7 u6 => ax_J Y_X11_byTwo (ax_Ki Y_X11_byTwo SH post) 0 0 98 [(0, aR 61), (1, aI x1), (2, aI x2), (3, aI x3), (4, aI x4), (5, aI x5), (6, aI x6), (7, aI z7), (8, aI 0)] [] SH u6))) ∧ ((z4 = 0) → ax_J Y_X11_byTwo (ax_Ki Y_X11_byTwo SH post) 0 0 81 [] [] SH u3))))))))))))))))))))))) ∧ ((x1 = x3) → ax_J Y_X11_byTwo (ax_Ki Y_X11_byTwo SH post) 0 0 21 [] [] SH M))))))))))) : ax_Ti Y_X11_byTwo [aR 61, aI x1, aI x2, aI x3, aI x4, aI x5, aI x6] SH M post :=
  ti_of rfl (Nat.le_of_ble_eq_true rfl) rfl (fun q => B_X11_byTwo_0 (h q))
set_option maxRecDepth 100000 in
set_option maxHeartbeats 4000000 in
theorem B_X11_byTwo_21 {post : Int → ax_M → Prop} {M : ax_M} (h : post (-1001) M) : ax_J Y_X11_byTwo (ax_Ki Y_X11_byTwo SH post) 0 0 21 [] [] SH M := by
  refine j_sipush (x := (-1001)) dX11_byTwo_21 rfl (i32_c rfl) ?_
  exact j_iret dX11_byTwo_24 rfl ⟨Nat.le_of_ble_eq_true rfl, Nat.le_of_ble_eq_true rfl⟩ (fun _ => h)
set_option maxRecDepth 100000 in
set_option maxHeartbeats 4000000 in
theorem B_X11_byTwo_61 {post : Int → ax_M → Prop} {M : ax_M} (h : post (-1002) M) : ax_J Y_X11_byTwo (ax_Ki Y_X11_byTwo SH post) 0 0 61 [] [] SH M := by
  refine j_sipush (x := (-1002)) dX11_byTwo_61 rfl (i32_c rfl) ?_
  exact j_iret dX11_byTwo_64 rfl ⟨Nat.le_of_ble_eq_true rfl, Nat.le_of_ble_eq_true rfl⟩ (fun _ => h)
set_option maxRecDepth 100000 in
set_option maxHeartbeats 4000000 in
theorem B_X11_byTwo_81 {post : Int → ax_M → Prop} {M : ax_M} (h : post (-1003) M) : ax_J Y_X11_byTwo (ax_Ki Y_X11_byTwo SH post) 0 0 81 [] [] SH M := by
  refine j_sipush (x := (-1003)) dX11_byTwo_81 rfl (i32_c rfl) ?_
  exact j_iret dX11_byTwo_84 rfl ⟨Nat.le_of_ble_eq_true rfl, Nat.le_of_ble_eq_true rfl⟩ (fun _ => h)
set_option maxRecDepth 100000 in
set_option maxHeartbeats 4000000 in
theorem B_X11_byTwo_98 {post : Int → ax_M → Prop} {M : ax_M} {x1 x2 x3 x4 x5 x6 x7 x8 : Int} (h : (((4096 ≤ x8) → ax_J Y_X11_byTwo (ax_Ki Y_X11_byTwo SH post) 0 0 194 [(0, aR 61), (6, aI x6), (8, aI (-1)), (9, aI (-1)), (10, aI (-1)), (11, aI 0)] [] SH M) ∧ ((x8 < 4096) → (((¬ (bo_and x8 (bo_xor x7 (-1))) = 0) → ax_J Y_X11_byTwo (ax_Ki Y_X11_byTwo SH post) 0 0 121 [(0, aR 61), (1, aI x1), (2, aI x2), (3, aI x3), (4, aI x4), (5, aI x5), (6, aI x6), (7, aI x7), (8, aI x8)] [aI 0] SH M) ∧ (((bo_and x8 (bo_xor x7 (-1))) = 0) → ax_J Y_X11_byTwo (ax_Ki Y_X11_byTwo SH post) 0 0 121 [(0, aR 61), (1, aI x1), (2, aI x2), (3, aI x3), (4, aI x4), (5, aI x5), (6, aI x6), (7, aI x7), (8, aI x8)] [aI 1] SH M))))) : ax_J Y_X11_byTwo (ax_Ki Y_X11_byTwo SH post) 0 0 98 [(0, aR 61), (1, aI x1), (2, aI x2), (3, aI x3), (4, aI x4), (5, aI x5), (6, aI x6), (7, aI x7), (8, aI x8)] [] SH M := by
  refine j_iload 8 dX11_byTwo_98 rfl ?_
  refine j_sipush (x := 4096) dX11_byTwo_100 rfl (i32_c rfl) ?_
  refine j_icmp_ge (tgt := 182) dX11_byTwo_103 (by decide) (fun c1 => ?_) (fun c1 => ?_)
  · replace h := h.1 c1
    refine j_iconst (x := (-1)) dX11_byTwo_182 rfl (i32_c rfl) ?_
    refine j_istore (ll' := [(8, aI (-1)), (0, aR 61), (1, aI x1), (2, aI x2), (3, aI x3), (4, aI x4), (5, aI x5), (6, aI x6), (7, aI x7)]) dX11_byTwo_183 (Nat.le_of_ble_eq_true rfl) rfl ?_
    refine j_iconst (x := (-1)) dX11_byTwo_185 rfl (i32_c rfl) ?_
    refine j_istore (ll' := [(9, aI (-1)), (8, aI (-1)), (0, aR 61), (1, aI x1), (2, aI x2), (3, aI x3), (4, aI x4), (5, aI x5), (6, aI x6), (7, aI x7)]) dX11_byTwo_186 (Nat.le_of_ble_eq_true rfl) rfl ?_
    refine j_iconst (x := (-1)) dX11_byTwo_188 rfl (i32_c rfl) ?_
    refine j_istore (ll' := [(10, aI (-1)), (9, aI (-1)), (8, aI (-1)), (0, aR 61), (1, aI x1), (2, aI x2), (3, aI x3), (4, aI x4), (5, aI x5), (6, aI x6), (7, aI x7)]) dX11_byTwo_189 (Nat.le_of_ble_eq_true rfl) rfl ?_
    refine j_iconst (x := 0) dX11_byTwo_191 rfl (i32_c rfl) ?_
    refine j_istore (ll' := [(11, aI 0), (10, aI (-1)), (9, aI (-1)), (8, aI (-1)), (0, aR 61), (1, aI x1), (2, aI x2), (3, aI x3), (4, aI x4), (5, aI x5), (6, aI x6), (7, aI x7)]) dX11_byTwo_192 (Nat.le_of_ble_eq_true rfl) rfl ?_
    refine j_sub [4, 10, 3, 2, 1, 0] rfl ?_
    exact h
  · replace h := h.2 c1
    refine j_iload 8 dX11_byTwo_106 rfl ?_
    refine j_iload 7 dX11_byTwo_108 rfl ?_
    refine j_iconst (x := (-1)) dX11_byTwo_110 rfl (i32_c rfl) ?_
    refine j_ixor (z := (bo_xor x7 (-1))) dX11_byTwo_111 rfl ?_
    refine j_iand (z := (bo_and x8 (bo_xor x7 (-1)))) dX11_byTwo_112 rfl ?_
    refine j_if_ne (tgt := 120) dX11_byTwo_113 (by decide) (fun c2 => ?_) (fun c2 => ?_)
    · replace h := h.1 c2
      refine j_iconst (x := 0) dX11_byTwo_120 rfl (i32_c rfl) ?_
      exact h
    · replace h := h.2 c2
      refine j_iconst (x := 1) dX11_byTwo_116 rfl (i32_c rfl) ?_
      refine j_goto (tgt := 121) dX11_byTwo_117 (by decide) ?_
      exact h
set_option maxRecDepth 100000 in
set_option maxHeartbeats 4000000 in
theorem B_X11_byTwo_121 {post : Int → ax_M → Prop} {M : ax_M} {s0 x1 x2 x3 x4 x5 x6 x7 x8 : Int} (h : (((s0 = 0) → ax_J Y_X11_byTwo (ax_Ki Y_X11_byTwo SH post) 0 0 148 [(0, aR 61), (1, aI x1), (2, aI x2), (3, aI x3), (4, aI x4), (5, aI x5), (6, aI x6), (7, aI x7), (8, aI x8), (9, aI s0)] [aI (-1), aI x8, aR 89] SH M) ∧ ((¬ s0 = 0) → ax_Ti Y_X11_tellSet [aR 61, aI x1, aI x2, aI x5, aI x8] SH M (fun z2 u1 => ax_J Y_X11_byTwo (ax_Ki Y_X11_byTwo SH post) 0 0 148 [(0, aR 61), (1, aI x1), (2, aI x2), (3, aI x3), (4, aI x4), (5, aI x5), (6, aI x6), (7, aI x7), (8, aI x8), (9, aI s0)] [aI z2, aI x8, aR 89] SH u1)))) : ax_J Y_X11_byTwo (ax_Ki Y_X11_byTwo SH post) 0 0 121 [(0, aR 61), (1, aI x1), (2, aI x2), (3, aI x3), (4, aI x4), (5, aI x5), (6, aI x6), (7, aI x7), (8, aI x8)] [aI s0] SH M := by
  refine j_istore (ll' := [(9, aI s0), (0, aR 61), (1, aI x1), (2, aI x2), (3, aI x3), (4, aI x4), (5, aI x5), (6, aI x6), (7, aI x7), (8, aI x8)]) dX11_byTwo_121 (Nat.le_of_ble_eq_true rfl) rfl ?_
  refine j_aload_n 1 dX11_byTwo_123 rfl ?_
  refine j_getc 89 dX11_byTwo_124 f_X11_102 sh_61 rfl ?_
  refine j_iload 9 dX11_byTwo_127 rfl ?_
  refine j_iload 0 dX11_byTwo_129 rfl ?_
  refine j_if_eq (tgt := 147) dX11_byTwo_131 (by decide) (fun c1 => ?_) (fun c1 => ?_)
  · replace h := h.1 c1
    refine j_iconst (x := (-1)) dX11_byTwo_147 rfl (i32_c rfl) ?_
    refine j_sub [1, 2, 3, 4, 5, 6, 7, 8, 9, 0] rfl ?_
    exact h
  · replace h := h.2 c1
    refine j_aload_n 1 dX11_byTwo_134 rfl ?_
    refine j_iload_n 2 dX11_byTwo_135 rfl ?_
    refine j_iload_n 3 dX11_byTwo_136 rfl ?_
    refine j_iload 6 dX11_byTwo_137 rfl ?_
    refine j_iload 9 dX11_byTwo_139 rfl ?_
    refine j_calliV (Yc := Y_X11_tellSet) (as := [aI x1, aI x2, aI x5, aI x8]) (rest := [aI x8, aR 89]) dX11_byTwo_141 q_X11_369 ⟨Nat.le_of_ble_eq_true rfl, Nat.le_of_ble_eq_true rfl, Nat.le_of_ble_eq_true rfl, Nat.le_of_ble_eq_true rfl⟩ sh_61 rfl (Nat.le_of_ble_eq_true rfl) rfl (ti_mono h (fun z2 u1 h => ?_))
    refine j_goto (tgt := 148) dX11_byTwo_144 (by decide) ?_
    refine j_sub [1, 2, 3, 4, 5, 6, 7, 8, 9, 0] rfl ?_
    exact h
set_option maxRecDepth 100000 in
set_option maxHeartbeats 4000000 in
theorem B_X11_byTwo_194 {post : Int → ax_M → Prop} {M : ax_M} {x6 x8 x9 x10 x11 : Int} (h : (((4096 ≤ x11) → (((¬ x6 = 0) → (((¬ x6 = 1) → post x10 M) ∧ ((x6 = 1) → post x9 M))) ∧ ((x6 = 0) → post x8 M))) ∧ ((x11 < 4096) → ax_J Y_X11_byTwo (ax_Ki Y_X11_byTwo SH post) 0 0 205 [(0, aR 61), (6, aI x6), (8, aI x8), (9, aI x9), (10, aI x10), (11, aI x11), (12, aI 0)] [] SH M))) : ax_J Y_X11_byTwo (ax_Ki Y_X11_byTwo SH post) 0 0 194 [(0, aR 61), (6, aI x6), (8, aI x8), (9, aI x9), (10, aI x10), (11, aI x11)] [] SH M := by
  refine j_iload 5 dX11_byTwo_194 rfl ?_
  refine j_sipush (x := 4096) dX11_byTwo_196 rfl (i32_c rfl) ?_
  refine j_icmp_ge (tgt := 310) dX11_byTwo_199 (by decide) (fun c1 => ?_) (fun c1 => ?_)
  · replace h := h.1 c1
    refine j_iload 1 dX11_byTwo_310 rfl ?_
    refine j_if_ne (tgt := 320) dX11_byTwo_312 (by decide) (fun c2 => ?_) (fun c2 => ?_)
    · replace h := h.1 c2
      refine j_iload 1 dX11_byTwo_320 rfl ?_
      refine j_iconst (x := 1) dX11_byTwo_322 rfl (i32_c rfl) ?_
      refine j_icmp_ne (tgt := 331) dX11_byTwo_323 (by decide) (fun c3 => ?_) (fun c3 => ?_)
      · replace h := h.1 c3
        refine j_iload 4 dX11_byTwo_331 rfl ?_
        exact j_iret dX11_byTwo_333 rfl ⟨Nat.le_of_ble_eq_true rfl, Nat.le_of_ble_eq_true rfl⟩ (fun _ => h)
      · replace h := h.2 c3
        refine j_iload 3 dX11_byTwo_326 rfl ?_
        refine j_goto (tgt := 333) dX11_byTwo_328 (by decide) ?_
        exact j_iret dX11_byTwo_333 rfl ⟨Nat.le_of_ble_eq_true rfl, Nat.le_of_ble_eq_true rfl⟩ (fun _ => h)
    · replace h := h.2 c2
      refine j_iload 2 dX11_byTwo_315 rfl ?_
      refine j_goto (tgt := 333) dX11_byTwo_317 (by decide) ?_
      exact j_iret dX11_byTwo_333 rfl ⟨Nat.le_of_ble_eq_true rfl, Nat.le_of_ble_eq_true rfl⟩ (fun _ => h)
  · replace h := h.2 c1
    refine j_iconst (x := 0) dX11_byTwo_202 rfl (i32_c rfl) ?_
    refine j_istore (ll' := [(12, aI 0), (0, aR 61), (6, aI x6), (8, aI x8), (9, aI x9), (10, aI x10), (11, aI x11)]) dX11_byTwo_203 (Nat.le_of_ble_eq_true rfl) rfl ?_
    refine j_sub [1, 2, 3, 4, 5, 6, 0] rfl ?_
    exact h
set_option maxRecDepth 100000 in
set_option maxHeartbeats 4000000 in
theorem B_X11_byTwo_148 {post : Int → ax_M → Prop} {M : ax_M} {s0 s1 x1 x2 x3 x4 x5 x6 x7 x8 x9 : Int} (h : (0 ≤ s1 ∧ s1 < 4096) ∧ (((x9 = 0) → ax_J Y_X11_byTwo (ax_Ki Y_X11_byTwo SH post) 0 0 175 [(0, aR 61), (1, aI x1), (2, aI x2), (3, aI x3), (4, aI x4), (5, aI x5), (6, aI x6), (7, aI x7), (8, aI x8)] [aI (-1), aI x8, aR 90] SH (ax_up M 89 s1 s0)) ∧ ((¬ x9 = 0) → ax_Ti Y_X11_tellSet [aR 61, aI x3, aI x4, aI x5, aI x8] SH (ax_up M 89 s1 s0) (fun z2 u1 => ax_J Y_X11_byTwo (ax_Ki Y_X11_byTwo SH post) 0 0 175 [(0, aR 61), (1, aI x1), (2, aI x2), (3, aI x3), (4, aI x4), (5, aI x5), (6, aI x6), (7, aI x7), (8, aI x8)] [aI z2, aI x8, aR 90] SH u1)))) : ax_J Y_X11_byTwo (ax_Ki Y_X11_byTwo SH post) 0 0 148 [(0, aR 61), (1, aI x1), (2, aI x2), (3, aI x3), (4, aI x4), (5, aI x5), (6, aI x6), (7, aI x7), (8, aI x8), (9, aI x9)] [aI s0, aI s1, aR 89] SH M := by
  obtain ⟨o1, h⟩ := h
  refine j_iast dX11_byTwo_148 sh_89 o1.1 o1.2 ?_
  refine j_aload_n 0 dX11_byTwo_149 rfl ?_
  refine j_getc 90 dX11_byTwo_150 f_X11_105 sh_61 rfl ?_
  refine j_iload 8 dX11_byTwo_153 rfl ?_
  refine j_iload 9 dX11_byTwo_155 rfl ?_
  refine j_if_eq (tgt := 174) dX11_byTwo_157 (by decide) (fun c2 => ?_) (fun c2 => ?_)
  · replace h := h.1 c2
    refine j_iconst (x := (-1)) dX11_byTwo_174 rfl (i32_c rfl) ?_
    refine j_sub [0, 1, 2, 3, 4, 5, 6, 7, 8] rfl ?_
    exact h
  · replace h := h.2 c2
    refine j_aload_n 0 dX11_byTwo_160 rfl ?_
    refine j_iload_n 3 dX11_byTwo_161 rfl ?_
    refine j_iload 4 dX11_byTwo_162 rfl ?_
    refine j_iload 5 dX11_byTwo_164 rfl ?_
    refine j_iload 8 dX11_byTwo_166 rfl ?_
    refine j_calliV (Yc := Y_X11_tellSet) (as := [aI x3, aI x4, aI x5, aI x8]) (rest := [aI x8, aR 90]) dX11_byTwo_168 q_X11_369 ⟨Nat.le_of_ble_eq_true rfl, Nat.le_of_ble_eq_true rfl, Nat.le_of_ble_eq_true rfl, Nat.le_of_ble_eq_true rfl⟩ sh_61 rfl (Nat.le_of_ble_eq_true rfl) rfl (ti_mono h (fun z2 u1 h => ?_))
    refine j_goto (tgt := 175) dX11_byTwo_171 (by decide) ?_
    refine j_sub [0, 1, 2, 3, 4, 5, 6, 7, 8] rfl ?_
    exact h
set_option maxRecDepth 100000 in
set_option maxHeartbeats 4000000 in
theorem B_X11_byTwo_205 {post : Int → ax_M → Prop} {M : ax_M} {x6 x8 x9 x10 x11 x12 : Int} (h : (((4096 ≤ x12) → ax_J Y_X11_byTwo (ax_Ki Y_X11_byTwo SH post) 0 0 304 [(0, aR 61), (6, aI x6), (8, aI x8), (9, aI x9), (10, aI x10), (11, aI x11)] [] SH M) ∧ ((x12 < 4096) → (0 ≤ x11 ∧ x11 < 4096) ∧ ((((M 89 x11) < 0) → ax_J Y_X11_byTwo (ax_Ki Y_X11_byTwo SH post) 0 0 304 [(0, aR 61), (6, aI x6), (8, aI x8), (9, aI x9), (10, aI x10), (11, aI x11)] [] SH M) ∧ ((0 ≤ (M 89 x11)) → (((¬ (bo_and x11 x12) = 0) → ax_J Y_X11_byTwo (ax_Ki Y_X11_byTwo SH post) 0 0 245 [(0, aR 61), (6, aI x6), (8, aI x8), (9, aI x9), (10, aI x10), (11, aI x11), (12, aI x12)] [] SH M) ∧ (((bo_and x11 x12) = 0) → (0 ≤ x12 ∧ x12 < 4096) ∧ ((((M 90 x12) < 0) → ax_J Y_X11_byTwo (ax_Ki Y_X11_byTwo SH post) 0 0 245 [(0, aR 61), (6, aI x6), (8, aI x8), (9, aI x9), (10, aI x10), (11, aI x11), (12, aI x12)] [] SH M) ∧ ((0 ≤ (M 90 x12)) → ax_J Y_X11_byTwo (ax_Ki Y_X11_byTwo SH post) 0 0 246 [(0, aR 61), (6, aI x6), (8, aI x8), (9, aI x9), (10, aI x10), (11, aI x11), (12, aI x12)] [aI 1] SH M))))))))) : ax_J Y_X11_byTwo (ax_Ki Y_X11_byTwo SH post) 0 0 205 [(0, aR 61), (6, aI x6), (8, aI x8), (9, aI x9), (10, aI x10), (11, aI x11), (12, aI x12)] [] SH M := by
  refine j_iload 6 dX11_byTwo_205 rfl ?_
  refine j_sipush (x := 4096) dX11_byTwo_207 rfl (i32_c rfl) ?_
  refine j_icmp_ge (tgt := 304) dX11_byTwo_210 (by decide) (fun c1 => ?_) (fun c1 => ?_)
  · replace h := h.1 c1
    refine j_sub [0, 1, 2, 3, 4, 5] rfl ?_
    exact h
  · replace h := h.2 c1
    refine j_aload_n 0 dX11_byTwo_213 rfl ?_
    refine j_getc 89 dX11_byTwo_214 f_X11_102 sh_61 rfl ?_
    refine j_iload 5 dX11_byTwo_217 rfl ?_
    obtain ⟨o2, h⟩ := h
    refine j_iald dX11_byTwo_219 sh_89 o2.1 o2.2 (fun _ => ?_)
    refine j_if_lt (tgt := 304) dX11_byTwo_220 (by decide) (fun c3 => ?_) (fun c3 => ?_)
    · replace h := h.1 c3
      refine j_sub [0, 1, 2, 3, 4, 5] rfl ?_
      exact h
    · replace h := h.2 c3
      refine j_iload 5 dX11_byTwo_223 rfl ?_
      refine j_iload 6 dX11_byTwo_225 rfl ?_
      refine j_iand (z := (bo_and x11 x12)) dX11_byTwo_227 rfl ?_
      refine j_if_ne (tgt := 245) dX11_byTwo_228 (by decide) (fun c4 => ?_) (fun c4 => ?_)
      · replace h := h.1 c4
        exact h
      · replace h := h.2 c4
        refine j_aload_n 0 dX11_byTwo_231 rfl ?_
        refine j_getc 90 dX11_byTwo_232 f_X11_105 sh_61 rfl ?_
        refine j_iload 6 dX11_byTwo_235 rfl ?_
        obtain ⟨o5, h⟩ := h
        refine j_iald dX11_byTwo_237 sh_90 o5.1 o5.2 (fun _ => ?_)
        refine j_if_lt (tgt := 245) dX11_byTwo_238 (by decide) (fun c6 => ?_) (fun c6 => ?_)
        · replace h := h.1 c6
          exact h
        · replace h := h.2 c6
          refine j_iconst (x := 1) dX11_byTwo_241 rfl (i32_c rfl) ?_
          refine j_goto (tgt := 246) dX11_byTwo_242 (by decide) ?_
          exact h
set_option maxRecDepth 100000 in
set_option maxHeartbeats 4000000 in
theorem B_X11_byTwo_175 {post : Int → ax_M → Prop} {M : ax_M} {s0 s1 x1 x2 x3 x4 x5 x6 x7 x8 : Int} (h : (0 ≤ s1 ∧ s1 < 4096) ∧ (-2147483648 ≤ (x8 + 1) ∧ (x8 + 1) ≤ 2147483647) ∧ ax_J Y_X11_byTwo (ax_Ki Y_X11_byTwo SH post) 0 0 98 [(0, aR 61), (1, aI x1), (2, aI x2), (3, aI x3), (4, aI x4), (5, aI x5), (6, aI x6), (7, aI x7), (8, aI (x8 + 1))] [] SH (ax_up M 90 s1 s0)) : ax_J Y_X11_byTwo (ax_Ki Y_X11_byTwo SH post) 0 0 175 [(0, aR 61), (1, aI x1), (2, aI x2), (3, aI x3), (4, aI x4), (5, aI x5), (6, aI x6), (7, aI x7), (8, aI x8)] [aI s0, aI s1, aR 90] SH M := by
  obtain ⟨o1, h⟩ := h
  refine j_iast dX11_byTwo_175 sh_90 o1.1 o1.2 ?_
  obtain ⟨o2, h⟩ := h
  refine j_iinc (ll' := [(8, aI (x8 + 1)), (0, aR 61), (1, aI x1), (2, aI x2), (3, aI x3), (4, aI x4), (5, aI x5), (6, aI x6), (7, aI x7)]) 8 dX11_byTwo_176 rfl (Nat.le_of_ble_eq_true rfl) o2 rfl ?_
  refine j_goto (tgt := 98) dX11_byTwo_179 (by decide) ?_
  refine j_sub [1, 2, 3, 4, 5, 6, 7, 8, 0] rfl ?_
  exact h
set_option maxRecDepth 100000 in
set_option maxHeartbeats 4000000 in
theorem B_X11_byTwo_245 {post : Int → ax_M → Prop} {M : ax_M} {x6 x8 x9 x10 x11 x12 : Int} (h : ax_J Y_X11_byTwo (ax_Ki Y_X11_byTwo SH post) 0 0 246 [(0, aR 61), (6, aI x6), (8, aI x8), (9, aI x9), (10, aI x10), (11, aI x11), (12, aI x12)] [aI 0] SH M) : ax_J Y_X11_byTwo (ax_Ki Y_X11_byTwo SH post) 0 0 245 [(0, aR 61), (6, aI x6), (8, aI x8), (9, aI x9), (10, aI x10), (11, aI x11), (12, aI x12)] [] SH M := by
  refine j_iconst (x := 0) dX11_byTwo_245 rfl (i32_c rfl) ?_
  exact h
set_option maxRecDepth 100000 in
set_option maxHeartbeats 4000000 in
theorem B_X11_byTwo_246 {post : Int → ax_M → Prop} {M : ax_M} {s0 x6 x8 x9 x10 x11 x12 : Int} (h : (((s0 = 0) → ax_J Y_X11_byTwo (ax_Ki Y_X11_byTwo SH post) 0 0 298 [(0, aR 61), (6, aI x6), (8, aI x8), (9, aI x9), (10, aI x10), (11, aI x11), (12, aI x12)] [] SH M) ∧ ((¬ s0 = 0) → (0 ≤ x11 ∧ x11 < 4096) ∧ (0 ≤ x12 ∧ x12 < 4096) ∧ (-2147483648 ≤ ((M 89 x11) + (M 90 x12)) ∧ ((M 89 x11) + (M 90 x12)) ≤ 2147483647) ∧ (((((M 89 x11) + (M 90 x12)) ≤ x10) → ax_J Y_X11_byTwo (ax_Ki Y_X11_byTwo SH post) 0 0 298 [(0, aR 61), (6, aI x6), (8, aI x8), (9, aI x9), (10, aI x10), (11, aI x11), (12, aI x12)] [] SH M) ∧ ((x10 < ((M 89 x11) + (M 90 x12))) → ax_J Y_X11_byTwo (ax_Ki Y_X11_byTwo SH post) 0 0 298 [(0, aR 61), (6, aI x6), (8, aI x11), (9, aI x12), (10, aI ((M 89 x11) + (M 90 x12))), (11, aI x11), (12, aI x12)] [] SH M))))) : ax_J Y_X11_byTwo (ax_Ki Y_X11_byTwo SH post) 0 0 246 [(0, aR 61), (6, aI x6), (8, aI x8), (9, aI x9), (10, aI x10), (11, aI x11), (12, aI x12)] [aI s0] SH M := by
  refine j_istore (ll' := [(13, aI s0), (0, aR 61), (6, aI x6), (8, aI x8), (9, aI x9), (10, aI x10), (11, aI x11), (12, aI x12)]) dX11_byTwo_246 (Nat.le_of_ble_eq_true rfl) rfl ?_
  refine j_iload 0 dX11_byTwo_248 rfl ?_
  refine j_if_eq (tgt := 298) dX11_byTwo_250 (by decide) (fun c1 => ?_) (fun c1 => ?_)
  · replace h := h.1 c1
    refine j_sub [1, 2, 3, 4, 5, 6, 7] rfl ?_
    exact h
  · replace h := h.2 c1
    refine j_aload_n 1 dX11_byTwo_253 rfl ?_
    refine j_getc 89 dX11_byTwo_254 f_X11_102 sh_61 rfl ?_
    refine j_iload 6 dX11_byTwo_257 rfl ?_
    obtain ⟨o2, h⟩ := h
    refine j_iald dX11_byTwo_259 sh_89 o2.1 o2.2 (fun _ => ?_)
    refine j_aload_n 1 dX11_byTwo_260 rfl ?_
    refine j_getc 90 dX11_byTwo_261 f_X11_105 sh_61 rfl ?_
    refine j_iload 7 dX11_byTwo_264 rfl ?_
    obtain ⟨o3, h⟩ := h
    refine j_iald dX11_byTwo_266 sh_90 o3.1 o3.2 (fun _ => ?_)
    obtain ⟨o4, h⟩ := h
    refine j_iadd (z := ((M 89 x11) + (M 90 x12))) dX11_byTwo_267 rfl o4 ?_
    refine j_iload 5 dX11_byTwo_268 rfl ?_
    refine j_icmp_le (tgt := 298) dX11_byTwo_270 (by decide) (fun c5 => ?_) (fun c5 => ?_)
    · replace h := h.1 c5
      refine j_sub [1, 2, 3, 4, 5, 6, 7] rfl ?_
      exact h
    · replace h := h.2 c5
      refine j_iload 6 dX11_byTwo_273 rfl ?_
      refine j_istore (ll' := [(8, aI x11), (13, aI s0), (0, aR 61), (6, aI x6), (9, aI x9), (10, aI x10), (11, aI x11), (12, aI x12)]) dX11_byTwo_275 (Nat.le_of_ble_eq_true rfl) rfl ?_
      refine j_iload 7 dX11_byTwo_277 rfl ?_
      refine j_istore (ll' := [(9, aI x12), (8, aI x11), (13, aI s0), (0, aR 61), (6, aI x6), (10, aI x10), (11, aI x11), (12, aI x12)]) dX11_byTwo_279 (Nat.le_of_ble_eq_true rfl) rfl ?_
      refine j_aload_n 3 dX11_byTwo_281 rfl ?_
      refine j_getc 89 dX11_byTwo_282 f_X11_102 sh_61 rfl ?_
      refine j_iload 6 dX11_byTwo_285 rfl ?_
      refine j_iald dX11_byTwo_287 sh_89 o2.1 o2.2 (fun _ => ?_)
      refine j_aload_n 3 dX11_byTwo_288 rfl ?_
      refine j_getc 90 dX11_byTwo_289 f_X11_105 sh_61 rfl ?_
      refine j_iload 7 dX11_byTwo_292 rfl ?_
      refine j_iald dX11_byTwo_294 sh_90 o3.1 o3.2 (fun _ => ?_)
      refine j_iadd (z := ((M 89 x11) + (M 90 x12))) dX11_byTwo_295 rfl o4 ?_
      refine j_istore (ll' := [(10, aI ((M 89 x11) + (M 90 x12))), (9, aI x12), (8, aI x11), (13, aI s0), (0, aR 61), (6, aI x6), (11, aI x11), (12, aI x12)]) dX11_byTwo_296 (Nat.le_of_ble_eq_true rfl) rfl ?_
      refine j_sub [4, 5, 2, 1, 0, 6, 7] rfl ?_
      exact h
set_option maxRecDepth 100000 in
set_option maxHeartbeats 4000000 in
theorem B_X11_byTwo_304 {post : Int → ax_M → Prop} {M : ax_M} {x6 x8 x9 x10 x11 : Int} (h : (-2147483648 ≤ (x11 + 1) ∧ (x11 + 1) ≤ 2147483647) ∧ ax_J Y_X11_byTwo (ax_Ki Y_X11_byTwo SH post) 0 0 194 [(0, aR 61), (6, aI x6), (8, aI x8), (9, aI x9), (10, aI x10), (11, aI (x11 + 1))] [] SH M) : ax_J Y_X11_byTwo (ax_Ki Y_X11_byTwo SH post) 0 0 304 [(0, aR 61), (6, aI x6), (8, aI x8), (9, aI x9), (10, aI x10), (11, aI x11)] [] SH M := by
  obtain ⟨o1, h⟩ := h
  refine j_iinc (ll' := [(11, aI (x11 + 1)), (0, aR 61), (6, aI x6), (8, aI x8), (9, aI x9), (10, aI x10)]) 5 dX11_byTwo_304 rfl (Nat.le_of_ble_eq_true rfl) o1 rfl ?_
  refine j_goto (tgt := 194) dX11_byTwo_307 (by decide) ?_
  refine j_sub [1, 2, 3, 4, 5, 0] rfl ?_
  exact h
set_option maxRecDepth 100000 in
set_option maxHeartbeats 4000000 in
theorem B_X11_byTwo_298 {post : Int → ax_M → Prop} {M : ax_M} {x6 x8 x9 x10 x11 x12 : Int} (h : (-2147483648 ≤ (x12 + 1) ∧ (x12 + 1) ≤ 2147483647) ∧ ax_J Y_X11_byTwo (ax_Ki Y_X11_byTwo SH post) 0 0 205 [(0, aR 61), (6, aI x6), (8, aI x8), (9, aI x9), (10, aI x10), (11, aI x11), (12, aI (x12 + 1))] [] SH M) : ax_J Y_X11_byTwo (ax_Ki Y_X11_byTwo SH post) 0 0 298 [(0, aR 61), (6, aI x6), (8, aI x8), (9, aI x9), (10, aI x10), (11, aI x11), (12, aI x12)] [] SH M := by
  obtain ⟨o1, h⟩ := h
  refine j_iinc (ll' := [(12, aI (x12 + 1)), (0, aR 61), (6, aI x6), (8, aI x8), (9, aI x9), (10, aI x10), (11, aI x11)]) 6 dX11_byTwo_298 rfl (Nat.le_of_ble_eq_true rfl) o1 rfl ?_
  refine j_goto (tgt := 205) dX11_byTwo_301 (by decide) ?_
  refine j_sub [1, 2, 3, 4, 5, 6, 0] rfl ?_
  exact h
set_option maxRecDepth 100000 in
set_option maxHeartbeats 4000000 in
theorem B_X11_tooLate_0 {post : Int → ax_M → Prop} {M : ax_M} {x1 x2 x3 : Int} (h : (-2147483648 ≤ ((M 61 25) - 1) ∧ ((M 61 25) - 1) ≤ 2147483647) ∧ (((x1 < 0) → post (-1001) M) ∧ ((0 ≤ x1) → (((((M 61 25) - 1) < x1) → post (-1001) M) ∧ ((x1 ≤ ((M 61 25) - 1)) → (-2147483648 ≤ ((M 61 0) - 1) ∧ ((M 61 0) - 1) ≤ 2147483647) ∧ (((x3 < 0) → post (-1001) M) ∧ ((0 ≤ x3) → (((((M 61 0) - 1) < x3) → post (-1001) M) ∧ ((x3 ≤ ((M 61 0) - 1)) → ax_Ti Y_X11_unknowing [aR 61] SH M (fun z2 u1 => (((¬ (bo_and (bo_shr z2 x3) 1) = 1) → post (-1001) u1) ∧ (((bo_and (bo_shr z2 x3) 1) = 1) → (((x2 < (-1)) → post (-1002) u1) ∧ (((-1) ≤ x2) → (((99 < x2) → post (-1002) u1) ∧ ((x2 ≤ 99) → ax_Ti Y_X11_canTell [aR 61, aI x1] SH u1 (fun z4 u3 => (((¬ z4 = 0) → ax_Tv Y_X11_findDark [aR 61] SH u3 (fun u5 => ax_J Y_X11_tooLate (ax_Ki Y_X11_tooLate SH post) 0 0 61 [(0, aR 61), (1, aI x1), (2, aI x2), (3, aI x3), (4, aI 0)] [] SH u5)) ∧ ((z4 = 0) → post (-1003) u3))))))))))))))))))) : ax_J Y_X11_tooLate (ax_Ki Y_X11_tooLate SH post) 0 0 0 [(0, aR 61), (1, aI x1), (2, aI x2), (3, aI x3)] [] SH M := by
  refine j_aload_n 0 dX11_tooLate_0 rfl ?_
  refine j_iload_n 1 dX11_tooLate_1 rfl ?_
  refine j_calliV (Yc := Y_X11_isMan) (as := [aI x1]) (rest := []) dX11_tooLate_2 q_X11_263 ⟨Nat.le_of_ble_eq_true rfl, Nat.le_of_ble_eq_true rfl, Nat.le_of_ble_eq_true rfl, Nat.le_of_ble_eq_true rfl⟩ sh_61 rfl (Nat.le_of_ble_eq_true rfl) rfl (ti_of (ll := [(0, aR 61), (1, aI x1)]) rfl (Nat.le_of_ble_eq_true rfl) rfl (fun _ => ?_))
  refine j_iload_n 1 dX11_isMan_0 rfl ?_
  refine j_i2l dX11_isMan_1 ?_
  refine j_lconst (x := 0) dX11_isMan_2 rfl (i64_c rfl) ?_
  refine j_aload_n 0 dX11_isMan_3 rfl ?_
  refine j_geti (i := 25) dX11_isMan_4 f_X11_240 sh_61 rfl rfl (fun _ => ?_)
  refine j_iconst (x := 1) dX11_isMan_7 rfl (i32_c rfl) ?_
  obtain ⟨o1, h⟩ := h
  refine j_isub (z := ((M 61 25) - 1)) dX11_isMan_8 rfl o1 ?_
  refine j_i2l dX11_isMan_9 ?_
  refine j_calliS (Yc := Y_X11_in) (as := [aL x1, aL 0, aL ((M 61 25) - 1)]) (rest := []) dX11_isMan_10 q_X11_136 ⟨Nat.le_of_ble_eq_true rfl, Nat.le_of_ble_eq_true rfl, Nat.le_of_ble_eq_true rfl, Nat.le_of_ble_eq_true rfl⟩ rfl (Nat.le_of_ble_eq_true rfl) rfl (ti_of (ll := [(0, aL x1), (2, aL 0), (4, aL ((M 61 25) - 1))]) rfl (Nat.le_of_ble_eq_true rfl) rfl (fun _ => ?_))
  refine j_lload_n 0 dX11_in_0 rfl ?_
  refine j_lload_n 1 dX11_in_1 rfl ?_
  refine j_lcmp_lt (tgt := 17) dX11_in_2 dX11_in_3 (by decide) (fun c2 => ?_) (fun c2 => ?_)
  · replace h := h.1 c2
    refine j_iconst (x := 0) dX11_in_17 rfl (i32_c rfl) ?_
    refine j_zret dX11_in_18 rfl ⟨Nat.le_of_ble_eq_true rfl, Nat.le_of_ble_eq_true rfl⟩ (by decide) ?_
    refine j_zret dX11_isMan_13 rfl ⟨Nat.le_of_ble_eq_true rfl, Nat.le_of_ble_eq_true rfl⟩ (by decide) ?_
    refine j_if_eq (tgt := 27) dX11_tooLate_5 (by decide) (fun _ => ?_) (fun c => absurd c (by decide))
    refine j_sipush (x := (-1001)) dX11_tooLate_27 rfl (i32_c rfl) ?_
    exact j_iret dX11_tooLate_30 rfl ⟨Nat.le_of_ble_eq_true rfl, Nat.le_of_ble_eq_true rfl⟩ (fun _ => h)
  · replace h := h.2 c2
    refine j_lload_n 0 dX11_in_6 rfl ?_
    refine j_lload 2 dX11_in_7 rfl ?_
    refine j_lcmp_gt (tgt := 17) dX11_in_9 dX11_in_10 (by decide) (fun c3 => ?_) (fun c3 => ?_)
    · replace h := h.1 c3
      refine j_iconst (x := 0) dX11_in_17 rfl (i32_c rfl) ?_
      refine j_zret dX11_in_18 rfl ⟨Nat.le_of_ble_eq_true rfl, Nat.le_of_ble_eq_true rfl⟩ (by decide) ?_
      refine j_zret dX11_isMan_13 rfl ⟨Nat.le_of_ble_eq_true rfl, Nat.le_of_ble_eq_true rfl⟩ (by decide) ?_
      refine j_if_eq (tgt := 27) dX11_tooLate_5 (by decide) (fun _ => ?_) (fun c => absurd c (by decide))
      refine j_sipush (x := (-1001)) dX11_tooLate_27 rfl (i32_c rfl) ?_
      exact j_iret dX11_tooLate_30 rfl ⟨Nat.le_of_ble_eq_true rfl, Nat.le_of_ble_eq_true rfl⟩ (fun _ => h)
    · replace h := h.2 c3
      refine j_iconst (x := 1) dX11_in_13 rfl (i32_c rfl) ?_
      refine j_goto (tgt := 18) dX11_in_14 (by decide) ?_
      refine j_zret dX11_in_18 rfl ⟨Nat.le_of_ble_eq_true rfl, Nat.le_of_ble_eq_true rfl⟩ (by decide) ?_
      refine j_zret dX11_isMan_13 rfl ⟨Nat.le_of_ble_eq_true rfl, Nat.le_of_ble_eq_true rfl⟩ (by decide) ?_
      refine j_if_eq (tgt := 27) dX11_tooLate_5 (by decide) (fun c => absurd c (by decide)) (fun _ => ?_)
      refine j_aload_n 0 dX11_tooLate_8 rfl ?_
      refine j_iload_n 3 dX11_tooLate_9 rfl ?_
      refine j_calliV (Yc := Y_X11_isPlace) (as := [aI x3]) (rest := []) dX11_tooLate_10 q_X11_257 ⟨Nat.le_of_ble_eq_true rfl, Nat.le_of_ble_eq_true rfl, Nat.le_of_ble_eq_true rfl, Nat.le_of_ble_eq_true rfl⟩ sh_61 rfl (Nat.le_of_ble_eq_true rfl) rfl (ti_of (ll := [(0, aR 61), (1, aI x3)]) rfl (Nat.le_of_ble_eq_true rfl) rfl (fun _ => ?_))
      refine j_iload_n 1 dX11_isPlace_0 rfl ?_
      refine j_i2l dX11_isPlace_1 ?_
      refine j_lconst (x := 0) dX11_isPlace_2 rfl (i64_c rfl) ?_
      refine j_aload_n 0 dX11_isPlace_3 rfl ?_
      refine j_geti (i := 0) dX11_isPlace_4 f_X11_133 sh_61 rfl rfl (fun _ => ?_)
      refine j_iconst (x := 1) dX11_isPlace_7 rfl (i32_c rfl) ?_
      obtain ⟨o4, h⟩ := h
      refine j_isub (z := ((M 61 0) - 1)) dX11_isPlace_8 rfl o4 ?_
      refine j_i2l dX11_isPlace_9 ?_
      refine j_calliS (Yc := Y_X11_in) (as := [aL x3, aL 0, aL ((M 61 0) - 1)]) (rest := []) dX11_isPlace_10 q_X11_136 ⟨Nat.le_of_ble_eq_true rfl, Nat.le_of_ble_eq_true rfl, Nat.le_of_ble_eq_true rfl, Nat.le_of_ble_eq_true rfl⟩ rfl (Nat.le_of_ble_eq_true rfl) rfl (ti_of (ll := [(0, aL x3), (2, aL 0), (4, aL ((M 61 0) - 1))]) rfl (Nat.le_of_ble_eq_true rfl) rfl (fun _ => ?_))
      refine j_lload_n 0 dX11_in_0 rfl ?_
      refine j_lload_n 1 dX11_in_1 rfl ?_
      refine j_lcmp_lt (tgt := 17) dX11_in_2 dX11_in_3 (by decide) (fun c5 => ?_) (fun c5 => ?_)
      · replace h := h.1 c5
        refine j_iconst (x := 0) dX11_in_17 rfl (i32_c rfl) ?_
        refine j_zret dX11_in_18 rfl ⟨Nat.le_of_ble_eq_true rfl, Nat.le_of_ble_eq_true rfl⟩ (by decide) ?_
        refine j_zret dX11_isPlace_13 rfl ⟨Nat.le_of_ble_eq_true rfl, Nat.le_of_ble_eq_true rfl⟩ (by decide) ?_
        refine j_if_eq (tgt := 27) dX11_tooLate_13 (by decide) (fun _ => ?_) (fun c => absurd c (by decide))
        refine j_sipush (x := (-1001)) dX11_tooLate_27 rfl (i32_c rfl) ?_
        exact j_iret dX11_tooLate_30 rfl ⟨Nat.le_of_ble_eq_true rfl, Nat.le_of_ble_eq_true rfl⟩ (fun _ => h)
      · replace h := h.2 c5
        refine j_lload_n 0 dX11_in_6 rfl ?_
        refine j_lload 2 dX11_in_7 rfl ?_
        refine j_lcmp_gt (tgt := 17) dX11_in_9 dX11_in_10 (by decide) (fun c6 => ?_) (fun c6 => ?_)
        · replace h := h.1 c6
          refine j_iconst (x := 0) dX11_in_17 rfl (i32_c rfl) ?_
          refine j_zret dX11_in_18 rfl ⟨Nat.le_of_ble_eq_true rfl, Nat.le_of_ble_eq_true rfl⟩ (by decide) ?_
          refine j_zret dX11_isPlace_13 rfl ⟨Nat.le_of_ble_eq_true rfl, Nat.le_of_ble_eq_true rfl⟩ (by decide) ?_
          refine j_if_eq (tgt := 27) dX11_tooLate_13 (by decide) (fun _ => ?_) (fun c => absurd c (by decide))
          refine j_sipush (x := (-1001)) dX11_tooLate_27 rfl (i32_c rfl) ?_
          exact j_iret dX11_tooLate_30 rfl ⟨Nat.le_of_ble_eq_true rfl, Nat.le_of_ble_eq_true rfl⟩ (fun _ => h)
        · replace h := h.2 c6
          refine j_iconst (x := 1) dX11_in_13 rfl (i32_c rfl) ?_
          refine j_goto (tgt := 18) dX11_in_14 (by decide) ?_
          refine j_zret dX11_in_18 rfl ⟨Nat.le_of_ble_eq_true rfl, Nat.le_of_ble_eq_true rfl⟩ (by decide) ?_
          refine j_zret dX11_isPlace_13 rfl ⟨Nat.le_of_ble_eq_true rfl, Nat.le_of_ble_eq_true rfl⟩ (by decide) ?_
          refine j_if_eq (tgt := 27) dX11_tooLate_13 (by decide) (fun c => absurd c (by decide)) (fun _ => ?_)
          refine j_aload_n 0 dX11_tooLate_16 rfl ?_
          refine j_calliV (Yc := Y_X11_unknowing) (as := []) (rest := []) dX11_tooLate_17 q_X11_357 ⟨Nat.le_of_ble_eq_true rfl, Nat.le_of_ble_eq_true rfl, Nat.le_of_ble_eq_true rfl, Nat.le_of_ble_eq_true rfl⟩ sh_61 rfl (Nat.le_of_ble_eq_true rfl) rfl (ti_mono h (fun z2 u1 h => ?_))
          refine j_iload_n 3 dX11_tooLate_20 rfl ?_
          refine j_calliS (Yc := Y_X11_has) (as := [aI z2, aI x3]) (rest := []) dX11_tooLate_21 q_X11_346 ⟨Nat.le_of_ble_eq_true rfl, Nat.le_of_ble_eq_true rfl, Nat.le_of_ble_eq_true rfl, Nat.le_of_ble_eq_true rfl⟩ rfl (Nat.le_of_ble_eq_true rfl) rfl (ti_of (ll := [(0, aI z2), (1, aI x3)]) rfl (Nat.le_of_ble_eq_true rfl) rfl (fun _ => ?_))
          refine j_iload_n 0 dX11_has_0 rfl ?_
          refine j_iload_n 1 dX11_has_1 rfl ?_
          refine j_ishr (z := (bo_shr z2 x3)) dX11_has_2 rfl ?_
          refine j_iconst (x := 1) dX11_has_3 rfl (i32_c rfl) ?_
          refine j_iand (z := (bo_and (bo_shr z2 x3) 1)) dX11_has_4 rfl ?_
          refine j_iconst (x := 1) dX11_has_5 rfl (i32_c rfl) ?_
          refine j_icmp_ne (tgt := 13) dX11_has_6 (by decide) (fun c7 => ?_) (fun c7 => ?_)
          · replace h := h.1 c7
            refine j_iconst (x := 0) dX11_has_13 rfl (i32_c rfl) ?_
            refine j_zret dX11_has_14 rfl ⟨Nat.le_of_ble_eq_true rfl, Nat.le_of_ble_eq_true rfl⟩ (by decide) ?_
            refine j_if_ne (tgt := 31) dX11_tooLate_24 (by decide) (fun c => absurd c (by decide)) (fun _ => ?_)
            refine j_sipush (x := (-1001)) dX11_tooLate_27 rfl (i32_c rfl) ?_
            exact j_iret dX11_tooLate_30 rfl ⟨Nat.le_of_ble_eq_true rfl, Nat.le_of_ble_eq_true rfl⟩ (fun _ => h)
          · replace h := h.2 c7
            refine j_iconst (x := 1) dX11_has_9 rfl (i32_c rfl) ?_
            refine j_goto (tgt := 14) dX11_has_10 (by decide) ?_
            refine j_zret dX11_has_14 rfl ⟨Nat.le_of_ble_eq_true rfl, Nat.le_of_ble_eq_true rfl⟩ (by decide) ?_
            refine j_if_ne (tgt := 31) dX11_tooLate_24 (by decide) (fun _ => ?_) (fun c => absurd c (by decide))
            refine j_iload_n 2 dX11_tooLate_31 rfl ?_
            refine j_calliS (Yc := Y_X11_isLight) (as := [aI x2]) (rest := []) dX11_tooLate_32 q_X11_284 ⟨Nat.le_of_ble_eq_true rfl, Nat.le_of_ble_eq_true rfl, Nat.le_of_ble_eq_true rfl, Nat.le_of_ble_eq_true rfl⟩ rfl (Nat.le_of_ble_eq_true rfl) rfl (ti_of (ll := [(0, aI x2)]) rfl (Nat.le_of_ble_eq_true rfl) rfl (fun _ => ?_))
            refine j_iload_n 0 dX11_isLight_0 rfl ?_
            refine j_i2l dX11_isLight_1 ?_
            refine j_ldc2 (x := (-1)) dX11_isLight_2 (ax_in 1425 (by decide +kernel) rfl) (i64_c rfl) ?_
            refine j_ldc2 (x := 99) dX11_isLight_5 (ax_in 1393 (by decide +kernel) rfl) (i64_c rfl) ?_
            refine j_calliS (Yc := Y_X11_in) (as := [aL x2, aL (-1), aL 99]) (rest := []) dX11_isLight_8 q_X11_136 ⟨Nat.le_of_ble_eq_true rfl, Nat.le_of_ble_eq_true rfl, Nat.le_of_ble_eq_true rfl, Nat.le_of_ble_eq_true rfl⟩ rfl (Nat.le_of_ble_eq_true rfl) rfl (ti_of (ll := [(0, aL x2), (2, aL (-1)), (4, aL 99)]) rfl (Nat.le_of_ble_eq_true rfl) rfl (fun _ => ?_))
            refine j_lload_n 0 dX11_in_0 rfl ?_
            refine j_lload_n 1 dX11_in_1 rfl ?_
            refine j_lcmp_lt (tgt := 17) dX11_in_2 dX11_in_3 (by decide) (fun c8 => ?_) (fun c8 => ?_)
            · replace h := h.1 c8
              refine j_iconst (x := 0) dX11_in_17 rfl (i32_c rfl) ?_
              refine j_zret dX11_in_18 rfl ⟨Nat.le_of_ble_eq_true rfl, Nat.le_of_ble_eq_true rfl⟩ (by decide) ?_
              refine j_zret dX11_isLight_11 rfl ⟨Nat.le_of_ble_eq_true rfl, Nat.le_of_ble_eq_true rfl⟩ (by decide) ?_
              refine j_if_ne (tgt := 42) dX11_tooLate_35 (by decide) (fun c => absurd c (by decide)) (fun _ => ?_)
              refine j_sipush (x := (-1002)) dX11_tooLate_38 rfl (i32_c rfl) ?_
              exact j_iret dX11_tooLate_41 rfl ⟨Nat.le_of_ble_eq_true rfl, Nat.le_of_ble_eq_true rfl⟩ (fun _ => h)
            · replace h := h.2 c8
              refine j_lload_n 0 dX11_in_6 rfl ?_
              refine j_lload 2 dX11_in_7 rfl ?_
              refine j_lcmp_gt (tgt := 17) dX11_in_9 dX11_in_10 (by decide) (fun c9 => ?_) (fun c9 => ?_)
              · replace h := h.1 c9
                refine j_iconst (x := 0) dX11_in_17 rfl (i32_c rfl) ?_
                refine j_zret dX11_in_18 rfl ⟨Nat.le_of_ble_eq_true rfl, Nat.le_of_ble_eq_true rfl⟩ (by decide) ?_
                refine j_zret dX11_isLight_11 rfl ⟨Nat.le_of_ble_eq_true rfl, Nat.le_of_ble_eq_true rfl⟩ (by decide) ?_
                refine j_if_ne (tgt := 42) dX11_tooLate_35 (by decide) (fun c => absurd c (by decide)) (fun _ => ?_)
                refine j_sipush (x := (-1002)) dX11_tooLate_38 rfl (i32_c rfl) ?_
                exact j_iret dX11_tooLate_41 rfl ⟨Nat.le_of_ble_eq_true rfl, Nat.le_of_ble_eq_true rfl⟩ (fun _ => h)
              · replace h := h.2 c9
                refine j_iconst (x := 1) dX11_in_13 rfl (i32_c rfl) ?_
                refine j_goto (tgt := 18) dX11_in_14 (by decide) ?_
                refine j_zret dX11_in_18 rfl ⟨Nat.le_of_ble_eq_true rfl, Nat.le_of_ble_eq_true rfl⟩ (by decide) ?_
                refine j_zret dX11_isLight_11 rfl ⟨Nat.le_of_ble_eq_true rfl, Nat.le_of_ble_eq_true rfl⟩ (by decide) ?_
                refine j_if_ne (tgt := 42) dX11_tooLate_35 (by decide) (fun _ => ?_) (fun c => absurd c (by decide))
                refine j_aload_n 0 dX11_tooLate_42 rfl ?_
                refine j_iload_n 1 dX11_tooLate_43 rfl ?_
                refine j_calliV (Yc := Y_X11_canTell) (as := [aI x1]) (rest := []) dX11_tooLate_44 q_X11_363 ⟨Nat.le_of_ble_eq_true rfl, Nat.le_of_ble_eq_true rfl, Nat.le_of_ble_eq_true rfl, Nat.le_of_ble_eq_true rfl⟩ sh_61 rfl (Nat.le_of_ble_eq_true rfl) rfl (ti_mono h (fun z4 u3 h => ?_))
                refine j_if_ne (tgt := 54) dX11_tooLate_47 (by decide) (fun c10 => ?_) (fun c10 => ?_)
                · replace h := h.1 c10
                  refine j_aload_n 0 dX11_tooLate_54 rfl ?_
                  refine j_callvV (Yc := Y_X11_findDark) (as := []) (rest := []) dX11_tooLate_55 q_X11_366 ⟨Nat.le_of_ble_eq_true rfl, Nat.le_of_ble_eq_true rfl, Nat.le_of_ble_eq_true rfl, Nat.le_of_ble_eq_true rfl⟩ sh_61 rfl (Nat.le_of_ble_eq_true rfl) rfl (tv_mono h (fun u5 h => ?_))
                  refine j_iconst (x := 0) dX11_tooLate_58 rfl (i32_c rfl) ?_
                  refine j_istore (ll' := [(4, aI 0), (0, aR 61), (1, aI x1), (2, aI x2), (3, aI x3)]) dX11_tooLate_59 (Nat.le_of_ble_eq_true rfl) rfl ?_
                  refine j_sub [1, 2, 3, 4, 0] rfl ?_
                  exact h
                · replace h := h.2 c10
                  refine j_sipush (x := (-1003)) dX11_tooLate_50 rfl (i32_c rfl) ?_
                  exact j_iret dX11_tooLate_53 rfl ⟨Nat.le_of_ble_eq_true rfl, Nat.le_of_ble_eq_true rfl⟩ (fun _ => h)
theorem E_X11_tooLate {post : Int → ax_M → Prop} {M : ax_M} {x1 x2 x3 : Int} (h : ax_mr SH M → (-2147483648 ≤ ((M 61 25) - 1) ∧ ((M 61 25) - 1) ≤ 2147483647) ∧ (((x1 < 0) → post (-1001) M) ∧ ((0 ≤ x1) → (((((M 61 25) - 1) < x1) → post (-1001) M) ∧ ((x1 ≤ ((M 61 25) - 1)) → (-2147483648 ≤ ((M 61 0) - 1) ∧ ((M 61 0) - 1) ≤ 2147483647) ∧ (((x3 < 0) → post (-1001) M) ∧ ((0 ≤ x3) → (((((M 61 0) - 1) < x3) → post (-1001) M) ∧ ((x3 ≤ ((M 61 0) - 1)) → ax_Ti Y_X11_unknowing [aR 61] SH M (fun z2 u1 => (((¬ (bo_and (bo_shr z2 x3) 1) = 1) → post (-1001) u1) ∧ (((bo_and (bo_shr z2 x3) 1) = 1) → (((x2 < (-1)) → post (-1002) u1) ∧ (((-1) ≤ x2) → (((99 < x2) → post (-1002) u1) ∧ ((x2 ≤ 99) → ax_Ti Y_X11_canTell [aR 61, aI x1] SH u1 (fun z4 u3 => (((¬ z4 = 0) → ax_Tv Y_X11_findDark [aR 61] SH u3 (fun u5 => ax_J Y_X11_tooLate (ax_Ki Y_X11_tooLate SH post) 0 0 61 [(0, aR 61), (1, aI x1), (2, aI x2), (3, aI x3), (4, aI 0)] [] SH u5)) ∧ ((z4 = 0) → post (-1003) u3))))))))))))))))))) : ax_Ti Y_X11_tooLate [aR 61, aI x1, aI x2, aI x3] SH M post :=
  ti_of rfl (Nat.le_of_ble_eq_true rfl) rfl (fun q => B_X11_tooLate_0 (h q))
set_option maxRecDepth 100000 in
set_option maxHeartbeats 4000000 in
theorem B_X11_tooLate_61 {post : Int → ax_M → Prop} {M : ax_M} {x1 x2 x3 x4 : Int} (h : (((99 < x4) → post 100 M) ∧ ((x4 ≤ 99) → ax_Ti Y_X11_tellSet [aR 61, aI x1, aI x2, aI x4, aI (bo_shl 1 x3)] SH M (fun z2 u1 => (((0 ≤ z2) → (-2147483648 ≤ (x4 + 1) ∧ (x4 + 1) ≤ 2147483647) ∧ ax_J Y_X11_tooLate (ax_Ki Y_X11_tooLate SH post) 0 0 61 [(0, aR 61), (1, aI x1), (2, aI x2), (3, aI x3), (4, aI (x4 + 1))] [] SH u1) ∧ ((z2 < 0) → post x4 u1)))))) : ax_J Y_X11_tooLate (ax_Ki Y_X11_tooLate SH post) 0 0 61 [(0, aR 61), (1, aI x1), (2, aI x2), (3, aI x3), (4, aI x4)] [] SH M := by
  refine j_iload 4 dX11_tooLate_61 rfl ?_
  refine j_bipush (x := 99) dX11_tooLate_63 rfl (i32_c rfl) ?_
  refine j_icmp_gt (tgt := 91) dX11_tooLate_65 (by decide) (fun c1 => ?_) (fun c1 => ?_)
  · replace h := h.1 c1
    refine j_bipush (x := 100) dX11_tooLate_91 rfl (i32_c rfl) ?_
    exact j_iret dX11_tooLate_93 rfl ⟨Nat.le_of_ble_eq_true rfl, Nat.le_of_ble_eq_true rfl⟩ (fun _ => h)
  · replace h := h.2 c1
    refine j_aload_n 0 dX11_tooLate_68 rfl ?_
    refine j_iload_n 1 dX11_tooLate_69 rfl ?_
    refine j_iload_n 2 dX11_tooLate_70 rfl ?_
    refine j_iload 4 dX11_tooLate_71 rfl ?_
    refine j_iconst (x := 1) dX11_tooLate_73 rfl (i32_c rfl) ?_
    refine j_iload_n 3 dX11_tooLate_74 rfl ?_
    refine j_ishl (z := (bo_shl 1 x3)) dX11_tooLate_75 rfl ?_
    refine j_calliV (Yc := Y_X11_tellSet) (as := [aI x1, aI x2, aI x4, aI (bo_shl 1 x3)]) (rest := []) dX11_tooLate_76 q_X11_369 ⟨Nat.le_of_ble_eq_true rfl, Nat.le_of_ble_eq_true rfl, Nat.le_of_ble_eq_true rfl, Nat.le_of_ble_eq_true rfl⟩ sh_61 rfl (Nat.le_of_ble_eq_true rfl) rfl (ti_mono h (fun z2 u1 h => ?_))
    refine j_if_ge (tgt := 85) dX11_tooLate_79 (by decide) (fun c2 => ?_) (fun c2 => ?_)
    · replace h := h.1 c2
      obtain ⟨o3, h⟩ := h
      refine j_iinc (ll' := [(4, aI (x4 + 1)), (0, aR 61), (1, aI x1), (2, aI x2), (3, aI x3)]) 4 dX11_tooLate_85 rfl (Nat.le_of_ble_eq_true rfl) o3 rfl ?_
      refine j_goto (tgt := 61) dX11_tooLate_88 (by decide) ?_
      refine j_sub [1, 2, 3, 4, 0] rfl ?_
      exact h
    · replace h := h.2 c2
      refine j_iload 4 dX11_tooLate_82 rfl ?_
      exact j_iret dX11_tooLate_84 rfl ⟨Nat.le_of_ble_eq_true rfl, Nat.le_of_ble_eq_true rfl⟩ (fun _ => h)
set_option maxRecDepth 100000 in
set_option maxHeartbeats 4000000 in
theorem B_X11_go_0 {post : Int → ax_M → Prop} {M : ax_M} {x1 : Int} (h : (-2147483648 ≤ ((M 61 0) - 1) ∧ ((M 61 0) - 1) ≤ 2147483647) ∧ (((x1 < 0) → post (-1001) M) ∧ ((0 ≤ x1) → (((((M 61 0) - 1) < x1) → post (-1001) M) ∧ ((x1 ≤ ((M 61 0) - 1)) → (((¬ (M 61 50) = 12) → (0 ≤ (M 61 50) ∧ (M 61 50) < 12) ∧ (-2147483648 ≤ ((M 61 50) + 1) ∧ ((M 61 50) + 1) ≤ 2147483647) ∧ post ((M 61 50) + 1) (ax_up (ax_up M 91 (M 61 50) x1) 61 50 ((M 61 50) + 1))) ∧ (((M 61 50) = 12) → post (-1004) M))))))) : ax_J Y_X11_go (ax_Ki Y_X11_go SH post) 0 0 0 [(0, aR 61), (1, aI x1)] [] SH M := by
  refine j_aload_n 0 dX11_go_0 rfl ?_
  refine j_iload_n 1 dX11_go_1 rfl ?_
  refine j_calliV (Yc := Y_X11_isPlace) (as := [aI x1]) (rest := []) dX11_go_2 q_X11_257 ⟨Nat.le_of_ble_eq_true rfl, Nat.le_of_ble_eq_true rfl, Nat.le_of_ble_eq_true rfl, Nat.le_of_ble_eq_true rfl⟩ sh_61 rfl (Nat.le_of_ble_eq_true rfl) rfl (ti_of (ll := [(0, aR 61), (1, aI x1)]) rfl (Nat.le_of_ble_eq_true rfl) rfl (fun _ => ?_))
  refine j_iload_n 1 dX11_isPlace_0 rfl ?_
  refine j_i2l dX11_isPlace_1 ?_
  refine j_lconst (x := 0) dX11_isPlace_2 rfl (i64_c rfl) ?_
  refine j_aload_n 0 dX11_isPlace_3 rfl ?_
  refine j_geti (i := 0) dX11_isPlace_4 f_X11_133 sh_61 rfl rfl (fun _ => ?_)
  refine j_iconst (x := 1) dX11_isPlace_7 rfl (i32_c rfl) ?_
  obtain ⟨o1, h⟩ := h
  refine j_isub (z := ((M 61 0) - 1)) dX11_isPlace_8 rfl o1 ?_
  refine j_i2l dX11_isPlace_9 ?_
  refine j_calliS (Yc := Y_X11_in) (as := [aL x1, aL 0, aL ((M 61 0) - 1)]) (rest := []) dX11_isPlace_10 q_X11_136 ⟨Nat.le_of_ble_eq_true rfl, Nat.le_of_ble_eq_true rfl, Nat.le_of_ble_eq_true rfl, Nat.le_of_ble_eq_true rfl⟩ rfl (Nat.le_of_ble_eq_true rfl) rfl (ti_of (ll := [(0, aL x1), (2, aL 0), (4, aL ((M 61 0) - 1))]) rfl (Nat.le_of_ble_eq_true rfl) rfl (fun _ => ?_))
  refine j_lload_n 0 dX11_in_0 rfl ?_
  refine j_lload_n 1 dX11_in_1 rfl ?_
  refine j_lcmp_lt (tgt := 17) dX11_in_2 dX11_in_3 (by decide) (fun c2 => ?_) (fun c2 => ?_)
  · replace h := h.1 c2
    refine j_iconst (x := 0) dX11_in_17 rfl (i32_c rfl) ?_
    refine j_zret dX11_in_18 rfl ⟨Nat.le_of_ble_eq_true rfl, Nat.le_of_ble_eq_true rfl⟩ (by decide) ?_
    refine j_zret dX11_isPlace_13 rfl ⟨Nat.le_of_ble_eq_true rfl, Nat.le_of_ble_eq_true rfl⟩ (by decide) ?_
    refine j_if_ne (tgt := 12) dX11_go_5 (by decide) (fun c => absurd c (by decide)) (fun _ => ?_)
    refine j_sipush (x := (-1001)) dX11_go_8 rfl (i32_c rfl) ?_
    exact j_iret dX11_go_11 rfl ⟨Nat.le_of_ble_eq_true rfl, Nat.le_of_ble_eq_true rfl⟩ (fun _ => h)
  · replace h := h.2 c2
    refine j_lload_n 0 dX11_in_6 rfl ?_
    refine j_lload 2 dX11_in_7 rfl ?_
    refine j_lcmp_gt (tgt := 17) dX11_in_9 dX11_in_10 (by decide) (fun c3 => ?_) (fun c3 => ?_)
    · replace h := h.1 c3
      refine j_iconst (x := 0) dX11_in_17 rfl (i32_c rfl) ?_
      refine j_zret dX11_in_18 rfl ⟨Nat.le_of_ble_eq_true rfl, Nat.le_of_ble_eq_true rfl⟩ (by decide) ?_
      refine j_zret dX11_isPlace_13 rfl ⟨Nat.le_of_ble_eq_true rfl, Nat.le_of_ble_eq_true rfl⟩ (by decide) ?_
      refine j_if_ne (tgt := 12) dX11_go_5 (by decide) (fun c => absurd c (by decide)) (fun _ => ?_)
      refine j_sipush (x := (-1001)) dX11_go_8 rfl (i32_c rfl) ?_
      exact j_iret dX11_go_11 rfl ⟨Nat.le_of_ble_eq_true rfl, Nat.le_of_ble_eq_true rfl⟩ (fun _ => h)
    · replace h := h.2 c3
      refine j_iconst (x := 1) dX11_in_13 rfl (i32_c rfl) ?_
      refine j_goto (tgt := 18) dX11_in_14 (by decide) ?_
      refine j_zret dX11_in_18 rfl ⟨Nat.le_of_ble_eq_true rfl, Nat.le_of_ble_eq_true rfl⟩ (by decide) ?_
      refine j_zret dX11_isPlace_13 rfl ⟨Nat.le_of_ble_eq_true rfl, Nat.le_of_ble_eq_true rfl⟩ (by decide) ?_
      refine j_if_ne (tgt := 12) dX11_go_5 (by decide) (fun _ => ?_) (fun c => absurd c (by decide))
      refine j_aload_n 0 dX11_go_12 rfl ?_
      refine j_geti (i := 50) dX11_go_13 f_X11_246 sh_61 rfl rfl (fun _ => ?_)
      refine j_bipush (x := 12) dX11_go_16 rfl (i32_c rfl) ?_
      refine j_icmp_ne (tgt := 25) dX11_go_18 (by decide) (fun c4 => ?_) (fun c4 => ?_)
      · replace h := h.1 c4
        refine j_aload_n 0 dX11_go_25 rfl ?_
        refine j_getc 91 dX11_go_26 f_X11_108 sh_61 rfl ?_
        refine j_aload_n 0 dX11_go_29 rfl ?_
        refine j_geti (i := 50) dX11_go_30 f_X11_246 sh_61 rfl rfl (fun _ => ?_)
        refine j_iload_n 1 dX11_go_33 rfl ?_
        obtain ⟨o5, h⟩ := h
        refine j_iast dX11_go_34 sh_91 o5.1 o5.2 ?_
        refine j_aload_n 0 dX11_go_35 rfl ?_
        refine j_dup dX11_go_36 rfl ?_
        refine j_geti (i := 50) dX11_go_37 f_X11_246 sh_61 rfl rfl (fun _ => ?_)
        refine j_iconst (x := 1) dX11_go_40 rfl (i32_c rfl) ?_
        obtain ⟨o6, h⟩ := h
        refine j_iadd (z := ((M 61 50) + 1)) dX11_go_41 rfl o6 ?_
        refine j_puti (i := 50) dX11_go_42 p_X11_246 (fun h => by cases h) sh_61 rfl rfl ?_
        refine j_aload_n 0 dX11_go_45 rfl ?_
        refine j_geti (i := 50) dX11_go_46 f_X11_246 sh_61 rfl rfl (fun _ => ?_)
        exact j_iret dX11_go_49 rfl ⟨Nat.le_of_ble_eq_true rfl, Nat.le_of_ble_eq_true rfl⟩ (fun _ => h)
      · replace h := h.2 c4
        refine j_sipush (x := (-1004)) dX11_go_21 rfl (i32_c rfl) ?_
        exact j_iret dX11_go_24 rfl ⟨Nat.le_of_ble_eq_true rfl, Nat.le_of_ble_eq_true rfl⟩ (fun _ => h)
theorem E_X11_go {post : Int → ax_M → Prop} {M : ax_M} {x1 : Int} (h : ax_mr SH M → (-2147483648 ≤ ((M 61 0) - 1) ∧ ((M 61 0) - 1) ≤ 2147483647) ∧ (((x1 < 0) → post (-1001) M) ∧ ((0 ≤ x1) → (((((M 61 0) - 1) < x1) → post (-1001) M) ∧ ((x1 ≤ ((M 61 0) - 1)) → (((¬ (M 61 50) = 12) → (0 ≤ (M 61 50) ∧ (M 61 50) < 12) ∧ (-2147483648 ≤ ((M 61 50) + 1) ∧ ((M 61 50) + 1) ≤ 2147483647) ∧ post ((M 61 50) + 1) (ax_up (ax_up M 91 (M 61 50) x1) 61 50 ((M 61 50) + 1))) ∧ (((M 61 50) = 12) → post (-1004) M))))))) : ax_Ti Y_X11_go [aR 61, aI x1] SH M post :=
  ti_of rfl (Nat.le_of_ble_eq_true rfl) rfl (fun q => B_X11_go_0 (h q))
set_option maxRecDepth 100000 in
set_option maxHeartbeats 4000000 in
theorem B_X11_clear_0 {post : Int → ax_M → Prop} {M : ax_M} (h : post (M 61 50) (ax_up M 61 50 0)) : ax_J Y_X11_clear (ax_Ki Y_X11_clear SH post) 0 0 0 [(0, aR 61)] [] SH M := by
  refine j_aload_n 0 dX11_clear_0 rfl ?_
  refine j_geti (i := 50) dX11_clear_1 f_X11_246 sh_61 rfl rfl (fun _ => ?_)
  refine j_istore_n (ll' := [(1, aI (M 61 50)), (0, aR 61)]) dX11_clear_4 (Nat.le_of_ble_eq_true rfl) rfl ?_
  refine j_aload_n 1 dX11_clear_5 rfl ?_
  refine j_iconst (x := 0) dX11_clear_6 rfl (i32_c rfl) ?_
  refine j_puti (i := 50) dX11_clear_7 p_X11_246 (fun h => by cases h) sh_61 rfl rfl ?_
  refine j_iload_n 0 dX11_clear_10 rfl ?_
  exact j_iret dX11_clear_11 rfl ⟨Nat.le_of_ble_eq_true rfl, Nat.le_of_ble_eq_true rfl⟩ (fun _ => h)
theorem E_X11_clear {post : Int → ax_M → Prop} {M : ax_M} (h : ax_mr SH M → post (M 61 50) (ax_up M 61 50 0)) : ax_Ti Y_X11_clear [aR 61] SH M post :=
  ti_of rfl (Nat.le_of_ble_eq_true rfl) rfl (fun q => B_X11_clear_0 (h q))
set_option maxRecDepth 100000 in
set_option maxHeartbeats 4000000 in
theorem B_X11_judge_0 {post : Int → ax_M → Prop} {M : ax_M} {x1 x2 x3 x4 : Int} (h : (-2147483648 ≤ ((M 61 25) - 1) ∧ ((M 61 25) - 1) ≤ 2147483647) ∧ (((x1 < 0) → post (-1001) M) ∧ ((0 ≤ x1) → (((((M 61 25) - 1) < x1) → post (-1001) M) ∧ ((x1 ≤ ((M 61 25) - 1)) → (((x2 < 0) → post (-1002) M) ∧ ((0 ≤ x2) → (((99 < x2) → post (-1002) M) ∧ ((x2 ≤ 99) → (((x3 < (-1)) → post (-1002) M) ∧ (((-1) ≤ x3) → (((99 < x3) → post (-1002) M) ∧ ((x3 ≤ 99) → (((x4 < 0) → post (-1002) M) ∧ ((0 ≤ x4) → (((1 < x4) → post (-1002) M) ∧ ((x4 ≤ 1) → ((((M 61 50) = 0) → (((¬ x4 = 0) → post x2 M) ∧ ((x4 = 0) → post 0 M))) ∧ ((¬ (M 61 50) = 0) → (0 ≤ x1 ∧ x1 < 8) ∧ ((((M 91 0) = (M 72 x1)) → ax_Ti Y_X11_goRow [aR 61, aI x2, aI x3, aI (M 74 x1)] SH M (fun z2 u1 => (((¬ x4 = 0) → post (u1 61 52) u1) ∧ ((x4 = 0) → post z2 u1)))) ∧ ((¬ (M 91 0) = (M 72 x1)) → (((¬ x4 = 0) → post x2 M) ∧ ((x4 = 0) → post 0 M))))))))))))))))))))))) : ax_J Y_X11_judge (ax_Ki Y_X11_judge SH post) 0 0 0 [(0, aR 61), (1, aI x1), (2, aI x2), (3, aI x3), (4, aI x4)] [] SH M := by
  refine j_aload_n 0 dX11_judge_0 rfl ?_
  refine j_iload_n 1 dX11_judge_1 rfl ?_
  refine j_calliV (Yc := Y_X11_isMan) (as := [aI x1]) (rest := []) dX11_judge_2 q_X11_263 ⟨Nat.le_of_ble_eq_true rfl, Nat.le_of_ble_eq_true rfl, Nat.le_of_ble_eq_true rfl, Nat.le_of_ble_eq_true rfl⟩ sh_61 rfl (Nat.le_of_ble_eq_true rfl) rfl (ti_of (ll := [(0, aR 61), (1, aI x1)]) rfl (Nat.le_of_ble_eq_true rfl) rfl (fun _ => ?_))
  refine j_iload_n 1 dX11_isMan_0 rfl ?_
  refine j_i2l dX11_isMan_1 ?_
  refine j_lconst (x := 0) dX11_isMan_2 rfl (i64_c rfl) ?_
  refine j_aload_n 0 dX11_isMan_3 rfl ?_
  refine j_geti (i := 25) dX11_isMan_4 f_X11_240 sh_61 rfl rfl (fun _ => ?_)
  refine j_iconst (x := 1) dX11_isMan_7 rfl (i32_c rfl) ?_
  obtain ⟨o1, h⟩ := h
  refine j_isub (z := ((M 61 25) - 1)) dX11_isMan_8 rfl o1 ?_
  refine j_i2l dX11_isMan_9 ?_
  refine j_calliS (Yc := Y_X11_in) (as := [aL x1, aL 0, aL ((M 61 25) - 1)]) (rest := []) dX11_isMan_10 q_X11_136 ⟨Nat.le_of_ble_eq_true rfl, Nat.le_of_ble_eq_true rfl, Nat.le_of_ble_eq_true rfl, Nat.le_of_ble_eq_true rfl⟩ rfl (Nat.le_of_ble_eq_true rfl) rfl (ti_of (ll := [(0, aL x1), (2, aL 0), (4, aL ((M 61 25) - 1))]) rfl (Nat.le_of_ble_eq_true rfl) rfl (fun _ => ?_))
  refine j_lload_n 0 dX11_in_0 rfl ?_
  refine j_lload_n 1 dX11_in_1 rfl ?_
  refine j_lcmp_lt (tgt := 17) dX11_in_2 dX11_in_3 (by decide) (fun c2 => ?_) (fun c2 => ?_)
  · replace h := h.1 c2
    refine j_iconst (x := 0) dX11_in_17 rfl (i32_c rfl) ?_
    refine j_zret dX11_in_18 rfl ⟨Nat.le_of_ble_eq_true rfl, Nat.le_of_ble_eq_true rfl⟩ (by decide) ?_
    refine j_zret dX11_isMan_13 rfl ⟨Nat.le_of_ble_eq_true rfl, Nat.le_of_ble_eq_true rfl⟩ (by decide) ?_
    refine j_if_ne (tgt := 12) dX11_judge_5 (by decide) (fun c => absurd c (by decide)) (fun _ => ?_)
    refine j_sipush (x := (-1001)) dX11_judge_8 rfl (i32_c rfl) ?_
    exact j_iret dX11_judge_11 rfl ⟨Nat.le_of_ble_eq_true rfl, Nat.le_of_ble_eq_true rfl⟩ (fun _ => h)
  · replace h := h.2 c2
    refine j_lload_n 0 dX11_in_6 rfl ?_
    refine j_lload 2 dX11_in_7 rfl ?_
    refine j_lcmp_gt (tgt := 17) dX11_in_9 dX11_in_10 (by decide) (fun c3 => ?_) (fun c3 => ?_)
    · replace h := h.1 c3
      refine j_iconst (x := 0) dX11_in_17 rfl (i32_c rfl) ?_
      refine j_zret dX11_in_18 rfl ⟨Nat.le_of_ble_eq_true rfl, Nat.le_of_ble_eq_true rfl⟩ (by decide) ?_
      refine j_zret dX11_isMan_13 rfl ⟨Nat.le_of_ble_eq_true rfl, Nat.le_of_ble_eq_true rfl⟩ (by decide) ?_
      refine j_if_ne (tgt := 12) dX11_judge_5 (by decide) (fun c => absurd c (by decide)) (fun _ => ?_)
      refine j_sipush (x := (-1001)) dX11_judge_8 rfl (i32_c rfl) ?_
      exact j_iret dX11_judge_11 rfl ⟨Nat.le_of_ble_eq_true rfl, Nat.le_of_ble_eq_true rfl⟩ (fun _ => h)
    · replace h := h.2 c3
      refine j_iconst (x := 1) dX11_in_13 rfl (i32_c rfl) ?_
      refine j_goto (tgt := 18) dX11_in_14 (by decide) ?_
      refine j_zret dX11_in_18 rfl ⟨Nat.le_of_ble_eq_true rfl, Nat.le_of_ble_eq_true rfl⟩ (by decide) ?_
      refine j_zret dX11_isMan_13 rfl ⟨Nat.le_of_ble_eq_true rfl, Nat.le_of_ble_eq_true rfl⟩ (by decide) ?_
      refine j_if_ne (tgt := 12) dX11_judge_5 (by decide) (fun _ => ?_) (fun c => absurd c (by decide))
      refine j_iload_n 2 dX11_judge_12 rfl ?_
      refine j_calliS (Yc := Y_X11_isMinute) (as := [aI x2]) (rest := []) dX11_judge_13 q_X11_260 ⟨Nat.le_of_ble_eq_true rfl, Nat.le_of_ble_eq_true rfl, Nat.le_of_ble_eq_true rfl, Nat.le_of_ble_eq_true rfl⟩ rfl (Nat.le_of_ble_eq_true rfl) rfl (ti_of (ll := [(0, aI x2)]) rfl (Nat.le_of_ble_eq_true rfl) rfl (fun _ => ?_))
      refine j_iload_n 0 dX11_isMinute_0 rfl ?_
      refine j_i2l dX11_isMinute_1 ?_
      refine j_lconst (x := 0) dX11_isMinute_2 rfl (i64_c rfl) ?_
      refine j_ldc2 (x := 99) dX11_isMinute_3 (ax_in 1393 (by decide +kernel) rfl) (i64_c rfl) ?_
      refine j_calliS (Yc := Y_X11_in) (as := [aL x2, aL 0, aL 99]) (rest := []) dX11_isMinute_6 q_X11_136 ⟨Nat.le_of_ble_eq_true rfl, Nat.le_of_ble_eq_true rfl, Nat.le_of_ble_eq_true rfl, Nat.le_of_ble_eq_true rfl⟩ rfl (Nat.le_of_ble_eq_true rfl) rfl (ti_of (ll := [(0, aL x2), (2, aL 0), (4, aL 99)]) rfl (Nat.le_of_ble_eq_true rfl) rfl (fun _ => ?_))
      refine j_lload_n 0 dX11_in_0 rfl ?_
      refine j_lload_n 1 dX11_in_1 rfl ?_
      refine j_lcmp_lt (tgt := 17) dX11_in_2 dX11_in_3 (by decide) (fun c4 => ?_) (fun c4 => ?_)
      · replace h := h.1 c4
        refine j_iconst (x := 0) dX11_in_17 rfl (i32_c rfl) ?_
        refine j_zret dX11_in_18 rfl ⟨Nat.le_of_ble_eq_true rfl, Nat.le_of_ble_eq_true rfl⟩ (by decide) ?_
        refine j_zret dX11_isMinute_9 rfl ⟨Nat.le_of_ble_eq_true rfl, Nat.le_of_ble_eq_true rfl⟩ (by decide) ?_
        refine j_if_eq (tgt := 37) dX11_judge_16 (by decide) (fun _ => ?_) (fun c => absurd c (by decide))
        refine j_sipush (x := (-1002)) dX11_judge_37 rfl (i32_c rfl) ?_
        exact j_iret dX11_judge_40 rfl ⟨Nat.le_of_ble_eq_true rfl, Nat.le_of_ble_eq_true rfl⟩ (fun _ => h)
      · replace h := h.2 c4
        refine j_lload_n 0 dX11_in_6 rfl ?_
        refine j_lload 2 dX11_in_7 rfl ?_
        refine j_lcmp_gt (tgt := 17) dX11_in_9 dX11_in_10 (by decide) (fun c5 => ?_) (fun c5 => ?_)
        · replace h := h.1 c5
          refine j_iconst (x := 0) dX11_in_17 rfl (i32_c rfl) ?_
          refine j_zret dX11_in_18 rfl ⟨Nat.le_of_ble_eq_true rfl, Nat.le_of_ble_eq_true rfl⟩ (by decide) ?_
          refine j_zret dX11_isMinute_9 rfl ⟨Nat.le_of_ble_eq_true rfl, Nat.le_of_ble_eq_true rfl⟩ (by decide) ?_
          refine j_if_eq (tgt := 37) dX11_judge_16 (by decide) (fun _ => ?_) (fun c => absurd c (by decide))
          refine j_sipush (x := (-1002)) dX11_judge_37 rfl (i32_c rfl) ?_
          exact j_iret dX11_judge_40 rfl ⟨Nat.le_of_ble_eq_true rfl, Nat.le_of_ble_eq_true rfl⟩ (fun _ => h)
        · replace h := h.2 c5
          refine j_iconst (x := 1) dX11_in_13 rfl (i32_c rfl) ?_
          refine j_goto (tgt := 18) dX11_in_14 (by decide) ?_
          refine j_zret dX11_in_18 rfl ⟨Nat.le_of_ble_eq_true rfl, Nat.le_of_ble_eq_true rfl⟩ (by decide) ?_
          refine j_zret dX11_isMinute_9 rfl ⟨Nat.le_of_ble_eq_true rfl, Nat.le_of_ble_eq_true rfl⟩ (by decide) ?_
          refine j_if_eq (tgt := 37) dX11_judge_16 (by decide) (fun c => absurd c (by decide)) (fun _ => ?_)
          refine j_iload_n 3 dX11_judge_19 rfl ?_
          refine j_calliS (Yc := Y_X11_isLight) (as := [aI x3]) (rest := []) dX11_judge_20 q_X11_284 ⟨Nat.le_of_ble_eq_true rfl, Nat.le_of_ble_eq_true rfl, Nat.le_of_ble_eq_true rfl, Nat.le_of_ble_eq_true rfl⟩ rfl (Nat.le_of_ble_eq_true rfl) rfl (ti_of (ll := [(0, aI x3)]) rfl (Nat.le_of_ble_eq_true rfl) rfl (fun _ => ?_))
          refine j_iload_n 0 dX11_isLight_0 rfl ?_
          refine j_i2l dX11_isLight_1 ?_
          refine j_ldc2 (x := (-1)) dX11_isLight_2 (ax_in 1425 (by decide +kernel) rfl) (i64_c rfl) ?_
          refine j_ldc2 (x := 99) dX11_isLight_5 (ax_in 1393 (by decide +kernel) rfl) (i64_c rfl) ?_
          refine j_calliS (Yc := Y_X11_in) (as := [aL x3, aL (-1), aL 99]) (rest := []) dX11_isLight_8 q_X11_136 ⟨Nat.le_of_ble_eq_true rfl, Nat.le_of_ble_eq_true rfl, Nat.le_of_ble_eq_true rfl, Nat.le_of_ble_eq_true rfl⟩ rfl (Nat.le_of_ble_eq_true rfl) rfl (ti_of (ll := [(0, aL x3), (2, aL (-1)), (4, aL 99)]) rfl (Nat.le_of_ble_eq_true rfl) rfl (fun _ => ?_))
          refine j_lload_n 0 dX11_in_0 rfl ?_
          refine j_lload_n 1 dX11_in_1 rfl ?_
          refine j_lcmp_lt (tgt := 17) dX11_in_2 dX11_in_3 (by decide) (fun c6 => ?_) (fun c6 => ?_)
          · replace h := h.1 c6
            refine j_iconst (x := 0) dX11_in_17 rfl (i32_c rfl) ?_
            refine j_zret dX11_in_18 rfl ⟨Nat.le_of_ble_eq_true rfl, Nat.le_of_ble_eq_true rfl⟩ (by decide) ?_
            refine j_zret dX11_isLight_11 rfl ⟨Nat.le_of_ble_eq_true rfl, Nat.le_of_ble_eq_true rfl⟩ (by decide) ?_
            refine j_if_eq (tgt := 37) dX11_judge_23 (by decide) (fun _ => ?_) (fun c => absurd c (by decide))
            refine j_sipush (x := (-1002)) dX11_judge_37 rfl (i32_c rfl) ?_
            exact j_iret dX11_judge_40 rfl ⟨Nat.le_of_ble_eq_true rfl, Nat.le_of_ble_eq_true rfl⟩ (fun _ => h)
          · replace h := h.2 c6
            refine j_lload_n 0 dX11_in_6 rfl ?_
            refine j_lload 2 dX11_in_7 rfl ?_
            refine j_lcmp_gt (tgt := 17) dX11_in_9 dX11_in_10 (by decide) (fun c7 => ?_) (fun c7 => ?_)
            · replace h := h.1 c7
              refine j_iconst (x := 0) dX11_in_17 rfl (i32_c rfl) ?_
              refine j_zret dX11_in_18 rfl ⟨Nat.le_of_ble_eq_true rfl, Nat.le_of_ble_eq_true rfl⟩ (by decide) ?_
              refine j_zret dX11_isLight_11 rfl ⟨Nat.le_of_ble_eq_true rfl, Nat.le_of_ble_eq_true rfl⟩ (by decide) ?_
              refine j_if_eq (tgt := 37) dX11_judge_23 (by decide) (fun _ => ?_) (fun c => absurd c (by decide))
              refine j_sipush (x := (-1002)) dX11_judge_37 rfl (i32_c rfl) ?_
              exact j_iret dX11_judge_40 rfl ⟨Nat.le_of_ble_eq_true rfl, Nat.le_of_ble_eq_true rfl⟩ (fun _ => h)
            · replace h := h.2 c7
              refine j_iconst (x := 1) dX11_in_13 rfl (i32_c rfl) ?_
              refine j_goto (tgt := 18) dX11_in_14 (by decide) ?_
              refine j_zret dX11_in_18 rfl ⟨Nat.le_of_ble_eq_true rfl, Nat.le_of_ble_eq_true rfl⟩ (by decide) ?_
              refine j_zret dX11_isLight_11 rfl ⟨Nat.le_of_ble_eq_true rfl, Nat.le_of_ble_eq_true rfl⟩ (by decide) ?_
              refine j_if_eq (tgt := 37) dX11_judge_23 (by decide) (fun c => absurd c (by decide)) (fun _ => ?_)
              refine j_iload 4 dX11_judge_26 rfl ?_
              refine j_i2l dX11_judge_28 ?_
              refine j_lconst (x := 0) dX11_judge_29 rfl (i64_c rfl) ?_
              refine j_lconst (x := 1) dX11_judge_30 rfl (i64_c rfl) ?_
              refine j_calliS (Yc := Y_X11_in) (as := [aL x4, aL 0, aL 1]) (rest := []) dX11_judge_31 q_X11_136 ⟨Nat.le_of_ble_eq_true rfl, Nat.le_of_ble_eq_true rfl, Nat.le_of_ble_eq_true rfl, Nat.le_of_ble_eq_true rfl⟩ rfl (Nat.le_of_ble_eq_true rfl) rfl (ti_of (ll := [(0, aL x4), (2, aL 0), (4, aL 1)]) rfl (Nat.le_of_ble_eq_true rfl) rfl (fun _ => ?_))
              refine j_lload_n 0 dX11_in_0 rfl ?_
              refine j_lload_n 1 dX11_in_1 rfl ?_
              refine j_lcmp_lt (tgt := 17) dX11_in_2 dX11_in_3 (by decide) (fun c8 => ?_) (fun c8 => ?_)
              · replace h := h.1 c8
                refine j_iconst (x := 0) dX11_in_17 rfl (i32_c rfl) ?_
                refine j_zret dX11_in_18 rfl ⟨Nat.le_of_ble_eq_true rfl, Nat.le_of_ble_eq_true rfl⟩ (by decide) ?_
                refine j_if_ne (tgt := 41) dX11_judge_34 (by decide) (fun c => absurd c (by decide)) (fun _ => ?_)
                refine j_sipush (x := (-1002)) dX11_judge_37 rfl (i32_c rfl) ?_
                exact j_iret dX11_judge_40 rfl ⟨Nat.le_of_ble_eq_true rfl, Nat.le_of_ble_eq_true rfl⟩ (fun _ => h)
              · replace h := h.2 c8
                refine j_lload_n 0 dX11_in_6 rfl ?_
                refine j_lload 2 dX11_in_7 rfl ?_
                refine j_lcmp_gt (tgt := 17) dX11_in_9 dX11_in_10 (by decide) (fun c9 => ?_) (fun c9 => ?_)
                · replace h := h.1 c9
                  refine j_iconst (x := 0) dX11_in_17 rfl (i32_c rfl) ?_
                  refine j_zret dX11_in_18 rfl ⟨Nat.le_of_ble_eq_true rfl, Nat.le_of_ble_eq_true rfl⟩ (by decide) ?_
                  refine j_if_ne (tgt := 41) dX11_judge_34 (by decide) (fun c => absurd c (by decide)) (fun _ => ?_)
                  refine j_sipush (x := (-1002)) dX11_judge_37 rfl (i32_c rfl) ?_
                  exact j_iret dX11_judge_40 rfl ⟨Nat.le_of_ble_eq_true rfl, Nat.le_of_ble_eq_true rfl⟩ (fun _ => h)
                · replace h := h.2 c9
                  refine j_iconst (x := 1) dX11_in_13 rfl (i32_c rfl) ?_
                  refine j_goto (tgt := 18) dX11_in_14 (by decide) ?_
                  refine j_zret dX11_in_18 rfl ⟨Nat.le_of_ble_eq_true rfl, Nat.le_of_ble_eq_true rfl⟩ (by decide) ?_
                  refine j_if_ne (tgt := 41) dX11_judge_34 (by decide) (fun _ => ?_) (fun c => absurd c (by decide))
                  refine j_aload_n 0 dX11_judge_41 rfl ?_
                  refine j_geti (i := 50) dX11_judge_42 f_X11_246 sh_61 rfl rfl (fun _ => ?_)
                  refine j_if_eq (tgt := 63) dX11_judge_45 (by decide) (fun c10 => ?_) (fun c10 => ?_)
                  · replace h := h.1 c10
                    refine j_iload 4 dX11_judge_63 rfl ?_
                    refine j_if_ne (tgt := 72) dX11_judge_65 (by decide) (fun c11 => ?_) (fun c11 => ?_)
                    · replace h := h.1 c11
                      refine j_iload_n 2 dX11_judge_72 rfl ?_
                      exact j_iret dX11_judge_73 rfl ⟨Nat.le_of_ble_eq_true rfl, Nat.le_of_ble_eq_true rfl⟩ (fun _ => h)
                    · replace h := h.2 c11
                      refine j_iconst (x := 0) dX11_judge_68 rfl (i32_c rfl) ?_
                      refine j_goto (tgt := 73) dX11_judge_69 (by decide) ?_
                      exact j_iret dX11_judge_73 rfl ⟨Nat.le_of_ble_eq_true rfl, Nat.le_of_ble_eq_true rfl⟩ (fun _ => h)
                  · replace h := h.2 c10
                    refine j_aload_n 0 dX11_judge_48 rfl ?_
                    refine j_getc 91 dX11_judge_49 f_X11_108 sh_61 rfl ?_
                    refine j_iconst (x := 0) dX11_judge_52 rfl (i32_c rfl) ?_
                    refine j_iald dX11_judge_53 sh_91 (by decide) (by decide) (fun _ => ?_)
                    refine j_aload_n 0 dX11_judge_54 rfl ?_
                    refine j_getc 72 dX11_judge_55 f_X11_48 sh_61 rfl ?_
                    refine j_iload_n 1 dX11_judge_58 rfl ?_
                    obtain ⟨o12, h⟩ := h
                    refine j_iald dX11_judge_59 sh_72 o12.1 o12.2 (fun _ => ?_)
                    refine j_icmp_eq (tgt := 74) dX11_judge_60 (by decide) (fun c13 => ?_) (fun c13 => ?_)
                    · replace h := h.1 c13
                      refine j_aload_n 0 dX11_judge_74 rfl ?_
                      refine j_iload_n 2 dX11_judge_75 rfl ?_
                      refine j_iload_n 3 dX11_judge_76 rfl ?_
                      refine j_aload_n 0 dX11_judge_77 rfl ?_
                      refine j_getc 74 dX11_judge_78 f_X11_54 sh_61 rfl ?_
                      refine j_iload_n 1 dX11_judge_81 rfl ?_
                      refine j_zald dX11_judge_82 sh_74 o12.1 o12.2 (fun _ => ?_)
                      refine j_calliV (Yc := Y_X11_goRow) (as := [aI x2, aI x3, aI (M 74 x1)]) (rest := []) dX11_judge_83 q_X11_389 ⟨Nat.le_of_ble_eq_true rfl, Nat.le_of_ble_eq_true rfl, Nat.le_of_ble_eq_true rfl, Nat.le_of_ble_eq_true rfl⟩ sh_61 rfl (Nat.le_of_ble_eq_true rfl) rfl (ti_mono h (fun z2 u1 h => ?_))
                      refine j_istore (ll' := [(5, aI z2), (0, aR 61), (1, aI x1), (2, aI x2), (3, aI x3), (4, aI x4)]) dX11_judge_86 (Nat.le_of_ble_eq_true rfl) rfl ?_
                      refine j_iload 5 dX11_judge_88 rfl ?_
                      refine j_if_ne (tgt := 98) dX11_judge_90 (by decide) (fun c14 => ?_) (fun c14 => ?_)
                      · replace h := h.1 c14
                        refine j_aload_n 1 dX11_judge_98 rfl ?_
                        refine j_geti (i := 52) dX11_judge_99 f_X11_375 sh_61 rfl rfl (fun _ => ?_)
                        exact j_iret dX11_judge_102 rfl ⟨Nat.le_of_ble_eq_true rfl, Nat.le_of_ble_eq_true rfl⟩ (fun _ => h)
                      · replace h := h.2 c14
                        refine j_iload 0 dX11_judge_93 rfl ?_
                        refine j_goto (tgt := 102) dX11_judge_95 (by decide) ?_
                        exact j_iret dX11_judge_102 rfl ⟨Nat.le_of_ble_eq_true rfl, Nat.le_of_ble_eq_true rfl⟩ (fun _ => h)
                    · replace h := h.2 c13
                      refine j_iload 4 dX11_judge_63 rfl ?_
                      refine j_if_ne (tgt := 72) dX11_judge_65 (by decide) (fun c15 => ?_) (fun c15 => ?_)
                      · replace h := h.1 c15
                        refine j_iload_n 2 dX11_judge_72 rfl ?_
                        exact j_iret dX11_judge_73 rfl ⟨Nat.le_of_ble_eq_true rfl, Nat.le_of_ble_eq_true rfl⟩ (fun _ => h)
                      · replace h := h.2 c15
                        refine j_iconst (x := 0) dX11_judge_68 rfl (i32_c rfl) ?_
                        refine j_goto (tgt := 73) dX11_judge_69 (by decide) ?_
                        exact j_iret dX11_judge_73 rfl ⟨Nat.le_of_ble_eq_true rfl, Nat.le_of_ble_eq_true rfl⟩ (fun _ => h)
theorem E_X11_judge {post : Int → ax_M → Prop} {M : ax_M} {x1 x2 x3 x4 : Int} (h : ax_mr SH M → (-2147483648 ≤ ((M 61 25) - 1) ∧ ((M 61 25) - 1) ≤ 2147483647) ∧ (((x1 < 0) → post (-1001) M) ∧ ((0 ≤ x1) → (((((M 61 25) - 1) < x1) → post (-1001) M) ∧ ((x1 ≤ ((M 61 25) - 1)) → (((x2 < 0) → post (-1002) M) ∧ ((0 ≤ x2) → (((99 < x2) → post (-1002) M) ∧ ((x2 ≤ 99) → (((x3 < (-1)) → post (-1002) M) ∧ (((-1) ≤ x3) → (((99 < x3) → post (-1002) M) ∧ ((x3 ≤ 99) → (((x4 < 0) → post (-1002) M) ∧ ((0 ≤ x4) → (((1 < x4) → post (-1002) M) ∧ ((x4 ≤ 1) → ((((M 61 50) = 0) → (((¬ x4 = 0) → post x2 M) ∧ ((x4 = 0) → post 0 M))) ∧ ((¬ (M 61 50) = 0) → (0 ≤ x1 ∧ x1 < 8) ∧ ((((M 91 0) = (M 72 x1)) → ax_Ti Y_X11_goRow [aR 61, aI x2, aI x3, aI (M 74 x1)] SH M (fun z2 u1 => (((¬ x4 = 0) → post (u1 61 52) u1) ∧ ((x4 = 0) → post z2 u1)))) ∧ ((¬ (M 91 0) = (M 72 x1)) → (((¬ x4 = 0) → post x2 M) ∧ ((x4 = 0) → post 0 M))))))))))))))))))))))) : ax_Ti Y_X11_judge [aR 61, aI x1, aI x2, aI x3, aI x4] SH M post :=
  ti_of rfl (Nat.le_of_ble_eq_true rfl) rfl (fun q => B_X11_judge_0 (h q))
set_option maxRecDepth 100000 in
set_option maxHeartbeats 4000000 in
theorem B_X11_opens_0 {post : Int → ax_M → Prop} {M : ax_M} {x1 x2 : Int} (h : (-2147483648 ≤ ((M 61 3) - 1) ∧ ((M 61 3) - 1) ≤ 2147483647) ∧ (((x1 < 0) → post (-1001) M) ∧ ((0 ≤ x1) → (((((M 61 3) - 1) < x1) → post (-1001) M) ∧ ((x1 ≤ ((M 61 3) - 1)) → (((x2 < 0) → post (-1002) M) ∧ ((0 ≤ x2) → (((99 < x2) → post (-1002) M) ∧ ((x2 ≤ 99) → ax_Ti Y_X11_opensOf [aR 61, aI x1, aI x2] SH M (fun z2 u1 => post z2 u1)))))))))) : ax_J Y_X11_opens (ax_Ki Y_X11_opens SH post) 0 0 0 [(0, aR 61), (1, aI x1), (2, aI x2)] [] SH M := by
  refine j_aload_n 0 dX11_opens_0 rfl ?_
  refine j_iload_n 1 dX11_opens_1 rfl ?_
  refine j_calliV (Yc := Y_X11_isWay) (as := [aI x1]) (rest := []) dX11_opens_2 q_X11_249 ⟨Nat.le_of_ble_eq_true rfl, Nat.le_of_ble_eq_true rfl, Nat.le_of_ble_eq_true rfl, Nat.le_of_ble_eq_true rfl⟩ sh_61 rfl (Nat.le_of_ble_eq_true rfl) rfl (ti_of (ll := [(0, aR 61), (1, aI x1)]) rfl (Nat.le_of_ble_eq_true rfl) rfl (fun _ => ?_))
  refine j_iload_n 1 dX11_isWay_0 rfl ?_
  refine j_i2l dX11_isWay_1 ?_
  refine j_lconst (x := 0) dX11_isWay_2 rfl (i64_c rfl) ?_
  refine j_aload_n 0 dX11_isWay_3 rfl ?_
  refine j_geti (i := 3) dX11_isWay_4 f_X11_140 sh_61 rfl rfl (fun _ => ?_)
  refine j_iconst (x := 1) dX11_isWay_7 rfl (i32_c rfl) ?_
  obtain ⟨o1, h⟩ := h
  refine j_isub (z := ((M 61 3) - 1)) dX11_isWay_8 rfl o1 ?_
  refine j_i2l dX11_isWay_9 ?_
  refine j_calliS (Yc := Y_X11_in) (as := [aL x1, aL 0, aL ((M 61 3) - 1)]) (rest := []) dX11_isWay_10 q_X11_136 ⟨Nat.le_of_ble_eq_true rfl, Nat.le_of_ble_eq_true rfl, Nat.le_of_ble_eq_true rfl, Nat.le_of_ble_eq_true rfl⟩ rfl (Nat.le_of_ble_eq_true rfl) rfl (ti_of (ll := [(0, aL x1), (2, aL 0), (4, aL ((M 61 3) - 1))]) rfl (Nat.le_of_ble_eq_true rfl) rfl (fun _ => ?_))
  refine j_lload_n 0 dX11_in_0 rfl ?_
  refine j_lload_n 1 dX11_in_1 rfl ?_
  refine j_lcmp_lt (tgt := 17) dX11_in_2 dX11_in_3 (by decide) (fun c2 => ?_) (fun c2 => ?_)
  · replace h := h.1 c2
    refine j_iconst (x := 0) dX11_in_17 rfl (i32_c rfl) ?_
    refine j_zret dX11_in_18 rfl ⟨Nat.le_of_ble_eq_true rfl, Nat.le_of_ble_eq_true rfl⟩ (by decide) ?_
    refine j_zret dX11_isWay_13 rfl ⟨Nat.le_of_ble_eq_true rfl, Nat.le_of_ble_eq_true rfl⟩ (by decide) ?_
    refine j_if_ne (tgt := 12) dX11_opens_5 (by decide) (fun c => absurd c (by decide)) (fun _ => ?_)
    refine j_sipush (x := (-1001)) dX11_opens_8 rfl (i32_c rfl) ?_
    exact j_iret dX11_opens_11 rfl ⟨Nat.le_of_ble_eq_true rfl, Nat.le_of_ble_eq_true rfl⟩ (fun _ => h)
  · replace h := h.2 c2
    refine j_lload_n 0 dX11_in_6 rfl ?_
    refine j_lload 2 dX11_in_7 rfl ?_
    refine j_lcmp_gt (tgt := 17) dX11_in_9 dX11_in_10 (by decide) (fun c3 => ?_) (fun c3 => ?_)
    · replace h := h.1 c3
      refine j_iconst (x := 0) dX11_in_17 rfl (i32_c rfl) ?_
      refine j_zret dX11_in_18 rfl ⟨Nat.le_of_ble_eq_true rfl, Nat.le_of_ble_eq_true rfl⟩ (by decide) ?_
      refine j_zret dX11_isWay_13 rfl ⟨Nat.le_of_ble_eq_true rfl, Nat.le_of_ble_eq_true rfl⟩ (by decide) ?_
      refine j_if_ne (tgt := 12) dX11_opens_5 (by decide) (fun c => absurd c (by decide)) (fun _ => ?_)
      refine j_sipush (x := (-1001)) dX11_opens_8 rfl (i32_c rfl) ?_
      exact j_iret dX11_opens_11 rfl ⟨Nat.le_of_ble_eq_true rfl, Nat.le_of_ble_eq_true rfl⟩ (fun _ => h)
    · replace h := h.2 c3
      refine j_iconst (x := 1) dX11_in_13 rfl (i32_c rfl) ?_
      refine j_goto (tgt := 18) dX11_in_14 (by decide) ?_
      refine j_zret dX11_in_18 rfl ⟨Nat.le_of_ble_eq_true rfl, Nat.le_of_ble_eq_true rfl⟩ (by decide) ?_
      refine j_zret dX11_isWay_13 rfl ⟨Nat.le_of_ble_eq_true rfl, Nat.le_of_ble_eq_true rfl⟩ (by decide) ?_
      refine j_if_ne (tgt := 12) dX11_opens_5 (by decide) (fun _ => ?_) (fun c => absurd c (by decide))
      refine j_iload_n 2 dX11_opens_12 rfl ?_
      refine j_calliS (Yc := Y_X11_isMinute) (as := [aI x2]) (rest := []) dX11_opens_13 q_X11_260 ⟨Nat.le_of_ble_eq_true rfl, Nat.le_of_ble_eq_true rfl, Nat.le_of_ble_eq_true rfl, Nat.le_of_ble_eq_true rfl⟩ rfl (Nat.le_of_ble_eq_true rfl) rfl (ti_of (ll := [(0, aI x2)]) rfl (Nat.le_of_ble_eq_true rfl) rfl (fun _ => ?_))
      refine j_iload_n 0 dX11_isMinute_0 rfl ?_
      refine j_i2l dX11_isMinute_1 ?_
      refine j_lconst (x := 0) dX11_isMinute_2 rfl (i64_c rfl) ?_
      refine j_ldc2 (x := 99) dX11_isMinute_3 (ax_in 1393 (by decide +kernel) rfl) (i64_c rfl) ?_
      refine j_calliS (Yc := Y_X11_in) (as := [aL x2, aL 0, aL 99]) (rest := []) dX11_isMinute_6 q_X11_136 ⟨Nat.le_of_ble_eq_true rfl, Nat.le_of_ble_eq_true rfl, Nat.le_of_ble_eq_true rfl, Nat.le_of_ble_eq_true rfl⟩ rfl (Nat.le_of_ble_eq_true rfl) rfl (ti_of (ll := [(0, aL x2), (2, aL 0), (4, aL 99)]) rfl (Nat.le_of_ble_eq_true rfl) rfl (fun _ => ?_))
      refine j_lload_n 0 dX11_in_0 rfl ?_
      refine j_lload_n 1 dX11_in_1 rfl ?_
      refine j_lcmp_lt (tgt := 17) dX11_in_2 dX11_in_3 (by decide) (fun c4 => ?_) (fun c4 => ?_)
      · replace h := h.1 c4
        refine j_iconst (x := 0) dX11_in_17 rfl (i32_c rfl) ?_
        refine j_zret dX11_in_18 rfl ⟨Nat.le_of_ble_eq_true rfl, Nat.le_of_ble_eq_true rfl⟩ (by decide) ?_
        refine j_zret dX11_isMinute_9 rfl ⟨Nat.le_of_ble_eq_true rfl, Nat.le_of_ble_eq_true rfl⟩ (by decide) ?_
        refine j_if_eq (tgt := 28) dX11_opens_16 (by decide) (fun _ => ?_) (fun c => absurd c (by decide))
        refine j_sipush (x := (-1002)) dX11_opens_28 rfl (i32_c rfl) ?_
        exact j_iret dX11_opens_31 rfl ⟨Nat.le_of_ble_eq_true rfl, Nat.le_of_ble_eq_true rfl⟩ (fun _ => h)
      · replace h := h.2 c4
        refine j_lload_n 0 dX11_in_6 rfl ?_
        refine j_lload 2 dX11_in_7 rfl ?_
        refine j_lcmp_gt (tgt := 17) dX11_in_9 dX11_in_10 (by decide) (fun c5 => ?_) (fun c5 => ?_)
        · replace h := h.1 c5
          refine j_iconst (x := 0) dX11_in_17 rfl (i32_c rfl) ?_
          refine j_zret dX11_in_18 rfl ⟨Nat.le_of_ble_eq_true rfl, Nat.le_of_ble_eq_true rfl⟩ (by decide) ?_
          refine j_zret dX11_isMinute_9 rfl ⟨Nat.le_of_ble_eq_true rfl, Nat.le_of_ble_eq_true rfl⟩ (by decide) ?_
          refine j_if_eq (tgt := 28) dX11_opens_16 (by decide) (fun _ => ?_) (fun c => absurd c (by decide))
          refine j_sipush (x := (-1002)) dX11_opens_28 rfl (i32_c rfl) ?_
          exact j_iret dX11_opens_31 rfl ⟨Nat.le_of_ble_eq_true rfl, Nat.le_of_ble_eq_true rfl⟩ (fun _ => h)
        · replace h := h.2 c5
          refine j_iconst (x := 1) dX11_in_13 rfl (i32_c rfl) ?_
          refine j_goto (tgt := 18) dX11_in_14 (by decide) ?_
          refine j_zret dX11_in_18 rfl ⟨Nat.le_of_ble_eq_true rfl, Nat.le_of_ble_eq_true rfl⟩ (by decide) ?_
          refine j_zret dX11_isMinute_9 rfl ⟨Nat.le_of_ble_eq_true rfl, Nat.le_of_ble_eq_true rfl⟩ (by decide) ?_
          refine j_if_eq (tgt := 28) dX11_opens_16 (by decide) (fun c => absurd c (by decide)) (fun _ => ?_)
          refine j_aload_n 0 dX11_opens_19 rfl ?_
          refine j_iload_n 1 dX11_opens_20 rfl ?_
          refine j_iload_n 2 dX11_opens_21 rfl ?_
          refine j_calliV (Yc := Y_X11_opensOf) (as := [aI x1, aI x2]) (rest := []) dX11_opens_22 q_X11_386 ⟨Nat.le_of_ble_eq_true rfl, Nat.le_of_ble_eq_true rfl, Nat.le_of_ble_eq_true rfl, Nat.le_of_ble_eq_true rfl⟩ sh_61 rfl (Nat.le_of_ble_eq_true rfl) rfl (ti_mono h (fun z2 u1 h => ?_))
          refine j_goto (tgt := 31) dX11_opens_25 (by decide) ?_
          exact j_iret dX11_opens_31 rfl ⟨Nat.le_of_ble_eq_true rfl, Nat.le_of_ble_eq_true rfl⟩ (fun _ => h)
theorem E_X11_opens {post : Int → ax_M → Prop} {M : ax_M} {x1 x2 : Int} (h : ax_mr SH M → (-2147483648 ≤ ((M 61 3) - 1) ∧ ((M 61 3) - 1) ≤ 2147483647) ∧ (((x1 < 0) → post (-1001) M) ∧ ((0 ≤ x1) → (((((M 61 3) - 1) < x1) → post (-1001) M) ∧ ((x1 ≤ ((M 61 3) - 1)) → (((x2 < 0) → post (-1002) M) ∧ ((0 ≤ x2) → (((99 < x2) → post (-1002) M) ∧ ((x2 ≤ 99) → ax_Ti Y_X11_opensOf [aR 61, aI x1, aI x2] SH M (fun z2 u1 => post z2 u1)))))))))) : ax_Ti Y_X11_opens [aR 61, aI x1, aI x2] SH M post :=
  ti_of rfl (Nat.le_of_ble_eq_true rfl) rfl (fun q => B_X11_opens_0 (h q))
set_option maxRecDepth 100000 in
set_option maxHeartbeats 4000000 in
theorem B_X11_safe_0 {post : Int → ax_M → Prop} {M : ax_M} {x1 x2 : Int} (h : (((x1 < 0) → post (-1002) M) ∧ ((0 ≤ x1) → (((99 < x1) → post (-1002) M) ∧ ((x1 ≤ 99) → (((x2 < (-1)) → post (-1002) M) ∧ (((-1) ≤ x2) → (((99 < x2) → post (-1002) M) ∧ ((x2 ≤ 99) → ((((M 61 50) = 0) → post (-1003) M) ∧ ((¬ (M 61 50) = 0) → ax_Ti Y_X11_goRow [aR 61, aI x1, aI x2, aI 0] SH M (fun z2 u1 => (((z2 < 0) → (-2147483648 ≤ (u1 61 53) ∧ (u1 61 53) ≤ 2147483647) ∧ post (u1 61 53) u1) ∧ ((0 ≤ z2) → post (-1003) u1)))))))))))))) : ax_J Y_X11_safe (ax_Ki Y_X11_safe SH post) 0 0 0 [(0, aR 61), (1, aI x1), (2, aI x2)] [] SH M := by
  refine j_iload_n 1 dX11_safe_0 rfl ?_
  refine j_calliS (Yc := Y_X11_isMinute) (as := [aI x1]) (rest := []) dX11_safe_1 q_X11_260 ⟨Nat.le_of_ble_eq_true rfl, Nat.le_of_ble_eq_true rfl, Nat.le_of_ble_eq_true rfl, Nat.le_of_ble_eq_true rfl⟩ rfl (Nat.le_of_ble_eq_true rfl) rfl (ti_of (ll := [(0, aI x1)]) rfl (Nat.le_of_ble_eq_true rfl) rfl (fun _ => ?_))
  refine j_iload_n 0 dX11_isMinute_0 rfl ?_
  refine j_i2l dX11_isMinute_1 ?_
  refine j_lconst (x := 0) dX11_isMinute_2 rfl (i64_c rfl) ?_
  refine j_ldc2 (x := 99) dX11_isMinute_3 (ax_in 1393 (by decide +kernel) rfl) (i64_c rfl) ?_
  refine j_calliS (Yc := Y_X11_in) (as := [aL x1, aL 0, aL 99]) (rest := []) dX11_isMinute_6 q_X11_136 ⟨Nat.le_of_ble_eq_true rfl, Nat.le_of_ble_eq_true rfl, Nat.le_of_ble_eq_true rfl, Nat.le_of_ble_eq_true rfl⟩ rfl (Nat.le_of_ble_eq_true rfl) rfl (ti_of (ll := [(0, aL x1), (2, aL 0), (4, aL 99)]) rfl (Nat.le_of_ble_eq_true rfl) rfl (fun _ => ?_))
  refine j_lload_n 0 dX11_in_0 rfl ?_
  refine j_lload_n 1 dX11_in_1 rfl ?_
  refine j_lcmp_lt (tgt := 17) dX11_in_2 dX11_in_3 (by decide) (fun c1 => ?_) (fun c1 => ?_)
  · replace h := h.1 c1
    refine j_iconst (x := 0) dX11_in_17 rfl (i32_c rfl) ?_
    refine j_zret dX11_in_18 rfl ⟨Nat.le_of_ble_eq_true rfl, Nat.le_of_ble_eq_true rfl⟩ (by decide) ?_
    refine j_zret dX11_isMinute_9 rfl ⟨Nat.le_of_ble_eq_true rfl, Nat.le_of_ble_eq_true rfl⟩ (by decide) ?_
    refine j_if_eq (tgt := 14) dX11_safe_4 (by decide) (fun _ => ?_) (fun c => absurd c (by decide))
    refine j_sipush (x := (-1002)) dX11_safe_14 rfl (i32_c rfl) ?_
    exact j_iret dX11_safe_17 rfl ⟨Nat.le_of_ble_eq_true rfl, Nat.le_of_ble_eq_true rfl⟩ (fun _ => h)
  · replace h := h.2 c1
    refine j_lload_n 0 dX11_in_6 rfl ?_
    refine j_lload 2 dX11_in_7 rfl ?_
    refine j_lcmp_gt (tgt := 17) dX11_in_9 dX11_in_10 (by decide) (fun c2 => ?_) (fun c2 => ?_)
    · replace h := h.1 c2
      refine j_iconst (x := 0) dX11_in_17 rfl (i32_c rfl) ?_
      refine j_zret dX11_in_18 rfl ⟨Nat.le_of_ble_eq_true rfl, Nat.le_of_ble_eq_true rfl⟩ (by decide) ?_
      refine j_zret dX11_isMinute_9 rfl ⟨Nat.le_of_ble_eq_true rfl, Nat.le_of_ble_eq_true rfl⟩ (by decide) ?_
      refine j_if_eq (tgt := 14) dX11_safe_4 (by decide) (fun _ => ?_) (fun c => absurd c (by decide))
      refine j_sipush (x := (-1002)) dX11_safe_14 rfl (i32_c rfl) ?_
      exact j_iret dX11_safe_17 rfl ⟨Nat.le_of_ble_eq_true rfl, Nat.le_of_ble_eq_true rfl⟩ (fun _ => h)
    · replace h := h.2 c2
      refine j_iconst (x := 1) dX11_in_13 rfl (i32_c rfl) ?_
      refine j_goto (tgt := 18) dX11_in_14 (by decide) ?_
      refine j_zret dX11_in_18 rfl ⟨Nat.le_of_ble_eq_true rfl, Nat.le_of_ble_eq_true rfl⟩ (by decide) ?_
      refine j_zret dX11_isMinute_9 rfl ⟨Nat.le_of_ble_eq_true rfl, Nat.le_of_ble_eq_true rfl⟩ (by decide) ?_
      refine j_if_eq (tgt := 14) dX11_safe_4 (by decide) (fun c => absurd c (by decide)) (fun _ => ?_)
      refine j_iload_n 2 dX11_safe_7 rfl ?_
      refine j_calliS (Yc := Y_X11_isLight) (as := [aI x2]) (rest := []) dX11_safe_8 q_X11_284 ⟨Nat.le_of_ble_eq_true rfl, Nat.le_of_ble_eq_true rfl, Nat.le_of_ble_eq_true rfl, Nat.le_of_ble_eq_true rfl⟩ rfl (Nat.le_of_ble_eq_true rfl) rfl (ti_of (ll := [(0, aI x2)]) rfl (Nat.le_of_ble_eq_true rfl) rfl (fun _ => ?_))
      refine j_iload_n 0 dX11_isLight_0 rfl ?_
      refine j_i2l dX11_isLight_1 ?_
      refine j_ldc2 (x := (-1)) dX11_isLight_2 (ax_in 1425 (by decide +kernel) rfl) (i64_c rfl) ?_
      refine j_ldc2 (x := 99) dX11_isLight_5 (ax_in 1393 (by decide +kernel) rfl) (i64_c rfl) ?_
      refine j_calliS (Yc := Y_X11_in) (as := [aL x2, aL (-1), aL 99]) (rest := []) dX11_isLight_8 q_X11_136 ⟨Nat.le_of_ble_eq_true rfl, Nat.le_of_ble_eq_true rfl, Nat.le_of_ble_eq_true rfl, Nat.le_of_ble_eq_true rfl⟩ rfl (Nat.le_of_ble_eq_true rfl) rfl (ti_of (ll := [(0, aL x2), (2, aL (-1)), (4, aL 99)]) rfl (Nat.le_of_ble_eq_true rfl) rfl (fun _ => ?_))
      refine j_lload_n 0 dX11_in_0 rfl ?_
      refine j_lload_n 1 dX11_in_1 rfl ?_
      refine j_lcmp_lt (tgt := 17) dX11_in_2 dX11_in_3 (by decide) (fun c3 => ?_) (fun c3 => ?_)
      · replace h := h.1 c3
        refine j_iconst (x := 0) dX11_in_17 rfl (i32_c rfl) ?_
        refine j_zret dX11_in_18 rfl ⟨Nat.le_of_ble_eq_true rfl, Nat.le_of_ble_eq_true rfl⟩ (by decide) ?_
        refine j_zret dX11_isLight_11 rfl ⟨Nat.le_of_ble_eq_true rfl, Nat.le_of_ble_eq_true rfl⟩ (by decide) ?_
        refine j_if_ne (tgt := 18) dX11_safe_11 (by decide) (fun c => absurd c (by decide)) (fun _ => ?_)
        refine j_sipush (x := (-1002)) dX11_safe_14 rfl (i32_c rfl) ?_
        exact j_iret dX11_safe_17 rfl ⟨Nat.le_of_ble_eq_true rfl, Nat.le_of_ble_eq_true rfl⟩ (fun _ => h)
      · replace h := h.2 c3
        refine j_lload_n 0 dX11_in_6 rfl ?_
        refine j_lload 2 dX11_in_7 rfl ?_
        refine j_lcmp_gt (tgt := 17) dX11_in_9 dX11_in_10 (by decide) (fun c4 => ?_) (fun c4 => ?_)
        · replace h := h.1 c4
          refine j_iconst (x := 0) dX11_in_17 rfl (i32_c rfl) ?_
          refine j_zret dX11_in_18 rfl ⟨Nat.le_of_ble_eq_true rfl, Nat.le_of_ble_eq_true rfl⟩ (by decide) ?_
          refine j_zret dX11_isLight_11 rfl ⟨Nat.le_of_ble_eq_true rfl, Nat.le_of_ble_eq_true rfl⟩ (by decide) ?_
          refine j_if_ne (tgt := 18) dX11_safe_11 (by decide) (fun c => absurd c (by decide)) (fun _ => ?_)
          refine j_sipush (x := (-1002)) dX11_safe_14 rfl (i32_c rfl) ?_
          exact j_iret dX11_safe_17 rfl ⟨Nat.le_of_ble_eq_true rfl, Nat.le_of_ble_eq_true rfl⟩ (fun _ => h)
        · replace h := h.2 c4
          refine j_iconst (x := 1) dX11_in_13 rfl (i32_c rfl) ?_
          refine j_goto (tgt := 18) dX11_in_14 (by decide) ?_
          refine j_zret dX11_in_18 rfl ⟨Nat.le_of_ble_eq_true rfl, Nat.le_of_ble_eq_true rfl⟩ (by decide) ?_
          refine j_zret dX11_isLight_11 rfl ⟨Nat.le_of_ble_eq_true rfl, Nat.le_of_ble_eq_true rfl⟩ (by decide) ?_
          refine j_if_ne (tgt := 18) dX11_safe_11 (by decide) (fun _ => ?_) (fun c => absurd c (by decide))
          refine j_aload_n 0 dX11_safe_18 rfl ?_
          refine j_geti (i := 50) dX11_safe_19 f_X11_246 sh_61 rfl rfl (fun _ => ?_)
          refine j_if_eq (tgt := 35) dX11_safe_22 (by decide) (fun c5 => ?_) (fun c5 => ?_)
          · replace h := h.1 c5
            refine j_sipush (x := (-1003)) dX11_safe_35 rfl (i32_c rfl) ?_
            refine j_goto (tgt := 46) dX11_safe_38 (by decide) ?_
            exact j_iret dX11_safe_46 rfl ⟨Nat.le_of_ble_eq_true rfl, Nat.le_of_ble_eq_true rfl⟩ (fun _ => h)
          · replace h := h.2 c5
            refine j_aload_n 0 dX11_safe_25 rfl ?_
            refine j_iload_n 1 dX11_safe_26 rfl ?_
            refine j_iload_n 2 dX11_safe_27 rfl ?_
            refine j_iconst (x := 0) dX11_safe_28 rfl (i32_c rfl) ?_
            refine j_calliV (Yc := Y_X11_goRow) (as := [aI x1, aI x2, aI 0]) (rest := []) dX11_safe_29 q_X11_389 ⟨Nat.le_of_ble_eq_true rfl, Nat.le_of_ble_eq_true rfl, Nat.le_of_ble_eq_true rfl, Nat.le_of_ble_eq_true rfl⟩ sh_61 rfl (Nat.le_of_ble_eq_true rfl) rfl (ti_mono h (fun z2 u1 h => ?_))
            refine j_if_lt (tgt := 41) dX11_safe_32 (by decide) (fun c6 => ?_) (fun c6 => ?_)
            · replace h := h.1 c6
              refine j_aload_n 0 dX11_safe_41 rfl ?_
              refine j_getl (i := 53) dX11_safe_42 f_X11_380 sh_61 rfl rfl ?_
              obtain ⟨o7, h⟩ := h
              refine j_l2i dX11_safe_45 o7 ?_
              exact j_iret dX11_safe_46 rfl ⟨Nat.le_of_ble_eq_true rfl, Nat.le_of_ble_eq_true rfl⟩ (fun _ => h)
            · replace h := h.2 c6
              refine j_sipush (x := (-1003)) dX11_safe_35 rfl (i32_c rfl) ?_
              refine j_goto (tgt := 46) dX11_safe_38 (by decide) ?_
              exact j_iret dX11_safe_46 rfl ⟨Nat.le_of_ble_eq_true rfl, Nat.le_of_ble_eq_true rfl⟩ (fun _ => h)
theorem E_X11_safe {post : Int → ax_M → Prop} {M : ax_M} {x1 x2 : Int} (h : ax_mr SH M → (((x1 < 0) → post (-1002) M) ∧ ((0 ≤ x1) → (((99 < x1) → post (-1002) M) ∧ ((x1 ≤ 99) → (((x2 < (-1)) → post (-1002) M) ∧ (((-1) ≤ x2) → (((99 < x2) → post (-1002) M) ∧ ((x2 ≤ 99) → ((((M 61 50) = 0) → post (-1003) M) ∧ ((¬ (M 61 50) = 0) → ax_Ti Y_X11_goRow [aR 61, aI x1, aI x2, aI 0] SH M (fun z2 u1 => (((z2 < 0) → (-2147483648 ≤ (u1 61 53) ∧ (u1 61 53) ≤ 2147483647) ∧ post (u1 61 53) u1) ∧ ((0 ≤ z2) → post (-1003) u1)))))))))))))) : ax_Ti Y_X11_safe [aR 61, aI x1, aI x2] SH M post :=
  ti_of rfl (Nat.le_of_ble_eq_true rfl) rfl (fun q => B_X11_safe_0 (h q))
set_option maxRecDepth 100000 in
set_option maxHeartbeats 4000000 in
theorem B_X11_safest_0 {post : Int → ax_M → Prop} {M : ax_M} {x1 x2 x3 : Int} (h : (-2147483648 ≤ ((M 61 0) - 1) ∧ ((M 61 0) - 1) ≤ 2147483647) ∧ (((x1 < 0) → post (-1001) M) ∧ ((0 ≤ x1) → (((((M 61 0) - 1) < x1) → post (-1001) M) ∧ ((x1 ≤ ((M 61 0) - 1)) → (((x2 < 0) → post (-1002) M) ∧ ((0 ≤ x2) → (((99 < x2) → post (-1002) M) ∧ ((x2 ≤ 99) → (((x3 < (-1)) → post (-1002) M) ∧ (((-1) ≤ x3) → (((99 < x3) → post (-1002) M) ∧ ((x3 ≤ 99) → ax_Ti Y_X11_bestFrom [aR 61, aI x1, aI x2, aI x3] SH M (fun z2 u1 => post z2 u1)))))))))))))) : ax_J Y_X11_safest (ax_Ki Y_X11_safest SH post) 0 0 0 [(0, aR 61), (1, aI x1), (2, aI x2), (3, aI x3)] [] SH M := by
  refine j_aload_n 0 dX11_safest_0 rfl ?_
  refine j_iload_n 1 dX11_safest_1 rfl ?_
  refine j_calliV (Yc := Y_X11_isPlace) (as := [aI x1]) (rest := []) dX11_safest_2 q_X11_257 ⟨Nat.le_of_ble_eq_true rfl, Nat.le_of_ble_eq_true rfl, Nat.le_of_ble_eq_true rfl, Nat.le_of_ble_eq_true rfl⟩ sh_61 rfl (Nat.le_of_ble_eq_true rfl) rfl (ti_of (ll := [(0, aR 61), (1, aI x1)]) rfl (Nat.le_of_ble_eq_true rfl) rfl (fun _ => ?_))
  refine j_iload_n 1 dX11_isPlace_0 rfl ?_
  refine j_i2l dX11_isPlace_1 ?_
  refine j_lconst (x := 0) dX11_isPlace_2 rfl (i64_c rfl) ?_
  refine j_aload_n 0 dX11_isPlace_3 rfl ?_
  refine j_geti (i := 0) dX11_isPlace_4 f_X11_133 sh_61 rfl rfl (fun _ => ?_)
  refine j_iconst (x := 1) dX11_isPlace_7 rfl (i32_c rfl) ?_
  obtain ⟨o1, h⟩ := h
  refine j_isub (z := ((M 61 0) - 1)) dX11_isPlace_8 rfl o1 ?_
  refine j_i2l dX11_isPlace_9 ?_
  refine j_calliS (Yc := Y_X11_in) (as := [aL x1, aL 0, aL ((M 61 0) - 1)]) (rest := []) dX11_isPlace_10 q_X11_136 ⟨Nat.le_of_ble_eq_true rfl, Nat.le_of_ble_eq_true rfl, Nat.le_of_ble_eq_true rfl, Nat.le_of_ble_eq_true rfl⟩ rfl (Nat.le_of_ble_eq_true rfl) rfl (ti_of (ll := [(0, aL x1), (2, aL 0), (4, aL ((M 61 0) - 1))]) rfl (Nat.le_of_ble_eq_true rfl) rfl (fun _ => ?_))
  refine j_lload_n 0 dX11_in_0 rfl ?_
  refine j_lload_n 1 dX11_in_1 rfl ?_
  refine j_lcmp_lt (tgt := 17) dX11_in_2 dX11_in_3 (by decide) (fun c2 => ?_) (fun c2 => ?_)
  · replace h := h.1 c2
    refine j_iconst (x := 0) dX11_in_17 rfl (i32_c rfl) ?_
    refine j_zret dX11_in_18 rfl ⟨Nat.le_of_ble_eq_true rfl, Nat.le_of_ble_eq_true rfl⟩ (by decide) ?_
    refine j_zret dX11_isPlace_13 rfl ⟨Nat.le_of_ble_eq_true rfl, Nat.le_of_ble_eq_true rfl⟩ (by decide) ?_
    refine j_if_ne (tgt := 12) dX11_safest_5 (by decide) (fun c => absurd c (by decide)) (fun _ => ?_)
    refine j_sipush (x := (-1001)) dX11_safest_8 rfl (i32_c rfl) ?_
    exact j_iret dX11_safest_11 rfl ⟨Nat.le_of_ble_eq_true rfl, Nat.le_of_ble_eq_true rfl⟩ (fun _ => h)
  · replace h := h.2 c2
    refine j_lload_n 0 dX11_in_6 rfl ?_
    refine j_lload 2 dX11_in_7 rfl ?_
    refine j_lcmp_gt (tgt := 17) dX11_in_9 dX11_in_10 (by decide) (fun c3 => ?_) (fun c3 => ?_)
    · replace h := h.1 c3
      refine j_iconst (x := 0) dX11_in_17 rfl (i32_c rfl) ?_
      refine j_zret dX11_in_18 rfl ⟨Nat.le_of_ble_eq_true rfl, Nat.le_of_ble_eq_true rfl⟩ (by decide) ?_
      refine j_zret dX11_isPlace_13 rfl ⟨Nat.le_of_ble_eq_true rfl, Nat.le_of_ble_eq_true rfl⟩ (by decide) ?_
      refine j_if_ne (tgt := 12) dX11_safest_5 (by decide) (fun c => absurd c (by decide)) (fun _ => ?_)
      refine j_sipush (x := (-1001)) dX11_safest_8 rfl (i32_c rfl) ?_
      exact j_iret dX11_safest_11 rfl ⟨Nat.le_of_ble_eq_true rfl, Nat.le_of_ble_eq_true rfl⟩ (fun _ => h)
    · replace h := h.2 c3
      refine j_iconst (x := 1) dX11_in_13 rfl (i32_c rfl) ?_
      refine j_goto (tgt := 18) dX11_in_14 (by decide) ?_
      refine j_zret dX11_in_18 rfl ⟨Nat.le_of_ble_eq_true rfl, Nat.le_of_ble_eq_true rfl⟩ (by decide) ?_
      refine j_zret dX11_isPlace_13 rfl ⟨Nat.le_of_ble_eq_true rfl, Nat.le_of_ble_eq_true rfl⟩ (by decide) ?_
      refine j_if_ne (tgt := 12) dX11_safest_5 (by decide) (fun _ => ?_) (fun c => absurd c (by decide))
      refine j_iload_n 2 dX11_safest_12 rfl ?_
      refine j_calliS (Yc := Y_X11_isMinute) (as := [aI x2]) (rest := []) dX11_safest_13 q_X11_260 ⟨Nat.le_of_ble_eq_true rfl, Nat.le_of_ble_eq_true rfl, Nat.le_of_ble_eq_true rfl, Nat.le_of_ble_eq_true rfl⟩ rfl (Nat.le_of_ble_eq_true rfl) rfl (ti_of (ll := [(0, aI x2)]) rfl (Nat.le_of_ble_eq_true rfl) rfl (fun _ => ?_))
      refine j_iload_n 0 dX11_isMinute_0 rfl ?_
      refine j_i2l dX11_isMinute_1 ?_
      refine j_lconst (x := 0) dX11_isMinute_2 rfl (i64_c rfl) ?_
      refine j_ldc2 (x := 99) dX11_isMinute_3 (ax_in 1393 (by decide +kernel) rfl) (i64_c rfl) ?_
      refine j_calliS (Yc := Y_X11_in) (as := [aL x2, aL 0, aL 99]) (rest := []) dX11_isMinute_6 q_X11_136 ⟨Nat.le_of_ble_eq_true rfl, Nat.le_of_ble_eq_true rfl, Nat.le_of_ble_eq_true rfl, Nat.le_of_ble_eq_true rfl⟩ rfl (Nat.le_of_ble_eq_true rfl) rfl (ti_of (ll := [(0, aL x2), (2, aL 0), (4, aL 99)]) rfl (Nat.le_of_ble_eq_true rfl) rfl (fun _ => ?_))
      refine j_lload_n 0 dX11_in_0 rfl ?_
      refine j_lload_n 1 dX11_in_1 rfl ?_
      refine j_lcmp_lt (tgt := 17) dX11_in_2 dX11_in_3 (by decide) (fun c4 => ?_) (fun c4 => ?_)
      · replace h := h.1 c4
        refine j_iconst (x := 0) dX11_in_17 rfl (i32_c rfl) ?_
        refine j_zret dX11_in_18 rfl ⟨Nat.le_of_ble_eq_true rfl, Nat.le_of_ble_eq_true rfl⟩ (by decide) ?_
        refine j_zret dX11_isMinute_9 rfl ⟨Nat.le_of_ble_eq_true rfl, Nat.le_of_ble_eq_true rfl⟩ (by decide) ?_
        refine j_if_eq (tgt := 36) dX11_safest_16 (by decide) (fun _ => ?_) (fun c => absurd c (by decide))
        refine j_sipush (x := (-1002)) dX11_safest_36 rfl (i32_c rfl) ?_
        exact j_iret dX11_safest_39 rfl ⟨Nat.le_of_ble_eq_true rfl, Nat.le_of_ble_eq_true rfl⟩ (fun _ => h)
      · replace h := h.2 c4
        refine j_lload_n 0 dX11_in_6 rfl ?_
        refine j_lload 2 dX11_in_7 rfl ?_
        refine j_lcmp_gt (tgt := 17) dX11_in_9 dX11_in_10 (by decide) (fun c5 => ?_) (fun c5 => ?_)
        · replace h := h.1 c5
          refine j_iconst (x := 0) dX11_in_17 rfl (i32_c rfl) ?_
          refine j_zret dX11_in_18 rfl ⟨Nat.le_of_ble_eq_true rfl, Nat.le_of_ble_eq_true rfl⟩ (by decide) ?_
          refine j_zret dX11_isMinute_9 rfl ⟨Nat.le_of_ble_eq_true rfl, Nat.le_of_ble_eq_true rfl⟩ (by decide) ?_
          refine j_if_eq (tgt := 36) dX11_safest_16 (by decide) (fun _ => ?_) (fun c => absurd c (by decide))
          refine j_sipush (x := (-1002)) dX11_safest_36 rfl (i32_c rfl) ?_
          exact j_iret dX11_safest_39 rfl ⟨Nat.le_of_ble_eq_true rfl, Nat.le_of_ble_eq_true rfl⟩ (fun _ => h)
        · replace h := h.2 c5
          refine j_iconst (x := 1) dX11_in_13 rfl (i32_c rfl) ?_
          refine j_goto (tgt := 18) dX11_in_14 (by decide) ?_
          refine j_zret dX11_in_18 rfl ⟨Nat.le_of_ble_eq_true rfl, Nat.le_of_ble_eq_true rfl⟩ (by decide) ?_
          refine j_zret dX11_isMinute_9 rfl ⟨Nat.le_of_ble_eq_true rfl, Nat.le_of_ble_eq_true rfl⟩ (by decide) ?_
          refine j_if_eq (tgt := 36) dX11_safest_16 (by decide) (fun c => absurd c (by decide)) (fun _ => ?_)
          refine j_iload_n 3 dX11_safest_19 rfl ?_
          refine j_calliS (Yc := Y_X11_isLight) (as := [aI x3]) (rest := []) dX11_safest_20 q_X11_284 ⟨Nat.le_of_ble_eq_true rfl, Nat.le_of_ble_eq_true rfl, Nat.le_of_ble_eq_true rfl, Nat.le_of_ble_eq_true rfl⟩ rfl (Nat.le_of_ble_eq_true rfl) rfl (ti_of (ll := [(0, aI x3)]) rfl (Nat.le_of_ble_eq_true rfl) rfl (fun _ => ?_))
          refine j_iload_n 0 dX11_isLight_0 rfl ?_
          refine j_i2l dX11_isLight_1 ?_
          refine j_ldc2 (x := (-1)) dX11_isLight_2 (ax_in 1425 (by decide +kernel) rfl) (i64_c rfl) ?_
          refine j_ldc2 (x := 99) dX11_isLight_5 (ax_in 1393 (by decide +kernel) rfl) (i64_c rfl) ?_
          refine j_calliS (Yc := Y_X11_in) (as := [aL x3, aL (-1), aL 99]) (rest := []) dX11_isLight_8 q_X11_136 ⟨Nat.le_of_ble_eq_true rfl, Nat.le_of_ble_eq_true rfl, Nat.le_of_ble_eq_true rfl, Nat.le_of_ble_eq_true rfl⟩ rfl (Nat.le_of_ble_eq_true rfl) rfl (ti_of (ll := [(0, aL x3), (2, aL (-1)), (4, aL 99)]) rfl (Nat.le_of_ble_eq_true rfl) rfl (fun _ => ?_))
          refine j_lload_n 0 dX11_in_0 rfl ?_
          refine j_lload_n 1 dX11_in_1 rfl ?_
          refine j_lcmp_lt (tgt := 17) dX11_in_2 dX11_in_3 (by decide) (fun c6 => ?_) (fun c6 => ?_)
          · replace h := h.1 c6
            refine j_iconst (x := 0) dX11_in_17 rfl (i32_c rfl) ?_
            refine j_zret dX11_in_18 rfl ⟨Nat.le_of_ble_eq_true rfl, Nat.le_of_ble_eq_true rfl⟩ (by decide) ?_
            refine j_zret dX11_isLight_11 rfl ⟨Nat.le_of_ble_eq_true rfl, Nat.le_of_ble_eq_true rfl⟩ (by decide) ?_
            refine j_if_eq (tgt := 36) dX11_safest_23 (by decide) (fun _ => ?_) (fun c => absurd c (by decide))
            refine j_sipush (x := (-1002)) dX11_safest_36 rfl (i32_c rfl) ?_
            exact j_iret dX11_safest_39 rfl ⟨Nat.le_of_ble_eq_true rfl, Nat.le_of_ble_eq_true rfl⟩ (fun _ => h)
          · replace h := h.2 c6
            refine j_lload_n 0 dX11_in_6 rfl ?_
            refine j_lload 2 dX11_in_7 rfl ?_
            refine j_lcmp_gt (tgt := 17) dX11_in_9 dX11_in_10 (by decide) (fun c7 => ?_) (fun c7 => ?_)
            · replace h := h.1 c7
              refine j_iconst (x := 0) dX11_in_17 rfl (i32_c rfl) ?_
              refine j_zret dX11_in_18 rfl ⟨Nat.le_of_ble_eq_true rfl, Nat.le_of_ble_eq_true rfl⟩ (by decide) ?_
              refine j_zret dX11_isLight_11 rfl ⟨Nat.le_of_ble_eq_true rfl, Nat.le_of_ble_eq_true rfl⟩ (by decide) ?_
              refine j_if_eq (tgt := 36) dX11_safest_23 (by decide) (fun _ => ?_) (fun c => absurd c (by decide))
              refine j_sipush (x := (-1002)) dX11_safest_36 rfl (i32_c rfl) ?_
              exact j_iret dX11_safest_39 rfl ⟨Nat.le_of_ble_eq_true rfl, Nat.le_of_ble_eq_true rfl⟩ (fun _ => h)
            · replace h := h.2 c7
              refine j_iconst (x := 1) dX11_in_13 rfl (i32_c rfl) ?_
              refine j_goto (tgt := 18) dX11_in_14 (by decide) ?_
              refine j_zret dX11_in_18 rfl ⟨Nat.le_of_ble_eq_true rfl, Nat.le_of_ble_eq_true rfl⟩ (by decide) ?_
              refine j_zret dX11_isLight_11 rfl ⟨Nat.le_of_ble_eq_true rfl, Nat.le_of_ble_eq_true rfl⟩ (by decide) ?_
              refine j_if_eq (tgt := 36) dX11_safest_23 (by decide) (fun c => absurd c (by decide)) (fun _ => ?_)
              refine j_aload_n 0 dX11_safest_26 rfl ?_
              refine j_iload_n 1 dX11_safest_27 rfl ?_
              refine j_iload_n 2 dX11_safest_28 rfl ?_
              refine j_iload_n 3 dX11_safest_29 rfl ?_
              refine j_calliV (Yc := Y_X11_bestFrom) (as := [aI x1, aI x2, aI x3]) (rest := []) dX11_safest_30 q_X11_395 ⟨Nat.le_of_ble_eq_true rfl, Nat.le_of_ble_eq_true rfl, Nat.le_of_ble_eq_true rfl, Nat.le_of_ble_eq_true rfl⟩ sh_61 rfl (Nat.le_of_ble_eq_true rfl) rfl (ti_mono h (fun z2 u1 h => ?_))
              refine j_goto (tgt := 39) dX11_safest_33 (by decide) ?_
              exact j_iret dX11_safest_39 rfl ⟨Nat.le_of_ble_eq_true rfl, Nat.le_of_ble_eq_true rfl⟩ (fun _ => h)
theorem E_X11_safest {post : Int → ax_M → Prop} {M : ax_M} {x1 x2 x3 : Int} (h : ax_mr SH M → (-2147483648 ≤ ((M 61 0) - 1) ∧ ((M 61 0) - 1) ≤ 2147483647) ∧ (((x1 < 0) → post (-1001) M) ∧ ((0 ≤ x1) → (((((M 61 0) - 1) < x1) → post (-1001) M) ∧ ((x1 ≤ ((M 61 0) - 1)) → (((x2 < 0) → post (-1002) M) ∧ ((0 ≤ x2) → (((99 < x2) → post (-1002) M) ∧ ((x2 ≤ 99) → (((x3 < (-1)) → post (-1002) M) ∧ (((-1) ≤ x3) → (((99 < x3) → post (-1002) M) ∧ ((x3 ≤ 99) → ax_Ti Y_X11_bestFrom [aR 61, aI x1, aI x2, aI x3] SH M (fun z2 u1 => post z2 u1)))))))))))))) : ax_Ti Y_X11_safest [aR 61, aI x1, aI x2, aI x3] SH M post :=
  ti_of rfl (Nat.le_of_ble_eq_true rfl) rfl (fun q => B_X11_safest_0 (h q))
set_option maxRecDepth 100000 in
set_option maxHeartbeats 4000000 in
theorem B_X11_knock_0 {post : Int → ax_M → Prop} {M : ax_M} {x1 x2 : Int} (h : (-2147483648 ≤ ((M 61 0) - 1) ∧ ((M 61 0) - 1) ≤ 2147483647) ∧ (((x1 < 0) → post (-1001) M) ∧ ((0 ≤ x1) → (((((M 61 0) - 1) < x1) → post (-1001) M) ∧ ((x1 ≤ ((M 61 0) - 1)) → (((x2 < 0) → post (-1002) M) ∧ ((0 ≤ x2) → (((1000 < x2) → post (-1002) M) ∧ ((x2 ≤ 1000) → ax_J Y_X11_knock (ax_Ki Y_X11_knock SH post) 0 0 30 [(0, aR 61), (1, aI x1), (2, aI x2), (3, aI 0)] [] SH M))))))))) : ax_J Y_X11_knock (ax_Ki Y_X11_knock SH post) 0 0 0 [(0, aR 61), (1, aI x1), (2, aI x2)] [] SH M := by
  refine j_aload_n 0 dX11_knock_0 rfl ?_
  refine j_iload_n 1 dX11_knock_1 rfl ?_
  refine j_calliV (Yc := Y_X11_isPlace) (as := [aI x1]) (rest := []) dX11_knock_2 q_X11_257 ⟨Nat.le_of_ble_eq_true rfl, Nat.le_of_ble_eq_true rfl, Nat.le_of_ble_eq_true rfl, Nat.le_of_ble_eq_true rfl⟩ sh_61 rfl (Nat.le_of_ble_eq_true rfl) rfl (ti_of (ll := [(0, aR 61), (1, aI x1)]) rfl (Nat.le_of_ble_eq_true rfl) rfl (fun _ => ?_))
  refine j_iload_n 1 dX11_isPlace_0 rfl ?_
  refine j_i2l dX11_isPlace_1 ?_
  refine j_lconst (x := 0) dX11_isPlace_2 rfl (i64_c rfl) ?_
  refine j_aload_n 0 dX11_isPlace_3 rfl ?_
  refine j_geti (i := 0) dX11_isPlace_4 f_X11_133 sh_61 rfl rfl (fun _ => ?_)
  refine j_iconst (x := 1) dX11_isPlace_7 rfl (i32_c rfl) ?_
  obtain ⟨o1, h⟩ := h
  refine j_isub (z := ((M 61 0) - 1)) dX11_isPlace_8 rfl o1 ?_
  refine j_i2l dX11_isPlace_9 ?_
  refine j_calliS (Yc := Y_X11_in) (as := [aL x1, aL 0, aL ((M 61 0) - 1)]) (rest := []) dX11_isPlace_10 q_X11_136 ⟨Nat.le_of_ble_eq_true rfl, Nat.le_of_ble_eq_true rfl, Nat.le_of_ble_eq_true rfl, Nat.le_of_ble_eq_true rfl⟩ rfl (Nat.le_of_ble_eq_true rfl) rfl (ti_of (ll := [(0, aL x1), (2, aL 0), (4, aL ((M 61 0) - 1))]) rfl (Nat.le_of_ble_eq_true rfl) rfl (fun _ => ?_))
  refine j_lload_n 0 dX11_in_0 rfl ?_
  refine j_lload_n 1 dX11_in_1 rfl ?_
  refine j_lcmp_lt (tgt := 17) dX11_in_2 dX11_in_3 (by decide) (fun c2 => ?_) (fun c2 => ?_)
  · replace h := h.1 c2
    refine j_iconst (x := 0) dX11_in_17 rfl (i32_c rfl) ?_
    refine j_zret dX11_in_18 rfl ⟨Nat.le_of_ble_eq_true rfl, Nat.le_of_ble_eq_true rfl⟩ (by decide) ?_
    refine j_zret dX11_isPlace_13 rfl ⟨Nat.le_of_ble_eq_true rfl, Nat.le_of_ble_eq_true rfl⟩ (by decide) ?_
    refine j_if_ne (tgt := 12) dX11_knock_5 (by decide) (fun c => absurd c (by decide)) (fun _ => ?_)
    refine j_sipush (x := (-1001)) dX11_knock_8 rfl (i32_c rfl) ?_
    exact j_iret dX11_knock_11 rfl ⟨Nat.le_of_ble_eq_true rfl, Nat.le_of_ble_eq_true rfl⟩ (fun _ => h)
  · replace h := h.2 c2
    refine j_lload_n 0 dX11_in_6 rfl ?_
    refine j_lload 2 dX11_in_7 rfl ?_
    refine j_lcmp_gt (tgt := 17) dX11_in_9 dX11_in_10 (by decide) (fun c3 => ?_) (fun c3 => ?_)
    · replace h := h.1 c3
      refine j_iconst (x := 0) dX11_in_17 rfl (i32_c rfl) ?_
      refine j_zret dX11_in_18 rfl ⟨Nat.le_of_ble_eq_true rfl, Nat.le_of_ble_eq_true rfl⟩ (by decide) ?_
      refine j_zret dX11_isPlace_13 rfl ⟨Nat.le_of_ble_eq_true rfl, Nat.le_of_ble_eq_true rfl⟩ (by decide) ?_
      refine j_if_ne (tgt := 12) dX11_knock_5 (by decide) (fun c => absurd c (by decide)) (fun _ => ?_)
      refine j_sipush (x := (-1001)) dX11_knock_8 rfl (i32_c rfl) ?_
      exact j_iret dX11_knock_11 rfl ⟨Nat.le_of_ble_eq_true rfl, Nat.le_of_ble_eq_true rfl⟩ (fun _ => h)
    · replace h := h.2 c3
      refine j_iconst (x := 1) dX11_in_13 rfl (i32_c rfl) ?_
      refine j_goto (tgt := 18) dX11_in_14 (by decide) ?_
      refine j_zret dX11_in_18 rfl ⟨Nat.le_of_ble_eq_true rfl, Nat.le_of_ble_eq_true rfl⟩ (by decide) ?_
      refine j_zret dX11_isPlace_13 rfl ⟨Nat.le_of_ble_eq_true rfl, Nat.le_of_ble_eq_true rfl⟩ (by decide) ?_
      refine j_if_ne (tgt := 12) dX11_knock_5 (by decide) (fun _ => ?_) (fun c => absurd c (by decide))
      refine j_iload_n 2 dX11_knock_12 rfl ?_
      refine j_i2l dX11_knock_13 ?_
      refine j_lconst (x := 0) dX11_knock_14 rfl (i64_c rfl) ?_
      refine j_ldc2 (x := 1000) dX11_knock_15 (ax_in 1596 (by decide +kernel) rfl) (i64_c rfl) ?_
      refine j_calliS (Yc := Y_X11_in) (as := [aL x2, aL 0, aL 1000]) (rest := []) dX11_knock_18 q_X11_136 ⟨Nat.le_of_ble_eq_true rfl, Nat.le_of_ble_eq_true rfl, Nat.le_of_ble_eq_true rfl, Nat.le_of_ble_eq_true rfl⟩ rfl (Nat.le_of_ble_eq_true rfl) rfl (ti_of (ll := [(0, aL x2), (2, aL 0), (4, aL 1000)]) rfl (Nat.le_of_ble_eq_true rfl) rfl (fun _ => ?_))
      refine j_lload_n 0 dX11_in_0 rfl ?_
      refine j_lload_n 1 dX11_in_1 rfl ?_
      refine j_lcmp_lt (tgt := 17) dX11_in_2 dX11_in_3 (by decide) (fun c4 => ?_) (fun c4 => ?_)
      · replace h := h.1 c4
        refine j_iconst (x := 0) dX11_in_17 rfl (i32_c rfl) ?_
        refine j_zret dX11_in_18 rfl ⟨Nat.le_of_ble_eq_true rfl, Nat.le_of_ble_eq_true rfl⟩ (by decide) ?_
        refine j_if_ne (tgt := 28) dX11_knock_21 (by decide) (fun c => absurd c (by decide)) (fun _ => ?_)
        refine j_sipush (x := (-1002)) dX11_knock_24 rfl (i32_c rfl) ?_
        exact j_iret dX11_knock_27 rfl ⟨Nat.le_of_ble_eq_true rfl, Nat.le_of_ble_eq_true rfl⟩ (fun _ => h)
      · replace h := h.2 c4
        refine j_lload_n 0 dX11_in_6 rfl ?_
        refine j_lload 2 dX11_in_7 rfl ?_
        refine j_lcmp_gt (tgt := 17) dX11_in_9 dX11_in_10 (by decide) (fun c5 => ?_) (fun c5 => ?_)
        · replace h := h.1 c5
          refine j_iconst (x := 0) dX11_in_17 rfl (i32_c rfl) ?_
          refine j_zret dX11_in_18 rfl ⟨Nat.le_of_ble_eq_true rfl, Nat.le_of_ble_eq_true rfl⟩ (by decide) ?_
          refine j_if_ne (tgt := 28) dX11_knock_21 (by decide) (fun c => absurd c (by decide)) (fun _ => ?_)
          refine j_sipush (x := (-1002)) dX11_knock_24 rfl (i32_c rfl) ?_
          exact j_iret dX11_knock_27 rfl ⟨Nat.le_of_ble_eq_true rfl, Nat.le_of_ble_eq_true rfl⟩ (fun _ => h)
        · replace h := h.2 c5
          refine j_iconst (x := 1) dX11_in_13 rfl (i32_c rfl) ?_
          refine j_goto (tgt := 18) dX11_in_14 (by decide) ?_
          refine j_zret dX11_in_18 rfl ⟨Nat.le_of_ble_eq_true rfl, Nat.le_of_ble_eq_true rfl⟩ (by decide) ?_
          refine j_if_ne (tgt := 28) dX11_knock_21 (by decide) (fun _ => ?_) (fun c => absurd c (by decide))
          refine j_iconst (x := 0) dX11_knock_28 rfl (i32_c rfl) ?_
          refine j_istore_n (ll' := [(3, aI 0), (0, aR 61), (1, aI x1), (2, aI x2)]) dX11_knock_29 (Nat.le_of_ble_eq_true rfl) rfl ?_
          refine j_sub [1, 2, 3, 0] rfl ?_
          exact h
theorem E_X11_knock {post : Int → ax_M → Prop} {M : ax_M} {x1 x2 : Int} (h : ax_mr SH M → (-2147483648 ≤ ((M 61 0) - 1) ∧ ((M 61 0) - 1) ≤ 2147483647) ∧ (((x1 < 0) → post (-1001) M) ∧ ((0 ≤ x1) → (((((M 61 0) - 1) < x1) → post (-1001) M) ∧ ((x1 ≤ ((M 61 0) - 1)) → (((x2 < 0) → post (-1002) M) ∧ ((0 ≤ x2) → (((1000 < x2) → post (-1002) M) ∧ ((x2 ≤ 1000) → ax_J Y_X11_knock (ax_Ki Y_X11_knock SH post) 0 0 30 [(0, aR 61), (1, aI x1), (2, aI x2), (3, aI 0)] [] SH M))))))))) : ax_Ti Y_X11_knock [aR 61, aI x1, aI x2] SH M post :=
  ti_of rfl (Nat.le_of_ble_eq_true rfl) rfl (fun q => B_X11_knock_0 (h q))
set_option maxRecDepth 100000 in
set_option maxHeartbeats 4000000 in
theorem B_X11_knock_30 {post : Int → ax_M → Prop} {M : ax_M} {x1 x2 x3 : Int} (h : ((((M 61 0) ≤ x3) → ax_J Y_X11_knock (ax_Ki Y_X11_knock SH post) 0 0 74 [(0, aR 61), (2, aI x2), (3, aI 1000), (4, aI (bo_shl 1 x1)), (5, aI 1)] [] SH M) ∧ ((x3 < (M 61 0)) → (((¬ x3 = x1) → (0 ≤ x3 ∧ x3 < 12) ∧ (-2147483648 ≤ (x3 + 1) ∧ (x3 + 1) ≤ 2147483647) ∧ ax_J Y_X11_knock (ax_Ki Y_X11_knock SH post) 0 0 30 [(0, aR 61), (1, aI x1), (2, aI x2), (3, aI (x3 + 1))] [] SH (ax_up M 96 x3 (-1))) ∧ ((x3 = x1) → (0 ≤ x3 ∧ x3 < 12) ∧ (-2147483648 ≤ (x3 + 1) ∧ (x3 + 1) ≤ 2147483647) ∧ ax_J Y_X11_knock (ax_Ki Y_X11_knock SH post) 0 0 30 [(0, aR 61), (1, aI x1), (2, aI x2), (3, aI (x3 + 1))] [] SH (ax_up M 96 x3 1000)))))) : ax_J Y_X11_knock (ax_Ki Y_X11_knock SH post) 0 0 30 [(0, aR 61), (1, aI x1), (2, aI x2), (3, aI x3)] [] SH M := by
  refine j_iload_n 3 dX11_knock_30 rfl ?_
  refine j_aload_n 0 dX11_knock_31 rfl ?_
  refine j_geti (i := 0) dX11_knock_32 f_X11_133 sh_61 rfl rfl (fun _ => ?_)
  refine j_icmp_ge (tgt := 62) dX11_knock_35 (by decide) (fun c1 => ?_) (fun c1 => ?_)
  · replace h := h.1 c1
    refine j_sipush (x := 1000) dX11_knock_62 rfl (i32_c rfl) ?_
    refine j_istore_n (ll' := [(3, aI 1000), (0, aR 61), (1, aI x1), (2, aI x2)]) dX11_knock_65 (Nat.le_of_ble_eq_true rfl) rfl ?_
    refine j_iconst (x := 1) dX11_knock_66 rfl (i32_c rfl) ?_
    refine j_iload_n 2 dX11_knock_67 rfl ?_
    refine j_ishl (z := (bo_shl 1 x1)) dX11_knock_68 rfl ?_
    refine j_istore (ll' := [(4, aI (bo_shl 1 x1)), (3, aI 1000), (0, aR 61), (1, aI x1), (2, aI x2)]) dX11_knock_69 (Nat.le_of_ble_eq_true rfl) rfl ?_
    refine j_iconst (x := 1) dX11_knock_71 rfl (i32_c rfl) ?_
    refine j_istore (ll' := [(5, aI 1), (4, aI (bo_shl 1 x1)), (3, aI 1000), (0, aR 61), (1, aI x1), (2, aI x2)]) dX11_knock_72 (Nat.le_of_ble_eq_true rfl) rfl ?_
    refine j_sub [3, 5, 2, 1, 0] rfl ?_
    exact h
  · replace h := h.2 c1
    refine j_aload_n 0 dX11_knock_38 rfl ?_
    refine j_getc 96 dX11_knock_39 f_X11_124 sh_61 rfl ?_
    refine j_iload_n 3 dX11_knock_42 rfl ?_
    refine j_iload_n 3 dX11_knock_43 rfl ?_
    refine j_iload_n 1 dX11_knock_44 rfl ?_
    refine j_icmp_ne (tgt := 54) dX11_knock_45 (by decide) (fun c2 => ?_) (fun c2 => ?_)
    · replace h := h.1 c2
      refine j_iconst (x := (-1)) dX11_knock_54 rfl (i32_c rfl) ?_
      obtain ⟨o3, h⟩ := h
      refine j_iast dX11_knock_55 sh_96 o3.1 o3.2 ?_
      obtain ⟨o4, h⟩ := h
      refine j_iinc (ll' := [(3, aI (x3 + 1)), (0, aR 61), (1, aI x1), (2, aI x2)]) 3 dX11_knock_56 rfl (Nat.le_of_ble_eq_true rfl) o4 rfl ?_
      refine j_goto (tgt := 30) dX11_knock_59 (by decide) ?_
      refine j_sub [1, 2, 3, 0] rfl ?_
      exact h
    · replace h := h.2 c2
      refine j_sipush (x := 1000) dX11_knock_48 rfl (i32_c rfl) ?_
      refine j_goto (tgt := 55) dX11_knock_51 (by decide) ?_
      obtain ⟨o5, h⟩ := h
      refine j_iast dX11_knock_55 sh_96 o5.1 o5.2 ?_
      obtain ⟨o6, h⟩ := h
      refine j_iinc (ll' := [(3, aI (x3 + 1)), (0, aR 61), (1, aI x1), (2, aI x2)]) 3 dX11_knock_56 rfl (Nat.le_of_ble_eq_true rfl) o6 rfl ?_
      refine j_goto (tgt := 30) dX11_knock_59 (by decide) ?_
      refine j_sub [1, 2, 3, 0] rfl ?_
      exact h
set_option maxRecDepth 100000 in
set_option maxHeartbeats 4000000 in
theorem B_X11_knock_74 {post : Int → ax_M → Prop} {M : ax_M} {x2 x3 x4 x5 : Int} (h : ((((M 61 0) ≤ x5) → ax_J Y_X11_knock (ax_Ki Y_X11_knock SH post) 0 0 262 [(0, aR 61), (5, aI 0), (6, aI 0)] [] SH M) ∧ ((x5 < (M 61 0)) → (-2147483648 ≤ (x3 * x2) ∧ (x3 * x2) ≤ 2147483647) ∧ (0 ≤ (x3 * x2)) ∧ ax_J Y_X11_knock (ax_Ki Y_X11_knock SH post) 0 0 97 [(0, aR 61), (2, aI x2), (3, aI ((x3 * x2) / 1000)), (4, aI x4), (5, aI x5), (6, aI 0), (7, aI 0)] [] SH M))) : ax_J Y_X11_knock (ax_Ki Y_X11_knock SH post) 0 0 74 [(0, aR 61), (2, aI x2), (3, aI x3), (4, aI x4), (5, aI x5)] [] SH M := by
  refine j_iload 4 dX11_knock_74 rfl ?_
  refine j_aload_n 0 dX11_knock_76 rfl ?_
  refine j_geti (i := 0) dX11_knock_77 f_X11_133 sh_61 rfl rfl (fun _ => ?_)
  refine j_icmp_ge (tgt := 256) dX11_knock_80 (by decide) (fun c1 => ?_) (fun c1 => ?_)
  · replace h := h.1 c1
    refine j_iconst (x := 0) dX11_knock_256 rfl (i32_c rfl) ?_
    refine j_istore (ll' := [(5, aI 0), (0, aR 61), (2, aI x2), (3, aI x3), (4, aI x4)]) dX11_knock_257 (Nat.le_of_ble_eq_true rfl) rfl ?_
    refine j_iconst (x := 0) dX11_knock_259 rfl (i32_c rfl) ?_
    refine j_istore (ll' := [(6, aI 0), (5, aI 0), (0, aR 61), (2, aI x2), (3, aI x3), (4, aI x4)]) dX11_knock_260 (Nat.le_of_ble_eq_true rfl) rfl ?_
    refine j_sub [2, 1, 0] rfl ?_
    exact h
  · replace h := h.2 c1
    refine j_iload_n 2 dX11_knock_83 rfl ?_
    refine j_iload_n 1 dX11_knock_84 rfl ?_
    obtain ⟨o2, h⟩ := h
    refine j_imul (z := (x3 * x2)) dX11_knock_85 rfl o2 ?_
    refine j_sipush (x := 1000) dX11_knock_86 rfl (i32_c rfl) ?_
    obtain ⟨o3, h⟩ := h
    refine j_idiv (z := ((x3 * x2) / 1000)) dX11_knock_89 rfl o3 (by decide) ?_
    refine j_istore_n (ll' := [(3, aI ((x3 * x2) / 1000)), (0, aR 61), (2, aI x2), (4, aI x4), (5, aI x5)]) dX11_knock_90 (Nat.le_of_ble_eq_true rfl) rfl ?_
    refine j_iconst (x := 0) dX11_knock_91 rfl (i32_c rfl) ?_
    refine j_istore (ll' := [(6, aI 0), (3, aI ((x3 * x2) / 1000)), (0, aR 61), (2, aI x2), (4, aI x4), (5, aI x5)]) dX11_knock_92 (Nat.le_of_ble_eq_true rfl) rfl ?_
    refine j_iconst (x := 0) dX11_knock_94 rfl (i32_c rfl) ?_
    refine j_istore (ll' := [(7, aI 0), (6, aI 0), (3, aI ((x3 * x2) / 1000)), (0, aR 61), (2, aI x2), (4, aI x4), (5, aI x5)]) dX11_knock_95 (Nat.le_of_ble_eq_true rfl) rfl ?_
    refine j_sub [3, 4, 2, 5, 6, 1, 0] rfl ?_
    exact h
set_option maxRecDepth 100000 in
set_option maxHeartbeats 4000000 in
theorem B_X11_knock_97 {post : Int → ax_M → Prop} {M : ax_M} {x2 x3 x4 x5 x6 x7 : Int} (h : ((((M 61 3) ≤ x7) → ax_J Y_X11_knock (ax_Ki Y_X11_knock SH post) 0 0 200 [(0, aR 61), (2, aI x2), (3, aI x3), (4, aI x4), (5, aI x5), (6, aI (bo_and x6 (bo_xor x4 (-1)))), (7, aI 0)] [] SH M) ∧ ((x7 < (M 61 3)) → (0 ≤ x7 ∧ x7 < 24) ∧ (((¬ (M 69 x7) = 0) → (-2147483648 ≤ (x7 + 1) ∧ (x7 + 1) ≤ 2147483647) ∧ ax_J Y_X11_knock (ax_Ki Y_X11_knock SH post) 0 0 97 [(0, aR 61), (2, aI x2), (3, aI x3), (4, aI x4), (5, aI x5), (6, aI x6), (7, aI (x7 + 1))] [] SH M) ∧ (((M 69 x7) = 0) → (((¬ (bo_and (bo_shr x4 (M 62 x7)) 1) = 1) → (((¬ (bo_and (bo_shr x4 (M 63 x7)) 1) = 1) → (-2147483648 ≤ (x7 + 1) ∧ (x7 + 1) ≤ 2147483647) ∧ ax_J Y_X11_knock (ax_Ki Y_X11_knock SH post) 0 0 97 [(0, aR 61), (2, aI x2), (3, aI x3), (4, aI x4), (5, aI x5), (6, aI (bo_or (bo_or x6 0) 0)), (7, aI (x7 + 1))] [] SH M) ∧ (((bo_and (bo_shr x4 (M 63 x7)) 1) = 1) → (-2147483648 ≤ (x7 + 1) ∧ (x7 + 1) ≤ 2147483647) ∧ ax_J Y_X11_knock (ax_Ki Y_X11_knock SH post) 0 0 97 [(0, aR 61), (2, aI x2), (3, aI x3), (4, aI x4), (5, aI x5), (6, aI (bo_or (bo_or x6 0) (bo_shl 1 (M 62 x7)))), (7, aI (x7 + 1))] [] SH M))) ∧ (((bo_and (bo_shr x4 (M 62 x7)) 1) = 1) → (((¬ (bo_and (bo_shr x4 (M 63 x7)) 1) = 1) → (-2147483648 ≤ (x7 + 1) ∧ (x7 + 1) ≤ 2147483647) ∧ ax_J Y_X11_knock (ax_Ki Y_X11_knock SH post) 0 0 97 [(0, aR 61), (2, aI x2), (3, aI x3), (4, aI x4), (5, aI x5), (6, aI (bo_or (bo_or x6 (bo_shl 1 (M 63 x7))) 0)), (7, aI (x7 + 1))] [] SH M) ∧ (((bo_and (bo_shr x4 (M 63 x7)) 1) = 1) → (-2147483648 ≤ (x7 + 1) ∧ (x7 + 1) ≤ 2147483647) ∧ ax_J Y_X11_knock (ax_Ki Y_X11_knock SH post) 0 0 97 [(0, aR 61), (2, aI x2), (3, aI x3), (4, aI x4), (5, aI x5), (6, aI (bo_or (bo_or x6 (bo_shl 1 (M 63 x7))) (bo_shl 1 (M 62 x7)))), (7, aI (x7 + 1))] [] SH M))))))))) : ax_J Y_X11_knock (ax_Ki Y_X11_knock SH post) 0 0 97 [(0, aR 61), (2, aI x2), (3, aI x3), (4, aI x4), (5, aI x5), (6, aI x6), (7, aI x7)] [] SH M := by
  refine j_iload 6 dX11_knock_97 rfl ?_
  refine j_aload_n 0 dX11_knock_99 rfl ?_
  refine j_geti (i := 3) dX11_knock_100 f_X11_140 sh_61 rfl rfl (fun _ => ?_)
  refine j_icmp_ge (tgt := 188) dX11_knock_103 (by decide) (fun c1 => ?_) (fun c1 => ?_)
  · replace h := h.1 c1
    refine j_iload 5 dX11_knock_188 rfl ?_
    refine j_iload 3 dX11_knock_190 rfl ?_
    refine j_iconst (x := (-1)) dX11_knock_192 rfl (i32_c rfl) ?_
    refine j_ixor (z := (bo_xor x4 (-1))) dX11_knock_193 rfl ?_
    refine j_iand (z := (bo_and x6 (bo_xor x4 (-1)))) dX11_knock_194 rfl ?_
    refine j_istore (ll' := [(6, aI (bo_and x6 (bo_xor x4 (-1)))), (0, aR 61), (2, aI x2), (3, aI x3), (4, aI x4), (5, aI x5), (7, aI x7)]) dX11_knock_195 (Nat.le_of_ble_eq_true rfl) rfl ?_
    refine j_iconst (x := 0) dX11_knock_197 rfl (i32_c rfl) ?_
    refine j_istore (ll' := [(7, aI 0), (6, aI (bo_and x6 (bo_xor x4 (-1)))), (0, aR 61), (2, aI x2), (3, aI x3), (4, aI x4), (5, aI x5)]) dX11_knock_198 (Nat.le_of_ble_eq_true rfl) rfl ?_
    refine j_sub [2, 3, 4, 5, 6, 1, 0] rfl ?_
    exact h
  · replace h := h.2 c1
    refine j_aload_n 0 dX11_knock_106 rfl ?_
    refine j_getc 69 dX11_knock_107 f_X11_35 sh_61 rfl ?_
    refine j_iload 6 dX11_knock_110 rfl ?_
    obtain ⟨o2, h⟩ := h
    refine j_zald dX11_knock_112 sh_69 o2.1 o2.2 (fun _ => ?_)
    refine j_if_ne (tgt := 182) dX11_knock_113 (by decide) (fun c3 => ?_) (fun c3 => ?_)
    · replace h := h.1 c3
      obtain ⟨o4, h⟩ := h
      refine j_iinc (ll' := [(7, aI (x7 + 1)), (0, aR 61), (2, aI x2), (3, aI x3), (4, aI x4), (5, aI x5), (6, aI x6)]) 6 dX11_knock_182 rfl (Nat.le_of_ble_eq_true rfl) o4 rfl ?_
      refine j_goto (tgt := 97) dX11_knock_185 (by decide) ?_
      refine j_sub [1, 2, 3, 4, 5, 6, 0] rfl ?_
      exact h
    · replace h := h.2 c3
      refine j_iload 5 dX11_knock_116 rfl ?_
      refine j_iload 3 dX11_knock_118 rfl ?_
      refine j_aload_n 0 dX11_knock_120 rfl ?_
      refine j_getc 62 dX11_knock_121 f_X11_13 sh_61 rfl ?_
      refine j_iload 6 dX11_knock_124 rfl ?_
      refine j_iald dX11_knock_126 sh_62 o2.1 o2.2 (fun _ => ?_)
      refine j_calliS (Yc := Y_X11_has) (as := [aI x4, aI (M 62 x7)]) (rest := [aI x6]) dX11_knock_127 q_X11_346 ⟨Nat.le_of_ble_eq_true rfl, Nat.le_of_ble_eq_true rfl, Nat.le_of_ble_eq_true rfl, Nat.le_of_ble_eq_true rfl⟩ rfl (Nat.le_of_ble_eq_true rfl) rfl (ti_of (ll := [(0, aI x4), (1, aI (M 62 x7))]) rfl (Nat.le_of_ble_eq_true rfl) rfl (fun _ => ?_))
      refine j_iload_n 0 dX11_has_0 rfl ?_
      refine j_iload_n 1 dX11_has_1 rfl ?_
      refine j_ishr (z := (bo_shr x4 (M 62 x7))) dX11_has_2 rfl ?_
      refine j_iconst (x := 1) dX11_has_3 rfl (i32_c rfl) ?_
      refine j_iand (z := (bo_and (bo_shr x4 (M 62 x7)) 1)) dX11_has_4 rfl ?_
      refine j_iconst (x := 1) dX11_has_5 rfl (i32_c rfl) ?_
      refine j_icmp_ne (tgt := 13) dX11_has_6 (by decide) (fun c5 => ?_) (fun c5 => ?_)
      · replace h := h.1 c5
        refine j_iconst (x := 0) dX11_has_13 rfl (i32_c rfl) ?_
        refine j_zret dX11_has_14 rfl ⟨Nat.le_of_ble_eq_true rfl, Nat.le_of_ble_eq_true rfl⟩ (by decide) ?_
        refine j_if_eq (tgt := 145) dX11_knock_130 (by decide) (fun _ => ?_) (fun c => absurd c (by decide))
        refine j_iconst (x := 0) dX11_knock_145 rfl (i32_c rfl) ?_
        refine j_ior (z := (bo_or x6 0)) dX11_knock_146 rfl ?_
        refine j_istore (ll' := [(6, aI (bo_or x6 0)), (0, aR 61), (2, aI x2), (3, aI x3), (4, aI x4), (5, aI x5), (7, aI x7)]) dX11_knock_147 (Nat.le_of_ble_eq_true rfl) rfl ?_
        refine j_iload 0 dX11_knock_149 rfl ?_
        refine j_iload 4 dX11_knock_151 rfl ?_
        refine j_aload_n 1 dX11_knock_153 rfl ?_
        refine j_getc 63 dX11_knock_154 f_X11_17 sh_61 rfl ?_
        refine j_iload 6 dX11_knock_157 rfl ?_
        refine j_iald dX11_knock_159 sh_63 o2.1 o2.2 (fun _ => ?_)
        refine j_calliS (Yc := Y_X11_has) (as := [aI x4, aI (M 63 x7)]) (rest := [aI (bo_or x6 0)]) dX11_knock_160 q_X11_346 ⟨Nat.le_of_ble_eq_true rfl, Nat.le_of_ble_eq_true rfl, Nat.le_of_ble_eq_true rfl, Nat.le_of_ble_eq_true rfl⟩ rfl (Nat.le_of_ble_eq_true rfl) rfl (ti_of (ll := [(0, aI x4), (1, aI (M 63 x7))]) rfl (Nat.le_of_ble_eq_true rfl) rfl (fun _ => ?_))
        refine j_iload_n 0 dX11_has_0 rfl ?_
        refine j_iload_n 1 dX11_has_1 rfl ?_
        refine j_ishr (z := (bo_shr x4 (M 63 x7))) dX11_has_2 rfl ?_
        refine j_iconst (x := 1) dX11_has_3 rfl (i32_c rfl) ?_
        refine j_iand (z := (bo_and (bo_shr x4 (M 63 x7)) 1)) dX11_has_4 rfl ?_
        refine j_iconst (x := 1) dX11_has_5 rfl (i32_c rfl) ?_
        refine j_icmp_ne (tgt := 13) dX11_has_6 (by decide) (fun c6 => ?_) (fun c6 => ?_)
        · replace h := h.1 c6
          refine j_iconst (x := 0) dX11_has_13 rfl (i32_c rfl) ?_
          refine j_zret dX11_has_14 rfl ⟨Nat.le_of_ble_eq_true rfl, Nat.le_of_ble_eq_true rfl⟩ (by decide) ?_
          refine j_if_eq (tgt := 178) dX11_knock_163 (by decide) (fun _ => ?_) (fun c => absurd c (by decide))
          refine j_iconst (x := 0) dX11_knock_178 rfl (i32_c rfl) ?_
          refine j_ior (z := (bo_or (bo_or x6 0) 0)) dX11_knock_179 rfl ?_
          refine j_istore (ll' := [(6, aI (bo_or (bo_or x6 0) 0)), (0, aR 61), (2, aI x2), (3, aI x3), (4, aI x4), (5, aI x5), (7, aI x7)]) dX11_knock_180 (Nat.le_of_ble_eq_true rfl) rfl ?_
          obtain ⟨o7, h⟩ := h
          refine j_iinc (ll' := [(7, aI (x7 + 1)), (6, aI (bo_or (bo_or x6 0) 0)), (0, aR 61), (2, aI x2), (3, aI x3), (4, aI x4), (5, aI x5)]) 6 dX11_knock_182 rfl (Nat.le_of_ble_eq_true rfl) o7 rfl ?_
          refine j_goto (tgt := 97) dX11_knock_185 (by decide) ?_
          refine j_sub [2, 3, 4, 5, 6, 1, 0] rfl ?_
          exact h
        · replace h := h.2 c6
          refine j_iconst (x := 1) dX11_has_9 rfl (i32_c rfl) ?_
          refine j_goto (tgt := 14) dX11_has_10 (by decide) ?_
          refine j_zret dX11_has_14 rfl ⟨Nat.le_of_ble_eq_true rfl, Nat.le_of_ble_eq_true rfl⟩ (by decide) ?_
          refine j_if_eq (tgt := 178) dX11_knock_163 (by decide) (fun c => absurd c (by decide)) (fun _ => ?_)
          refine j_iconst (x := 1) dX11_knock_166 rfl (i32_c rfl) ?_
          refine j_aload_n 1 dX11_knock_167 rfl ?_
          refine j_getc 62 dX11_knock_168 f_X11_13 sh_61 rfl ?_
          refine j_iload 6 dX11_knock_171 rfl ?_
          refine j_iald dX11_knock_173 sh_62 o2.1 o2.2 (fun _ => ?_)
          refine j_ishl (z := (bo_shl 1 (M 62 x7))) dX11_knock_174 rfl ?_
          refine j_goto (tgt := 179) dX11_knock_175 (by decide) ?_
          refine j_ior (z := (bo_or (bo_or x6 0) (bo_shl 1 (M 62 x7)))) dX11_knock_179 rfl ?_
          refine j_istore (ll' := [(6, aI (bo_or (bo_or x6 0) (bo_shl 1 (M 62 x7)))), (0, aR 61), (2, aI x2), (3, aI x3), (4, aI x4), (5, aI x5), (7, aI x7)]) dX11_knock_180 (Nat.le_of_ble_eq_true rfl) rfl ?_
          obtain ⟨o8, h⟩ := h
          refine j_iinc (ll' := [(7, aI (x7 + 1)), (6, aI (bo_or (bo_or x6 0) (bo_shl 1 (M 62 x7)))), (0, aR 61), (2, aI x2), (3, aI x3), (4, aI x4), (5, aI x5)]) 6 dX11_knock_182 rfl (Nat.le_of_ble_eq_true rfl) o8 rfl ?_
          refine j_goto (tgt := 97) dX11_knock_185 (by decide) ?_
          refine j_sub [2, 3, 4, 5, 6, 1, 0] rfl ?_
          exact h
      · replace h := h.2 c5
        refine j_iconst (x := 1) dX11_has_9 rfl (i32_c rfl) ?_
        refine j_goto (tgt := 14) dX11_has_10 (by decide) ?_
        refine j_zret dX11_has_14 rfl ⟨Nat.le_of_ble_eq_true rfl, Nat.le_of_ble_eq_true rfl⟩ (by decide) ?_
        refine j_if_eq (tgt := 145) dX11_knock_130 (by decide) (fun c => absurd c (by decide)) (fun _ => ?_)
        refine j_iconst (x := 1) dX11_knock_133 rfl (i32_c rfl) ?_
        refine j_aload_n 0 dX11_knock_134 rfl ?_
        refine j_getc 63 dX11_knock_135 f_X11_17 sh_61 rfl ?_
        refine j_iload 6 dX11_knock_138 rfl ?_
        refine j_iald dX11_knock_140 sh_63 o2.1 o2.2 (fun _ => ?_)
        refine j_ishl (z := (bo_shl 1 (M 63 x7))) dX11_knock_141 rfl ?_
        refine j_goto (tgt := 146) dX11_knock_142 (by decide) ?_
        refine j_ior (z := (bo_or x6 (bo_shl 1 (M 63 x7)))) dX11_knock_146 rfl ?_
        refine j_istore (ll' := [(6, aI (bo_or x6 (bo_shl 1 (M 63 x7)))), (0, aR 61), (2, aI x2), (3, aI x3), (4, aI x4), (5, aI x5), (7, aI x7)]) dX11_knock_147 (Nat.le_of_ble_eq_true rfl) rfl ?_
        refine j_iload 0 dX11_knock_149 rfl ?_
        refine j_iload 4 dX11_knock_151 rfl ?_
        refine j_aload_n 1 dX11_knock_153 rfl ?_
        refine j_getc 63 dX11_knock_154 f_X11_17 sh_61 rfl ?_
        refine j_iload 6 dX11_knock_157 rfl ?_
        refine j_iald dX11_knock_159 sh_63 o2.1 o2.2 (fun _ => ?_)
        refine j_calliS (Yc := Y_X11_has) (as := [aI x4, aI (M 63 x7)]) (rest := [aI (bo_or x6 (bo_shl 1 (M 63 x7)))]) dX11_knock_160 q_X11_346 ⟨Nat.le_of_ble_eq_true rfl, Nat.le_of_ble_eq_true rfl, Nat.le_of_ble_eq_true rfl, Nat.le_of_ble_eq_true rfl⟩ rfl (Nat.le_of_ble_eq_true rfl) rfl (ti_of (ll := [(0, aI x4), (1, aI (M 63 x7))]) rfl (Nat.le_of_ble_eq_true rfl) rfl (fun _ => ?_))
        refine j_iload_n 0 dX11_has_0 rfl ?_
        refine j_iload_n 1 dX11_has_1 rfl ?_
        refine j_ishr (z := (bo_shr x4 (M 63 x7))) dX11_has_2 rfl ?_
        refine j_iconst (x := 1) dX11_has_3 rfl (i32_c rfl) ?_
        refine j_iand (z := (bo_and (bo_shr x4 (M 63 x7)) 1)) dX11_has_4 rfl ?_
        refine j_iconst (x := 1) dX11_has_5 rfl (i32_c rfl) ?_
        refine j_icmp_ne (tgt := 13) dX11_has_6 (by decide) (fun c9 => ?_) (fun c9 => ?_)
        · replace h := h.1 c9
          refine j_iconst (x := 0) dX11_has_13 rfl (i32_c rfl) ?_
          refine j_zret dX11_has_14 rfl ⟨Nat.le_of_ble_eq_true rfl, Nat.le_of_ble_eq_true rfl⟩ (by decide) ?_
          refine j_if_eq (tgt := 178) dX11_knock_163 (by decide) (fun _ => ?_) (fun c => absurd c (by decide))
          refine j_iconst (x := 0) dX11_knock_178 rfl (i32_c rfl) ?_
          refine j_ior (z := (bo_or (bo_or x6 (bo_shl 1 (M 63 x7))) 0)) dX11_knock_179 rfl ?_
          refine j_istore (ll' := [(6, aI (bo_or (bo_or x6 (bo_shl 1 (M 63 x7))) 0)), (0, aR 61), (2, aI x2), (3, aI x3), (4, aI x4), (5, aI x5), (7, aI x7)]) dX11_knock_180 (Nat.le_of_ble_eq_true rfl) rfl ?_
          obtain ⟨o10, h⟩ := h
          refine j_iinc (ll' := [(7, aI (x7 + 1)), (6, aI (bo_or (bo_or x6 (bo_shl 1 (M 63 x7))) 0)), (0, aR 61), (2, aI x2), (3, aI x3), (4, aI x4), (5, aI x5)]) 6 dX11_knock_182 rfl (Nat.le_of_ble_eq_true rfl) o10 rfl ?_
          refine j_goto (tgt := 97) dX11_knock_185 (by decide) ?_
          refine j_sub [2, 3, 4, 5, 6, 1, 0] rfl ?_
          exact h
        · replace h := h.2 c9
          refine j_iconst (x := 1) dX11_has_9 rfl (i32_c rfl) ?_
          refine j_goto (tgt := 14) dX11_has_10 (by decide) ?_
          refine j_zret dX11_has_14 rfl ⟨Nat.le_of_ble_eq_true rfl, Nat.le_of_ble_eq_true rfl⟩ (by decide) ?_
          refine j_if_eq (tgt := 178) dX11_knock_163 (by decide) (fun c => absurd c (by decide)) (fun _ => ?_)
          refine j_iconst (x := 1) dX11_knock_166 rfl (i32_c rfl) ?_
          refine j_aload_n 1 dX11_knock_167 rfl ?_
          refine j_getc 62 dX11_knock_168 f_X11_13 sh_61 rfl ?_
          refine j_iload 6 dX11_knock_171 rfl ?_
          refine j_iald dX11_knock_173 sh_62 o2.1 o2.2 (fun _ => ?_)
          refine j_ishl (z := (bo_shl 1 (M 62 x7))) dX11_knock_174 rfl ?_
          refine j_goto (tgt := 179) dX11_knock_175 (by decide) ?_
          refine j_ior (z := (bo_or (bo_or x6 (bo_shl 1 (M 63 x7))) (bo_shl 1 (M 62 x7)))) dX11_knock_179 rfl ?_
          refine j_istore (ll' := [(6, aI (bo_or (bo_or x6 (bo_shl 1 (M 63 x7))) (bo_shl 1 (M 62 x7)))), (0, aR 61), (2, aI x2), (3, aI x3), (4, aI x4), (5, aI x5), (7, aI x7)]) dX11_knock_180 (Nat.le_of_ble_eq_true rfl) rfl ?_
          obtain ⟨o11, h⟩ := h
          refine j_iinc (ll' := [(7, aI (x7 + 1)), (6, aI (bo_or (bo_or x6 (bo_shl 1 (M 63 x7))) (bo_shl 1 (M 62 x7)))), (0, aR 61), (2, aI x2), (3, aI x3), (4, aI x4), (5, aI x5)]) 6 dX11_knock_182 rfl (Nat.le_of_ble_eq_true rfl) o11 rfl ?_
          refine j_goto (tgt := 97) dX11_knock_185 (by decide) ?_
          refine j_sub [2, 3, 4, 5, 6, 1, 0] rfl ?_
          exact h
set_option maxRecDepth 100000 in
set_option maxHeartbeats 4000000 in
theorem B_X11_knock_262 {post : Int → ax_M → Prop} {M : ax_M} {x5 x6 : Int} (h : ((((M 61 25) ≤ x6) → post x5 M) ∧ ((x6 < (M 61 25)) → (0 ≤ x6 ∧ x6 < 8) ∧ (((¬ (M 73 x6) = 0) → (-2147483648 ≤ (x5 + 0) ∧ (x5 + 0) ≤ 2147483647) ∧ (-2147483648 ≤ (x6 + 1) ∧ (x6 + 1) ≤ 2147483647) ∧ ax_J Y_X11_knock (ax_Ki Y_X11_knock SH post) 0 0 262 [(0, aR 61), (5, aI (x5 + 0)), (6, aI (x6 + 1))] [] SH M) ∧ (((M 73 x6) = 0) → (0 ≤ (M 72 x6) ∧ (M 72 x6) < 12) ∧ ((((M 96 (M 72 x6)) ≤ 0) → (-2147483648 ≤ (x5 + 0) ∧ (x5 + 0) ≤ 2147483647) ∧ (-2147483648 ≤ (x6 + 1) ∧ (x6 + 1) ≤ 2147483647) ∧ ax_J Y_X11_knock (ax_Ki Y_X11_knock SH post) 0 0 262 [(0, aR 61), (5, aI (x5 + 0)), (6, aI (x6 + 1))] [] SH M) ∧ ((0 < (M 96 (M 72 x6))) → (-2147483648 ≤ (x5 + (M 96 (M 72 x6))) ∧ (x5 + (M 96 (M 72 x6))) ≤ 2147483647) ∧ (-2147483648 ≤ (x6 + 1) ∧ (x6 + 1) ≤ 2147483647) ∧ ax_J Y_X11_knock (ax_Ki Y_X11_knock SH post) 0 0 262 [(0, aR 61), (5, aI (x5 + (M 96 (M 72 x6)))), (6, aI (x6 + 1))] [] SH M))))))) : ax_J Y_X11_knock (ax_Ki Y_X11_knock SH post) 0 0 262 [(0, aR 61), (5, aI x5), (6, aI x6)] [] SH M := by
  refine j_iload 2 dX11_knock_262 rfl ?_
  refine j_aload_n 0 dX11_knock_264 rfl ?_
  refine j_geti (i := 25) dX11_knock_265 f_X11_240 sh_61 rfl rfl (fun _ => ?_)
  refine j_icmp_ge (tgt := 323) dX11_knock_268 (by decide) (fun c1 => ?_) (fun c1 => ?_)
  · replace h := h.1 c1
    refine j_iload 1 dX11_knock_323 rfl ?_
    exact j_iret dX11_knock_325 rfl ⟨Nat.le_of_ble_eq_true rfl, Nat.le_of_ble_eq_true rfl⟩ (fun _ => h)
  · replace h := h.2 c1
    refine j_iload 1 dX11_knock_271 rfl ?_
    refine j_aload_n 0 dX11_knock_273 rfl ?_
    refine j_getc 73 dX11_knock_274 f_X11_51 sh_61 rfl ?_
    refine j_iload 2 dX11_knock_277 rfl ?_
    obtain ⟨o2, h⟩ := h
    refine j_zald dX11_knock_279 sh_73 o2.1 o2.2 (fun _ => ?_)
    refine j_if_ne (tgt := 313) dX11_knock_280 (by decide) (fun c3 => ?_) (fun c3 => ?_)
    · replace h := h.1 c3
      refine j_iconst (x := 0) dX11_knock_313 rfl (i32_c rfl) ?_
      obtain ⟨o4, h⟩ := h
      refine j_iadd (z := (x5 + 0)) dX11_knock_314 rfl o4 ?_
      refine j_istore (ll' := [(5, aI (x5 + 0)), (0, aR 61), (6, aI x6)]) dX11_knock_315 (Nat.le_of_ble_eq_true rfl) rfl ?_
      obtain ⟨o5, h⟩ := h
      refine j_iinc (ll' := [(6, aI (x6 + 1)), (5, aI (x5 + 0)), (0, aR 61)]) 2 dX11_knock_317 rfl (Nat.le_of_ble_eq_true rfl) o5 rfl ?_
      refine j_goto (tgt := 262) dX11_knock_320 (by decide) ?_
      refine j_sub [2, 1, 0] rfl ?_
      exact h
    · replace h := h.2 c3
      refine j_aload_n 0 dX11_knock_283 rfl ?_
      refine j_getc 96 dX11_knock_284 f_X11_124 sh_61 rfl ?_
      refine j_aload_n 0 dX11_knock_287 rfl ?_
      refine j_getc 72 dX11_knock_288 f_X11_48 sh_61 rfl ?_
      refine j_iload 2 dX11_knock_291 rfl ?_
      refine j_iald dX11_knock_293 sh_72 o2.1 o2.2 (fun _ => ?_)
      obtain ⟨o6, h⟩ := h
      refine j_iald dX11_knock_294 sh_96 o6.1 o6.2 (fun _ => ?_)
      refine j_if_le (tgt := 313) dX11_knock_295 (by decide) (fun c7 => ?_) (fun c7 => ?_)
      · replace h := h.1 c7
        refine j_iconst (x := 0) dX11_knock_313 rfl (i32_c rfl) ?_
        obtain ⟨o8, h⟩ := h
        refine j_iadd (z := (x5 + 0)) dX11_knock_314 rfl o8 ?_
        refine j_istore (ll' := [(5, aI (x5 + 0)), (0, aR 61), (6, aI x6)]) dX11_knock_315 (Nat.le_of_ble_eq_true rfl) rfl ?_
        obtain ⟨o9, h⟩ := h
        refine j_iinc (ll' := [(6, aI (x6 + 1)), (5, aI (x5 + 0)), (0, aR 61)]) 2 dX11_knock_317 rfl (Nat.le_of_ble_eq_true rfl) o9 rfl ?_
        refine j_goto (tgt := 262) dX11_knock_320 (by decide) ?_
        refine j_sub [2, 1, 0] rfl ?_
        exact h
      · replace h := h.2 c7
        refine j_aload_n 0 dX11_knock_298 rfl ?_
        refine j_getc 96 dX11_knock_299 f_X11_124 sh_61 rfl ?_
        refine j_aload_n 0 dX11_knock_302 rfl ?_
        refine j_getc 72 dX11_knock_303 f_X11_48 sh_61 rfl ?_
        refine j_iload 2 dX11_knock_306 rfl ?_
        refine j_iald dX11_knock_308 sh_72 o2.1 o2.2 (fun _ => ?_)
        refine j_iald dX11_knock_309 sh_96 o6.1 o6.2 (fun _ => ?_)
        refine j_goto (tgt := 314) dX11_knock_310 (by decide) ?_
        obtain ⟨o10, h⟩ := h
        refine j_iadd (z := (x5 + (M 96 (M 72 x6)))) dX11_knock_314 rfl o10 ?_
        refine j_istore (ll' := [(5, aI (x5 + (M 96 (M 72 x6)))), (0, aR 61), (6, aI x6)]) dX11_knock_315 (Nat.le_of_ble_eq_true rfl) rfl ?_
        obtain ⟨o11, h⟩ := h
        refine j_iinc (ll' := [(6, aI (x6 + 1)), (5, aI (x5 + (M 96 (M 72 x6)))), (0, aR 61)]) 2 dX11_knock_317 rfl (Nat.le_of_ble_eq_true rfl) o11 rfl ?_
        refine j_goto (tgt := 262) dX11_knock_320 (by decide) ?_
        refine j_sub [2, 1, 0] rfl ?_
        exact h
set_option maxRecDepth 100000 in
set_option maxHeartbeats 4000000 in
theorem B_X11_knock_200 {post : Int → ax_M → Prop} {M : ax_M} {x2 x3 x4 x5 x6 x7 : Int} (h : ((((M 61 0) ≤ x7) → (-2147483648 ≤ (x5 + 1) ∧ (x5 + 1) ≤ 2147483647) ∧ ax_J Y_X11_knock (ax_Ki Y_X11_knock SH post) 0 0 74 [(0, aR 61), (2, aI x2), (3, aI x3), (4, aI (bo_or x4 x6)), (5, aI (x5 + 1))] [] SH M) ∧ ((x7 < (M 61 0)) → (((¬ (bo_and (bo_shr x6 x7) 1) = 1) → (0 ≤ x7 ∧ x7 < 12) ∧ (-2147483648 ≤ (x7 + 1) ∧ (x7 + 1) ≤ 2147483647) ∧ ax_J Y_X11_knock (ax_Ki Y_X11_knock SH post) 0 0 200 [(0, aR 61), (2, aI x2), (3, aI x3), (4, aI x4), (5, aI x5), (6, aI x6), (7, aI (x7 + 1))] [] SH (ax_up M 96 x7 (M 96 x7))) ∧ (((bo_and (bo_shr x6 x7) 1) = 1) → (0 ≤ x7 ∧ x7 < 12) ∧ (-2147483648 ≤ (x7 + 1) ∧ (x7 + 1) ≤ 2147483647) ∧ ax_J Y_X11_knock (ax_Ki Y_X11_knock SH post) 0 0 200 [(0, aR 61), (2, aI x2), (3, aI x3), (4, aI x4), (5, aI x5), (6, aI x6), (7, aI (x7 + 1))] [] SH (ax_up M 96 x7 x3)))))) : ax_J Y_X11_knock (ax_Ki Y_X11_knock SH post) 0 0 200 [(0, aR 61), (2, aI x2), (3, aI x3), (4, aI x4), (5, aI x5), (6, aI x6), (7, aI x7)] [] SH M := by
  refine j_iload 6 dX11_knock_200 rfl ?_
  refine j_aload_n 0 dX11_knock_202 rfl ?_
  refine j_geti (i := 0) dX11_knock_203 f_X11_133 sh_61 rfl rfl (fun _ => ?_)
  refine j_icmp_ge (tgt := 243) dX11_knock_206 (by decide) (fun c1 => ?_) (fun c1 => ?_)
  · replace h := h.1 c1
    refine j_iload 3 dX11_knock_243 rfl ?_
    refine j_iload 5 dX11_knock_245 rfl ?_
    refine j_ior (z := (bo_or x4 x6)) dX11_knock_247 rfl ?_
    refine j_istore (ll' := [(4, aI (bo_or x4 x6)), (0, aR 61), (2, aI x2), (3, aI x3), (5, aI x5), (6, aI x6), (7, aI x7)]) dX11_knock_248 (Nat.le_of_ble_eq_true rfl) rfl ?_
    obtain ⟨o2, h⟩ := h
    refine j_iinc (ll' := [(5, aI (x5 + 1)), (4, aI (bo_or x4 x6)), (0, aR 61), (2, aI x2), (3, aI x3), (6, aI x6), (7, aI x7)]) 4 dX11_knock_250 rfl (Nat.le_of_ble_eq_true rfl) o2 rfl ?_
    refine j_goto (tgt := 74) dX11_knock_253 (by decide) ?_
    refine j_sub [2, 3, 4, 1, 0] rfl ?_
    exact h
  · replace h := h.2 c1
    refine j_aload_n 0 dX11_knock_209 rfl ?_
    refine j_getc 96 dX11_knock_210 f_X11_124 sh_61 rfl ?_
    refine j_iload 6 dX11_knock_213 rfl ?_
    refine j_iload 5 dX11_knock_215 rfl ?_
    refine j_iload 6 dX11_knock_217 rfl ?_
    refine j_calliS (Yc := Y_X11_has) (as := [aI x6, aI x7]) (rest := [aI x7, aR 96]) dX11_knock_219 q_X11_346 ⟨Nat.le_of_ble_eq_true rfl, Nat.le_of_ble_eq_true rfl, Nat.le_of_ble_eq_true rfl, Nat.le_of_ble_eq_true rfl⟩ rfl (Nat.le_of_ble_eq_true rfl) rfl (ti_of (ll := [(0, aI x6), (1, aI x7)]) rfl (Nat.le_of_ble_eq_true rfl) rfl (fun _ => ?_))
    refine j_iload_n 0 dX11_has_0 rfl ?_
    refine j_iload_n 1 dX11_has_1 rfl ?_
    refine j_ishr (z := (bo_shr x6 x7)) dX11_has_2 rfl ?_
    refine j_iconst (x := 1) dX11_has_3 rfl (i32_c rfl) ?_
    refine j_iand (z := (bo_and (bo_shr x6 x7) 1)) dX11_has_4 rfl ?_
    refine j_iconst (x := 1) dX11_has_5 rfl (i32_c rfl) ?_
    refine j_icmp_ne (tgt := 13) dX11_has_6 (by decide) (fun c3 => ?_) (fun c3 => ?_)
    · replace h := h.1 c3
      refine j_iconst (x := 0) dX11_has_13 rfl (i32_c rfl) ?_
      refine j_zret dX11_has_14 rfl ⟨Nat.le_of_ble_eq_true rfl, Nat.le_of_ble_eq_true rfl⟩ (by decide) ?_
      refine j_if_eq (tgt := 229) dX11_knock_222 (by decide) (fun _ => ?_) (fun c => absurd c (by decide))
      refine j_aload_n 0 dX11_knock_229 rfl ?_
      refine j_getc 96 dX11_knock_230 f_X11_124 sh_61 rfl ?_
      refine j_iload 6 dX11_knock_233 rfl ?_
      obtain ⟨o4, h⟩ := h
      refine j_iald dX11_knock_235 sh_96 o4.1 o4.2 (fun _ => ?_)
      refine j_iast dX11_knock_236 sh_96 o4.1 o4.2 ?_
      obtain ⟨o5, h⟩ := h
      refine j_iinc (ll' := [(7, aI (x7 + 1)), (0, aR 61), (2, aI x2), (3, aI x3), (4, aI x4), (5, aI x5), (6, aI x6)]) 6 dX11_knock_237 rfl (Nat.le_of_ble_eq_true rfl) o5 rfl ?_
      refine j_goto (tgt := 200) dX11_knock_240 (by decide) ?_
      refine j_sub [1, 2, 3, 4, 5, 6, 0] rfl ?_
      exact h
    · replace h := h.2 c3
      refine j_iconst (x := 1) dX11_has_9 rfl (i32_c rfl) ?_
      refine j_goto (tgt := 14) dX11_has_10 (by decide) ?_
      refine j_zret dX11_has_14 rfl ⟨Nat.le_of_ble_eq_true rfl, Nat.le_of_ble_eq_true rfl⟩ (by decide) ?_
      refine j_if_eq (tgt := 229) dX11_knock_222 (by decide) (fun c => absurd c (by decide)) (fun _ => ?_)
      refine j_iload_n 2 dX11_knock_225 rfl ?_
      refine j_goto (tgt := 236) dX11_knock_226 (by decide) ?_
      obtain ⟨o6, h⟩ := h
      refine j_iast dX11_knock_236 sh_96 o6.1 o6.2 ?_
      obtain ⟨o7, h⟩ := h
      refine j_iinc (ll' := [(7, aI (x7 + 1)), (0, aR 61), (2, aI x2), (3, aI x3), (4, aI x4), (5, aI x5), (6, aI x6)]) 6 dX11_knock_237 rfl (Nat.le_of_ble_eq_true rfl) o7 rfl ?_
      refine j_goto (tgt := 200) dX11_knock_240 (by decide) ?_
      refine j_sub [1, 2, 3, 4, 5, 6, 0] rfl ?_
      exact h
set_option maxRecDepth 100000 in
set_option maxHeartbeats 4000000 in
theorem B_X11_keep_0 {post : Int → ax_M → Prop} {M : ax_M} {x1 : Int} (h : (((x1 < 0) → post (-1001) M) ∧ ((0 ≤ x1) → (((1 < x1) → post (-1001) M) ∧ ((x1 ≤ 1) → (-2147483648 ≤ (60 * x1) ∧ (60 * x1) ≤ 2147483647) ∧ (0 ≤ (60 * x1) ∧ (60 * x1) < 120) ∧ (-2147483648 ≤ ((60 * x1) + 1) ∧ ((60 * x1) + 1) ≤ 2147483647) ∧ (0 ≤ ((60 * x1) + 1) ∧ ((60 * x1) + 1) < 120) ∧ ax_J Y_X11_keep (ax_Ki Y_X11_keep SH post) 0 0 43 [(0, aR 61), (1, aI x1), (2, aI (60 * x1)), (3, aI 0)] [] SH (ax_up (ax_up M 97 (60 * x1) (M 61 25)) 97 ((60 * x1) + 1) (M 61 29))))))) : ax_J Y_X11_keep (ax_Ki Y_X11_keep SH post) 0 0 0 [(0, aR 61), (1, aI x1)] [] SH M := by
  refine j_iload_n 1 dX11_keep_0 rfl ?_
  refine j_i2l dX11_keep_1 ?_
  refine j_lconst (x := 0) dX11_keep_2 rfl (i64_c rfl) ?_
  refine j_lconst (x := 1) dX11_keep_3 rfl (i64_c rfl) ?_
  refine j_calliS (Yc := Y_X11_in) (as := [aL x1, aL 0, aL 1]) (rest := []) dX11_keep_4 q_X11_136 ⟨Nat.le_of_ble_eq_true rfl, Nat.le_of_ble_eq_true rfl, Nat.le_of_ble_eq_true rfl, Nat.le_of_ble_eq_true rfl⟩ rfl (Nat.le_of_ble_eq_true rfl) rfl (ti_of (ll := [(0, aL x1), (2, aL 0), (4, aL 1)]) rfl (Nat.le_of_ble_eq_true rfl) rfl (fun _ => ?_))
  refine j_lload_n 0 dX11_in_0 rfl ?_
  refine j_lload_n 1 dX11_in_1 rfl ?_
  refine j_lcmp_lt (tgt := 17) dX11_in_2 dX11_in_3 (by decide) (fun c1 => ?_) (fun c1 => ?_)
  · replace h := h.1 c1
    refine j_iconst (x := 0) dX11_in_17 rfl (i32_c rfl) ?_
    refine j_zret dX11_in_18 rfl ⟨Nat.le_of_ble_eq_true rfl, Nat.le_of_ble_eq_true rfl⟩ (by decide) ?_
    refine j_if_ne (tgt := 14) dX11_keep_7 (by decide) (fun c => absurd c (by decide)) (fun _ => ?_)
    refine j_sipush (x := (-1001)) dX11_keep_10 rfl (i32_c rfl) ?_
    exact j_iret dX11_keep_13 rfl ⟨Nat.le_of_ble_eq_true rfl, Nat.le_of_ble_eq_true rfl⟩ (fun _ => h)
  · replace h := h.2 c1
    refine j_lload_n 0 dX11_in_6 rfl ?_
    refine j_lload 2 dX11_in_7 rfl ?_
    refine j_lcmp_gt (tgt := 17) dX11_in_9 dX11_in_10 (by decide) (fun c2 => ?_) (fun c2 => ?_)
    · replace h := h.1 c2
      refine j_iconst (x := 0) dX11_in_17 rfl (i32_c rfl) ?_
      refine j_zret dX11_in_18 rfl ⟨Nat.le_of_ble_eq_true rfl, Nat.le_of_ble_eq_true rfl⟩ (by decide) ?_
      refine j_if_ne (tgt := 14) dX11_keep_7 (by decide) (fun c => absurd c (by decide)) (fun _ => ?_)
      refine j_sipush (x := (-1001)) dX11_keep_10 rfl (i32_c rfl) ?_
      exact j_iret dX11_keep_13 rfl ⟨Nat.le_of_ble_eq_true rfl, Nat.le_of_ble_eq_true rfl⟩ (fun _ => h)
    · replace h := h.2 c2
      refine j_iconst (x := 1) dX11_in_13 rfl (i32_c rfl) ?_
      refine j_goto (tgt := 18) dX11_in_14 (by decide) ?_
      refine j_zret dX11_in_18 rfl ⟨Nat.le_of_ble_eq_true rfl, Nat.le_of_ble_eq_true rfl⟩ (by decide) ?_
      refine j_if_ne (tgt := 14) dX11_keep_7 (by decide) (fun _ => ?_) (fun c => absurd c (by decide))
      refine j_bipush (x := 60) dX11_keep_14 rfl (i32_c rfl) ?_
      refine j_iload_n 1 dX11_keep_16 rfl ?_
      obtain ⟨o3, h⟩ := h
      refine j_imul (z := (60 * x1)) dX11_keep_17 rfl o3 ?_
      refine j_istore_n (ll' := [(2, aI (60 * x1)), (0, aR 61), (1, aI x1)]) dX11_keep_18 (Nat.le_of_ble_eq_true rfl) rfl ?_
      refine j_aload_n 1 dX11_keep_19 rfl ?_
      refine j_getc 97 dX11_keep_20 f_X11_127 sh_61 rfl ?_
      refine j_iload_n 0 dX11_keep_23 rfl ?_
      refine j_aload_n 1 dX11_keep_24 rfl ?_
      refine j_geti (i := 25) dX11_keep_25 f_X11_240 sh_61 rfl rfl (fun _ => ?_)
      obtain ⟨o4, h⟩ := h
      refine j_iast dX11_keep_28 sh_97 o4.1 o4.2 ?_
      refine j_aload_n 1 dX11_keep_29 rfl ?_
      refine j_getc 97 dX11_keep_30 f_X11_127 sh_61 rfl ?_
      refine j_iload_n 0 dX11_keep_33 rfl ?_
      refine j_iconst (x := 1) dX11_keep_34 rfl (i32_c rfl) ?_
      obtain ⟨o5, h⟩ := h
      refine j_iadd (z := ((60 * x1) + 1)) dX11_keep_35 rfl o5 ?_
      refine j_aload_n 1 dX11_keep_36 rfl ?_
      refine j_geti (i := 29) dX11_keep_37 f_X11_243 sh_61 rfl rfl (fun _ => ?_)
      obtain ⟨o6, h⟩ := h
      refine j_iast dX11_keep_40 sh_97 o6.1 o6.2 ?_
      refine j_iconst (x := 0) dX11_keep_41 rfl (i32_c rfl) ?_
      refine j_istore_n (ll' := [(3, aI 0), (2, aI (60 * x1)), (0, aR 61), (1, aI x1)]) dX11_keep_42 (Nat.le_of_ble_eq_true rfl) rfl ?_
      refine j_sub [2, 3, 1, 0] rfl ?_
      exact h
theorem E_X11_keep {post : Int → ax_M → Prop} {M : ax_M} {x1 : Int} (h : ax_mr SH M → (((x1 < 0) → post (-1001) M) ∧ ((0 ≤ x1) → (((1 < x1) → post (-1001) M) ∧ ((x1 ≤ 1) → (-2147483648 ≤ (60 * x1) ∧ (60 * x1) ≤ 2147483647) ∧ (0 ≤ (60 * x1) ∧ (60 * x1) < 120) ∧ (-2147483648 ≤ ((60 * x1) + 1) ∧ ((60 * x1) + 1) ≤ 2147483647) ∧ (0 ≤ ((60 * x1) + 1) ∧ ((60 * x1) + 1) < 120) ∧ ax_J Y_X11_keep (ax_Ki Y_X11_keep SH post) 0 0 43 [(0, aR 61), (1, aI x1), (2, aI (60 * x1)), (3, aI 0)] [] SH (ax_up (ax_up M 97 (60 * x1) (M 61 25)) 97 ((60 * x1) + 1) (M 61 29))))))) : ax_Ti Y_X11_keep [aR 61, aI x1] SH M post :=
  ti_of rfl (Nat.le_of_ble_eq_true rfl) rfl (fun q => B_X11_keep_0 (h q))
set_option maxRecDepth 100000 in
set_option maxHeartbeats 4000000 in
theorem B_X11_keep_43 {post : Int → ax_M → Prop} {M : ax_M} {x1 x2 x3 : Int} (h : (((8 ≤ x3) → ax_J Y_X11_keep (ax_Ki Y_X11_keep SH post) 0 0 113 [(0, aR 61), (1, aI x1), (2, aI x2), (3, aI 0)] [] SH M) ∧ ((x3 < 8) → (-2147483648 ≤ (x2 + 2) ∧ (x2 + 2) ≤ 2147483647) ∧ (-2147483648 ≤ ((x2 + 2) + x3) ∧ ((x2 + 2) + x3) ≤ 2147483647) ∧ (0 ≤ x3 ∧ x3 < 8) ∧ (0 ≤ ((x2 + 2) + x3) ∧ ((x2 + 2) + x3) < 120) ∧ (-2147483648 ≤ (x2 + 10) ∧ (x2 + 10) ≤ 2147483647) ∧ (-2147483648 ≤ ((x2 + 10) + x3) ∧ ((x2 + 10) + x3) ≤ 2147483647) ∧ ((((M 73 x3) = 0) → ((((M 74 x3) = 0) → (0 ≤ ((x2 + 10) + x3) ∧ ((x2 + 10) + x3) < 120) ∧ (-2147483648 ≤ (x3 + 1) ∧ (x3 + 1) ≤ 2147483647) ∧ ax_J Y_X11_keep (ax_Ki Y_X11_keep SH post) 0 0 43 [(0, aR 61), (1, aI x1), (2, aI x2), (3, aI (x3 + 1))] [] SH (ax_up (ax_up M 97 ((x2 + 2) + x3) (M 72 x3)) 97 ((x2 + 10) + x3) 0)) ∧ ((¬ (M 74 x3) = 0) → (0 ≤ ((x2 + 10) + x3) ∧ ((x2 + 10) + x3) < 120) ∧ (-2147483648 ≤ (x3 + 1) ∧ (x3 + 1) ≤ 2147483647) ∧ ax_J Y_X11_keep (ax_Ki Y_X11_keep SH post) 0 0 43 [(0, aR 61), (1, aI x1), (2, aI x2), (3, aI (x3 + 1))] [] SH (ax_up (ax_up M 97 ((x2 + 2) + x3) (M 72 x3)) 97 ((x2 + 10) + x3) 2)))) ∧ ((¬ (M 73 x3) = 0) → ((((M 74 x3) = 0) → (0 ≤ ((x2 + 10) + x3) ∧ ((x2 + 10) + x3) < 120) ∧ (-2147483648 ≤ (x3 + 1) ∧ (x3 + 1) ≤ 2147483647) ∧ ax_J Y_X11_keep (ax_Ki Y_X11_keep SH post) 0 0 43 [(0, aR 61), (1, aI x1), (2, aI x2), (3, aI (x3 + 1))] [] SH (ax_up (ax_up M 97 ((x2 + 2) + x3) (M 72 x3)) 97 ((x2 + 10) + x3) 1)) ∧ ((¬ (M 74 x3) = 0) → (0 ≤ ((x2 + 10) + x3) ∧ ((x2 + 10) + x3) < 120) ∧ (-2147483648 ≤ (x3 + 1) ∧ (x3 + 1) ≤ 2147483647) ∧ ax_J Y_X11_keep (ax_Ki Y_X11_keep SH post) 0 0 43 [(0, aR 61), (1, aI x1), (2, aI x2), (3, aI (x3 + 1))] [] SH (ax_up (ax_up M 97 ((x2 + 2) + x3) (M 72 x3)) 97 ((x2 + 10) + x3) 3)))))))) : ax_J Y_X11_keep (ax_Ki Y_X11_keep SH post) 0 0 43 [(0, aR 61), (1, aI x1), (2, aI x2), (3, aI x3)] [] SH M := by
  refine j_iload_n 3 dX11_keep_43 rfl ?_
  refine j_bipush (x := 8) dX11_keep_44 rfl (i32_c rfl) ?_
  refine j_icmp_ge (tgt := 111) dX11_keep_46 (by decide) (fun c1 => ?_) (fun c1 => ?_)
  · replace h := h.1 c1
    refine j_iconst (x := 0) dX11_keep_111 rfl (i32_c rfl) ?_
    refine j_istore_n (ll' := [(3, aI 0), (0, aR 61), (1, aI x1), (2, aI x2)]) dX11_keep_112 (Nat.le_of_ble_eq_true rfl) rfl ?_
    refine j_sub [1, 2, 3, 0] rfl ?_
    exact h
  · replace h := h.2 c1
    refine j_aload_n 0 dX11_keep_49 rfl ?_
    refine j_getc 97 dX11_keep_50 f_X11_127 sh_61 rfl ?_
    refine j_iload_n 2 dX11_keep_53 rfl ?_
    refine j_iconst (x := 2) dX11_keep_54 rfl (i32_c rfl) ?_
    obtain ⟨o2, h⟩ := h
    refine j_iadd (z := (x2 + 2)) dX11_keep_55 rfl o2 ?_
    refine j_iload_n 3 dX11_keep_56 rfl ?_
    obtain ⟨o3, h⟩ := h
    refine j_iadd (z := ((x2 + 2) + x3)) dX11_keep_57 rfl o3 ?_
    refine j_aload_n 0 dX11_keep_58 rfl ?_
    refine j_getc 72 dX11_keep_59 f_X11_48 sh_61 rfl ?_
    refine j_iload_n 3 dX11_keep_62 rfl ?_
    obtain ⟨o4, h⟩ := h
    refine j_iald dX11_keep_63 sh_72 o4.1 o4.2 (fun _ => ?_)
    obtain ⟨o5, h⟩ := h
    refine j_iast dX11_keep_64 sh_97 o5.1 o5.2 ?_
    refine j_aload_n 0 dX11_keep_65 rfl ?_
    refine j_getc 97 dX11_keep_66 f_X11_127 sh_61 rfl ?_
    refine j_iload_n 2 dX11_keep_69 rfl ?_
    refine j_bipush (x := 10) dX11_keep_70 rfl (i32_c rfl) ?_
    obtain ⟨o6, h⟩ := h
    refine j_iadd (z := (x2 + 10)) dX11_keep_72 rfl o6 ?_
    refine j_iload_n 3 dX11_keep_73 rfl ?_
    obtain ⟨o7, h⟩ := h
    refine j_iadd (z := ((x2 + 10) + x3)) dX11_keep_74 rfl o7 ?_
    refine j_aload_n 0 dX11_keep_75 rfl ?_
    refine j_getc 73 dX11_keep_76 f_X11_51 sh_61 rfl ?_
    refine j_iload_n 3 dX11_keep_79 rfl ?_
    refine j_zald dX11_keep_80 sh_73 o4.1 o4.2 (fun _ => ?_)
    refine j_if_eq (tgt := 88) dX11_keep_81 (by decide) (fun c8 => ?_) (fun c8 => ?_)
    · replace h := h.1 c8
      refine j_iconst (x := 0) dX11_keep_88 rfl (i32_c rfl) ?_
      refine j_aload_n 0 dX11_keep_89 rfl ?_
      refine j_getc 74 dX11_keep_90 f_X11_54 sh_61 rfl ?_
      refine j_iload_n 3 dX11_keep_93 rfl ?_
      refine j_zald dX11_keep_94 sh_74 o4.1 o4.2 (fun _ => ?_)
      refine j_if_eq (tgt := 102) dX11_keep_95 (by decide) (fun c9 => ?_) (fun c9 => ?_)
      · replace h := h.1 c9
        refine j_iconst (x := 0) dX11_keep_102 rfl (i32_c rfl) ?_
        refine j_iadd (z := 0) dX11_keep_103 rfl (i32_c rfl) ?_
        obtain ⟨o10, h⟩ := h
        refine j_iast dX11_keep_104 sh_97 o10.1 o10.2 ?_
        obtain ⟨o11, h⟩ := h
        refine j_iinc (ll' := [(3, aI (x3 + 1)), (0, aR 61), (1, aI x1), (2, aI x2)]) 3 dX11_keep_105 rfl (Nat.le_of_ble_eq_true rfl) o11 rfl ?_
        refine j_goto (tgt := 43) dX11_keep_108 (by decide) ?_
        refine j_sub [1, 2, 3, 0] rfl ?_
        exact h
      · replace h := h.2 c9
        refine j_iconst (x := 2) dX11_keep_98 rfl (i32_c rfl) ?_
        refine j_goto (tgt := 103) dX11_keep_99 (by decide) ?_
        refine j_iadd (z := 2) dX11_keep_103 rfl (i32_c rfl) ?_
        obtain ⟨o12, h⟩ := h
        refine j_iast dX11_keep_104 sh_97 o12.1 o12.2 ?_
        obtain ⟨o13, h⟩ := h
        refine j_iinc (ll' := [(3, aI (x3 + 1)), (0, aR 61), (1, aI x1), (2, aI x2)]) 3 dX11_keep_105 rfl (Nat.le_of_ble_eq_true rfl) o13 rfl ?_
        refine j_goto (tgt := 43) dX11_keep_108 (by decide) ?_
        refine j_sub [1, 2, 3, 0] rfl ?_
        exact h
    · replace h := h.2 c8
      refine j_iconst (x := 1) dX11_keep_84 rfl (i32_c rfl) ?_
      refine j_goto (tgt := 89) dX11_keep_85 (by decide) ?_
      refine j_aload_n 0 dX11_keep_89 rfl ?_
      refine j_getc 74 dX11_keep_90 f_X11_54 sh_61 rfl ?_
      refine j_iload_n 3 dX11_keep_93 rfl ?_
      refine j_zald dX11_keep_94 sh_74 o4.1 o4.2 (fun _ => ?_)
      refine j_if_eq (tgt := 102) dX11_keep_95 (by decide) (fun c14 => ?_) (fun c14 => ?_)
      · replace h := h.1 c14
        refine j_iconst (x := 0) dX11_keep_102 rfl (i32_c rfl) ?_
        refine j_iadd (z := 1) dX11_keep_103 rfl (i32_c rfl) ?_
        obtain ⟨o15, h⟩ := h
        refine j_iast dX11_keep_104 sh_97 o15.1 o15.2 ?_
        obtain ⟨o16, h⟩ := h
        refine j_iinc (ll' := [(3, aI (x3 + 1)), (0, aR 61), (1, aI x1), (2, aI x2)]) 3 dX11_keep_105 rfl (Nat.le_of_ble_eq_true rfl) o16 rfl ?_
        refine j_goto (tgt := 43) dX11_keep_108 (by decide) ?_
        refine j_sub [1, 2, 3, 0] rfl ?_
        exact h
      · replace h := h.2 c14
        refine j_iconst (x := 2) dX11_keep_98 rfl (i32_c rfl) ?_
        refine j_goto (tgt := 103) dX11_keep_99 (by decide) ?_
        refine j_iadd (z := 3) dX11_keep_103 rfl (i32_c rfl) ?_
        obtain ⟨o17, h⟩ := h
        refine j_iast dX11_keep_104 sh_97 o17.1 o17.2 ?_
        obtain ⟨o18, h⟩ := h
        refine j_iinc (ll' := [(3, aI (x3 + 1)), (0, aR 61), (1, aI x1), (2, aI x2)]) 3 dX11_keep_105 rfl (Nat.le_of_ble_eq_true rfl) o18 rfl ?_
        refine j_goto (tgt := 43) dX11_keep_108 (by decide) ?_
        refine j_sub [1, 2, 3, 0] rfl ?_
        exact h
set_option maxRecDepth 100000 in
set_option maxHeartbeats 4000000 in
theorem B_X11_keep_113 {post : Int → ax_M → Prop} {M : ax_M} {x1 x2 x3 : Int} (h : (((4 ≤ x3) → ax_J Y_X11_keep (ax_Ki Y_X11_keep SH post) 0 0 160 [(0, aR 61), (1, aI x1), (2, aI x2), (3, aI 0)] [] SH M) ∧ ((x3 < 4) → (-2147483648 ≤ (x2 + 18) ∧ (x2 + 18) ≤ 2147483647) ∧ (-2147483648 ≤ ((x2 + 18) + x3) ∧ ((x2 + 18) + x3) ≤ 2147483647) ∧ (0 ≤ x3 ∧ x3 < 4) ∧ (0 ≤ ((x2 + 18) + x3) ∧ ((x2 + 18) + x3) < 120) ∧ (-2147483648 ≤ (x2 + 22) ∧ (x2 + 22) ≤ 2147483647) ∧ (-2147483648 ≤ ((x2 + 22) + x3) ∧ ((x2 + 22) + x3) ≤ 2147483647) ∧ (0 ≤ ((x2 + 22) + x3) ∧ ((x2 + 22) + x3) < 120) ∧ (-2147483648 ≤ (x3 + 1) ∧ (x3 + 1) ≤ 2147483647) ∧ ax_J Y_X11_keep (ax_Ki Y_X11_keep SH post) 0 0 113 [(0, aR 61), (1, aI x1), (2, aI x2), (3, aI (x3 + 1))] [] SH (ax_up (ax_up M 97 ((x2 + 18) + x3) (M 75 x3)) 97 ((x2 + 22) + x3) (M 76 x3))))) : ax_J Y_X11_keep (ax_Ki Y_X11_keep SH post) 0 0 113 [(0, aR 61), (1, aI x1), (2, aI x2), (3, aI x3)] [] SH M := by
  refine j_iload_n 3 dX11_keep_113 rfl ?_
  refine j_iconst (x := 4) dX11_keep_114 rfl (i32_c rfl) ?_
  refine j_icmp_ge (tgt := 158) dX11_keep_115 (by decide) (fun c1 => ?_) (fun c1 => ?_)
  · replace h := h.1 c1
    refine j_iconst (x := 0) dX11_keep_158 rfl (i32_c rfl) ?_
    refine j_istore_n (ll' := [(3, aI 0), (0, aR 61), (1, aI x1), (2, aI x2)]) dX11_keep_159 (Nat.le_of_ble_eq_true rfl) rfl ?_
    refine j_sub [1, 2, 3, 0] rfl ?_
    exact h
  · replace h := h.2 c1
    refine j_aload_n 0 dX11_keep_118 rfl ?_
    refine j_getc 97 dX11_keep_119 f_X11_127 sh_61 rfl ?_
    refine j_iload_n 2 dX11_keep_122 rfl ?_
    refine j_bipush (x := 18) dX11_keep_123 rfl (i32_c rfl) ?_
    obtain ⟨o2, h⟩ := h
    refine j_iadd (z := (x2 + 18)) dX11_keep_125 rfl o2 ?_
    refine j_iload_n 3 dX11_keep_126 rfl ?_
    obtain ⟨o3, h⟩ := h
    refine j_iadd (z := ((x2 + 18) + x3)) dX11_keep_127 rfl o3 ?_
    refine j_aload_n 0 dX11_keep_128 rfl ?_
    refine j_getc 75 dX11_keep_129 f_X11_57 sh_61 rfl ?_
    refine j_iload_n 3 dX11_keep_132 rfl ?_
    obtain ⟨o4, h⟩ := h
    refine j_iald dX11_keep_133 sh_75 o4.1 o4.2 (fun _ => ?_)
    obtain ⟨o5, h⟩ := h
    refine j_iast dX11_keep_134 sh_97 o5.1 o5.2 ?_
    refine j_aload_n 0 dX11_keep_135 rfl ?_
    refine j_getc 97 dX11_keep_136 f_X11_127 sh_61 rfl ?_
    refine j_iload_n 2 dX11_keep_139 rfl ?_
    refine j_bipush (x := 22) dX11_keep_140 rfl (i32_c rfl) ?_
    obtain ⟨o6, h⟩ := h
    refine j_iadd (z := (x2 + 22)) dX11_keep_142 rfl o6 ?_
    refine j_iload_n 3 dX11_keep_143 rfl ?_
    obtain ⟨o7, h⟩ := h
    refine j_iadd (z := ((x2 + 22) + x3)) dX11_keep_144 rfl o7 ?_
    refine j_aload_n 0 dX11_keep_145 rfl ?_
    refine j_getc 76 dX11_keep_146 f_X11_60 sh_61 rfl ?_
    refine j_iload_n 3 dX11_keep_149 rfl ?_
    refine j_iald dX11_keep_150 sh_76 o4.1 o4.2 (fun _ => ?_)
    obtain ⟨o8, h⟩ := h
    refine j_iast dX11_keep_151 sh_97 o8.1 o8.2 ?_
    obtain ⟨o9, h⟩ := h
    refine j_iinc (ll' := [(3, aI (x3 + 1)), (0, aR 61), (1, aI x1), (2, aI x2)]) 3 dX11_keep_152 rfl (Nat.le_of_ble_eq_true rfl) o9 rfl ?_
    refine j_goto (tgt := 113) dX11_keep_155 (by decide) ?_
    refine j_sub [1, 2, 3, 0] rfl ?_
    exact h
set_option maxRecDepth 100000 in
set_option maxHeartbeats 4000000 in
theorem B_X11_keep_160 {post : Int → ax_M → Prop} {M : ax_M} {x1 x2 x3 : Int} (h : (((24 ≤ x3) → (0 ≤ x1 ∧ x1 < 2) ∧ post 1 (ax_up M 98 x1 1)) ∧ ((x3 < 24) → (-2147483648 ≤ (x2 + 26) ∧ (x2 + 26) ≤ 2147483647) ∧ (-2147483648 ≤ ((x2 + 26) + x3) ∧ ((x2 + 26) + x3) ≤ 2147483647) ∧ (0 ≤ x3 ∧ x3 < 24) ∧ ((((M 69 x3) = 0) → (0 ≤ ((x2 + 26) + x3) ∧ ((x2 + 26) + x3) < 120) ∧ (-2147483648 ≤ (x3 + 1) ∧ (x3 + 1) ≤ 2147483647) ∧ ax_J Y_X11_keep (ax_Ki Y_X11_keep SH post) 0 0 160 [(0, aR 61), (1, aI x1), (2, aI x2), (3, aI (x3 + 1))] [] SH (ax_up M 97 ((x2 + 26) + x3) 0)) ∧ ((¬ (M 69 x3) = 0) → (0 ≤ ((x2 + 26) + x3) ∧ ((x2 + 26) + x3) < 120) ∧ (-2147483648 ≤ (x3 + 1) ∧ (x3 + 1) ≤ 2147483647) ∧ ax_J Y_X11_keep (ax_Ki Y_X11_keep SH post) 0 0 160 [(0, aR 61), (1, aI x1), (2, aI x2), (3, aI (x3 + 1))] [] SH (ax_up M 97 ((x2 + 26) + x3) 1)))))) : ax_J Y_X11_keep (ax_Ki Y_X11_keep SH post) 0 0 160 [(0, aR 61), (1, aI x1), (2, aI x2), (3, aI x3)] [] SH M := by
  refine j_iload_n 3 dX11_keep_160 rfl ?_
  refine j_bipush (x := 24) dX11_keep_161 rfl (i32_c rfl) ?_
  refine j_icmp_ge (tgt := 197) dX11_keep_163 (by decide) (fun c1 => ?_) (fun c1 => ?_)
  · replace h := h.1 c1
    refine j_aload_n 0 dX11_keep_197 rfl ?_
    refine j_getc 98 dX11_keep_198 f_X11_130 sh_61 rfl ?_
    refine j_iload_n 1 dX11_keep_201 rfl ?_
    refine j_iconst (x := 1) dX11_keep_202 rfl (i32_c rfl) ?_
    obtain ⟨o2, h⟩ := h
    refine j_zast dX11_keep_203 sh_98 o2.1 o2.2 (by decide) ?_
    refine j_iconst (x := 1) dX11_keep_204 rfl (i32_c rfl) ?_
    exact j_iret dX11_keep_205 rfl ⟨Nat.le_of_ble_eq_true rfl, Nat.le_of_ble_eq_true rfl⟩ (fun _ => h)
  · replace h := h.2 c1
    refine j_aload_n 0 dX11_keep_166 rfl ?_
    refine j_getc 97 dX11_keep_167 f_X11_127 sh_61 rfl ?_
    refine j_iload_n 2 dX11_keep_170 rfl ?_
    refine j_bipush (x := 26) dX11_keep_171 rfl (i32_c rfl) ?_
    obtain ⟨o3, h⟩ := h
    refine j_iadd (z := (x2 + 26)) dX11_keep_173 rfl o3 ?_
    refine j_iload_n 3 dX11_keep_174 rfl ?_
    obtain ⟨o4, h⟩ := h
    refine j_iadd (z := ((x2 + 26) + x3)) dX11_keep_175 rfl o4 ?_
    refine j_aload_n 0 dX11_keep_176 rfl ?_
    refine j_getc 69 dX11_keep_177 f_X11_35 sh_61 rfl ?_
    refine j_iload_n 3 dX11_keep_180 rfl ?_
    obtain ⟨o5, h⟩ := h
    refine j_zald dX11_keep_181 sh_69 o5.1 o5.2 (fun _ => ?_)
    refine j_if_eq (tgt := 189) dX11_keep_182 (by decide) (fun c6 => ?_) (fun c6 => ?_)
    · replace h := h.1 c6
      refine j_iconst (x := 0) dX11_keep_189 rfl (i32_c rfl) ?_
      obtain ⟨o7, h⟩ := h
      refine j_iast dX11_keep_190 sh_97 o7.1 o7.2 ?_
      obtain ⟨o8, h⟩ := h
      refine j_iinc (ll' := [(3, aI (x3 + 1)), (0, aR 61), (1, aI x1), (2, aI x2)]) 3 dX11_keep_191 rfl (Nat.le_of_ble_eq_true rfl) o8 rfl ?_
      refine j_goto (tgt := 160) dX11_keep_194 (by decide) ?_
      refine j_sub [1, 2, 3, 0] rfl ?_
      exact h
    · replace h := h.2 c6
      refine j_iconst (x := 1) dX11_keep_185 rfl (i32_c rfl) ?_
      refine j_goto (tgt := 190) dX11_keep_186 (by decide) ?_
      obtain ⟨o9, h⟩ := h
      refine j_iast dX11_keep_190 sh_97 o9.1 o9.2 ?_
      obtain ⟨o10, h⟩ := h
      refine j_iinc (ll' := [(3, aI (x3 + 1)), (0, aR 61), (1, aI x1), (2, aI x2)]) 3 dX11_keep_191 rfl (Nat.le_of_ble_eq_true rfl) o10 rfl ?_
      refine j_goto (tgt := 160) dX11_keep_194 (by decide) ?_
      refine j_sub [1, 2, 3, 0] rfl ?_
      exact h
set_option maxRecDepth 100000 in
set_option maxHeartbeats 4000000 in
theorem B_X11_goBack_0 {post : Int → ax_M → Prop} {M : ax_M} {x1 : Int} (h : (((x1 < 0) → post (-1001) M) ∧ ((0 ≤ x1) → (((1 < x1) → post (-1001) M) ∧ ((x1 ≤ 1) → (0 ≤ x1 ∧ x1 < 2) ∧ (((¬ (M 98 x1) = 0) → (-2147483648 ≤ (60 * x1) ∧ (60 * x1) ≤ 2147483647) ∧ (0 ≤ (60 * x1) ∧ (60 * x1) < 120) ∧ (-2147483648 ≤ ((60 * x1) + 1) ∧ ((60 * x1) + 1) ≤ 2147483647) ∧ (0 ≤ ((60 * x1) + 1) ∧ ((60 * x1) + 1) < 120) ∧ ax_J Y_X11_goBack (ax_Ki Y_X11_goBack SH post) 0 0 56 [(0, aR 61), (2, aI (60 * x1)), (3, aI 0)] [] SH (ax_up (ax_up M 61 25 (M 97 (60 * x1))) 61 29 (M 97 ((60 * x1) + 1)))) ∧ (((M 98 x1) = 0) → post (-1003) M))))))) : ax_J Y_X11_goBack (ax_Ki Y_X11_goBack SH post) 0 0 0 [(0, aR 61), (1, aI x1)] [] SH M := by
  refine j_iload_n 1 dX11_goBack_0 rfl ?_
  refine j_i2l dX11_goBack_1 ?_
  refine j_lconst (x := 0) dX11_goBack_2 rfl (i64_c rfl) ?_
  refine j_lconst (x := 1) dX11_goBack_3 rfl (i64_c rfl) ?_
  refine j_calliS (Yc := Y_X11_in) (as := [aL x1, aL 0, aL 1]) (rest := []) dX11_goBack_4 q_X11_136 ⟨Nat.le_of_ble_eq_true rfl, Nat.le_of_ble_eq_true rfl, Nat.le_of_ble_eq_true rfl, Nat.le_of_ble_eq_true rfl⟩ rfl (Nat.le_of_ble_eq_true rfl) rfl (ti_of (ll := [(0, aL x1), (2, aL 0), (4, aL 1)]) rfl (Nat.le_of_ble_eq_true rfl) rfl (fun _ => ?_))
  refine j_lload_n 0 dX11_in_0 rfl ?_
  refine j_lload_n 1 dX11_in_1 rfl ?_
  refine j_lcmp_lt (tgt := 17) dX11_in_2 dX11_in_3 (by decide) (fun c1 => ?_) (fun c1 => ?_)
  · replace h := h.1 c1
    refine j_iconst (x := 0) dX11_in_17 rfl (i32_c rfl) ?_
    refine j_zret dX11_in_18 rfl ⟨Nat.le_of_ble_eq_true rfl, Nat.le_of_ble_eq_true rfl⟩ (by decide) ?_
    refine j_if_ne (tgt := 14) dX11_goBack_7 (by decide) (fun c => absurd c (by decide)) (fun _ => ?_)
    refine j_sipush (x := (-1001)) dX11_goBack_10 rfl (i32_c rfl) ?_
    exact j_iret dX11_goBack_13 rfl ⟨Nat.le_of_ble_eq_true rfl, Nat.le_of_ble_eq_true rfl⟩ (fun _ => h)
  · replace h := h.2 c1
    refine j_lload_n 0 dX11_in_6 rfl ?_
    refine j_lload 2 dX11_in_7 rfl ?_
    refine j_lcmp_gt (tgt := 17) dX11_in_9 dX11_in_10 (by decide) (fun c2 => ?_) (fun c2 => ?_)
    · replace h := h.1 c2
      refine j_iconst (x := 0) dX11_in_17 rfl (i32_c rfl) ?_
      refine j_zret dX11_in_18 rfl ⟨Nat.le_of_ble_eq_true rfl, Nat.le_of_ble_eq_true rfl⟩ (by decide) ?_
      refine j_if_ne (tgt := 14) dX11_goBack_7 (by decide) (fun c => absurd c (by decide)) (fun _ => ?_)
      refine j_sipush (x := (-1001)) dX11_goBack_10 rfl (i32_c rfl) ?_
      exact j_iret dX11_goBack_13 rfl ⟨Nat.le_of_ble_eq_true rfl, Nat.le_of_ble_eq_true rfl⟩ (fun _ => h)
    · replace h := h.2 c2
      refine j_iconst (x := 1) dX11_in_13 rfl (i32_c rfl) ?_
      refine j_goto (tgt := 18) dX11_in_14 (by decide) ?_
      refine j_zret dX11_in_18 rfl ⟨Nat.le_of_ble_eq_true rfl, Nat.le_of_ble_eq_true rfl⟩ (by decide) ?_
      refine j_if_ne (tgt := 14) dX11_goBack_7 (by decide) (fun _ => ?_) (fun c => absurd c (by decide))
      refine j_aload_n 0 dX11_goBack_14 rfl ?_
      refine j_getc 98 dX11_goBack_15 f_X11_130 sh_61 rfl ?_
      refine j_iload_n 1 dX11_goBack_18 rfl ?_
      obtain ⟨o3, h⟩ := h
      refine j_zald dX11_goBack_19 sh_98 o3.1 o3.2 (fun _ => ?_)
      refine j_if_ne (tgt := 27) dX11_goBack_20 (by decide) (fun c4 => ?_) (fun c4 => ?_)
      · replace h := h.1 c4
        refine j_bipush (x := 60) dX11_goBack_27 rfl (i32_c rfl) ?_
        refine j_iload_n 1 dX11_goBack_29 rfl ?_
        obtain ⟨o5, h⟩ := h
        refine j_imul (z := (60 * x1)) dX11_goBack_30 rfl o5 ?_
        refine j_istore_n (ll' := [(2, aI (60 * x1)), (0, aR 61), (1, aI x1)]) dX11_goBack_31 (Nat.le_of_ble_eq_true rfl) rfl ?_
        refine j_aload_n 1 dX11_goBack_32 rfl ?_
        refine j_aload_n 1 dX11_goBack_33 rfl ?_
        refine j_getc 97 dX11_goBack_34 f_X11_127 sh_61 rfl ?_
        refine j_iload_n 0 dX11_goBack_37 rfl ?_
        obtain ⟨o6, h⟩ := h
        refine j_iald dX11_goBack_38 sh_97 o6.1 o6.2 (fun _ => ?_)
        refine j_puti (i := 25) dX11_goBack_39 p_X11_240 (fun h => by cases h) sh_61 rfl rfl ?_
        refine j_aload_n 1 dX11_goBack_42 rfl ?_
        refine j_aload_n 1 dX11_goBack_43 rfl ?_
        refine j_getc 97 dX11_goBack_44 f_X11_127 sh_61 rfl ?_
        refine j_iload_n 0 dX11_goBack_47 rfl ?_
        refine j_iconst (x := 1) dX11_goBack_48 rfl (i32_c rfl) ?_
        obtain ⟨o7, h⟩ := h
        refine j_iadd (z := ((60 * x1) + 1)) dX11_goBack_49 rfl o7 ?_
        obtain ⟨o8, h⟩ := h
        refine j_iald dX11_goBack_50 sh_97 o8.1 o8.2 (fun _ => ?_)
        refine j_puti (i := 29) dX11_goBack_51 p_X11_243 (fun h => by cases h) sh_61 rfl rfl ?_
        refine j_iconst (x := 0) dX11_goBack_54 rfl (i32_c rfl) ?_
        refine j_istore_n (ll' := [(3, aI 0), (2, aI (60 * x1)), (0, aR 61), (1, aI x1)]) dX11_goBack_55 (Nat.le_of_ble_eq_true rfl) rfl ?_
        refine j_sub [2, 1, 0] rfl ?_
        exact h
      · replace h := h.2 c4
        refine j_sipush (x := (-1003)) dX11_goBack_23 rfl (i32_c rfl) ?_
        exact j_iret dX11_goBack_26 rfl ⟨Nat.le_of_ble_eq_true rfl, Nat.le_of_ble_eq_true rfl⟩ (fun _ => h)
theorem E_X11_goBack {post : Int → ax_M → Prop} {M : ax_M} {x1 : Int} (h : ax_mr SH M → (((x1 < 0) → post (-1001) M) ∧ ((0 ≤ x1) → (((1 < x1) → post (-1001) M) ∧ ((x1 ≤ 1) → (0 ≤ x1 ∧ x1 < 2) ∧ (((¬ (M 98 x1) = 0) → (-2147483648 ≤ (60 * x1) ∧ (60 * x1) ≤ 2147483647) ∧ (0 ≤ (60 * x1) ∧ (60 * x1) < 120) ∧ (-2147483648 ≤ ((60 * x1) + 1) ∧ ((60 * x1) + 1) ≤ 2147483647) ∧ (0 ≤ ((60 * x1) + 1) ∧ ((60 * x1) + 1) < 120) ∧ ax_J Y_X11_goBack (ax_Ki Y_X11_goBack SH post) 0 0 56 [(0, aR 61), (2, aI (60 * x1)), (3, aI 0)] [] SH (ax_up (ax_up M 61 25 (M 97 (60 * x1))) 61 29 (M 97 ((60 * x1) + 1)))) ∧ (((M 98 x1) = 0) → post (-1003) M))))))) : ax_Ti Y_X11_goBack [aR 61, aI x1] SH M post :=
  ti_of rfl (Nat.le_of_ble_eq_true rfl) rfl (fun q => B_X11_goBack_0 (h q))
set_option maxRecDepth 100000 in
set_option maxHeartbeats 4000000 in
theorem B_X11_goBack_56 {post : Int → ax_M → Prop} {M : ax_M} {x2 x3 : Int} (h : (((8 ≤ x3) → ax_J Y_X11_goBack (ax_Ki Y_X11_goBack SH post) 0 0 140 [(0, aR 61), (2, aI x2), (3, aI 0)] [] SH M) ∧ ((x3 < 8) → (-2147483648 ≤ (x2 + 2) ∧ (x2 + 2) ≤ 2147483647) ∧ (-2147483648 ≤ ((x2 + 2) + x3) ∧ ((x2 + 2) + x3) ≤ 2147483647) ∧ (0 ≤ ((x2 + 2) + x3) ∧ ((x2 + 2) + x3) < 120) ∧ (0 ≤ x3 ∧ x3 < 8) ∧ (-2147483648 ≤ (x2 + 10) ∧ (x2 + 10) ≤ 2147483647) ∧ (-2147483648 ≤ ((x2 + 10) + x3) ∧ ((x2 + 10) + x3) ≤ 2147483647) ∧ (0 ≤ ((x2 + 10) + x3) ∧ ((x2 + 10) + x3) < 120) ∧ (0 ≤ (M 97 ((x2 + 10) + x3))) ∧ (((¬ ((M 97 ((x2 + 10) + x3)) % 2) = 1) → ((((M 97 ((x2 + 10) + x3)) ≤ 1) → (-2147483648 ≤ (x3 + 1) ∧ (x3 + 1) ≤ 2147483647) ∧ ax_J Y_X11_goBack (ax_Ki Y_X11_goBack SH post) 0 0 56 [(0, aR 61), (2, aI x2), (3, aI (x3 + 1))] [] SH (ax_up (ax_up (ax_up M 72 x3 (M 97 ((x2 + 2) + x3))) 73 x3 0) 74 x3 0)) ∧ ((1 < (M 97 ((x2 + 10) + x3))) → (-2147483648 ≤ (x3 + 1) ∧ (x3 + 1) ≤ 2147483647) ∧ ax_J Y_X11_goBack (ax_Ki Y_X11_goBack SH post) 0 0 56 [(0, aR 61), (2, aI x2), (3, aI (x3 + 1))] [] SH (ax_up (ax_up (ax_up M 72 x3 (M 97 ((x2 + 2) + x3))) 73 x3 0) 74 x3 1)))) ∧ ((((M 97 ((x2 + 10) + x3)) % 2) = 1) → ((((M 97 ((x2 + 10) + x3)) ≤ 1) → (-2147483648 ≤ (x3 + 1) ∧ (x3 + 1) ≤ 2147483647) ∧ ax_J Y_X11_goBack (ax_Ki Y_X11_goBack SH post) 0 0 56 [(0, aR 61), (2, aI x2), (3, aI (x3 + 1))] [] SH (ax_up (ax_up (ax_up M 72 x3 (M 97 ((x2 + 2) + x3))) 73 x3 1) 74 x3 0)) ∧ ((1 < (M 97 ((x2 + 10) + x3))) → (-2147483648 ≤ (x3 + 1) ∧ (x3 + 1) ≤ 2147483647) ∧ ax_J Y_X11_goBack (ax_Ki Y_X11_goBack SH post) 0 0 56 [(0, aR 61), (2, aI x2), (3, aI (x3 + 1))] [] SH (ax_up (ax_up (ax_up M 72 x3 (M 97 ((x2 + 2) + x3))) 73 x3 1) 74 x3 1)))))))) : ax_J Y_X11_goBack (ax_Ki Y_X11_goBack SH post) 0 0 56 [(0, aR 61), (2, aI x2), (3, aI x3)] [] SH M := by
  refine j_iload_n 2 dX11_goBack_56 rfl ?_
  refine j_bipush (x := 8) dX11_goBack_57 rfl (i32_c rfl) ?_
  refine j_icmp_ge (tgt := 138) dX11_goBack_59 (by decide) (fun c1 => ?_) (fun c1 => ?_)
  · replace h := h.1 c1
    refine j_iconst (x := 0) dX11_goBack_138 rfl (i32_c rfl) ?_
    refine j_istore_n (ll' := [(3, aI 0), (0, aR 61), (2, aI x2)]) dX11_goBack_139 (Nat.le_of_ble_eq_true rfl) rfl ?_
    refine j_sub [1, 2, 0] rfl ?_
    exact h
  · replace h := h.2 c1
    refine j_aload_n 0 dX11_goBack_62 rfl ?_
    refine j_getc 72 dX11_goBack_63 f_X11_48 sh_61 rfl ?_
    refine j_iload_n 2 dX11_goBack_66 rfl ?_
    refine j_aload_n 0 dX11_goBack_67 rfl ?_
    refine j_getc 97 dX11_goBack_68 f_X11_127 sh_61 rfl ?_
    refine j_iload_n 1 dX11_goBack_71 rfl ?_
    refine j_iconst (x := 2) dX11_goBack_72 rfl (i32_c rfl) ?_
    obtain ⟨o2, h⟩ := h
    refine j_iadd (z := (x2 + 2)) dX11_goBack_73 rfl o2 ?_
    refine j_iload_n 2 dX11_goBack_74 rfl ?_
    obtain ⟨o3, h⟩ := h
    refine j_iadd (z := ((x2 + 2) + x3)) dX11_goBack_75 rfl o3 ?_
    obtain ⟨o4, h⟩ := h
    refine j_iald dX11_goBack_76 sh_97 o4.1 o4.2 (fun _ => ?_)
    obtain ⟨o5, h⟩ := h
    refine j_iast dX11_goBack_77 sh_72 o5.1 o5.2 ?_
    refine j_aload_n 0 dX11_goBack_78 rfl ?_
    refine j_getc 73 dX11_goBack_79 f_X11_51 sh_61 rfl ?_
    refine j_iload_n 2 dX11_goBack_82 rfl ?_
    refine j_aload_n 0 dX11_goBack_83 rfl ?_
    refine j_getc 97 dX11_goBack_84 f_X11_127 sh_61 rfl ?_
    refine j_iload_n 1 dX11_goBack_87 rfl ?_
    refine j_bipush (x := 10) dX11_goBack_88 rfl (i32_c rfl) ?_
    obtain ⟨o6, h⟩ := h
    refine j_iadd (z := (x2 + 10)) dX11_goBack_90 rfl o6 ?_
    refine j_iload_n 2 dX11_goBack_91 rfl ?_
    obtain ⟨o7, h⟩ := h
    refine j_iadd (z := ((x2 + 10) + x3)) dX11_goBack_92 rfl o7 ?_
    obtain ⟨o8, h⟩ := h
    refine j_iald dX11_goBack_93 sh_97 o8.1 o8.2 (fun _ => ?_)
    refine j_iconst (x := 2) dX11_goBack_94 rfl (i32_c rfl) ?_
    obtain ⟨o9, h⟩ := h
    refine j_irem (z := ((M 97 ((x2 + 10) + x3)) % 2)) dX11_goBack_95 rfl o9 (by decide) ?_
    refine j_iconst (x := 1) dX11_goBack_96 rfl (i32_c rfl) ?_
    refine j_icmp_ne (tgt := 104) dX11_goBack_97 (by decide) (fun c10 => ?_) (fun c10 => ?_)
    · replace h := h.1 c10
      refine j_iconst (x := 0) dX11_goBack_104 rfl (i32_c rfl) ?_
      refine j_zast dX11_goBack_105 sh_73 o5.1 o5.2 (by decide) ?_
      refine j_aload_n 0 dX11_goBack_106 rfl ?_
      refine j_getc 74 dX11_goBack_107 f_X11_54 sh_61 rfl ?_
      refine j_iload_n 2 dX11_goBack_110 rfl ?_
      refine j_aload_n 0 dX11_goBack_111 rfl ?_
      refine j_getc 97 dX11_goBack_112 f_X11_127 sh_61 rfl ?_
      refine j_iload_n 1 dX11_goBack_115 rfl ?_
      refine j_bipush (x := 10) dX11_goBack_116 rfl (i32_c rfl) ?_
      refine j_iadd (z := (x2 + 10)) dX11_goBack_118 rfl o6 ?_
      refine j_iload_n 2 dX11_goBack_119 rfl ?_
      refine j_iadd (z := ((x2 + 10) + x3)) dX11_goBack_120 rfl o7 ?_
      refine j_iald dX11_goBack_121 sh_97 o8.1 o8.2 (fun _ => ?_)
      refine j_iconst (x := 1) dX11_goBack_122 rfl (i32_c rfl) ?_
      refine j_icmp_le (tgt := 130) dX11_goBack_123 (by decide) (fun c11 => ?_) (fun c11 => ?_)
      · replace h := h.1 c11
        refine j_iconst (x := 0) dX11_goBack_130 rfl (i32_c rfl) ?_
        refine j_zast dX11_goBack_131 sh_74 o5.1 o5.2 (by decide) ?_
        obtain ⟨o12, h⟩ := h
        refine j_iinc (ll' := [(3, aI (x3 + 1)), (0, aR 61), (2, aI x2)]) 2 dX11_goBack_132 rfl (Nat.le_of_ble_eq_true rfl) o12 rfl ?_
        refine j_goto (tgt := 56) dX11_goBack_135 (by decide) ?_
        refine j_sub [1, 2, 0] rfl ?_
        exact h
      · replace h := h.2 c11
        refine j_iconst (x := 1) dX11_goBack_126 rfl (i32_c rfl) ?_
        refine j_goto (tgt := 131) dX11_goBack_127 (by decide) ?_
        refine j_zast dX11_goBack_131 sh_74 o5.1 o5.2 (by decide) ?_
        obtain ⟨o13, h⟩ := h
        refine j_iinc (ll' := [(3, aI (x3 + 1)), (0, aR 61), (2, aI x2)]) 2 dX11_goBack_132 rfl (Nat.le_of_ble_eq_true rfl) o13 rfl ?_
        refine j_goto (tgt := 56) dX11_goBack_135 (by decide) ?_
        refine j_sub [1, 2, 0] rfl ?_
        exact h
    · replace h := h.2 c10
      refine j_iconst (x := 1) dX11_goBack_100 rfl (i32_c rfl) ?_
      refine j_goto (tgt := 105) dX11_goBack_101 (by decide) ?_
      refine j_zast dX11_goBack_105 sh_73 o5.1 o5.2 (by decide) ?_
      refine j_aload_n 0 dX11_goBack_106 rfl ?_
      refine j_getc 74 dX11_goBack_107 f_X11_54 sh_61 rfl ?_
      refine j_iload_n 2 dX11_goBack_110 rfl ?_
      refine j_aload_n 0 dX11_goBack_111 rfl ?_
      refine j_getc 97 dX11_goBack_112 f_X11_127 sh_61 rfl ?_
      refine j_iload_n 1 dX11_goBack_115 rfl ?_
      refine j_bipush (x := 10) dX11_goBack_116 rfl (i32_c rfl) ?_
      refine j_iadd (z := (x2 + 10)) dX11_goBack_118 rfl o6 ?_
      refine j_iload_n 2 dX11_goBack_119 rfl ?_
      refine j_iadd (z := ((x2 + 10) + x3)) dX11_goBack_120 rfl o7 ?_
      refine j_iald dX11_goBack_121 sh_97 o8.1 o8.2 (fun _ => ?_)
      refine j_iconst (x := 1) dX11_goBack_122 rfl (i32_c rfl) ?_
      refine j_icmp_le (tgt := 130) dX11_goBack_123 (by decide) (fun c14 => ?_) (fun c14 => ?_)
      · replace h := h.1 c14
        refine j_iconst (x := 0) dX11_goBack_130 rfl (i32_c rfl) ?_
        refine j_zast dX11_goBack_131 sh_74 o5.1 o5.2 (by decide) ?_
        obtain ⟨o15, h⟩ := h
        refine j_iinc (ll' := [(3, aI (x3 + 1)), (0, aR 61), (2, aI x2)]) 2 dX11_goBack_132 rfl (Nat.le_of_ble_eq_true rfl) o15 rfl ?_
        refine j_goto (tgt := 56) dX11_goBack_135 (by decide) ?_
        refine j_sub [1, 2, 0] rfl ?_
        exact h
      · replace h := h.2 c14
        refine j_iconst (x := 1) dX11_goBack_126 rfl (i32_c rfl) ?_
        refine j_goto (tgt := 131) dX11_goBack_127 (by decide) ?_
        refine j_zast dX11_goBack_131 sh_74 o5.1 o5.2 (by decide) ?_
        obtain ⟨o16, h⟩ := h
        refine j_iinc (ll' := [(3, aI (x3 + 1)), (0, aR 61), (2, aI x2)]) 2 dX11_goBack_132 rfl (Nat.le_of_ble_eq_true rfl) o16 rfl ?_
        refine j_goto (tgt := 56) dX11_goBack_135 (by decide) ?_
        refine j_sub [1, 2, 0] rfl ?_
        exact h
set_option maxRecDepth 100000 in
set_option maxHeartbeats 4000000 in
theorem B_X11_goBack_140 {post : Int → ax_M → Prop} {M : ax_M} {x2 x3 : Int} (h : (((4 ≤ x3) → ax_J Y_X11_goBack (ax_Ki Y_X11_goBack SH post) 0 0 187 [(0, aR 61), (2, aI x2), (3, aI 0)] [] SH M) ∧ ((x3 < 4) → (-2147483648 ≤ (x2 + 18) ∧ (x2 + 18) ≤ 2147483647) ∧ (-2147483648 ≤ ((x2 + 18) + x3) ∧ ((x2 + 18) + x3) ≤ 2147483647) ∧ (0 ≤ ((x2 + 18) + x3) ∧ ((x2 + 18) + x3) < 120) ∧ (0 ≤ x3 ∧ x3 < 4) ∧ (-2147483648 ≤ (x2 + 22) ∧ (x2 + 22) ≤ 2147483647) ∧ (-2147483648 ≤ ((x2 + 22) + x3) ∧ ((x2 + 22) + x3) ≤ 2147483647) ∧ (0 ≤ ((x2 + 22) + x3) ∧ ((x2 + 22) + x3) < 120) ∧ (-2147483648 ≤ (x3 + 1) ∧ (x3 + 1) ≤ 2147483647) ∧ ax_J Y_X11_goBack (ax_Ki Y_X11_goBack SH post) 0 0 140 [(0, aR 61), (2, aI x2), (3, aI (x3 + 1))] [] SH (ax_up (ax_up M 75 x3 (M 97 ((x2 + 18) + x3))) 76 x3 (M 97 ((x2 + 22) + x3)))))) : ax_J Y_X11_goBack (ax_Ki Y_X11_goBack SH post) 0 0 140 [(0, aR 61), (2, aI x2), (3, aI x3)] [] SH M := by
  refine j_iload_n 2 dX11_goBack_140 rfl ?_
  refine j_iconst (x := 4) dX11_goBack_141 rfl (i32_c rfl) ?_
  refine j_icmp_ge (tgt := 185) dX11_goBack_142 (by decide) (fun c1 => ?_) (fun c1 => ?_)
  · replace h := h.1 c1
    refine j_iconst (x := 0) dX11_goBack_185 rfl (i32_c rfl) ?_
    refine j_istore_n (ll' := [(3, aI 0), (0, aR 61), (2, aI x2)]) dX11_goBack_186 (Nat.le_of_ble_eq_true rfl) rfl ?_
    refine j_sub [1, 2, 0] rfl ?_
    exact h
  · replace h := h.2 c1
    refine j_aload_n 0 dX11_goBack_145 rfl ?_
    refine j_getc 75 dX11_goBack_146 f_X11_57 sh_61 rfl ?_
    refine j_iload_n 2 dX11_goBack_149 rfl ?_
    refine j_aload_n 0 dX11_goBack_150 rfl ?_
    refine j_getc 97 dX11_goBack_151 f_X11_127 sh_61 rfl ?_
    refine j_iload_n 1 dX11_goBack_154 rfl ?_
    refine j_bipush (x := 18) dX11_goBack_155 rfl (i32_c rfl) ?_
    obtain ⟨o2, h⟩ := h
    refine j_iadd (z := (x2 + 18)) dX11_goBack_157 rfl o2 ?_
    refine j_iload_n 2 dX11_goBack_158 rfl ?_
    obtain ⟨o3, h⟩ := h
    refine j_iadd (z := ((x2 + 18) + x3)) dX11_goBack_159 rfl o3 ?_
    obtain ⟨o4, h⟩ := h
    refine j_iald dX11_goBack_160 sh_97 o4.1 o4.2 (fun _ => ?_)
    obtain ⟨o5, h⟩ := h
    refine j_iast dX11_goBack_161 sh_75 o5.1 o5.2 ?_
    refine j_aload_n 0 dX11_goBack_162 rfl ?_
    refine j_getc 76 dX11_goBack_163 f_X11_60 sh_61 rfl ?_
    refine j_iload_n 2 dX11_goBack_166 rfl ?_
    refine j_aload_n 0 dX11_goBack_167 rfl ?_
    refine j_getc 97 dX11_goBack_168 f_X11_127 sh_61 rfl ?_
    refine j_iload_n 1 dX11_goBack_171 rfl ?_
    refine j_bipush (x := 22) dX11_goBack_172 rfl (i32_c rfl) ?_
    obtain ⟨o6, h⟩ := h
    refine j_iadd (z := (x2 + 22)) dX11_goBack_174 rfl o6 ?_
    refine j_iload_n 2 dX11_goBack_175 rfl ?_
    obtain ⟨o7, h⟩ := h
    refine j_iadd (z := ((x2 + 22) + x3)) dX11_goBack_176 rfl o7 ?_
    obtain ⟨o8, h⟩ := h
    refine j_iald dX11_goBack_177 sh_97 o8.1 o8.2 (fun _ => ?_)
    refine j_iast dX11_goBack_178 sh_76 o5.1 o5.2 ?_
    obtain ⟨o9, h⟩ := h
    refine j_iinc (ll' := [(3, aI (x3 + 1)), (0, aR 61), (2, aI x2)]) 2 dX11_goBack_179 rfl (Nat.le_of_ble_eq_true rfl) o9 rfl ?_
    refine j_goto (tgt := 140) dX11_goBack_182 (by decide) ?_
    refine j_sub [1, 2, 0] rfl ?_
    exact h
set_option maxRecDepth 100000 in
set_option maxHeartbeats 4000000 in
theorem B_X11_goBack_187 {post : Int → ax_M → Prop} {M : ax_M} {x2 x3 : Int} (h : (((24 ≤ x3) → post 1 M) ∧ ((x3 < 24) → (-2147483648 ≤ (x2 + 26) ∧ (x2 + 26) ≤ 2147483647) ∧ (-2147483648 ≤ ((x2 + 26) + x3) ∧ ((x2 + 26) + x3) ≤ 2147483647) ∧ (0 ≤ ((x2 + 26) + x3) ∧ ((x2 + 26) + x3) < 120) ∧ (((¬ (M 97 ((x2 + 26) + x3)) = 1) → (0 ≤ x3 ∧ x3 < 24) ∧ (-2147483648 ≤ (x3 + 1) ∧ (x3 + 1) ≤ 2147483647) ∧ ax_J Y_X11_goBack (ax_Ki Y_X11_goBack SH post) 0 0 187 [(0, aR 61), (2, aI x2), (3, aI (x3 + 1))] [] SH (ax_up M 69 x3 0)) ∧ (((M 97 ((x2 + 26) + x3)) = 1) → (0 ≤ x3 ∧ x3 < 24) ∧ (-2147483648 ≤ (x3 + 1) ∧ (x3 + 1) ≤ 2147483647) ∧ ax_J Y_X11_goBack (ax_Ki Y_X11_goBack SH post) 0 0 187 [(0, aR 61), (2, aI x2), (3, aI (x3 + 1))] [] SH (ax_up M 69 x3 1)))))) : ax_J Y_X11_goBack (ax_Ki Y_X11_goBack SH post) 0 0 187 [(0, aR 61), (2, aI x2), (3, aI x3)] [] SH M := by
  refine j_iload_n 2 dX11_goBack_187 rfl ?_
  refine j_bipush (x := 24) dX11_goBack_188 rfl (i32_c rfl) ?_
  refine j_icmp_ge (tgt := 225) dX11_goBack_190 (by decide) (fun c1 => ?_) (fun c1 => ?_)
  · replace h := h.1 c1
    refine j_iconst (x := 1) dX11_goBack_225 rfl (i32_c rfl) ?_
    exact j_iret dX11_goBack_226 rfl ⟨Nat.le_of_ble_eq_true rfl, Nat.le_of_ble_eq_true rfl⟩ (fun _ => h)
  · replace h := h.2 c1
    refine j_aload_n 0 dX11_goBack_193 rfl ?_
    refine j_getc 69 dX11_goBack_194 f_X11_35 sh_61 rfl ?_
    refine j_iload_n 2 dX11_goBack_197 rfl ?_
    refine j_aload_n 0 dX11_goBack_198 rfl ?_
    refine j_getc 97 dX11_goBack_199 f_X11_127 sh_61 rfl ?_
    refine j_iload_n 1 dX11_goBack_202 rfl ?_
    refine j_bipush (x := 26) dX11_goBack_203 rfl (i32_c rfl) ?_
    obtain ⟨o2, h⟩ := h
    refine j_iadd (z := (x2 + 26)) dX11_goBack_205 rfl o2 ?_
    refine j_iload_n 2 dX11_goBack_206 rfl ?_
    obtain ⟨o3, h⟩ := h
    refine j_iadd (z := ((x2 + 26) + x3)) dX11_goBack_207 rfl o3 ?_
    obtain ⟨o4, h⟩ := h
    refine j_iald dX11_goBack_208 sh_97 o4.1 o4.2 (fun _ => ?_)
    refine j_iconst (x := 1) dX11_goBack_209 rfl (i32_c rfl) ?_
    refine j_icmp_ne (tgt := 217) dX11_goBack_210 (by decide) (fun c5 => ?_) (fun c5 => ?_)
    · replace h := h.1 c5
      refine j_iconst (x := 0) dX11_goBack_217 rfl (i32_c rfl) ?_
      obtain ⟨o6, h⟩ := h
      refine j_zast dX11_goBack_218 sh_69 o6.1 o6.2 (by decide) ?_
      obtain ⟨o7, h⟩ := h
      refine j_iinc (ll' := [(3, aI (x3 + 1)), (0, aR 61), (2, aI x2)]) 2 dX11_goBack_219 rfl (Nat.le_of_ble_eq_true rfl) o7 rfl ?_
      refine j_goto (tgt := 187) dX11_goBack_222 (by decide) ?_
      refine j_sub [1, 2, 0] rfl ?_
      exact h
    · replace h := h.2 c5
      refine j_iconst (x := 1) dX11_goBack_213 rfl (i32_c rfl) ?_
      refine j_goto (tgt := 218) dX11_goBack_214 (by decide) ?_
      obtain ⟨o8, h⟩ := h
      refine j_zast dX11_goBack_218 sh_69 o8.1 o8.2 (by decide) ?_
      obtain ⟨o9, h⟩ := h
      refine j_iinc (ll' := [(3, aI (x3 + 1)), (0, aR 61), (2, aI x2)]) 2 dX11_goBack_219 rfl (Nat.le_of_ble_eq_true rfl) o9 rfl ?_
      refine j_goto (tgt := 187) dX11_goBack_222 (by decide) ?_
      refine j_sub [1, 2, 0] rfl ?_
      exact h
set_option maxRecDepth 100000 in
set_option maxHeartbeats 4000000 in
theorem B_X11_here_0 {post : Int → ax_M → Prop} {M : ax_M} (h : ((((M 61 13) ≤ (M 61 15)) → post (-1) M) ∧ (((M 61 15) < (M 61 13)) → (0 ≤ (M 61 15) ∧ (M 61 15) < 400) ∧ (((¬ (M 70 (M 61 15)) = 32) → post (M 70 (M 61 15)) M) ∧ (((M 70 (M 61 15)) = 32) → (-2147483648 ≤ ((M 61 15) + 1) ∧ ((M 61 15) + 1) ≤ 2147483647) ∧ ax_J Y_X11_here (ax_Ki Y_X11_here SH post) 0 0 0 [(0, aR 61)] [] SH (ax_up M 61 15 ((M 61 15) + 1))))))) : ax_J Y_X11_here (ax_Ki Y_X11_here SH post) 0 0 0 [(0, aR 61)] [] SH M := by
  refine j_aload_n 0 dX11_here_0 rfl ?_
  refine j_geti (i := 15) dX11_here_1 f_X11_150 sh_61 rfl rfl (fun _ => ?_)
  refine j_aload_n 0 dX11_here_4 rfl ?_
  refine j_geti (i := 13) dX11_here_5 f_X11_145 sh_61 rfl rfl (fun _ => ?_)
  refine j_icmp_ge (tgt := 38) dX11_here_8 (by decide) (fun c1 => ?_) (fun c1 => ?_)
  · replace h := h.1 c1
    refine j_aload_n 0 dX11_here_38 rfl ?_
    refine j_geti (i := 15) dX11_here_39 f_X11_150 sh_61 rfl rfl (fun _ => ?_)
    refine j_aload_n 0 dX11_here_42 rfl ?_
    refine j_geti (i := 13) dX11_here_43 f_X11_145 sh_61 rfl rfl (fun _ => ?_)
    refine j_icmp_ge (tgt := 61) dX11_here_46 (by decide) (fun _ => ?_) (fun c => by have := c1; omega)
    refine j_iconst (x := (-1)) dX11_here_61 rfl (i32_c rfl) ?_
    exact j_iret dX11_here_62 rfl ⟨Nat.le_of_ble_eq_true rfl, Nat.le_of_ble_eq_true rfl⟩ (fun _ => h)
  · replace h := h.2 c1
    refine j_aload_n 0 dX11_here_11 rfl ?_
    refine j_getc 70 dX11_here_12 f_X11_39 sh_61 rfl ?_
    refine j_aload_n 0 dX11_here_15 rfl ?_
    refine j_geti (i := 15) dX11_here_16 f_X11_150 sh_61 rfl rfl (fun _ => ?_)
    obtain ⟨o2, h⟩ := h
    refine j_iald dX11_here_19 sh_70 o2.1 o2.2 (fun _ => ?_)
    refine j_bipush (x := 32) dX11_here_20 rfl (i32_c rfl) ?_
    refine j_icmp_ne (tgt := 38) dX11_here_22 (by decide) (fun c3 => ?_) (fun c3 => ?_)
    · replace h := h.1 c3
      refine j_aload_n 0 dX11_here_38 rfl ?_
      refine j_geti (i := 15) dX11_here_39 f_X11_150 sh_61 rfl rfl (fun _ => ?_)
      refine j_aload_n 0 dX11_here_42 rfl ?_
      refine j_geti (i := 13) dX11_here_43 f_X11_145 sh_61 rfl rfl (fun _ => ?_)
      refine j_icmp_ge (tgt := 61) dX11_here_46 (by decide) (fun c => by have := c1; omega) (fun _ => ?_)
      refine j_aload_n 0 dX11_here_49 rfl ?_
      refine j_getc 70 dX11_here_50 f_X11_39 sh_61 rfl ?_
      refine j_aload_n 0 dX11_here_53 rfl ?_
      refine j_geti (i := 15) dX11_here_54 f_X11_150 sh_61 rfl rfl (fun _ => ?_)
      refine j_iald dX11_here_57 sh_70 o2.1 o2.2 (fun _ => ?_)
      refine j_goto (tgt := 62) dX11_here_58 (by decide) ?_
      exact j_iret dX11_here_62 rfl ⟨Nat.le_of_ble_eq_true rfl, Nat.le_of_ble_eq_true rfl⟩ (fun _ => h)
    · replace h := h.2 c3
      refine j_aload_n 0 dX11_here_25 rfl ?_
      refine j_dup dX11_here_26 rfl ?_
      refine j_geti (i := 15) dX11_here_27 f_X11_150 sh_61 rfl rfl (fun _ => ?_)
      refine j_iconst (x := 1) dX11_here_30 rfl (i32_c rfl) ?_
      obtain ⟨o4, h⟩ := h
      refine j_iadd (z := ((M 61 15) + 1)) dX11_here_31 rfl o4 ?_
      refine j_puti (i := 15) dX11_here_32 p_X11_150 (fun h => by cases h) sh_61 rfl rfl ?_
      refine j_goto (tgt := 0) dX11_here_35 (by decide) ?_
      exact h
theorem E_X11_here {post : Int → ax_M → Prop} {M : ax_M} (h : ax_mr SH M → ((((M 61 13) ≤ (M 61 15)) → post (-1) M) ∧ (((M 61 15) < (M 61 13)) → (0 ≤ (M 61 15) ∧ (M 61 15) < 400) ∧ (((¬ (M 70 (M 61 15)) = 32) → post (M 70 (M 61 15)) M) ∧ (((M 70 (M 61 15)) = 32) → (-2147483648 ≤ ((M 61 15) + 1) ∧ ((M 61 15) + 1) ≤ 2147483647) ∧ ax_J Y_X11_here (ax_Ki Y_X11_here SH post) 0 0 0 [(0, aR 61)] [] SH (ax_up M 61 15 ((M 61 15) + 1))))))) : ax_Ti Y_X11_here [aR 61] SH M post :=
  ti_of rfl (Nat.le_of_ble_eq_true rfl) rfl (fun q => B_X11_here_0 (h q))
set_option maxRecDepth 100000 in
set_option maxHeartbeats 4000000 in
theorem B_X11_keepPit_0 {post : ax_M → Prop} {M : ax_M} (h : ax_J Y_X11_keepPit (ax_Kv Y_X11_keepPit SH post) 0 0 34 [(0, aR 61), (1, aI 0)] [] SH (ax_up (ax_up (ax_up (ax_up M 61 0 (M 61 20)) 61 1 (M 61 21)) 61 2 (M 61 22)) 61 3 (M 61 23))) : ax_J Y_X11_keepPit (ax_Kv Y_X11_keepPit SH post) 0 0 0 [(0, aR 61)] [] SH M := by
  refine j_aload_n 0 dX11_keepPit_0 rfl ?_
  refine j_aload_n 0 dX11_keepPit_1 rfl ?_
  refine j_geti (i := 20) dX11_keepPit_2 f_X11_204 sh_61 rfl rfl (fun _ => ?_)
  refine j_puti (i := 0) dX11_keepPit_5 p_X11_133 (fun h => by cases h) sh_61 rfl rfl ?_
  refine j_aload_n 0 dX11_keepPit_8 rfl ?_
  refine j_aload_n 0 dX11_keepPit_9 rfl ?_
  refine j_geti (i := 21) dX11_keepPit_10 f_X11_210 sh_61 rfl rfl (fun _ => ?_)
  refine j_puti (i := 1) dX11_keepPit_13 p_X11_9 (fun h => by cases h) sh_61 rfl rfl ?_
  refine j_aload_n 0 dX11_keepPit_16 rfl ?_
  refine j_aload_n 0 dX11_keepPit_17 rfl ?_
  refine j_geti (i := 22) dX11_keepPit_18 f_X11_213 sh_61 rfl rfl (fun _ => ?_)
  refine j_puti (i := 2) dX11_keepPit_21 p_X11_237 (fun h => by cases h) sh_61 rfl rfl ?_
  refine j_aload_n 0 dX11_keepPit_24 rfl ?_
  refine j_aload_n 0 dX11_keepPit_25 rfl ?_
  refine j_geti (i := 23) dX11_keepPit_26 f_X11_216 sh_61 rfl rfl (fun _ => ?_)
  refine j_puti (i := 3) dX11_keepPit_29 p_X11_140 (fun h => by cases h) sh_61 rfl rfl ?_
  refine j_iconst (x := 0) dX11_keepPit_32 rfl (i32_c rfl) ?_
  refine j_istore_n (ll' := [(1, aI 0), (0, aR 61)]) dX11_keepPit_33 (Nat.le_of_ble_eq_true rfl) rfl ?_
  refine j_sub [1, 0] rfl ?_
  exact h
theorem E_X11_keepPit {post : ax_M → Prop} {M : ax_M} (h : ax_mr SH M → ax_J Y_X11_keepPit (ax_Kv Y_X11_keepPit SH post) 0 0 34 [(0, aR 61), (1, aI 0)] [] SH (ax_up (ax_up (ax_up (ax_up M 61 0 (M 61 20)) 61 1 (M 61 21)) 61 2 (M 61 22)) 61 3 (M 61 23))) : ax_Tv Y_X11_keepPit [aR 61] SH M post :=
  tv_of rfl (Nat.le_of_ble_eq_true rfl) rfl (fun q => B_X11_keepPit_0 (h q))
set_option maxRecDepth 100000 in
set_option maxHeartbeats 4000000 in
theorem B_X11_keepPit_34 {post : ax_M → Prop} {M : ax_M} {x1 : Int} (h : ((((M 61 3) ≤ x1) → post (ax_up (ax_up (ax_up (ax_up (ax_up M 61 25 0) 61 29 0) 61 50 0) 98 0 0) 98 1 0)) ∧ ((x1 < (M 61 3)) → (-2147483648 ≤ (7 * x1) ∧ (7 * x1) ≤ 2147483647) ∧ (0 ≤ (7 * x1) ∧ (7 * x1) < 168) ∧ (0 ≤ x1 ∧ x1 < 24) ∧ (-2147483648 ≤ ((7 * x1) + 1) ∧ ((7 * x1) + 1) ≤ 2147483647) ∧ (0 ≤ ((7 * x1) + 1) ∧ ((7 * x1) + 1) < 168) ∧ (-2147483648 ≤ ((7 * x1) + 2) ∧ ((7 * x1) + 2) ≤ 2147483647) ∧ (0 ≤ ((7 * x1) + 2) ∧ ((7 * x1) + 2) < 168) ∧ (-2147483648 ≤ ((7 * x1) + 3) ∧ ((7 * x1) + 3) ≤ 2147483647) ∧ (0 ≤ ((7 * x1) + 3) ∧ ((7 * x1) + 3) < 168) ∧ (-2147483648 ≤ ((7 * x1) + 4) ∧ ((7 * x1) + 4) ≤ 2147483647) ∧ (0 ≤ ((7 * x1) + 4) ∧ ((7 * x1) + 4) < 168) ∧ (-2147483648 ≤ ((7 * x1) + 5) ∧ ((7 * x1) + 5) ≤ 2147483647) ∧ (0 ≤ ((7 * x1) + 5) ∧ ((7 * x1) + 5) < 168) ∧ (-2147483648 ≤ ((7 * x1) + 6) ∧ ((7 * x1) + 6) ≤ 2147483647) ∧ (0 ≤ ((7 * x1) + 6) ∧ ((7 * x1) + 6) < 168) ∧ (-2147483648 ≤ (x1 + 1) ∧ (x1 + 1) ≤ 2147483647) ∧ ax_J Y_X11_keepPit (ax_Kv Y_X11_keepPit SH post) 0 0 34 [(0, aR 61), (1, aI (x1 + 1))] [] SH (ax_up (ax_up (ax_up (ax_up (ax_up (ax_up (ax_up (ax_up M 62 x1 (M 71 (7 * x1))) 63 x1 (M 71 ((7 * x1) + 1))) 64 x1 (M 71 ((7 * x1) + 2))) 65 x1 (M 71 ((7 * x1) + 3))) 66 x1 (M 71 ((7 * x1) + 4))) 67 x1 (M 71 ((7 * x1) + 5))) 68 x1 (M 71 ((7 * x1) + 6))) 69 x1 0)))) : ax_J Y_X11_keepPit (ax_Kv Y_X11_keepPit SH post) 0 0 34 [(0, aR 61), (1, aI x1)] [] SH M := by
  refine j_iload_n 1 dX11_keepPit_34 rfl ?_
  refine j_aload_n 0 dX11_keepPit_35 rfl ?_
  refine j_geti (i := 3) dX11_keepPit_36 f_X11_140 sh_61 rfl rfl (fun _ => ?_)
  refine j_icmp_ge (tgt := 173) dX11_keepPit_39 (by decide) (fun c1 => ?_) (fun c1 => ?_)
  · replace h := h.1 c1
    refine j_aload_n 0 dX11_keepPit_173 rfl ?_
    refine j_iconst (x := 0) dX11_keepPit_174 rfl (i32_c rfl) ?_
    refine j_puti (i := 25) dX11_keepPit_175 p_X11_240 (fun h => by cases h) sh_61 rfl rfl ?_
    refine j_aload_n 0 dX11_keepPit_178 rfl ?_
    refine j_iconst (x := 0) dX11_keepPit_179 rfl (i32_c rfl) ?_
    refine j_puti (i := 29) dX11_keepPit_180 p_X11_243 (fun h => by cases h) sh_61 rfl rfl ?_
    refine j_aload_n 0 dX11_keepPit_183 rfl ?_
    refine j_iconst (x := 0) dX11_keepPit_184 rfl (i32_c rfl) ?_
    refine j_puti (i := 50) dX11_keepPit_185 p_X11_246 (fun h => by cases h) sh_61 rfl rfl ?_
    refine j_aload_n 0 dX11_keepPit_188 rfl ?_
    refine j_getc 98 dX11_keepPit_189 f_X11_130 sh_61 rfl ?_
    refine j_iconst (x := 0) dX11_keepPit_192 rfl (i32_c rfl) ?_
    refine j_iconst (x := 0) dX11_keepPit_193 rfl (i32_c rfl) ?_
    refine j_zast dX11_keepPit_194 sh_98 (by decide) (by decide) (by decide) ?_
    refine j_aload_n 0 dX11_keepPit_195 rfl ?_
    refine j_getc 98 dX11_keepPit_196 f_X11_130 sh_61 rfl ?_
    refine j_iconst (x := 1) dX11_keepPit_199 rfl (i32_c rfl) ?_
    refine j_iconst (x := 0) dX11_keepPit_200 rfl (i32_c rfl) ?_
    refine j_zast dX11_keepPit_201 sh_98 (by decide) (by decide) (by decide) ?_
    exact j_vret dX11_keepPit_202 rfl ⟨Nat.le_of_ble_eq_true rfl, Nat.le_of_ble_eq_true rfl⟩ h
  · replace h := h.2 c1
    refine j_aload_n 0 dX11_keepPit_42 rfl ?_
    refine j_getc 62 dX11_keepPit_43 f_X11_13 sh_61 rfl ?_
    refine j_iload_n 1 dX11_keepPit_46 rfl ?_
    refine j_aload_n 0 dX11_keepPit_47 rfl ?_
    refine j_getc 71 dX11_keepPit_48 f_X11_45 sh_61 rfl ?_
    refine j_bipush (x := 7) dX11_keepPit_51 rfl (i32_c rfl) ?_
    refine j_iload_n 1 dX11_keepPit_53 rfl ?_
    obtain ⟨o2, h⟩ := h
    refine j_imul (z := (7 * x1)) dX11_keepPit_54 rfl o2 ?_
    obtain ⟨o3, h⟩ := h
    refine j_iald dX11_keepPit_55 sh_71 o3.1 o3.2 (fun _ => ?_)
    obtain ⟨o4, h⟩ := h
    refine j_iast dX11_keepPit_56 sh_62 o4.1 o4.2 ?_
    refine j_aload_n 0 dX11_keepPit_57 rfl ?_
    refine j_getc 63 dX11_keepPit_58 f_X11_17 sh_61 rfl ?_
    refine j_iload_n 1 dX11_keepPit_61 rfl ?_
    refine j_aload_n 0 dX11_keepPit_62 rfl ?_
    refine j_getc 71 dX11_keepPit_63 f_X11_45 sh_61 rfl ?_
    refine j_bipush (x := 7) dX11_keepPit_66 rfl (i32_c rfl) ?_
    refine j_iload_n 1 dX11_keepPit_68 rfl ?_
    refine j_imul (z := (7 * x1)) dX11_keepPit_69 rfl o2 ?_
    refine j_iconst (x := 1) dX11_keepPit_70 rfl (i32_c rfl) ?_
    obtain ⟨o5, h⟩ := h
    refine j_iadd (z := ((7 * x1) + 1)) dX11_keepPit_71 rfl o5 ?_
    obtain ⟨o6, h⟩ := h
    refine j_iald dX11_keepPit_72 sh_71 o6.1 o6.2 (fun _ => ?_)
    refine j_iast dX11_keepPit_73 sh_63 o4.1 o4.2 ?_
    refine j_aload_n 0 dX11_keepPit_74 rfl ?_
    refine j_getc 64 dX11_keepPit_75 f_X11_20 sh_61 rfl ?_
    refine j_iload_n 1 dX11_keepPit_78 rfl ?_
    refine j_aload_n 0 dX11_keepPit_79 rfl ?_
    refine j_getc 71 dX11_keepPit_80 f_X11_45 sh_61 rfl ?_
    refine j_bipush (x := 7) dX11_keepPit_83 rfl (i32_c rfl) ?_
    refine j_iload_n 1 dX11_keepPit_85 rfl ?_
    refine j_imul (z := (7 * x1)) dX11_keepPit_86 rfl o2 ?_
    refine j_iconst (x := 2) dX11_keepPit_87 rfl (i32_c rfl) ?_
    obtain ⟨o7, h⟩ := h
    refine j_iadd (z := ((7 * x1) + 2)) dX11_keepPit_88 rfl o7 ?_
    obtain ⟨o8, h⟩ := h
    refine j_iald dX11_keepPit_89 sh_71 o8.1 o8.2 (fun _ => ?_)
    refine j_iast dX11_keepPit_90 sh_64 o4.1 o4.2 ?_
    refine j_aload_n 0 dX11_keepPit_91 rfl ?_
    refine j_getc 65 dX11_keepPit_92 f_X11_23 sh_61 rfl ?_
    refine j_iload_n 1 dX11_keepPit_95 rfl ?_
    refine j_aload_n 0 dX11_keepPit_96 rfl ?_
    refine j_getc 71 dX11_keepPit_97 f_X11_45 sh_61 rfl ?_
    refine j_bipush (x := 7) dX11_keepPit_100 rfl (i32_c rfl) ?_
    refine j_iload_n 1 dX11_keepPit_102 rfl ?_
    refine j_imul (z := (7 * x1)) dX11_keepPit_103 rfl o2 ?_
    refine j_iconst (x := 3) dX11_keepPit_104 rfl (i32_c rfl) ?_
    obtain ⟨o9, h⟩ := h
    refine j_iadd (z := ((7 * x1) + 3)) dX11_keepPit_105 rfl o9 ?_
    obtain ⟨o10, h⟩ := h
    refine j_iald dX11_keepPit_106 sh_71 o10.1 o10.2 (fun _ => ?_)
    refine j_iast dX11_keepPit_107 sh_65 o4.1 o4.2 ?_
    refine j_aload_n 0 dX11_keepPit_108 rfl ?_
    refine j_getc 66 dX11_keepPit_109 f_X11_26 sh_61 rfl ?_
    refine j_iload_n 1 dX11_keepPit_112 rfl ?_
    refine j_aload_n 0 dX11_keepPit_113 rfl ?_
    refine j_getc 71 dX11_keepPit_114 f_X11_45 sh_61 rfl ?_
    refine j_bipush (x := 7) dX11_keepPit_117 rfl (i32_c rfl) ?_
    refine j_iload_n 1 dX11_keepPit_119 rfl ?_
    refine j_imul (z := (7 * x1)) dX11_keepPit_120 rfl o2 ?_
    refine j_iconst (x := 4) dX11_keepPit_121 rfl (i32_c rfl) ?_
    obtain ⟨o11, h⟩ := h
    refine j_iadd (z := ((7 * x1) + 4)) dX11_keepPit_122 rfl o11 ?_
    obtain ⟨o12, h⟩ := h
    refine j_iald dX11_keepPit_123 sh_71 o12.1 o12.2 (fun _ => ?_)
    refine j_iast dX11_keepPit_124 sh_66 o4.1 o4.2 ?_
    refine j_aload_n 0 dX11_keepPit_125 rfl ?_
    refine j_getc 67 dX11_keepPit_126 f_X11_29 sh_61 rfl ?_
    refine j_iload_n 1 dX11_keepPit_129 rfl ?_
    refine j_aload_n 0 dX11_keepPit_130 rfl ?_
    refine j_getc 71 dX11_keepPit_131 f_X11_45 sh_61 rfl ?_
    refine j_bipush (x := 7) dX11_keepPit_134 rfl (i32_c rfl) ?_
    refine j_iload_n 1 dX11_keepPit_136 rfl ?_
    refine j_imul (z := (7 * x1)) dX11_keepPit_137 rfl o2 ?_
    refine j_iconst (x := 5) dX11_keepPit_138 rfl (i32_c rfl) ?_
    obtain ⟨o13, h⟩ := h
    refine j_iadd (z := ((7 * x1) + 5)) dX11_keepPit_139 rfl o13 ?_
    obtain ⟨o14, h⟩ := h
    refine j_iald dX11_keepPit_140 sh_71 o14.1 o14.2 (fun _ => ?_)
    refine j_iast dX11_keepPit_141 sh_67 o4.1 o4.2 ?_
    refine j_aload_n 0 dX11_keepPit_142 rfl ?_
    refine j_getc 68 dX11_keepPit_143 f_X11_32 sh_61 rfl ?_
    refine j_iload_n 1 dX11_keepPit_146 rfl ?_
    refine j_aload_n 0 dX11_keepPit_147 rfl ?_
    refine j_getc 71 dX11_keepPit_148 f_X11_45 sh_61 rfl ?_
    refine j_bipush (x := 7) dX11_keepPit_151 rfl (i32_c rfl) ?_
    refine j_iload_n 1 dX11_keepPit_153 rfl ?_
    refine j_imul (z := (7 * x1)) dX11_keepPit_154 rfl o2 ?_
    refine j_bipush (x := 6) dX11_keepPit_155 rfl (i32_c rfl) ?_
    obtain ⟨o15, h⟩ := h
    refine j_iadd (z := ((7 * x1) + 6)) dX11_keepPit_157 rfl o15 ?_
    obtain ⟨o16, h⟩ := h
    refine j_iald dX11_keepPit_158 sh_71 o16.1 o16.2 (fun _ => ?_)
    refine j_iast dX11_keepPit_159 sh_68 o4.1 o4.2 ?_
    refine j_aload_n 0 dX11_keepPit_160 rfl ?_
    refine j_getc 69 dX11_keepPit_161 f_X11_35 sh_61 rfl ?_
    refine j_iload_n 1 dX11_keepPit_164 rfl ?_
    refine j_iconst (x := 0) dX11_keepPit_165 rfl (i32_c rfl) ?_
    refine j_zast dX11_keepPit_166 sh_69 o4.1 o4.2 (by decide) ?_
    obtain ⟨o17, h⟩ := h
    refine j_iinc (ll' := [(1, aI (x1 + 1)), (0, aR 61)]) 1 dX11_keepPit_167 rfl (Nat.le_of_ble_eq_true rfl) o17 rfl ?_
    refine j_goto (tgt := 34) dX11_keepPit_170 (by decide) ?_
    refine j_sub [1, 0] rfl ?_
    exact h
set_option maxRecDepth 100000 in
set_option maxHeartbeats 4000000 in
theorem B_X11_takeClause_0 {post : Int → ax_M → Prop} {M : ax_M} (h : ax_Tv Y_X11_readWord [aR 61] SH M (fun u1 => (((¬ (u1 61 16) = 11522) → (((¬ (u1 61 16) = 16819) → post 1 (ax_up u1 61 14 (u1 61 15))) ∧ (((u1 61 16) = 16819) → ax_Ti Y_X11_takeWay [aR 61] SH u1 (fun z3 u2 => post z3 u2)))) ∧ (((u1 61 16) = 11522) → ax_Ti Y_X11_takeOut [aR 61] SH u1 (fun z5 u4 => post z5 u4))))) : ax_J Y_X11_takeClause (ax_Ki Y_X11_takeClause SH post) 0 0 0 [(0, aR 61)] [] SH M := by
  refine j_aload_n 0 dX11_takeClause_0 rfl ?_
  refine j_callvV (Yc := Y_X11_readWord) (as := []) (rest := []) dX11_takeClause_1 q_X11_190 ⟨Nat.le_of_ble_eq_true rfl, Nat.le_of_ble_eq_true rfl, Nat.le_of_ble_eq_true rfl, Nat.le_of_ble_eq_true rfl⟩ sh_61 rfl (Nat.le_of_ble_eq_true rfl) rfl (tv_mono h (fun u1 h => ?_))
  refine j_aload_n 0 dX11_takeClause_4 rfl ?_
  refine j_getl (i := 16) dX11_takeClause_5 f_X11_157 sh_61 rfl rfl ?_
  refine j_bipush (x := 111) dX11_takeClause_8 rfl (i32_c rfl) ?_
  refine j_bipush (x := 117) dX11_takeClause_10 rfl (i32_c rfl) ?_
  refine j_bipush (x := 116) dX11_takeClause_12 rfl (i32_c rfl) ?_
  refine j_calllS (Yc := Y_X11_code) (as := [aI 111, aI 117, aI 116]) (rest := [aL (u1 61 16)]) dX11_takeClause_14 q_X11_193 ⟨Nat.le_of_ble_eq_true rfl, Nat.le_of_ble_eq_true rfl, Nat.le_of_ble_eq_true rfl, Nat.le_of_ble_eq_true rfl⟩ rfl (Nat.le_of_ble_eq_true rfl) rfl (tl_of (ll := [(0, aI 111), (1, aI 117), (2, aI 116)]) rfl (Nat.le_of_ble_eq_true rfl) rfl (fun _ => ?_))
  refine j_ldc2 (x := 27) dX11_code_0 (ax_in 1320 (by decide +kernel) rfl) (i64_c rfl) ?_
  refine j_ldc2 (x := 27) dX11_code_3 (ax_in 1320 (by decide +kernel) rfl) (i64_c rfl) ?_
  refine j_iload_n 0 dX11_code_6 rfl ?_
  refine j_i2l dX11_code_7 ?_
  refine j_ldc2 (x := 96) dX11_code_8 (ax_in 1321 (by decide +kernel) rfl) (i64_c rfl) ?_
  refine j_lsub (z := 15) dX11_code_11 rfl (i64_c rfl) ?_
  refine j_lmul (z := 405) dX11_code_12 rfl (i64_c rfl) ?_
  refine j_iload_n 1 dX11_code_13 rfl ?_
  refine j_i2l dX11_code_14 ?_
  refine j_ladd (z := 522) dX11_code_15 rfl (i64_c rfl) ?_
  refine j_ldc2 (x := 96) dX11_code_16 (ax_in 1321 (by decide +kernel) rfl) (i64_c rfl) ?_
  refine j_lsub (z := 426) dX11_code_19 rfl (i64_c rfl) ?_
  refine j_lmul (z := 11502) dX11_code_20 rfl (i64_c rfl) ?_
  refine j_iload_n 2 dX11_code_21 rfl ?_
  refine j_i2l dX11_code_22 ?_
  refine j_ladd (z := 11618) dX11_code_23 rfl (i64_c rfl) ?_
  refine j_ldc2 (x := 96) dX11_code_24 (ax_in 1321 (by decide +kernel) rfl) (i64_c rfl) ?_
  refine j_lsub (z := 11522) dX11_code_27 rfl (i64_c rfl) ?_
  refine j_lret dX11_code_28 rfl ⟨Nat.le_of_ble_eq_true rfl, Nat.le_of_ble_eq_true rfl⟩ (fun _ => ?_)
  refine j_lcmp_ne (tgt := 26) dX11_takeClause_17 dX11_takeClause_18 (by decide) (fun c1 => ?_) (fun c1 => ?_)
  · replace h := h.1 c1
    refine j_aload_n 0 dX11_takeClause_26 rfl ?_
    refine j_getl (i := 16) dX11_takeClause_27 f_X11_157 sh_61 rfl rfl ?_
    refine j_bipush (x := 119) dX11_takeClause_30 rfl (i32_c rfl) ?_
    refine j_bipush (x := 97) dX11_takeClause_32 rfl (i32_c rfl) ?_
    refine j_bipush (x := 121) dX11_takeClause_34 rfl (i32_c rfl) ?_
    refine j_calllS (Yc := Y_X11_code) (as := [aI 119, aI 97, aI 121]) (rest := [aL (u1 61 16)]) dX11_takeClause_36 q_X11_193 ⟨Nat.le_of_ble_eq_true rfl, Nat.le_of_ble_eq_true rfl, Nat.le_of_ble_eq_true rfl, Nat.le_of_ble_eq_true rfl⟩ rfl (Nat.le_of_ble_eq_true rfl) rfl (tl_of (ll := [(0, aI 119), (1, aI 97), (2, aI 121)]) rfl (Nat.le_of_ble_eq_true rfl) rfl (fun _ => ?_))
    refine j_ldc2 (x := 27) dX11_code_0 (ax_in 1320 (by decide +kernel) rfl) (i64_c rfl) ?_
    refine j_ldc2 (x := 27) dX11_code_3 (ax_in 1320 (by decide +kernel) rfl) (i64_c rfl) ?_
    refine j_iload_n 0 dX11_code_6 rfl ?_
    refine j_i2l dX11_code_7 ?_
    refine j_ldc2 (x := 96) dX11_code_8 (ax_in 1321 (by decide +kernel) rfl) (i64_c rfl) ?_
    refine j_lsub (z := 23) dX11_code_11 rfl (i64_c rfl) ?_
    refine j_lmul (z := 621) dX11_code_12 rfl (i64_c rfl) ?_
    refine j_iload_n 1 dX11_code_13 rfl ?_
    refine j_i2l dX11_code_14 ?_
    refine j_ladd (z := 718) dX11_code_15 rfl (i64_c rfl) ?_
    refine j_ldc2 (x := 96) dX11_code_16 (ax_in 1321 (by decide +kernel) rfl) (i64_c rfl) ?_
    refine j_lsub (z := 622) dX11_code_19 rfl (i64_c rfl) ?_
    refine j_lmul (z := 16794) dX11_code_20 rfl (i64_c rfl) ?_
    refine j_iload_n 2 dX11_code_21 rfl ?_
    refine j_i2l dX11_code_22 ?_
    refine j_ladd (z := 16915) dX11_code_23 rfl (i64_c rfl) ?_
    refine j_ldc2 (x := 96) dX11_code_24 (ax_in 1321 (by decide +kernel) rfl) (i64_c rfl) ?_
    refine j_lsub (z := 16819) dX11_code_27 rfl (i64_c rfl) ?_
    refine j_lret dX11_code_28 rfl ⟨Nat.le_of_ble_eq_true rfl, Nat.le_of_ble_eq_true rfl⟩ (fun _ => ?_)
    refine j_lcmp_ne (tgt := 50) dX11_takeClause_39 dX11_takeClause_40 (by decide) (fun c2 => ?_) (fun c2 => ?_)
    · replace h := h.1 c2
      refine j_aload_n 0 dX11_takeClause_50 rfl ?_
      refine j_iconst (x := 1) dX11_takeClause_51 rfl (i32_c rfl) ?_
      refine j_aload_n 0 dX11_takeClause_52 rfl ?_
      refine j_geti (i := 15) dX11_takeClause_53 f_X11_150 sh_61 rfl rfl (fun _ => ?_)
      refine j_calliV (Yc := Y_X11_fails) (as := [aI 1, aI (u1 61 15)]) (rest := []) dX11_takeClause_56 q_X11_180 ⟨Nat.le_of_ble_eq_true rfl, Nat.le_of_ble_eq_true rfl, Nat.le_of_ble_eq_true rfl, Nat.le_of_ble_eq_true rfl⟩ sh_61 rfl (Nat.le_of_ble_eq_true rfl) rfl (ti_of (ll := [(0, aR 61), (1, aI 1), (2, aI (u1 61 15))]) rfl (Nat.le_of_ble_eq_true rfl) rfl (fun _ => ?_))
      refine j_aload_n 0 dX11_fails_0 rfl ?_
      refine j_iload_n 2 dX11_fails_1 rfl ?_
      refine j_puti (i := 14) dX11_fails_2 p_X11_42 (fun h => by cases h) sh_61 rfl rfl ?_
      refine j_iload_n 1 dX11_fails_5 rfl ?_
      refine j_iret dX11_fails_6 rfl ⟨Nat.le_of_ble_eq_true rfl, Nat.le_of_ble_eq_true rfl⟩ (fun _ => ?_)
      exact j_iret dX11_takeClause_59 rfl ⟨Nat.le_of_ble_eq_true rfl, Nat.le_of_ble_eq_true rfl⟩ (fun _ => h)
    · replace h := h.2 c2
      refine j_aload_n 0 dX11_takeClause_43 rfl ?_
      refine j_calliV (Yc := Y_X11_takeWay) (as := []) (rest := []) dX11_takeClause_44 q_X11_225 ⟨Nat.le_of_ble_eq_true rfl, Nat.le_of_ble_eq_true rfl, Nat.le_of_ble_eq_true rfl, Nat.le_of_ble_eq_true rfl⟩ sh_61 rfl (Nat.le_of_ble_eq_true rfl) rfl (ti_mono h (fun z3 u2 h => ?_))
      refine j_goto (tgt := 59) dX11_takeClause_47 (by decide) ?_
      exact j_iret dX11_takeClause_59 rfl ⟨Nat.le_of_ble_eq_true rfl, Nat.le_of_ble_eq_true rfl⟩ (fun _ => h)
  · replace h := h.2 c1
    refine j_aload_n 0 dX11_takeClause_21 rfl ?_
    refine j_calliV (Yc := Y_X11_takeOut) (as := []) (rest := []) dX11_takeClause_22 q_X11_222 ⟨Nat.le_of_ble_eq_true rfl, Nat.le_of_ble_eq_true rfl, Nat.le_of_ble_eq_true rfl, Nat.le_of_ble_eq_true rfl⟩ sh_61 rfl (Nat.le_of_ble_eq_true rfl) rfl (ti_mono h (fun z5 u4 h => ?_))
    exact j_iret dX11_takeClause_25 rfl ⟨Nat.le_of_ble_eq_true rfl, Nat.le_of_ble_eq_true rfl⟩ (fun _ => h)
theorem E_X11_takeClause {post : Int → ax_M → Prop} {M : ax_M} (h : ax_mr SH M → ax_Tv Y_X11_readWord [aR 61] SH M (fun u1 => (((¬ (u1 61 16) = 11522) → (((¬ (u1 61 16) = 16819) → post 1 (ax_up u1 61 14 (u1 61 15))) ∧ (((u1 61 16) = 16819) → ax_Ti Y_X11_takeWay [aR 61] SH u1 (fun z3 u2 => post z3 u2)))) ∧ (((u1 61 16) = 11522) → ax_Ti Y_X11_takeOut [aR 61] SH u1 (fun z5 u4 => post z5 u4))))) : ax_Ti Y_X11_takeClause [aR 61] SH M post :=
  ti_of rfl (Nat.le_of_ble_eq_true rfl) rfl (fun q => B_X11_takeClause_0 (h q))
set_option maxRecDepth 100000 in
set_option maxHeartbeats 4000000 in
theorem B_X11_takePlaces_0 {post : Int → ax_M → Prop} {M : ax_M} (h : ax_Tv Y_X11_readWord [aR 61] SH M (fun u1 => ((((u1 61 16) = 235981828) → ax_Ti Y_X11_takeNumber [aR 61, aI 2, aI 12] SH (ax_up u1 61 15 (u1 61 17)) (fun z3 u2 => (((z3 ≤ 0) → ax_Ti Y_X11_takeStop [aR 61] SH (ax_up u2 61 20 (u2 61 18)) (fun z5 u4 => post z5 u4)) ∧ ((0 < z3) → post z3 (ax_up u2 61 20 (u2 61 18)))))) ∧ ((¬ (u1 61 16) = 235981828) → post 1 (ax_up u1 61 14 (u1 61 15)))))) : ax_J Y_X11_takePlaces (ax_Ki Y_X11_takePlaces SH post) 0 0 0 [(0, aR 61)] [] SH M := by
  refine j_aload_n 0 dX11_takePlaces_0 rfl ?_
  refine j_callvV (Yc := Y_X11_readWord) (as := []) (rest := []) dX11_takePlaces_1 q_X11_190 ⟨Nat.le_of_ble_eq_true rfl, Nat.le_of_ble_eq_true rfl, Nat.le_of_ble_eq_true rfl, Nat.le_of_ble_eq_true rfl⟩ sh_61 rfl (Nat.le_of_ble_eq_true rfl) rfl (tv_mono h (fun u1 h => ?_))
  refine j_bipush (x := 112) dX11_takePlaces_4 rfl (i32_c rfl) ?_
  refine j_bipush (x := 108) dX11_takePlaces_6 rfl (i32_c rfl) ?_
  refine j_bipush (x := 97) dX11_takePlaces_8 rfl (i32_c rfl) ?_
  refine j_calllS (Yc := Y_X11_code) (as := [aI 112, aI 108, aI 97]) (rest := []) dX11_takePlaces_10 q_X11_193 ⟨Nat.le_of_ble_eq_true rfl, Nat.le_of_ble_eq_true rfl, Nat.le_of_ble_eq_true rfl, Nat.le_of_ble_eq_true rfl⟩ rfl (Nat.le_of_ble_eq_true rfl) rfl (tl_of (ll := [(0, aI 112), (1, aI 108), (2, aI 97)]) rfl (Nat.le_of_ble_eq_true rfl) rfl (fun _ => ?_))
  refine j_ldc2 (x := 27) dX11_code_0 (ax_in 1320 (by decide +kernel) rfl) (i64_c rfl) ?_
  refine j_ldc2 (x := 27) dX11_code_3 (ax_in 1320 (by decide +kernel) rfl) (i64_c rfl) ?_
  refine j_iload_n 0 dX11_code_6 rfl ?_
  refine j_i2l dX11_code_7 ?_
  refine j_ldc2 (x := 96) dX11_code_8 (ax_in 1321 (by decide +kernel) rfl) (i64_c rfl) ?_
  refine j_lsub (z := 16) dX11_code_11 rfl (i64_c rfl) ?_
  refine j_lmul (z := 432) dX11_code_12 rfl (i64_c rfl) ?_
  refine j_iload_n 1 dX11_code_13 rfl ?_
  refine j_i2l dX11_code_14 ?_
  refine j_ladd (z := 540) dX11_code_15 rfl (i64_c rfl) ?_
  refine j_ldc2 (x := 96) dX11_code_16 (ax_in 1321 (by decide +kernel) rfl) (i64_c rfl) ?_
  refine j_lsub (z := 444) dX11_code_19 rfl (i64_c rfl) ?_
  refine j_lmul (z := 11988) dX11_code_20 rfl (i64_c rfl) ?_
  refine j_iload_n 2 dX11_code_21 rfl ?_
  refine j_i2l dX11_code_22 ?_
  refine j_ladd (z := 12085) dX11_code_23 rfl (i64_c rfl) ?_
  refine j_ldc2 (x := 96) dX11_code_24 (ax_in 1321 (by decide +kernel) rfl) (i64_c rfl) ?_
  refine j_lsub (z := 11989) dX11_code_27 rfl (i64_c rfl) ?_
  refine j_lret dX11_code_28 rfl ⟨Nat.le_of_ble_eq_true rfl, Nat.le_of_ble_eq_true rfl⟩ (fun _ => ?_)
  refine j_bipush (x := 99) dX11_takePlaces_13 rfl (i32_c rfl) ?_
  refine j_calllS (Yc := Y_X11_longer) (as := [aL 11989, aI 99]) (rest := []) dX11_takePlaces_15 q_X11_197 ⟨Nat.le_of_ble_eq_true rfl, Nat.le_of_ble_eq_true rfl, Nat.le_of_ble_eq_true rfl, Nat.le_of_ble_eq_true rfl⟩ rfl (Nat.le_of_ble_eq_true rfl) rfl (tl_of (ll := [(0, aL 11989), (2, aI 99)]) rfl (Nat.le_of_ble_eq_true rfl) rfl (fun _ => ?_))
  refine j_ldc2 (x := 27) dX11_longer_0 (ax_in 1320 (by decide +kernel) rfl) (i64_c rfl) ?_
  refine j_lload_n 0 dX11_longer_3 rfl ?_
  refine j_lmul (z := 323703) dX11_longer_4 rfl (i64_c rfl) ?_
  refine j_iload_n 1 dX11_longer_5 rfl ?_
  refine j_i2l dX11_longer_6 ?_
  refine j_ladd (z := 323802) dX11_longer_7 rfl (i64_c rfl) ?_
  refine j_ldc2 (x := 96) dX11_longer_8 (ax_in 1321 (by decide +kernel) rfl) (i64_c rfl) ?_
  refine j_lsub (z := 323706) dX11_longer_11 rfl (i64_c rfl) ?_
  refine j_lret dX11_longer_12 rfl ⟨Nat.le_of_ble_eq_true rfl, Nat.le_of_ble_eq_true rfl⟩ (fun _ => ?_)
  refine j_bipush (x := 101) dX11_takePlaces_18 rfl (i32_c rfl) ?_
  refine j_calllS (Yc := Y_X11_longer) (as := [aL 323706, aI 101]) (rest := []) dX11_takePlaces_20 q_X11_197 ⟨Nat.le_of_ble_eq_true rfl, Nat.le_of_ble_eq_true rfl, Nat.le_of_ble_eq_true rfl, Nat.le_of_ble_eq_true rfl⟩ rfl (Nat.le_of_ble_eq_true rfl) rfl (tl_of (ll := [(0, aL 323706), (2, aI 101)]) rfl (Nat.le_of_ble_eq_true rfl) rfl (fun _ => ?_))
  refine j_ldc2 (x := 27) dX11_longer_0 (ax_in 1320 (by decide +kernel) rfl) (i64_c rfl) ?_
  refine j_lload_n 0 dX11_longer_3 rfl ?_
  refine j_lmul (z := 8740062) dX11_longer_4 rfl (i64_c rfl) ?_
  refine j_iload_n 1 dX11_longer_5 rfl ?_
  refine j_i2l dX11_longer_6 ?_
  refine j_ladd (z := 8740163) dX11_longer_7 rfl (i64_c rfl) ?_
  refine j_ldc2 (x := 96) dX11_longer_8 (ax_in 1321 (by decide +kernel) rfl) (i64_c rfl) ?_
  refine j_lsub (z := 8740067) dX11_longer_11 rfl (i64_c rfl) ?_
  refine j_lret dX11_longer_12 rfl ⟨Nat.le_of_ble_eq_true rfl, Nat.le_of_ble_eq_true rfl⟩ (fun _ => ?_)
  refine j_bipush (x := 115) dX11_takePlaces_23 rfl (i32_c rfl) ?_
  refine j_calllS (Yc := Y_X11_longer) (as := [aL 8740067, aI 115]) (rest := []) dX11_takePlaces_25 q_X11_197 ⟨Nat.le_of_ble_eq_true rfl, Nat.le_of_ble_eq_true rfl, Nat.le_of_ble_eq_true rfl, Nat.le_of_ble_eq_true rfl⟩ rfl (Nat.le_of_ble_eq_true rfl) rfl (tl_of (ll := [(0, aL 8740067), (2, aI 115)]) rfl (Nat.le_of_ble_eq_true rfl) rfl (fun _ => ?_))
  refine j_ldc2 (x := 27) dX11_longer_0 (ax_in 1320 (by decide +kernel) rfl) (i64_c rfl) ?_
  refine j_lload_n 0 dX11_longer_3 rfl ?_
  refine j_lmul (z := 235981809) dX11_longer_4 rfl (i64_c rfl) ?_
  refine j_iload_n 1 dX11_longer_5 rfl ?_
  refine j_i2l dX11_longer_6 ?_
  refine j_ladd (z := 235981924) dX11_longer_7 rfl (i64_c rfl) ?_
  refine j_ldc2 (x := 96) dX11_longer_8 (ax_in 1321 (by decide +kernel) rfl) (i64_c rfl) ?_
  refine j_lsub (z := 235981828) dX11_longer_11 rfl (i64_c rfl) ?_
  refine j_lret dX11_longer_12 rfl ⟨Nat.le_of_ble_eq_true rfl, Nat.le_of_ble_eq_true rfl⟩ (fun _ => ?_)
  refine j_lstore_n (ll' := [(1, aL 235981828), (0, aR 61)]) dX11_takePlaces_28 (Nat.le_of_ble_eq_true rfl) rfl ?_
  refine j_aload_n 1 dX11_takePlaces_29 rfl ?_
  refine j_getl (i := 16) dX11_takePlaces_30 f_X11_157 sh_61 rfl rfl ?_
  refine j_lload_n 0 dX11_takePlaces_33 rfl ?_
  refine j_lcmp_eq (tgt := 48) dX11_takePlaces_34 dX11_takePlaces_35 (by decide) (fun c1 => ?_) (fun c1 => ?_)
  · replace h := h.1 c1
    refine j_aload_n 1 dX11_takePlaces_48 rfl ?_
    refine j_aload_n 1 dX11_takePlaces_49 rfl ?_
    refine j_geti (i := 17) dX11_takePlaces_50 f_X11_161 sh_61 rfl rfl (fun _ => ?_)
    refine j_puti (i := 15) dX11_takePlaces_53 p_X11_150 (fun h => by cases h) sh_61 rfl rfl ?_
    refine j_aload_n 1 dX11_takePlaces_56 rfl ?_
    refine j_iconst (x := 2) dX11_takePlaces_57 rfl (i32_c rfl) ?_
    refine j_bipush (x := 12) dX11_takePlaces_58 rfl (i32_c rfl) ?_
    refine j_calliV (Yc := Y_X11_takeNumber) (as := [aI 2, aI 12]) (rest := []) dX11_takePlaces_60 q_X11_201 ⟨Nat.le_of_ble_eq_true rfl, Nat.le_of_ble_eq_true rfl, Nat.le_of_ble_eq_true rfl, Nat.le_of_ble_eq_true rfl⟩ sh_61 rfl (Nat.le_of_ble_eq_true rfl) rfl (ti_mono h (fun z3 u2 h => ?_))
    refine j_istore_n (ll' := [(3, aI z3), (1, aL 235981828), (0, aR 61)]) dX11_takePlaces_63 (Nat.le_of_ble_eq_true rfl) rfl ?_
    refine j_aload_n 2 dX11_takePlaces_64 rfl ?_
    refine j_aload_n 2 dX11_takePlaces_65 rfl ?_
    refine j_geti (i := 18) dX11_takePlaces_66 f_X11_187 sh_61 rfl rfl (fun _ => ?_)
    refine j_puti (i := 20) dX11_takePlaces_69 p_X11_204 (fun h => by cases h) sh_61 rfl rfl ?_
    refine j_iload_n 0 dX11_takePlaces_72 rfl ?_
    refine j_if_le (tgt := 80) dX11_takePlaces_73 (by decide) (fun c2 => ?_) (fun c2 => ?_)
    · replace h := h.1 c2
      refine j_aload_n 2 dX11_takePlaces_80 rfl ?_
      refine j_calliV (Yc := Y_X11_takeStop) (as := []) (rest := []) dX11_takePlaces_81 q_X11_207 ⟨Nat.le_of_ble_eq_true rfl, Nat.le_of_ble_eq_true rfl, Nat.le_of_ble_eq_true rfl, Nat.le_of_ble_eq_true rfl⟩ sh_61 rfl (Nat.le_of_ble_eq_true rfl) rfl (ti_mono h (fun z5 u4 h => ?_))
      exact j_iret dX11_takePlaces_84 rfl ⟨Nat.le_of_ble_eq_true rfl, Nat.le_of_ble_eq_true rfl⟩ (fun _ => h)
    · replace h := h.2 c2
      refine j_iload_n 0 dX11_takePlaces_76 rfl ?_
      refine j_goto (tgt := 84) dX11_takePlaces_77 (by decide) ?_
      exact j_iret dX11_takePlaces_84 rfl ⟨Nat.le_of_ble_eq_true rfl, Nat.le_of_ble_eq_true rfl⟩ (fun _ => h)
  · replace h := h.2 c1
    refine j_aload_n 1 dX11_takePlaces_38 rfl ?_
    refine j_iconst (x := 1) dX11_takePlaces_39 rfl (i32_c rfl) ?_
    refine j_aload_n 1 dX11_takePlaces_40 rfl ?_
    refine j_geti (i := 15) dX11_takePlaces_41 f_X11_150 sh_61 rfl rfl (fun _ => ?_)
    refine j_calliV (Yc := Y_X11_fails) (as := [aI 1, aI (u1 61 15)]) (rest := []) dX11_takePlaces_44 q_X11_180 ⟨Nat.le_of_ble_eq_true rfl, Nat.le_of_ble_eq_true rfl, Nat.le_of_ble_eq_true rfl, Nat.le_of_ble_eq_true rfl⟩ sh_61 rfl (Nat.le_of_ble_eq_true rfl) rfl (ti_of (ll := [(0, aR 61), (1, aI 1), (2, aI (u1 61 15))]) rfl (Nat.le_of_ble_eq_true rfl) rfl (fun _ => ?_))
    refine j_aload_n 0 dX11_fails_0 rfl ?_
    refine j_iload_n 2 dX11_fails_1 rfl ?_
    refine j_puti (i := 14) dX11_fails_2 p_X11_42 (fun h => by cases h) sh_61 rfl rfl ?_
    refine j_iload_n 1 dX11_fails_5 rfl ?_
    refine j_iret dX11_fails_6 rfl ⟨Nat.le_of_ble_eq_true rfl, Nat.le_of_ble_eq_true rfl⟩ (fun _ => ?_)
    exact j_iret dX11_takePlaces_47 rfl ⟨Nat.le_of_ble_eq_true rfl, Nat.le_of_ble_eq_true rfl⟩ (fun _ => h)
theorem E_X11_takePlaces {post : Int → ax_M → Prop} {M : ax_M} (h : ax_mr SH M → ax_Tv Y_X11_readWord [aR 61] SH M (fun u1 => ((((u1 61 16) = 235981828) → ax_Ti Y_X11_takeNumber [aR 61, aI 2, aI 12] SH (ax_up u1 61 15 (u1 61 17)) (fun z3 u2 => (((z3 ≤ 0) → ax_Ti Y_X11_takeStop [aR 61] SH (ax_up u2 61 20 (u2 61 18)) (fun z5 u4 => post z5 u4)) ∧ ((0 < z3) → post z3 (ax_up u2 61 20 (u2 61 18)))))) ∧ ((¬ (u1 61 16) = 235981828) → post 1 (ax_up u1 61 14 (u1 61 15)))))) : ax_Ti Y_X11_takePlaces [aR 61] SH M post :=
  ti_of rfl (Nat.le_of_ble_eq_true rfl) rfl (fun q => B_X11_takePlaces_0 (h q))
set_option maxRecDepth 100000 in
set_option maxHeartbeats 4000000 in
theorem B_X11_comes_0 {post : Int → ax_M → Prop} {M : ax_M} {x1 x2 x3 x4 x5 : Int} (h : ax_Tv Y_X11_walk [aR 61, aI x1, aI x3, aI x4, aI x5] SH M (fun u1 => (0 ≤ x2 ∧ x2 < 12) ∧ post (u1 77 x2) u1)) : ax_J Y_X11_comes (ax_Ki Y_X11_comes SH post) 0 0 0 [(0, aR 61), (1, aI x1), (2, aI x2), (3, aI x3), (4, aI x4), (5, aI x5)] [] SH M := by
  refine j_aload_n 0 dX11_comes_0 rfl ?_
  refine j_iload_n 1 dX11_comes_1 rfl ?_
  refine j_iload_n 3 dX11_comes_2 rfl ?_
  refine j_iload 4 dX11_comes_3 rfl ?_
  refine j_iload 5 dX11_comes_5 rfl ?_
  refine j_callvV (Yc := Y_X11_walk) (as := [aI x1, aI x3, aI x4, aI x5]) (rest := []) dX11_comes_7 q_X11_280 ⟨Nat.le_of_ble_eq_true rfl, Nat.le_of_ble_eq_true rfl, Nat.le_of_ble_eq_true rfl, Nat.le_of_ble_eq_true rfl⟩ sh_61 rfl (Nat.le_of_ble_eq_true rfl) rfl (tv_mono h (fun u1 h => ?_))
  refine j_aload_n 0 dX11_comes_10 rfl ?_
  refine j_getc 77 dX11_comes_11 f_X11_66 sh_61 rfl ?_
  refine j_iload_n 2 dX11_comes_14 rfl ?_
  obtain ⟨o1, h⟩ := h
  refine j_iald dX11_comes_15 sh_77 o1.1 o1.2 (fun _ => ?_)
  exact j_iret dX11_comes_16 rfl ⟨Nat.le_of_ble_eq_true rfl, Nat.le_of_ble_eq_true rfl⟩ (fun _ => h)
theorem E_X11_comes {post : Int → ax_M → Prop} {M : ax_M} {x1 x2 x3 x4 x5 : Int} (h : ax_mr SH M → ax_Tv Y_X11_walk [aR 61, aI x1, aI x3, aI x4, aI x5] SH M (fun u1 => (0 ≤ x2 ∧ x2 < 12) ∧ post (u1 77 x2) u1)) : ax_Ti Y_X11_comes [aR 61, aI x1, aI x2, aI x3, aI x4, aI x5] SH M post :=
  ti_of rfl (Nat.le_of_ble_eq_true rfl) rfl (fun q => B_X11_comes_0 (h q))
set_option maxRecDepth 100000 in
set_option maxHeartbeats 4000000 in
theorem B_X11_lastOf_0 {post : Int → ax_M → Prop} {M : ax_M} {x1 x2 x3 : Int} (h : ax_J Y_X11_lastOf (ax_Ki Y_X11_lastOf SH post) 0 0 4 [(0, aR 61), (1, aI x1), (2, aI x2), (3, aI x3), (4, aI 99)] [] SH M) : ax_J Y_X11_lastOf (ax_Ki Y_X11_lastOf SH post) 0 0 0 [(0, aR 61), (1, aI x1), (2, aI x2), (3, aI x3)] [] SH M := by
  refine j_bipush (x := 99) dX11_lastOf_0 rfl (i32_c rfl) ?_
  refine j_istore (ll' := [(4, aI 99), (0, aR 61), (1, aI x1), (2, aI x2), (3, aI x3)]) dX11_lastOf_2 (Nat.le_of_ble_eq_true rfl) rfl ?_
  refine j_sub [1, 2, 3, 4, 0] rfl ?_
  exact h
theorem E_X11_lastOf {post : Int → ax_M → Prop} {M : ax_M} {x1 x2 x3 : Int} (h : ax_mr SH M → ax_J Y_X11_lastOf (ax_Ki Y_X11_lastOf SH post) 0 0 4 [(0, aR 61), (1, aI x1), (2, aI x2), (3, aI x3), (4, aI 99)] [] SH M) : ax_Ti Y_X11_lastOf [aR 61, aI x1, aI x2, aI x3] SH M post :=
  ti_of rfl (Nat.le_of_ble_eq_true rfl) rfl (fun q => B_X11_lastOf_0 (h q))
set_option maxRecDepth 100000 in
set_option maxHeartbeats 4000000 in
theorem B_X11_lastOf_4 {post : Int → ax_M → Prop} {M : ax_M} {x1 x2 x3 x4 : Int} (h : (((x4 < 0) → post (-1) M) ∧ ((0 ≤ x4) → ax_Ti Y_X11_comes [aR 61, aI x1, aI (M 61 1), aI x4, aI x2, aI x3] SH M (fun z2 u1 => (((z2 < 0) → (-2147483648 ≤ (x4 + (-1)) ∧ (x4 + (-1)) ≤ 2147483647) ∧ ax_J Y_X11_lastOf (ax_Ki Y_X11_lastOf SH post) 0 0 4 [(0, aR 61), (1, aI x1), (2, aI x2), (3, aI x3), (4, aI (x4 + (-1)))] [] SH u1) ∧ ((0 ≤ z2) → post x4 u1)))))) : ax_J Y_X11_lastOf (ax_Ki Y_X11_lastOf SH post) 0 0 4 [(0, aR 61), (1, aI x1), (2, aI x2), (3, aI x3), (4, aI x4)] [] SH M := by
  refine j_iload 4 dX11_lastOf_4 rfl ?_
  refine j_if_lt (tgt := 34) dX11_lastOf_6 (by decide) (fun c1 => ?_) (fun c1 => ?_)
  · replace h := h.1 c1
    refine j_iconst (x := (-1)) dX11_lastOf_34 rfl (i32_c rfl) ?_
    exact j_iret dX11_lastOf_35 rfl ⟨Nat.le_of_ble_eq_true rfl, Nat.le_of_ble_eq_true rfl⟩ (fun _ => h)
  · replace h := h.2 c1
    refine j_aload_n 0 dX11_lastOf_9 rfl ?_
    refine j_iload_n 1 dX11_lastOf_10 rfl ?_
    refine j_aload_n 0 dX11_lastOf_11 rfl ?_
    refine j_geti (i := 1) dX11_lastOf_12 f_X11_9 sh_61 rfl rfl (fun _ => ?_)
    refine j_iload 4 dX11_lastOf_15 rfl ?_
    refine j_iload_n 2 dX11_lastOf_17 rfl ?_
    refine j_iload_n 3 dX11_lastOf_18 rfl ?_
    refine j_calliV (Yc := Y_X11_comes) (as := [aI x1, aI (M 61 1), aI x4, aI x2, aI x3]) (rest := []) dX11_lastOf_19 q_X11_287 ⟨Nat.le_of_ble_eq_true rfl, Nat.le_of_ble_eq_true rfl, Nat.le_of_ble_eq_true rfl, Nat.le_of_ble_eq_true rfl⟩ sh_61 rfl (Nat.le_of_ble_eq_true rfl) rfl (ti_mono h (fun z2 u1 h => ?_))
    refine j_if_lt (tgt := 28) dX11_lastOf_22 (by decide) (fun c2 => ?_) (fun c2 => ?_)
    · replace h := h.1 c2
      obtain ⟨o3, h⟩ := h
      refine j_iinc (ll' := [(4, aI (x4 + (-1))), (0, aR 61), (1, aI x1), (2, aI x2), (3, aI x3)]) 4 dX11_lastOf_28 rfl (Nat.le_of_ble_eq_true rfl) o3 rfl ?_
      refine j_goto (tgt := 4) dX11_lastOf_31 (by decide) ?_
      refine j_sub [1, 2, 3, 4, 0] rfl ?_
      exact h
    · replace h := h.2 c2
      refine j_iload 4 dX11_lastOf_25 rfl ?_
      exact j_iret dX11_lastOf_27 rfl ⟨Nat.le_of_ble_eq_true rfl, Nat.le_of_ble_eq_true rfl⟩ (fun _ => h)
set_option maxRecDepth 100000 in
set_option maxHeartbeats 4000000 in
theorem B_X11_findMost_0 {post : Int → ax_M → Prop} {M : ax_M} {x1 : Int} (h : ax_J Y_X11_findMost (ax_Ki Y_X11_findMost SH post) 0 0 2 [(0, aR 61), (1, aI x1), (2, aI 0)] [] SH M) : ax_J Y_X11_findMost (ax_Ki Y_X11_findMost SH post) 0 0 0 [(0, aR 61), (1, aI x1)] [] SH M := by
  refine j_iconst (x := 0) dX11_findMost_0 rfl (i32_c rfl) ?_
  refine j_istore_n (ll' := [(2, aI 0), (0, aR 61), (1, aI x1)]) dX11_findMost_1 (Nat.le_of_ble_eq_true rfl) rfl ?_
  refine j_sub [1, 2, 0] rfl ?_
  exact h
theorem E_X11_findMost {post : Int → ax_M → Prop} {M : ax_M} {x1 : Int} (h : ax_mr SH M → ax_J Y_X11_findMost (ax_Ki Y_X11_findMost SH post) 0 0 2 [(0, aR 61), (1, aI x1), (2, aI 0)] [] SH M) : ax_Ti Y_X11_findMost [aR 61, aI x1] SH M post :=
  ti_of rfl (Nat.le_of_ble_eq_true rfl) rfl (fun q => B_X11_findMost_0 (h q))
set_option maxRecDepth 100000 in
set_option maxHeartbeats 4000000 in
theorem B_X11_findMost_2 {post : Int → ax_M → Prop} {M : ax_M} {x1 x2 : Int} (h : (((2928 ≤ x2) → ax_J Y_X11_findMost (ax_Ki Y_X11_findMost SH post) 0 0 24 [(0, aR 61), (1, aI x1), (2, aI 0)] [] SH M) ∧ ((x2 < 2928) → (0 ≤ x2 ∧ x2 < 2928) ∧ (-2147483648 ≤ (x2 + 1) ∧ (x2 + 1) ≤ 2147483647) ∧ ax_J Y_X11_findMost (ax_Ki Y_X11_findMost SH post) 0 0 2 [(0, aR 61), (1, aI x1), (2, aI (x2 + 1))] [] SH (ax_up M 78 x2 0)))) : ax_J Y_X11_findMost (ax_Ki Y_X11_findMost SH post) 0 0 2 [(0, aR 61), (1, aI x1), (2, aI x2)] [] SH M := by
  refine j_iload_n 2 dX11_findMost_2 rfl ?_
  refine j_sipush (x := 2928) dX11_findMost_3 rfl (i32_c rfl) ?_
  refine j_icmp_ge (tgt := 22) dX11_findMost_6 (by decide) (fun c1 => ?_) (fun c1 => ?_)
  · replace h := h.1 c1
    refine j_iconst (x := 0) dX11_findMost_22 rfl (i32_c rfl) ?_
    refine j_istore_n (ll' := [(2, aI 0), (0, aR 61), (1, aI x1)]) dX11_findMost_23 (Nat.le_of_ble_eq_true rfl) rfl ?_
    refine j_sub [1, 2, 0] rfl ?_
    exact h
  · replace h := h.2 c1
    refine j_aload_n 0 dX11_findMost_9 rfl ?_
    refine j_getc 78 dX11_findMost_10 f_X11_69 sh_61 rfl ?_
    refine j_iload_n 2 dX11_findMost_13 rfl ?_
    refine j_iconst (x := 0) dX11_findMost_14 rfl (i32_c rfl) ?_
    obtain ⟨o2, h⟩ := h
    refine j_iast dX11_findMost_15 sh_78 o2.1 o2.2 ?_
    obtain ⟨o3, h⟩ := h
    refine j_iinc (ll' := [(2, aI (x2 + 1)), (0, aR 61), (1, aI x1)]) 2 dX11_findMost_16 rfl (Nat.le_of_ble_eq_true rfl) o3 rfl ?_
    refine j_goto (tgt := 2) dX11_findMost_19 (by decide) ?_
    refine j_sub [1, 2, 0] rfl ?_
    exact h
set_option maxRecDepth 100000 in
set_option maxHeartbeats 4000000 in
theorem B_X11_findMost_24 {post : Int → ax_M → Prop} {M : ax_M} {x1 x2 : Int} (h : (((732 ≤ x2) → ax_J Y_X11_findMost (ax_Ki Y_X11_findMost SH post) 0 0 46 [(0, aR 61), (1, aI x1), (2, aI 0)] [] SH M) ∧ ((x2 < 732) → (0 ≤ x2 ∧ x2 < 732) ∧ (-2147483648 ≤ (x2 + 1) ∧ (x2 + 1) ≤ 2147483647) ∧ ax_J Y_X11_findMost (ax_Ki Y_X11_findMost SH post) 0 0 24 [(0, aR 61), (1, aI x1), (2, aI (x2 + 1))] [] SH (ax_up M 79 x2 0)))) : ax_J Y_X11_findMost (ax_Ki Y_X11_findMost SH post) 0 0 24 [(0, aR 61), (1, aI x1), (2, aI x2)] [] SH M := by
  refine j_iload_n 2 dX11_findMost_24 rfl ?_
  refine j_sipush (x := 732) dX11_findMost_25 rfl (i32_c rfl) ?_
  refine j_icmp_ge (tgt := 44) dX11_findMost_28 (by decide) (fun c1 => ?_) (fun c1 => ?_)
  · replace h := h.1 c1
    refine j_iconst (x := 0) dX11_findMost_44 rfl (i32_c rfl) ?_
    refine j_istore_n (ll' := [(2, aI 0), (0, aR 61), (1, aI x1)]) dX11_findMost_45 (Nat.le_of_ble_eq_true rfl) rfl ?_
    refine j_sub [1, 2, 0] rfl ?_
    exact h
  · replace h := h.2 c1
    refine j_aload_n 0 dX11_findMost_31 rfl ?_
    refine j_getc 79 dX11_findMost_32 f_X11_72 sh_61 rfl ?_
    refine j_iload_n 2 dX11_findMost_35 rfl ?_
    refine j_iconst (x := 0) dX11_findMost_36 rfl (i32_c rfl) ?_
    obtain ⟨o2, h⟩ := h
    refine j_iast dX11_findMost_37 sh_79 o2.1 o2.2 ?_
    obtain ⟨o3, h⟩ := h
    refine j_iinc (ll' := [(2, aI (x2 + 1)), (0, aR 61), (1, aI x1)]) 2 dX11_findMost_38 rfl (Nat.le_of_ble_eq_true rfl) o3 rfl ?_
    refine j_goto (tgt := 24) dX11_findMost_41 (by decide) ?_
    refine j_sub [1, 2, 0] rfl ?_
    exact h
set_option maxRecDepth 100000 in
set_option maxHeartbeats 4000000 in
theorem B_X11_findMost_46 {post : Int → ax_M → Prop} {M : ax_M} {x1 x2 : Int} (h : (((61 ≤ x2) → ax_J Y_X11_findMost (ax_Ki Y_X11_findMost SH post) 0 0 67 [(0, aR 61), (1, aI x1), (2, aI 0)] [] SH M) ∧ ((x2 < 61) → (0 ≤ x2 ∧ x2 < 61) ∧ (-2147483648 ≤ (x2 + 1) ∧ (x2 + 1) ≤ 2147483647) ∧ ax_J Y_X11_findMost (ax_Ki Y_X11_findMost SH post) 0 0 46 [(0, aR 61), (1, aI x1), (2, aI (x2 + 1))] [] SH (ax_up M 80 x2 0)))) : ax_J Y_X11_findMost (ax_Ki Y_X11_findMost SH post) 0 0 46 [(0, aR 61), (1, aI x1), (2, aI x2)] [] SH M := by
  refine j_iload_n 2 dX11_findMost_46 rfl ?_
  refine j_bipush (x := 61) dX11_findMost_47 rfl (i32_c rfl) ?_
  refine j_icmp_ge (tgt := 65) dX11_findMost_49 (by decide) (fun c1 => ?_) (fun c1 => ?_)
  · replace h := h.1 c1
    refine j_iconst (x := 0) dX11_findMost_65 rfl (i32_c rfl) ?_
    refine j_istore_n (ll' := [(2, aI 0), (0, aR 61), (1, aI x1)]) dX11_findMost_66 (Nat.le_of_ble_eq_true rfl) rfl ?_
    refine j_sub [1, 2, 0] rfl ?_
    exact h
  · replace h := h.2 c1
    refine j_aload_n 0 dX11_findMost_52 rfl ?_
    refine j_getc 80 dX11_findMost_53 f_X11_75 sh_61 rfl ?_
    refine j_iload_n 2 dX11_findMost_56 rfl ?_
    refine j_iconst (x := 0) dX11_findMost_57 rfl (i32_c rfl) ?_
    obtain ⟨o2, h⟩ := h
    refine j_iast dX11_findMost_58 sh_80 o2.1 o2.2 ?_
    obtain ⟨o3, h⟩ := h
    refine j_iinc (ll' := [(2, aI (x2 + 1)), (0, aR 61), (1, aI x1)]) 2 dX11_findMost_59 rfl (Nat.le_of_ble_eq_true rfl) o3 rfl ?_
    refine j_goto (tgt := 46) dX11_findMost_62 (by decide) ?_
    refine j_sub [1, 2, 0] rfl ?_
    exact h
set_option maxRecDepth 100000 in
set_option maxHeartbeats 4000000 in
theorem B_X11_findMost_67 {post : Int → ax_M → Prop} {M : ax_M} {x1 x2 : Int} (h : (((12 ≤ x2) → ax_Ti Y_X11_seek [aR 61, aI x1] SH M (fun z2 u1 => ax_J Y_X11_findMost (ax_Ki Y_X11_findMost SH post) 0 0 94 [(0, aR 61), (1, aI x1), (2, aI 0), (3, aI z2)] [] SH u1)) ∧ ((x2 < 12) → (0 ≤ x2 ∧ x2 < 12) ∧ (-2147483648 ≤ (x2 + 1) ∧ (x2 + 1) ≤ 2147483647) ∧ ax_J Y_X11_findMost (ax_Ki Y_X11_findMost SH post) 0 0 67 [(0, aR 61), (1, aI x1), (2, aI (x2 + 1))] [] SH (ax_up M 81 x2 0)))) : ax_J Y_X11_findMost (ax_Ki Y_X11_findMost SH post) 0 0 67 [(0, aR 61), (1, aI x1), (2, aI x2)] [] SH M := by
  refine j_iload_n 2 dX11_findMost_67 rfl ?_
  refine j_bipush (x := 12) dX11_findMost_68 rfl (i32_c rfl) ?_
  refine j_icmp_ge (tgt := 86) dX11_findMost_70 (by decide) (fun c1 => ?_) (fun c1 => ?_)
  · replace h := h.1 c1
    refine j_iconst (x := 0) dX11_findMost_86 rfl (i32_c rfl) ?_
    refine j_istore_n (ll' := [(2, aI 0), (0, aR 61), (1, aI x1)]) dX11_findMost_87 (Nat.le_of_ble_eq_true rfl) rfl ?_
    refine j_aload_n 1 dX11_findMost_88 rfl ?_
    refine j_iload_n 2 dX11_findMost_89 rfl ?_
    refine j_calliV (Yc := Y_X11_seek) (as := [aI x1]) (rest := []) dX11_findMost_90 q_X11_316 ⟨Nat.le_of_ble_eq_true rfl, Nat.le_of_ble_eq_true rfl, Nat.le_of_ble_eq_true rfl, Nat.le_of_ble_eq_true rfl⟩ sh_61 rfl (Nat.le_of_ble_eq_true rfl) rfl (ti_mono h (fun z2 u1 h => ?_))
    refine j_istore_n (ll' := [(3, aI z2), (2, aI 0), (0, aR 61), (1, aI x1)]) dX11_findMost_93 (Nat.le_of_ble_eq_true rfl) rfl ?_
    refine j_sub [2, 3, 1, 0] rfl ?_
    exact h
  · replace h := h.2 c1
    refine j_aload_n 0 dX11_findMost_73 rfl ?_
    refine j_getc 81 dX11_findMost_74 f_X11_78 sh_61 rfl ?_
    refine j_iload_n 2 dX11_findMost_77 rfl ?_
    refine j_iconst (x := 0) dX11_findMost_78 rfl (i32_c rfl) ?_
    obtain ⟨o2, h⟩ := h
    refine j_iast dX11_findMost_79 sh_81 o2.1 o2.2 ?_
    obtain ⟨o3, h⟩ := h
    refine j_iinc (ll' := [(2, aI (x2 + 1)), (0, aR 61), (1, aI x1)]) 2 dX11_findMost_80 rfl (Nat.le_of_ble_eq_true rfl) o3 rfl ?_
    refine j_goto (tgt := 67) dX11_findMost_83 (by decide) ?_
    refine j_sub [1, 2, 0] rfl ?_
    exact h
set_option maxRecDepth 100000 in
set_option maxHeartbeats 4000000 in
theorem B_X11_findMost_94 {post : Int → ax_M → Prop} {M : ax_M} {x1 x2 x3 : Int} (h : (((x3 < 0) → post x2 M) ∧ ((0 ≤ x3) → ax_Tv Y_X11_send [aR 61, aI x3] SH M (fun u1 => (-2147483648 ≤ (x2 + 1) ∧ (x2 + 1) ≤ 2147483647) ∧ ax_Ti Y_X11_seek [aR 61, aI x1] SH u1 (fun z3 u2 => ax_J Y_X11_findMost (ax_Ki Y_X11_findMost SH post) 0 0 94 [(0, aR 61), (1, aI x1), (2, aI (x2 + 1)), (3, aI z3)] [] SH u2))))) : ax_J Y_X11_findMost (ax_Ki Y_X11_findMost SH post) 0 0 94 [(0, aR 61), (1, aI x1), (2, aI x2), (3, aI x3)] [] SH M := by
  refine j_iload_n 3 dX11_findMost_94 rfl ?_
  refine j_if_lt (tgt := 115) dX11_findMost_95 (by decide) (fun c1 => ?_) (fun c1 => ?_)
  · replace h := h.1 c1
    refine j_iload_n 2 dX11_findMost_115 rfl ?_
    exact j_iret dX11_findMost_116 rfl ⟨Nat.le_of_ble_eq_true rfl, Nat.le_of_ble_eq_true rfl⟩ (fun _ => h)
  · replace h := h.2 c1
    refine j_aload_n 0 dX11_findMost_98 rfl ?_
    refine j_iload_n 3 dX11_findMost_99 rfl ?_
    refine j_callvV (Yc := Y_X11_send) (as := [aI x3]) (rest := []) dX11_findMost_100 q_X11_319 ⟨Nat.le_of_ble_eq_true rfl, Nat.le_of_ble_eq_true rfl, Nat.le_of_ble_eq_true rfl, Nat.le_of_ble_eq_true rfl⟩ sh_61 rfl (Nat.le_of_ble_eq_true rfl) rfl (tv_mono h (fun u1 h => ?_))
    obtain ⟨o2, h⟩ := h
    refine j_iinc (ll' := [(2, aI (x2 + 1)), (0, aR 61), (1, aI x1), (3, aI x3)]) 2 dX11_findMost_103 rfl (Nat.le_of_ble_eq_true rfl) o2 rfl ?_
    refine j_aload_n 1 dX11_findMost_106 rfl ?_
    refine j_iload_n 2 dX11_findMost_107 rfl ?_
    refine j_calliV (Yc := Y_X11_seek) (as := [aI x1]) (rest := []) dX11_findMost_108 q_X11_316 ⟨Nat.le_of_ble_eq_true rfl, Nat.le_of_ble_eq_true rfl, Nat.le_of_ble_eq_true rfl, Nat.le_of_ble_eq_true rfl⟩ sh_61 rfl (Nat.le_of_ble_eq_true rfl) rfl (ti_mono h (fun z3 u2 h => ?_))
    refine j_istore_n (ll' := [(3, aI z3), (2, aI (x2 + 1)), (0, aR 61), (1, aI x1)]) dX11_findMost_111 (Nat.le_of_ble_eq_true rfl) rfl ?_
    refine j_goto (tgt := 94) dX11_findMost_112 (by decide) ?_
    refine j_sub [2, 3, 1, 0] rfl ?_
    exact h
set_option maxRecDepth 100000 in
set_option maxHeartbeats 4000000 in
theorem B_X11_upAll_0 {post : Int → ax_M → Prop} {M : ax_M} {x1 x2 : Int} (h : ax_J Y_X11_upAll (ax_Ki Y_X11_upAll SH post) 0 0 5 [(0, aR 61), (1, aI x1), (2, aI x2), (3, aI 0), (4, aI 0)] [] SH M) : ax_J Y_X11_upAll (ax_Ki Y_X11_upAll SH post) 0 0 0 [(0, aR 61), (1, aI x1), (2, aI x2)] [] SH M := by
  refine j_iconst (x := 0) dX11_upAll_0 rfl (i32_c rfl) ?_
  refine j_istore_n (ll' := [(3, aI 0), (0, aR 61), (1, aI x1), (2, aI x2)]) dX11_upAll_1 (Nat.le_of_ble_eq_true rfl) rfl ?_
  refine j_iconst (x := 0) dX11_upAll_2 rfl (i32_c rfl) ?_
  refine j_istore (ll' := [(4, aI 0), (3, aI 0), (0, aR 61), (1, aI x1), (2, aI x2)]) dX11_upAll_3 (Nat.le_of_ble_eq_true rfl) rfl ?_
  refine j_sub [2, 3, 4, 1, 0] rfl ?_
  exact h
theorem E_X11_upAll {post : Int → ax_M → Prop} {M : ax_M} {x1 x2 : Int} (h : ax_mr SH M → ax_J Y_X11_upAll (ax_Ki Y_X11_upAll SH post) 0 0 5 [(0, aR 61), (1, aI x1), (2, aI x2), (3, aI 0), (4, aI 0)] [] SH M) : ax_Ti Y_X11_upAll [aR 61, aI x1, aI x2] SH M post :=
  ti_of rfl (Nat.le_of_ble_eq_true rfl) rfl (fun q => B_X11_upAll_0 (h q))
set_option maxRecDepth 100000 in
set_option maxHeartbeats 4000000 in
theorem B_X11_upAll_5 {post : Int → ax_M → Prop} {M : ax_M} {x1 x2 x3 x4 : Int} (h : ((((M 61 0) ≤ x4) → post x3 M) ∧ ((x4 < (M 61 0)) → ax_Ti Y_X11_upFrom [aR 61, aI x4, aI x1, aI x2] SH M (fun z2 u1 => (-2147483648 ≤ (x3 + z2) ∧ (x3 + z2) ≤ 2147483647) ∧ (-2147483648 ≤ (x4 + 1) ∧ (x4 + 1) ≤ 2147483647) ∧ ax_J Y_X11_upAll (ax_Ki Y_X11_upAll SH post) 0 0 5 [(0, aR 61), (1, aI x1), (2, aI x2), (3, aI (x3 + z2)), (4, aI (x4 + 1))] [] SH u1)))) : ax_J Y_X11_upAll (ax_Ki Y_X11_upAll SH post) 0 0 5 [(0, aR 61), (1, aI x1), (2, aI x2), (3, aI x3), (4, aI x4)] [] SH M := by
  refine j_iload 4 dX11_upAll_5 rfl ?_
  refine j_aload_n 0 dX11_upAll_7 rfl ?_
  refine j_geti (i := 0) dX11_upAll_8 f_X11_133 sh_61 rfl rfl (fun _ => ?_)
  refine j_icmp_ge (tgt := 31) dX11_upAll_11 (by decide) (fun c1 => ?_) (fun c1 => ?_)
  · replace h := h.1 c1
    refine j_iload_n 3 dX11_upAll_31 rfl ?_
    exact j_iret dX11_upAll_32 rfl ⟨Nat.le_of_ble_eq_true rfl, Nat.le_of_ble_eq_true rfl⟩ (fun _ => h)
  · replace h := h.2 c1
    refine j_iload_n 3 dX11_upAll_14 rfl ?_
    refine j_aload_n 0 dX11_upAll_15 rfl ?_
    refine j_iload 4 dX11_upAll_16 rfl ?_
    refine j_iload_n 1 dX11_upAll_18 rfl ?_
    refine j_iload_n 2 dX11_upAll_19 rfl ?_
    refine j_calliV (Yc := Y_X11_upFrom) (as := [aI x4, aI x1, aI x2]) (rest := [aI x3]) dX11_upAll_20 q_X11_331 ⟨Nat.le_of_ble_eq_true rfl, Nat.le_of_ble_eq_true rfl, Nat.le_of_ble_eq_true rfl, Nat.le_of_ble_eq_true rfl⟩ sh_61 rfl (Nat.le_of_ble_eq_true rfl) rfl (ti_mono h (fun z2 u1 h => ?_))
    obtain ⟨o2, h⟩ := h
    refine j_iadd (z := (x3 + z2)) dX11_upAll_23 rfl o2 ?_
    refine j_istore_n (ll' := [(3, aI (x3 + z2)), (0, aR 61), (1, aI x1), (2, aI x2), (4, aI x4)]) dX11_upAll_24 (Nat.le_of_ble_eq_true rfl) rfl ?_
    obtain ⟨o3, h⟩ := h
    refine j_iinc (ll' := [(4, aI (x4 + 1)), (3, aI (x3 + z2)), (0, aR 61), (1, aI x1), (2, aI x2)]) 4 dX11_upAll_25 rfl (Nat.le_of_ble_eq_true rfl) o3 rfl ?_
    refine j_goto (tgt := 5) dX11_upAll_28 (by decide) ?_
    refine j_sub [2, 3, 4, 1, 0] rfl ?_
    exact h
set_option maxRecDepth 100000 in
set_option maxHeartbeats 4000000 in
theorem B_X11_upFrom_0 {post : Int → ax_M → Prop} {M : ax_M} {x1 x2 x3 : Int} (h : ax_Ti Y_X11_lineUp [aR 61, aI x1] SH M (fun z2 u1 => ax_J Y_X11_upFrom (ax_Ki Y_X11_upFrom SH post) 0 0 16 [(0, aR 61), (1, aI x1), (2, aI x2), (3, aI x3), (4, aI z2), (5, aI 0), (6, aI 0), (7, aI 0)] [] SH u1)) : ax_J Y_X11_upFrom (ax_Ki Y_X11_upFrom SH post) 0 0 0 [(0, aR 61), (1, aI x1), (2, aI x2), (3, aI x3)] [] SH M := by
  refine j_aload_n 0 dX11_upFrom_0 rfl ?_
  refine j_iload_n 1 dX11_upFrom_1 rfl ?_
  refine j_calliV (Yc := Y_X11_lineUp) (as := [aI x1]) (rest := []) dX11_upFrom_2 q_X11_328 ⟨Nat.le_of_ble_eq_true rfl, Nat.le_of_ble_eq_true rfl, Nat.le_of_ble_eq_true rfl, Nat.le_of_ble_eq_true rfl⟩ sh_61 rfl (Nat.le_of_ble_eq_true rfl) rfl (ti_mono h (fun z2 u1 h => ?_))
  refine j_istore (ll' := [(4, aI z2), (0, aR 61), (1, aI x1), (2, aI x2), (3, aI x3)]) dX11_upFrom_5 (Nat.le_of_ble_eq_true rfl) rfl ?_
  refine j_iconst (x := 0) dX11_upFrom_7 rfl (i32_c rfl) ?_
  refine j_istore (ll' := [(5, aI 0), (4, aI z2), (0, aR 61), (1, aI x1), (2, aI x2), (3, aI x3)]) dX11_upFrom_8 (Nat.le_of_ble_eq_true rfl) rfl ?_
  refine j_iconst (x := 0) dX11_upFrom_10 rfl (i32_c rfl) ?_
  refine j_istore (ll' := [(6, aI 0), (5, aI 0), (4, aI z2), (0, aR 61), (1, aI x1), (2, aI x2), (3, aI x3)]) dX11_upFrom_11 (Nat.le_of_ble_eq_true rfl) rfl ?_
  refine j_iconst (x := 0) dX11_upFrom_13 rfl (i32_c rfl) ?_
  refine j_istore (ll' := [(7, aI 0), (6, aI 0), (5, aI 0), (4, aI z2), (0, aR 61), (1, aI x1), (2, aI x2), (3, aI x3)]) dX11_upFrom_14 (Nat.le_of_ble_eq_true rfl) rfl ?_
  refine j_sub [4, 5, 6, 7, 3, 2, 1, 0] rfl ?_
  exact h
theorem E_X11_upFrom {post : Int → ax_M → Prop} {M : ax_M} {x1 x2 x3 : Int} (h : ax_mr SH M → ax_Ti Y_X11_lineUp [aR 61, aI x1] SH M (fun z2 u1 => ax_J Y_X11_upFrom (ax_Ki Y_X11_upFrom SH post) 0 0 16 [(0, aR 61), (1, aI x1), (2, aI x2), (3, aI x3), (4, aI z2), (5, aI 0), (6, aI 0), (7, aI 0)] [] SH u1)) : ax_Ti Y_X11_upFrom [aR 61, aI x1, aI x2, aI x3] SH M post :=
  ti_of rfl (Nat.le_of_ble_eq_true rfl) rfl (fun q => B_X11_upFrom_0 (h q))
set_option maxRecDepth 100000 in
set_option maxHeartbeats 4000000 in
theorem B_X11_upFrom_16 {post : Int → ax_M → Prop} {M : ax_M} {x1 x2 x3 x4 x5 x6 x7 : Int} (h : ((((M 61 29) ≤ x7) → ax_J Y_X11_upFrom (ax_Ki Y_X11_upFrom SH post) 0 0 170 [(0, aR 61), (1, aI x1), (4, aI x4), (6, aI x6), (7, aI x5)] [] SH M) ∧ ((x7 < (M 61 29)) → (((x7 = x3) → (-2147483648 ≤ (x7 + 1) ∧ (x7 + 1) ≤ 2147483647) ∧ ax_J Y_X11_upFrom (ax_Ki Y_X11_upFrom SH post) 0 0 16 [(0, aR 61), (1, aI x1), (2, aI x2), (3, aI x3), (4, aI x4), (5, aI x5), (6, aI x6), (7, aI (x7 + 1))] [] SH M) ∧ ((¬ x7 = x3) → (0 ≤ x7 ∧ x7 < 4) ∧ (((¬ (M 75 x7) = x1) → (-2147483648 ≤ (x7 + 1) ∧ (x7 + 1) ≤ 2147483647) ∧ ax_J Y_X11_upFrom (ax_Ki Y_X11_upFrom SH post) 0 0 16 [(0, aR 61), (1, aI x1), (2, aI x2), (3, aI x3), (4, aI x4), (5, aI x5), (6, aI x6), (7, aI (x7 + 1))] [] SH M) ∧ (((M 75 x7) = x1) → (-2147483648 ≤ (x5 + x2) ∧ (x5 + x2) ≤ 2147483647) ∧ (-2147483648 ≤ ((x5 + x2) + 1) ∧ ((x5 + x2) + 1) ≤ 2147483647) ∧ (((x4 ≤ ((x5 + x2) + 1)) → ax_J Y_X11_upFrom (ax_Ki Y_X11_upFrom SH post) 0 0 73 [(0, aR 61), (1, aI x1), (2, aI x2), (3, aI x3), (4, aI x4), (5, aI x5), (6, aI x6), (7, aI x7), (8, aI x4), (9, aI 0), (10, aI x5)] [] SH M) ∧ ((((x5 + x2) + 1) < x4) → ax_J Y_X11_upFrom (ax_Ki Y_X11_upFrom SH post) 0 0 73 [(0, aR 61), (1, aI x1), (2, aI x2), (3, aI x3), (4, aI x4), (5, aI x5), (6, aI x6), (7, aI x7), (8, aI ((x5 + x2) + 1)), (9, aI 0), (10, aI x5)] [] SH M))))))))) : ax_J Y_X11_upFrom (ax_Ki Y_X11_upFrom SH post) 0 0 16 [(0, aR 61), (1, aI x1), (2, aI x2), (3, aI x3), (4, aI x4), (5, aI x5), (6, aI x6), (7, aI x7)] [] SH M := by
  refine j_iload 7 dX11_upFrom_16 rfl ?_
  refine j_aload_n 0 dX11_upFrom_18 rfl ?_
  refine j_geti (i := 29) dX11_upFrom_19 f_X11_243 sh_61 rfl rfl (fun _ => ?_)
  refine j_icmp_ge (tgt := 166) dX11_upFrom_22 (by decide) (fun c1 => ?_) (fun c1 => ?_)
  · replace h := h.1 c1
    refine j_iload 5 dX11_upFrom_166 rfl ?_
    refine j_istore (ll' := [(7, aI x5), (0, aR 61), (1, aI x1), (2, aI x2), (3, aI x3), (4, aI x4), (5, aI x5), (6, aI x6)]) dX11_upFrom_168 (Nat.le_of_ble_eq_true rfl) rfl ?_
    refine j_sub [1, 2, 5, 7, 0] rfl ?_
    exact h
  · replace h := h.2 c1
    refine j_iload 7 dX11_upFrom_25 rfl ?_
    refine j_iload_n 3 dX11_upFrom_27 rfl ?_
    refine j_icmp_eq (tgt := 160) dX11_upFrom_28 (by decide) (fun c2 => ?_) (fun c2 => ?_)
    · replace h := h.1 c2
      obtain ⟨o3, h⟩ := h
      refine j_iinc (ll' := [(7, aI (x7 + 1)), (0, aR 61), (1, aI x1), (2, aI x2), (3, aI x3), (4, aI x4), (5, aI x5), (6, aI x6)]) 7 dX11_upFrom_160 rfl (Nat.le_of_ble_eq_true rfl) o3 rfl ?_
      refine j_goto (tgt := 16) dX11_upFrom_163 (by decide) ?_
      refine j_sub [1, 2, 3, 4, 5, 6, 7, 0] rfl ?_
      exact h
    · replace h := h.2 c2
      refine j_aload_n 0 dX11_upFrom_31 rfl ?_
      refine j_getc 75 dX11_upFrom_32 f_X11_57 sh_61 rfl ?_
      refine j_iload 7 dX11_upFrom_35 rfl ?_
      obtain ⟨o4, h⟩ := h
      refine j_iald dX11_upFrom_37 sh_75 o4.1 o4.2 (fun _ => ?_)
      refine j_iload_n 1 dX11_upFrom_38 rfl ?_
      refine j_icmp_ne (tgt := 160) dX11_upFrom_39 (by decide) (fun c5 => ?_) (fun c5 => ?_)
      · replace h := h.1 c5
        obtain ⟨o6, h⟩ := h
        refine j_iinc (ll' := [(7, aI (x7 + 1)), (0, aR 61), (1, aI x1), (2, aI x2), (3, aI x3), (4, aI x4), (5, aI x5), (6, aI x6)]) 7 dX11_upFrom_160 rfl (Nat.le_of_ble_eq_true rfl) o6 rfl ?_
        refine j_goto (tgt := 16) dX11_upFrom_163 (by decide) ?_
        refine j_sub [1, 2, 3, 4, 5, 6, 7, 0] rfl ?_
        exact h
      · replace h := h.2 c5
        refine j_iload 5 dX11_upFrom_42 rfl ?_
        refine j_iload_n 2 dX11_upFrom_44 rfl ?_
        obtain ⟨o7, h⟩ := h
        refine j_iadd (z := (x5 + x2)) dX11_upFrom_45 rfl o7 ?_
        refine j_iconst (x := 1) dX11_upFrom_46 rfl (i32_c rfl) ?_
        obtain ⟨o8, h⟩ := h
        refine j_iadd (z := ((x5 + x2) + 1)) dX11_upFrom_47 rfl o8 ?_
        refine j_iload 4 dX11_upFrom_48 rfl ?_
        refine j_icmp_ge (tgt := 62) dX11_upFrom_50 (by decide) (fun c9 => ?_) (fun c9 => ?_)
        · replace h := h.1 c9
          refine j_iload 4 dX11_upFrom_62 rfl ?_
          refine j_istore (ll' := [(8, aI x4), (0, aR 61), (1, aI x1), (2, aI x2), (3, aI x3), (4, aI x4), (5, aI x5), (6, aI x6), (7, aI x7)]) dX11_upFrom_64 (Nat.le_of_ble_eq_true rfl) rfl ?_
          refine j_iconst (x := 0) dX11_upFrom_66 rfl (i32_c rfl) ?_
          refine j_istore (ll' := [(9, aI 0), (8, aI x4), (0, aR 61), (1, aI x1), (2, aI x2), (3, aI x3), (4, aI x4), (5, aI x5), (6, aI x6), (7, aI x7)]) dX11_upFrom_67 (Nat.le_of_ble_eq_true rfl) rfl ?_
          refine j_iload 7 dX11_upFrom_69 rfl ?_
          refine j_istore (ll' := [(10, aI x5), (9, aI 0), (8, aI x4), (0, aR 61), (1, aI x1), (2, aI x2), (3, aI x3), (4, aI x4), (5, aI x5), (6, aI x6), (7, aI x7)]) dX11_upFrom_71 (Nat.le_of_ble_eq_true rfl) rfl ?_
          refine j_sub [3, 4, 5, 6, 7, 8, 9, 10, 2, 1, 0] rfl ?_
          exact h
        · replace h := h.2 c9
          refine j_iload 5 dX11_upFrom_53 rfl ?_
          refine j_iload_n 2 dX11_upFrom_55 rfl ?_
          refine j_iadd (z := (x5 + x2)) dX11_upFrom_56 rfl o7 ?_
          refine j_iconst (x := 1) dX11_upFrom_57 rfl (i32_c rfl) ?_
          refine j_iadd (z := ((x5 + x2) + 1)) dX11_upFrom_58 rfl o8 ?_
          refine j_goto (tgt := 64) dX11_upFrom_59 (by decide) ?_
          refine j_istore (ll' := [(8, aI ((x5 + x2) + 1)), (0, aR 61), (1, aI x1), (2, aI x2), (3, aI x3), (4, aI x4), (5, aI x5), (6, aI x6), (7, aI x7)]) dX11_upFrom_64 (Nat.le_of_ble_eq_true rfl) rfl ?_
          refine j_iconst (x := 0) dX11_upFrom_66 rfl (i32_c rfl) ?_
          refine j_istore (ll' := [(9, aI 0), (8, aI ((x5 + x2) + 1)), (0, aR 61), (1, aI x1), (2, aI x2), (3, aI x3), (4, aI x4), (5, aI x5), (6, aI x6), (7, aI x7)]) dX11_upFrom_67 (Nat.le_of_ble_eq_true rfl) rfl ?_
          refine j_iload 7 dX11_upFrom_69 rfl ?_
          refine j_istore (ll' := [(10, aI x5), (9, aI 0), (8, aI ((x5 + x2) + 1)), (0, aR 61), (1, aI x1), (2, aI x2), (3, aI x3), (4, aI x4), (5, aI x5), (6, aI x6), (7, aI x7)]) dX11_upFrom_71 (Nat.le_of_ble_eq_true rfl) rfl ?_
          refine j_sub [3, 4, 5, 6, 7, 8, 9, 10, 2, 1, 0] rfl ?_
          exact h
set_option maxRecDepth 100000 in
set_option maxHeartbeats 4000000 in
theorem B_X11_upFrom_73 {post : Int → ax_M → Prop} {M : ax_M} {x1 x2 x3 x4 x5 x6 x7 x8 x9 x10 : Int} (h : (((x8 ≤ x10) → (((x8 ≤ x5) → (-2147483648 ≤ (x6 + 0) ∧ (x6 + 0) ≤ 2147483647) ∧ (-2147483648 ≤ (x7 + 1) ∧ (x7 + 1) ≤ 2147483647) ∧ ax_J Y_X11_upFrom (ax_Ki Y_X11_upFrom SH post) 0 0 16 [(0, aR 61), (1, aI x1), (2, aI x2), (3, aI x3), (4, aI x4), (5, aI x8), (6, aI (x6 + 0)), (7, aI (x7 + 1))] [] SH M) ∧ ((x5 < x8) → (0 ≤ x7 ∧ x7 < 4) ∧ ax_Ti Y_X11_comes [aR 61, aI x1, aI (M 61 1), aI 0, aI (M 76 x7), aI x9] SH M (fun z2 u1 => (((z2 < 0) → (-2147483648 ≤ (x6 + 0) ∧ (x6 + 0) ≤ 2147483647) ∧ (-2147483648 ≤ (x7 + 1) ∧ (x7 + 1) ≤ 2147483647) ∧ ax_J Y_X11_upFrom (ax_Ki Y_X11_upFrom SH post) 0 0 16 [(0, aR 61), (1, aI x1), (2, aI x2), (3, aI x3), (4, aI x4), (5, aI x8), (6, aI (x6 + 0)), (7, aI (x7 + 1))] [] SH u1) ∧ ((0 ≤ z2) → (-2147483648 ≤ (x8 - x5) ∧ (x8 - x5) ≤ 2147483647) ∧ (-2147483648 ≤ (x6 + (x8 - x5)) ∧ (x6 + (x8 - x5)) ≤ 2147483647) ∧ (-2147483648 ≤ (x7 + 1) ∧ (x7 + 1) ≤ 2147483647) ∧ ax_J Y_X11_upFrom (ax_Ki Y_X11_upFrom SH post) 0 0 16 [(0, aR 61), (1, aI x1), (2, aI x2), (3, aI x3), (4, aI x4), (5, aI x8), (6, aI (x6 + (x8 - x5))), (7, aI (x7 + 1))] [] SH u1)))))) ∧ ((x10 < x8) → (((¬ x9 = 0) → (-2147483648 ≤ (x10 + 1) ∧ (x10 + 1) ≤ 2147483647) ∧ ax_J Y_X11_upFrom (ax_Ki Y_X11_upFrom SH post) 0 0 73 [(0, aR 61), (1, aI x1), (2, aI x2), (3, aI x3), (4, aI x4), (5, aI x5), (6, aI x6), (7, aI x7), (8, aI x8), (9, aI 1), (10, aI (x10 + 1))] [] SH M) ∧ ((x9 = 0) → (0 ≤ x10 ∧ x10 < 8) ∧ (0 ≤ (M 86 x10) ∧ (M 86 x10) < 8) ∧ ((((M 74 (M 86 x10)) = 0) → (-2147483648 ≤ (x10 + 1) ∧ (x10 + 1) ≤ 2147483647) ∧ ax_J Y_X11_upFrom (ax_Ki Y_X11_upFrom SH post) 0 0 73 [(0, aR 61), (1, aI x1), (2, aI x2), (3, aI x3), (4, aI x4), (5, aI x5), (6, aI x6), (7, aI x7), (8, aI x8), (9, aI 0), (10, aI (x10 + 1))] [] SH M) ∧ ((¬ (M 74 (M 86 x10)) = 0) → (-2147483648 ≤ (x10 + 1) ∧ (x10 + 1) ≤ 2147483647) ∧ ax_J Y_X11_upFrom (ax_Ki Y_X11_upFrom SH post) 0 0 73 [(0, aR 61), (1, aI x1), (2, aI x2), (3, aI x3), (4, aI x4), (5, aI x5), (6, aI x6), (7, aI x7), (8, aI x8), (9, aI 1), (10, aI (x10 + 1))] [] SH M))))))) : ax_J Y_X11_upFrom (ax_Ki Y_X11_upFrom SH post) 0 0 73 [(0, aR 61), (1, aI x1), (2, aI x2), (3, aI x3), (4, aI x4), (5, aI x5), (6, aI x6), (7, aI x7), (8, aI x8), (9, aI x9), (10, aI x10)] [] SH M := by
  refine j_iload 10 dX11_upFrom_73 rfl ?_
  refine j_iload 8 dX11_upFrom_75 rfl ?_
  refine j_icmp_ge (tgt := 113) dX11_upFrom_77 (by decide) (fun c1 => ?_) (fun c1 => ?_)
  · replace h := h.1 c1
    refine j_iload 6 dX11_upFrom_113 rfl ?_
    refine j_iload 8 dX11_upFrom_115 rfl ?_
    refine j_iload 5 dX11_upFrom_117 rfl ?_
    refine j_icmp_le (tgt := 152) dX11_upFrom_119 (by decide) (fun c2 => ?_) (fun c2 => ?_)
    · replace h := h.1 c2
      refine j_iconst (x := 0) dX11_upFrom_152 rfl (i32_c rfl) ?_
      obtain ⟨o3, h⟩ := h
      refine j_iadd (z := (x6 + 0)) dX11_upFrom_153 rfl o3 ?_
      refine j_istore (ll' := [(6, aI (x6 + 0)), (0, aR 61), (1, aI x1), (2, aI x2), (3, aI x3), (4, aI x4), (5, aI x5), (7, aI x7), (8, aI x8), (9, aI x9), (10, aI x10)]) dX11_upFrom_154 (Nat.le_of_ble_eq_true rfl) rfl ?_
      refine j_iload 8 dX11_upFrom_156 rfl ?_
      refine j_istore (ll' := [(5, aI x8), (6, aI (x6 + 0)), (0, aR 61), (1, aI x1), (2, aI x2), (3, aI x3), (4, aI x4), (7, aI x7), (8, aI x8), (9, aI x9), (10, aI x10)]) dX11_upFrom_158 (Nat.le_of_ble_eq_true rfl) rfl ?_
      obtain ⟨o4, h⟩ := h
      refine j_iinc (ll' := [(7, aI (x7 + 1)), (5, aI x8), (6, aI (x6 + 0)), (0, aR 61), (1, aI x1), (2, aI x2), (3, aI x3), (4, aI x4), (8, aI x8), (9, aI x9), (10, aI x10)]) 7 dX11_upFrom_160 rfl (Nat.le_of_ble_eq_true rfl) o4 rfl ?_
      refine j_goto (tgt := 16) dX11_upFrom_163 (by decide) ?_
      refine j_sub [3, 4, 5, 6, 7, 1, 2, 0] rfl ?_
      exact h
    · replace h := h.2 c2
      refine j_aload_n 0 dX11_upFrom_122 rfl ?_
      refine j_iload_n 1 dX11_upFrom_123 rfl ?_
      refine j_aload_n 0 dX11_upFrom_124 rfl ?_
      refine j_geti (i := 1) dX11_upFrom_125 f_X11_9 sh_61 rfl rfl (fun _ => ?_)
      refine j_iconst (x := 0) dX11_upFrom_128 rfl (i32_c rfl) ?_
      refine j_aload_n 0 dX11_upFrom_129 rfl ?_
      refine j_getc 76 dX11_upFrom_130 f_X11_60 sh_61 rfl ?_
      refine j_iload 7 dX11_upFrom_133 rfl ?_
      obtain ⟨o5, h⟩ := h
      refine j_iald dX11_upFrom_135 sh_76 o5.1 o5.2 (fun _ => ?_)
      refine j_iload 9 dX11_upFrom_136 rfl ?_
      refine j_calliV (Yc := Y_X11_comes) (as := [aI x1, aI (M 61 1), aI 0, aI (M 76 x7), aI x9]) (rest := [aI x6]) dX11_upFrom_138 q_X11_287 ⟨Nat.le_of_ble_eq_true rfl, Nat.le_of_ble_eq_true rfl, Nat.le_of_ble_eq_true rfl, Nat.le_of_ble_eq_true rfl⟩ sh_61 rfl (Nat.le_of_ble_eq_true rfl) rfl (ti_mono h (fun z2 u1 h => ?_))
      refine j_if_lt (tgt := 152) dX11_upFrom_141 (by decide) (fun c6 => ?_) (fun c6 => ?_)
      · replace h := h.1 c6
        refine j_iconst (x := 0) dX11_upFrom_152 rfl (i32_c rfl) ?_
        obtain ⟨o7, h⟩ := h
        refine j_iadd (z := (x6 + 0)) dX11_upFrom_153 rfl o7 ?_
        refine j_istore (ll' := [(6, aI (x6 + 0)), (0, aR 61), (1, aI x1), (2, aI x2), (3, aI x3), (4, aI x4), (5, aI x5), (7, aI x7), (8, aI x8), (9, aI x9), (10, aI x10)]) dX11_upFrom_154 (Nat.le_of_ble_eq_true rfl) rfl ?_
        refine j_iload 8 dX11_upFrom_156 rfl ?_
        refine j_istore (ll' := [(5, aI x8), (6, aI (x6 + 0)), (0, aR 61), (1, aI x1), (2, aI x2), (3, aI x3), (4, aI x4), (7, aI x7), (8, aI x8), (9, aI x9), (10, aI x10)]) dX11_upFrom_158 (Nat.le_of_ble_eq_true rfl) rfl ?_
        obtain ⟨o8, h⟩ := h
        refine j_iinc (ll' := [(7, aI (x7 + 1)), (5, aI x8), (6, aI (x6 + 0)), (0, aR 61), (1, aI x1), (2, aI x2), (3, aI x3), (4, aI x4), (8, aI x8), (9, aI x9), (10, aI x10)]) 7 dX11_upFrom_160 rfl (Nat.le_of_ble_eq_true rfl) o8 rfl ?_
        refine j_goto (tgt := 16) dX11_upFrom_163 (by decide) ?_
        refine j_sub [3, 4, 5, 6, 7, 1, 2, 0] rfl ?_
        exact h
      · replace h := h.2 c6
        refine j_iload 8 dX11_upFrom_144 rfl ?_
        refine j_iload 5 dX11_upFrom_146 rfl ?_
        obtain ⟨o9, h⟩ := h
        refine j_isub (z := (x8 - x5)) dX11_upFrom_148 rfl o9 ?_
        refine j_goto (tgt := 153) dX11_upFrom_149 (by decide) ?_
        obtain ⟨o10, h⟩ := h
        refine j_iadd (z := (x6 + (x8 - x5))) dX11_upFrom_153 rfl o10 ?_
        refine j_istore (ll' := [(6, aI (x6 + (x8 - x5))), (0, aR 61), (1, aI x1), (2, aI x2), (3, aI x3), (4, aI x4), (5, aI x5), (7, aI x7), (8, aI x8), (9, aI x9), (10, aI x10)]) dX11_upFrom_154 (Nat.le_of_ble_eq_true rfl) rfl ?_
        refine j_iload 8 dX11_upFrom_156 rfl ?_
        refine j_istore (ll' := [(5, aI x8), (6, aI (x6 + (x8 - x5))), (0, aR 61), (1, aI x1), (2, aI x2), (3, aI x3), (4, aI x4), (7, aI x7), (8, aI x8), (9, aI x9), (10, aI x10)]) dX11_upFrom_158 (Nat.le_of_ble_eq_true rfl) rfl ?_
        obtain ⟨o11, h⟩ := h
        refine j_iinc (ll' := [(7, aI (x7 + 1)), (5, aI x8), (6, aI (x6 + (x8 - x5))), (0, aR 61), (1, aI x1), (2, aI x2), (3, aI x3), (4, aI x4), (8, aI x8), (9, aI x9), (10, aI x10)]) 7 dX11_upFrom_160 rfl (Nat.le_of_ble_eq_true rfl) o11 rfl ?_
        refine j_goto (tgt := 16) dX11_upFrom_163 (by decide) ?_
        refine j_sub [3, 4, 5, 6, 7, 1, 2, 0] rfl ?_
        exact h
  · replace h := h.2 c1
    refine j_iload 9 dX11_upFrom_80 rfl ?_
    refine j_if_ne (tgt := 100) dX11_upFrom_82 (by decide) (fun c12 => ?_) (fun c12 => ?_)
    · replace h := h.1 c12
      refine j_iconst (x := 1) dX11_upFrom_100 rfl (i32_c rfl) ?_
      refine j_goto (tgt := 105) dX11_upFrom_101 (by decide) ?_
      refine j_istore (ll' := [(9, aI 1), (0, aR 61), (1, aI x1), (2, aI x2), (3, aI x3), (4, aI x4), (5, aI x5), (6, aI x6), (7, aI x7), (8, aI x8), (10, aI x10)]) dX11_upFrom_105 (Nat.le_of_ble_eq_true rfl) rfl ?_
      obtain ⟨o13, h⟩ := h
      refine j_iinc (ll' := [(10, aI (x10 + 1)), (9, aI 1), (0, aR 61), (1, aI x1), (2, aI x2), (3, aI x3), (4, aI x4), (5, aI x5), (6, aI x6), (7, aI x7), (8, aI x8)]) 10 dX11_upFrom_107 rfl (Nat.le_of_ble_eq_true rfl) o13 rfl ?_
      refine j_goto (tgt := 73) dX11_upFrom_110 (by decide) ?_
      refine j_sub [2, 3, 4, 5, 6, 7, 8, 9, 10, 1, 0] rfl ?_
      exact h
    · replace h := h.2 c12
      refine j_aload_n 0 dX11_upFrom_85 rfl ?_
      refine j_getc 74 dX11_upFrom_86 f_X11_54 sh_61 rfl ?_
      refine j_aload_n 0 dX11_upFrom_89 rfl ?_
      refine j_getc 86 dX11_upFrom_90 f_X11_93 sh_61 rfl ?_
      refine j_iload 10 dX11_upFrom_93 rfl ?_
      obtain ⟨o14, h⟩ := h
      refine j_iald dX11_upFrom_95 sh_86 o14.1 o14.2 (fun _ => ?_)
      obtain ⟨o15, h⟩ := h
      refine j_zald dX11_upFrom_96 sh_74 o15.1 o15.2 (fun _ => ?_)
      refine j_if_eq (tgt := 104) dX11_upFrom_97 (by decide) (fun c16 => ?_) (fun c16 => ?_)
      · replace h := h.1 c16
        refine j_iconst (x := 0) dX11_upFrom_104 rfl (i32_c rfl) ?_
        refine j_istore (ll' := [(9, aI 0), (0, aR 61), (1, aI x1), (2, aI x2), (3, aI x3), (4, aI x4), (5, aI x5), (6, aI x6), (7, aI x7), (8, aI x8), (10, aI x10)]) dX11_upFrom_105 (Nat.le_of_ble_eq_true rfl) rfl ?_
        obtain ⟨o17, h⟩ := h
        refine j_iinc (ll' := [(10, aI (x10 + 1)), (9, aI 0), (0, aR 61), (1, aI x1), (2, aI x2), (3, aI x3), (4, aI x4), (5, aI x5), (6, aI x6), (7, aI x7), (8, aI x8)]) 10 dX11_upFrom_107 rfl (Nat.le_of_ble_eq_true rfl) o17 rfl ?_
        refine j_goto (tgt := 73) dX11_upFrom_110 (by decide) ?_
        refine j_sub [2, 3, 4, 5, 6, 7, 8, 9, 10, 1, 0] rfl ?_
        exact h
      · replace h := h.2 c16
        refine j_iconst (x := 1) dX11_upFrom_100 rfl (i32_c rfl) ?_
        refine j_goto (tgt := 105) dX11_upFrom_101 (by decide) ?_
        refine j_istore (ll' := [(9, aI 1), (0, aR 61), (1, aI x1), (2, aI x2), (3, aI x3), (4, aI x4), (5, aI x5), (6, aI x6), (7, aI x7), (8, aI x8), (10, aI x10)]) dX11_upFrom_105 (Nat.le_of_ble_eq_true rfl) rfl ?_
        obtain ⟨o18, h⟩ := h
        refine j_iinc (ll' := [(10, aI (x10 + 1)), (9, aI 1), (0, aR 61), (1, aI x1), (2, aI x2), (3, aI x3), (4, aI x4), (5, aI x5), (6, aI x6), (7, aI x7), (8, aI x8)]) 10 dX11_upFrom_107 rfl (Nat.le_of_ble_eq_true rfl) o18 rfl ?_
        refine j_goto (tgt := 73) dX11_upFrom_110 (by decide) ?_
        refine j_sub [2, 3, 4, 5, 6, 7, 8, 9, 10, 1, 0] rfl ?_
        exact h
set_option maxRecDepth 100000 in
set_option maxHeartbeats 4000000 in
theorem B_X11_upFrom_170 {post : Int → ax_M → Prop} {M : ax_M} {x1 x4 x6 x7 : Int} (h : (((x4 ≤ x7) → post x6 M) ∧ ((x7 < x4) → (0 ≤ x7 ∧ x7 < 8) ∧ (0 ≤ (M 86 x7) ∧ (M 86 x7) < 8) ∧ ax_Ti Y_X11_comes [aR 61, aI x1, aI (M 61 1), aI 0, aI (-1), aI (M 74 (M 86 x7))] SH M (fun z2 u1 => (((z2 < 0) → (-2147483648 ≤ (x6 + 0) ∧ (x6 + 0) ≤ 2147483647) ∧ (-2147483648 ≤ (x7 + 1) ∧ (x7 + 1) ≤ 2147483647) ∧ ax_J Y_X11_upFrom (ax_Ki Y_X11_upFrom SH post) 0 0 170 [(0, aR 61), (1, aI x1), (4, aI x4), (6, aI (x6 + 0)), (7, aI (x7 + 1))] [] SH u1) ∧ ((0 ≤ z2) → (-2147483648 ≤ (x6 + 1) ∧ (x6 + 1) ≤ 2147483647) ∧ (-2147483648 ≤ (x7 + 1) ∧ (x7 + 1) ≤ 2147483647) ∧ ax_J Y_X11_upFrom (ax_Ki Y_X11_upFrom SH post) 0 0 170 [(0, aR 61), (1, aI x1), (4, aI x4), (6, aI (x6 + 1)), (7, aI (x7 + 1))] [] SH u1)))))) : ax_J Y_X11_upFrom (ax_Ki Y_X11_upFrom SH post) 0 0 170 [(0, aR 61), (1, aI x1), (4, aI x4), (6, aI x6), (7, aI x7)] [] SH M := by
  refine j_iload 4 dX11_upFrom_170 rfl ?_
  refine j_iload 2 dX11_upFrom_172 rfl ?_
  refine j_icmp_ge (tgt := 219) dX11_upFrom_174 (by decide) (fun c1 => ?_) (fun c1 => ?_)
  · replace h := h.1 c1
    refine j_iload 3 dX11_upFrom_219 rfl ?_
    exact j_iret dX11_upFrom_221 rfl ⟨Nat.le_of_ble_eq_true rfl, Nat.le_of_ble_eq_true rfl⟩ (fun _ => h)
  · replace h := h.2 c1
    refine j_iload 3 dX11_upFrom_177 rfl ?_
    refine j_aload_n 0 dX11_upFrom_179 rfl ?_
    refine j_iload_n 1 dX11_upFrom_180 rfl ?_
    refine j_aload_n 0 dX11_upFrom_181 rfl ?_
    refine j_geti (i := 1) dX11_upFrom_182 f_X11_9 sh_61 rfl rfl (fun _ => ?_)
    refine j_iconst (x := 0) dX11_upFrom_185 rfl (i32_c rfl) ?_
    refine j_iconst (x := (-1)) dX11_upFrom_186 rfl (i32_c rfl) ?_
    refine j_aload_n 0 dX11_upFrom_187 rfl ?_
    refine j_getc 74 dX11_upFrom_188 f_X11_54 sh_61 rfl ?_
    refine j_aload_n 0 dX11_upFrom_191 rfl ?_
    refine j_getc 86 dX11_upFrom_192 f_X11_93 sh_61 rfl ?_
    refine j_iload 4 dX11_upFrom_195 rfl ?_
    obtain ⟨o2, h⟩ := h
    refine j_iald dX11_upFrom_197 sh_86 o2.1 o2.2 (fun _ => ?_)
    obtain ⟨o3, h⟩ := h
    refine j_zald dX11_upFrom_198 sh_74 o3.1 o3.2 (fun _ => ?_)
    refine j_calliV (Yc := Y_X11_comes) (as := [aI x1, aI (M 61 1), aI 0, aI (-1), aI (M 74 (M 86 x7))]) (rest := [aI x6]) dX11_upFrom_199 q_X11_287 ⟨Nat.le_of_ble_eq_true rfl, Nat.le_of_ble_eq_true rfl, Nat.le_of_ble_eq_true rfl, Nat.le_of_ble_eq_true rfl⟩ sh_61 rfl (Nat.le_of_ble_eq_true rfl) rfl (ti_mono h (fun z2 u1 h => ?_))
    refine j_if_lt (tgt := 209) dX11_upFrom_202 (by decide) (fun c4 => ?_) (fun c4 => ?_)
    · replace h := h.1 c4
      refine j_iconst (x := 0) dX11_upFrom_209 rfl (i32_c rfl) ?_
      obtain ⟨o5, h⟩ := h
      refine j_iadd (z := (x6 + 0)) dX11_upFrom_210 rfl o5 ?_
      refine j_istore (ll' := [(6, aI (x6 + 0)), (0, aR 61), (1, aI x1), (4, aI x4), (7, aI x7)]) dX11_upFrom_211 (Nat.le_of_ble_eq_true rfl) rfl ?_
      obtain ⟨o6, h⟩ := h
      refine j_iinc (ll' := [(7, aI (x7 + 1)), (6, aI (x6 + 0)), (0, aR 61), (1, aI x1), (4, aI x4)]) 4 dX11_upFrom_213 rfl (Nat.le_of_ble_eq_true rfl) o6 rfl ?_
      refine j_goto (tgt := 170) dX11_upFrom_216 (by decide) ?_
      refine j_sub [2, 3, 4, 1, 0] rfl ?_
      exact h
    · replace h := h.2 c4
      refine j_iconst (x := 1) dX11_upFrom_205 rfl (i32_c rfl) ?_
      refine j_goto (tgt := 210) dX11_upFrom_206 (by decide) ?_
      obtain ⟨o7, h⟩ := h
      refine j_iadd (z := (x6 + 1)) dX11_upFrom_210 rfl o7 ?_
      refine j_istore (ll' := [(6, aI (x6 + 1)), (0, aR 61), (1, aI x1), (4, aI x4), (7, aI x7)]) dX11_upFrom_211 (Nat.le_of_ble_eq_true rfl) rfl ?_
      obtain ⟨o8, h⟩ := h
      refine j_iinc (ll' := [(7, aI (x7 + 1)), (6, aI (x6 + 1)), (0, aR 61), (1, aI x1), (4, aI x4)]) 4 dX11_upFrom_213 rfl (Nat.le_of_ble_eq_true rfl) o8 rfl ?_
      refine j_goto (tgt := 170) dX11_upFrom_216 (by decide) ?_
      refine j_sub [2, 3, 4, 1, 0] rfl ?_
      exact h
set_option maxRecDepth 100000 in
set_option maxHeartbeats 4000000 in
theorem B_X11_lineUp_0 {post : Int → ax_M → Prop} {M : ax_M} {x1 : Int} (h : ax_J Y_X11_lineUp (ax_Ki Y_X11_lineUp SH post) 0 0 4 [(0, aR 61), (1, aI x1), (2, aI 0), (3, aI 0)] [] SH M) : ax_J Y_X11_lineUp (ax_Ki Y_X11_lineUp SH post) 0 0 0 [(0, aR 61), (1, aI x1)] [] SH M := by
  refine j_iconst (x := 0) dX11_lineUp_0 rfl (i32_c rfl) ?_
  refine j_istore_n (ll' := [(2, aI 0), (0, aR 61), (1, aI x1)]) dX11_lineUp_1 (Nat.le_of_ble_eq_true rfl) rfl ?_
  refine j_iconst (x := 0) dX11_lineUp_2 rfl (i32_c rfl) ?_
  refine j_istore_n (ll' := [(3, aI 0), (2, aI 0), (0, aR 61), (1, aI x1)]) dX11_lineUp_3 (Nat.le_of_ble_eq_true rfl) rfl ?_
  refine j_sub [2, 3, 1, 0] rfl ?_
  exact h
theorem E_X11_lineUp {post : Int → ax_M → Prop} {M : ax_M} {x1 : Int} (h : ax_mr SH M → ax_J Y_X11_lineUp (ax_Ki Y_X11_lineUp SH post) 0 0 4 [(0, aR 61), (1, aI x1), (2, aI 0), (3, aI 0)] [] SH M) : ax_Ti Y_X11_lineUp [aR 61, aI x1] SH M post :=
  ti_of rfl (Nat.le_of_ble_eq_true rfl) rfl (fun q => B_X11_lineUp_0 (h q))
set_option maxRecDepth 100000 in
set_option maxHeartbeats 4000000 in
theorem B_X11_lineUp_4 {post : Int → ax_M → Prop} {M : ax_M} {x1 x2 x3 : Int} (h : (((2 ≤ x3) → post x2 M) ∧ ((x3 < 2) → ax_J Y_X11_lineUp (ax_Ki Y_X11_lineUp SH post) 0 0 12 [(0, aR 61), (1, aI x1), (2, aI x2), (3, aI x3), (4, aI 0)] [] SH M))) : ax_J Y_X11_lineUp (ax_Ki Y_X11_lineUp SH post) 0 0 4 [(0, aR 61), (1, aI x1), (2, aI x2), (3, aI x3)] [] SH M := by
  refine j_iload_n 3 dX11_lineUp_4 rfl ?_
  refine j_iconst (x := 2) dX11_lineUp_5 rfl (i32_c rfl) ?_
  refine j_icmp_ge (tgt := 85) dX11_lineUp_6 (by decide) (fun c1 => ?_) (fun c1 => ?_)
  · replace h := h.1 c1
    refine j_iload_n 2 dX11_lineUp_85 rfl ?_
    exact j_iret dX11_lineUp_86 rfl ⟨Nat.le_of_ble_eq_true rfl, Nat.le_of_ble_eq_true rfl⟩ (fun _ => h)
  · replace h := h.2 c1
    refine j_iconst (x := 0) dX11_lineUp_9 rfl (i32_c rfl) ?_
    refine j_istore (ll' := [(4, aI 0), (0, aR 61), (1, aI x1), (2, aI x2), (3, aI x3)]) dX11_lineUp_10 (Nat.le_of_ble_eq_true rfl) rfl ?_
    refine j_sub [1, 2, 3, 4, 0] rfl ?_
    exact h
set_option maxRecDepth 100000 in
set_option maxHeartbeats 4000000 in
theorem B_X11_lineUp_12 {post : Int → ax_M → Prop} {M : ax_M} {x1 x2 x3 x4 : Int} (h : ((((M 61 25) ≤ x4) → (-2147483648 ≤ (x3 + 1) ∧ (x3 + 1) ≤ 2147483647) ∧ ax_J Y_X11_lineUp (ax_Ki Y_X11_lineUp SH post) 0 0 4 [(0, aR 61), (1, aI x1), (2, aI x2), (3, aI (x3 + 1))] [] SH M) ∧ ((x4 < (M 61 25)) → (0 ≤ x4 ∧ x4 < 8) ∧ (((¬ (M 72 x4) = x1) → (-2147483648 ≤ (x4 + 1) ∧ (x4 + 1) ≤ 2147483647) ∧ ax_J Y_X11_lineUp (ax_Ki Y_X11_lineUp SH post) 0 0 12 [(0, aR 61), (1, aI x1), (2, aI x2), (3, aI x3), (4, aI (x4 + 1))] [] SH M) ∧ (((M 72 x4) = x1) → ((((M 73 x4) = 0) → (-2147483648 ≤ (x4 + 1) ∧ (x4 + 1) ≤ 2147483647) ∧ ax_J Y_X11_lineUp (ax_Ki Y_X11_lineUp SH post) 0 0 12 [(0, aR 61), (1, aI x1), (2, aI x2), (3, aI x3), (4, aI (x4 + 1))] [] SH M) ∧ ((¬ (M 73 x4) = 0) → (((¬ x3 = 1) → (((¬ (M 74 x4) = 0) → (-2147483648 ≤ (x4 + 1) ∧ (x4 + 1) ≤ 2147483647) ∧ ax_J Y_X11_lineUp (ax_Ki Y_X11_lineUp SH post) 0 0 12 [(0, aR 61), (1, aI x1), (2, aI x2), (3, aI x3), (4, aI (x4 + 1))] [] SH M) ∧ (((M 74 x4) = 0) → (0 ≤ x2 ∧ x2 < 8) ∧ (-2147483648 ≤ (x2 + 1) ∧ (x2 + 1) ≤ 2147483647) ∧ (-2147483648 ≤ (x4 + 1) ∧ (x4 + 1) ≤ 2147483647) ∧ ax_J Y_X11_lineUp (ax_Ki Y_X11_lineUp SH post) 0 0 12 [(0, aR 61), (1, aI x1), (2, aI (x2 + 1)), (3, aI x3), (4, aI (x4 + 1))] [] SH (ax_up M 86 x2 x4)))) ∧ ((x3 = 1) → (((¬ (M 74 x4) = 1) → (-2147483648 ≤ (x4 + 1) ∧ (x4 + 1) ≤ 2147483647) ∧ ax_J Y_X11_lineUp (ax_Ki Y_X11_lineUp SH post) 0 0 12 [(0, aR 61), (1, aI x1), (2, aI x2), (3, aI x3), (4, aI (x4 + 1))] [] SH M) ∧ (((M 74 x4) = 1) → (0 ≤ x2 ∧ x2 < 8) ∧ (-2147483648 ≤ (x2 + 1) ∧ (x2 + 1) ≤ 2147483647) ∧ (-2147483648 ≤ (x4 + 1) ∧ (x4 + 1) ≤ 2147483647) ∧ ax_J Y_X11_lineUp (ax_Ki Y_X11_lineUp SH post) 0 0 12 [(0, aR 61), (1, aI x1), (2, aI (x2 + 1)), (3, aI x3), (4, aI (x4 + 1))] [] SH (ax_up M 86 x2 x4)))))))))))) : ax_J Y_X11_lineUp (ax_Ki Y_X11_lineUp SH post) 0 0 12 [(0, aR 61), (1, aI x1), (2, aI x2), (3, aI x3), (4, aI x4)] [] SH M := by
  refine j_iload 4 dX11_lineUp_12 rfl ?_
  refine j_aload_n 0 dX11_lineUp_14 rfl ?_
  refine j_geti (i := 25) dX11_lineUp_15 f_X11_240 sh_61 rfl rfl (fun _ => ?_)
  refine j_icmp_ge (tgt := 79) dX11_lineUp_18 (by decide) (fun c1 => ?_) (fun c1 => ?_)
  · replace h := h.1 c1
    obtain ⟨o2, h⟩ := h
    refine j_iinc (ll' := [(3, aI (x3 + 1)), (0, aR 61), (1, aI x1), (2, aI x2), (4, aI x4)]) 3 dX11_lineUp_79 rfl (Nat.le_of_ble_eq_true rfl) o2 rfl ?_
    refine j_goto (tgt := 4) dX11_lineUp_82 (by decide) ?_
    refine j_sub [1, 2, 3, 0] rfl ?_
    exact h
  · replace h := h.2 c1
    refine j_aload_n 0 dX11_lineUp_21 rfl ?_
    refine j_getc 72 dX11_lineUp_22 f_X11_48 sh_61 rfl ?_
    refine j_iload 4 dX11_lineUp_25 rfl ?_
    obtain ⟨o3, h⟩ := h
    refine j_iald dX11_lineUp_27 sh_72 o3.1 o3.2 (fun _ => ?_)
    refine j_iload_n 1 dX11_lineUp_28 rfl ?_
    refine j_icmp_ne (tgt := 73) dX11_lineUp_29 (by decide) (fun c4 => ?_) (fun c4 => ?_)
    · replace h := h.1 c4
      obtain ⟨o5, h⟩ := h
      refine j_iinc (ll' := [(4, aI (x4 + 1)), (0, aR 61), (1, aI x1), (2, aI x2), (3, aI x3)]) 4 dX11_lineUp_73 rfl (Nat.le_of_ble_eq_true rfl) o5 rfl ?_
      refine j_goto (tgt := 12) dX11_lineUp_76 (by decide) ?_
      refine j_sub [1, 2, 3, 4, 0] rfl ?_
      exact h
    · replace h := h.2 c4
      refine j_aload_n 0 dX11_lineUp_32 rfl ?_
      refine j_getc 73 dX11_lineUp_33 f_X11_51 sh_61 rfl ?_
      refine j_iload 4 dX11_lineUp_36 rfl ?_
      refine j_zald dX11_lineUp_38 sh_73 o3.1 o3.2 (fun _ => ?_)
      refine j_if_eq (tgt := 73) dX11_lineUp_39 (by decide) (fun c6 => ?_) (fun c6 => ?_)
      · replace h := h.1 c6
        obtain ⟨o7, h⟩ := h
        refine j_iinc (ll' := [(4, aI (x4 + 1)), (0, aR 61), (1, aI x1), (2, aI x2), (3, aI x3)]) 4 dX11_lineUp_73 rfl (Nat.le_of_ble_eq_true rfl) o7 rfl ?_
        refine j_goto (tgt := 12) dX11_lineUp_76 (by decide) ?_
        refine j_sub [1, 2, 3, 4, 0] rfl ?_
        exact h
      · replace h := h.2 c6
        refine j_aload_n 0 dX11_lineUp_42 rfl ?_
        refine j_getc 74 dX11_lineUp_43 f_X11_54 sh_61 rfl ?_
        refine j_iload 4 dX11_lineUp_46 rfl ?_
        refine j_zald dX11_lineUp_48 sh_74 o3.1 o3.2 (fun _ => ?_)
        refine j_iload_n 3 dX11_lineUp_49 rfl ?_
        refine j_iconst (x := 1) dX11_lineUp_50 rfl (i32_c rfl) ?_
        refine j_icmp_ne (tgt := 58) dX11_lineUp_51 (by decide) (fun c8 => ?_) (fun c8 => ?_)
        · replace h := h.1 c8
          refine j_iconst (x := 0) dX11_lineUp_58 rfl (i32_c rfl) ?_
          refine j_icmp_ne (tgt := 73) dX11_lineUp_59 (by decide) (fun c9 => ?_) (fun c9 => ?_)
          · replace h := h.1 c9
            obtain ⟨o10, h⟩ := h
            refine j_iinc (ll' := [(4, aI (x4 + 1)), (0, aR 61), (1, aI x1), (2, aI x2), (3, aI x3)]) 4 dX11_lineUp_73 rfl (Nat.le_of_ble_eq_true rfl) o10 rfl ?_
            refine j_goto (tgt := 12) dX11_lineUp_76 (by decide) ?_
            refine j_sub [1, 2, 3, 4, 0] rfl ?_
            exact h
          · replace h := h.2 c9
            refine j_aload_n 0 dX11_lineUp_62 rfl ?_
            refine j_getc 86 dX11_lineUp_63 f_X11_93 sh_61 rfl ?_
            refine j_iload_n 2 dX11_lineUp_66 rfl ?_
            refine j_iload 4 dX11_lineUp_67 rfl ?_
            obtain ⟨o11, h⟩ := h
            refine j_iast dX11_lineUp_69 sh_86 o11.1 o11.2 ?_
            obtain ⟨o12, h⟩ := h
            refine j_iinc (ll' := [(2, aI (x2 + 1)), (0, aR 61), (1, aI x1), (3, aI x3), (4, aI x4)]) 2 dX11_lineUp_70 rfl (Nat.le_of_ble_eq_true rfl) o12 rfl ?_
            obtain ⟨o13, h⟩ := h
            refine j_iinc (ll' := [(4, aI (x4 + 1)), (2, aI (x2 + 1)), (0, aR 61), (1, aI x1), (3, aI x3)]) 4 dX11_lineUp_73 rfl (Nat.le_of_ble_eq_true rfl) o13 rfl ?_
            refine j_goto (tgt := 12) dX11_lineUp_76 (by decide) ?_
            refine j_sub [2, 3, 1, 4, 0] rfl ?_
            exact h
        · replace h := h.2 c8
          refine j_iconst (x := 1) dX11_lineUp_54 rfl (i32_c rfl) ?_
          refine j_goto (tgt := 59) dX11_lineUp_55 (by decide) ?_
          refine j_icmp_ne (tgt := 73) dX11_lineUp_59 (by decide) (fun c14 => ?_) (fun c14 => ?_)
          · replace h := h.1 c14
            obtain ⟨o15, h⟩ := h
            refine j_iinc (ll' := [(4, aI (x4 + 1)), (0, aR 61), (1, aI x1), (2, aI x2), (3, aI x3)]) 4 dX11_lineUp_73 rfl (Nat.le_of_ble_eq_true rfl) o15 rfl ?_
            refine j_goto (tgt := 12) dX11_lineUp_76 (by decide) ?_
            refine j_sub [1, 2, 3, 4, 0] rfl ?_
            exact h
          · replace h := h.2 c14
            refine j_aload_n 0 dX11_lineUp_62 rfl ?_
            refine j_getc 86 dX11_lineUp_63 f_X11_93 sh_61 rfl ?_
            refine j_iload_n 2 dX11_lineUp_66 rfl ?_
            refine j_iload 4 dX11_lineUp_67 rfl ?_
            obtain ⟨o16, h⟩ := h
            refine j_iast dX11_lineUp_69 sh_86 o16.1 o16.2 ?_
            obtain ⟨o17, h⟩ := h
            refine j_iinc (ll' := [(2, aI (x2 + 1)), (0, aR 61), (1, aI x1), (3, aI x3), (4, aI x4)]) 2 dX11_lineUp_70 rfl (Nat.le_of_ble_eq_true rfl) o17 rfl ?_
            obtain ⟨o18, h⟩ := h
            refine j_iinc (ll' := [(4, aI (x4 + 1)), (2, aI (x2 + 1)), (0, aR 61), (1, aI x1), (3, aI x3)]) 4 dX11_lineUp_73 rfl (Nat.le_of_ble_eq_true rfl) o18 rfl ?_
            refine j_goto (tgt := 12) dX11_lineUp_76 (by decide) ?_
            refine j_sub [2, 3, 1, 4, 0] rfl ?_
            exact h
set_option maxRecDepth 100000 in
set_option maxHeartbeats 4000000 in
theorem B_X11_canTell_0 {post : Int → ax_M → Prop} {M : ax_M} {x1 : Int} (h : (0 ≤ x1 ∧ x1 < 8) ∧ ((((M 73 x1) = 0) → post 0 M) ∧ ((¬ (M 73 x1) = 0) → ax_Ti Y_X11_unknowing [aR 61] SH M (fun z2 u1 => ax_Ti Y_X11_bits [aI z2] SH u1 (fun z4 u3 => (((6 < z4) → post 0 u3) ∧ ((z4 ≤ 6) → post 1 u3))))))) : ax_J Y_X11_canTell (ax_Ki Y_X11_canTell SH post) 0 0 0 [(0, aR 61), (1, aI x1)] [] SH M := by
  refine j_aload_n 0 dX11_canTell_0 rfl ?_
  refine j_getc 73 dX11_canTell_1 f_X11_51 sh_61 rfl ?_
  refine j_iload_n 1 dX11_canTell_4 rfl ?_
  obtain ⟨o1, h⟩ := h
  refine j_zald dX11_canTell_5 sh_73 o1.1 o1.2 (fun _ => ?_)
  refine j_if_eq (tgt := 25) dX11_canTell_6 (by decide) (fun c2 => ?_) (fun c2 => ?_)
  · replace h := h.1 c2
    refine j_iconst (x := 0) dX11_canTell_25 rfl (i32_c rfl) ?_
    exact j_zret dX11_canTell_26 rfl ⟨Nat.le_of_ble_eq_true rfl, Nat.le_of_ble_eq_true rfl⟩ (by decide) h
  · replace h := h.2 c2
    refine j_aload_n 0 dX11_canTell_9 rfl ?_
    refine j_calliV (Yc := Y_X11_unknowing) (as := []) (rest := []) dX11_canTell_10 q_X11_357 ⟨Nat.le_of_ble_eq_true rfl, Nat.le_of_ble_eq_true rfl, Nat.le_of_ble_eq_true rfl, Nat.le_of_ble_eq_true rfl⟩ sh_61 rfl (Nat.le_of_ble_eq_true rfl) rfl (ti_mono h (fun z2 u1 h => ?_))
    refine j_calliS (Yc := Y_X11_bits) (as := [aI z2]) (rest := []) dX11_canTell_13 q_X11_360 ⟨Nat.le_of_ble_eq_true rfl, Nat.le_of_ble_eq_true rfl, Nat.le_of_ble_eq_true rfl, Nat.le_of_ble_eq_true rfl⟩ rfl (Nat.le_of_ble_eq_true rfl) rfl (ti_mono h (fun z4 u3 h => ?_))
    refine j_bipush (x := 6) dX11_canTell_16 rfl (i32_c rfl) ?_
    refine j_icmp_gt (tgt := 25) dX11_canTell_18 (by decide) (fun c3 => ?_) (fun c3 => ?_)
    · replace h := h.1 c3
      refine j_iconst (x := 0) dX11_canTell_25 rfl (i32_c rfl) ?_
      exact j_zret dX11_canTell_26 rfl ⟨Nat.le_of_ble_eq_true rfl, Nat.le_of_ble_eq_true rfl⟩ (by decide) h
    · replace h := h.2 c3
      refine j_iconst (x := 1) dX11_canTell_21 rfl (i32_c rfl) ?_
      refine j_goto (tgt := 26) dX11_canTell_22 (by decide) ?_
      exact j_zret dX11_canTell_26 rfl ⟨Nat.le_of_ble_eq_true rfl, Nat.le_of_ble_eq_true rfl⟩ (by decide) h
theorem E_X11_canTell {post : Int → ax_M → Prop} {M : ax_M} {x1 : Int} (h : ax_mr SH M → (0 ≤ x1 ∧ x1 < 8) ∧ ((((M 73 x1) = 0) → post 0 M) ∧ ((¬ (M 73 x1) = 0) → ax_Ti Y_X11_unknowing [aR 61] SH M (fun z2 u1 => ax_Ti Y_X11_bits [aI z2] SH u1 (fun z4 u3 => (((6 < z4) → post 0 u3) ∧ ((z4 ≤ 6) → post 1 u3))))))) : ax_Ti Y_X11_canTell [aR 61, aI x1] SH M post :=
  ti_of rfl (Nat.le_of_ble_eq_true rfl) rfl (fun q => B_X11_canTell_0 (h q))
set_option maxRecDepth 100000 in
set_option maxHeartbeats 4000000 in
theorem B_X11_findDark_0 {post : ax_M → Prop} {M : ax_M} (h : ax_J Y_X11_findDark (ax_Kv Y_X11_findDark SH post) 0 0 2 [(0, aR 61), (1, aI 0)] [] SH M) : ax_J Y_X11_findDark (ax_Kv Y_X11_findDark SH post) 0 0 0 [(0, aR 61)] [] SH M := by
  refine j_iconst (x := 0) dX11_findDark_0 rfl (i32_c rfl) ?_
  refine j_istore_n (ll' := [(1, aI 0), (0, aR 61)]) dX11_findDark_1 (Nat.le_of_ble_eq_true rfl) rfl ?_
  refine j_sub [1, 0] rfl ?_
  exact h
theorem E_X11_findDark {post : ax_M → Prop} {M : ax_M} (h : ax_mr SH M → ax_J Y_X11_findDark (ax_Kv Y_X11_findDark SH post) 0 0 2 [(0, aR 61), (1, aI 0)] [] SH M) : ax_Tv Y_X11_findDark [aR 61] SH M post :=
  tv_of rfl (Nat.le_of_ble_eq_true rfl) rfl (fun q => B_X11_findDark_0 (h q))
set_option maxRecDepth 100000 in
set_option maxHeartbeats 4000000 in
theorem B_X11_findDark_2 {post : ax_M → Prop} {M : ax_M} {x1 : Int} (h : ((((M 61 0) ≤ x1) → post M) ∧ ((x1 < (M 61 0)) → (-2147483648 ≤ (2 * x1) ∧ (2 * x1) ≤ 2147483647) ∧ ax_Ti Y_X11_lastOf [aR 61, aI x1, aI (-1), aI 0] SH M (fun z2 u1 => (0 ≤ (2 * x1) ∧ (2 * x1) < 24) ∧ (-2147483648 ≤ ((2 * x1) + 1) ∧ ((2 * x1) + 1) ≤ 2147483647) ∧ ax_Ti Y_X11_lastOf [aR 61, aI x1, aI (-1), aI 1] SH (ax_up u1 87 (2 * x1) z2) (fun z4 u3 => (0 ≤ ((2 * x1) + 1) ∧ ((2 * x1) + 1) < 24) ∧ (-2147483648 ≤ (x1 + 1) ∧ (x1 + 1) ≤ 2147483647) ∧ ax_J Y_X11_findDark (ax_Kv Y_X11_findDark SH post) 0 0 2 [(0, aR 61), (1, aI (x1 + 1))] [] SH (ax_up u3 87 ((2 * x1) + 1) z4)))))) : ax_J Y_X11_findDark (ax_Kv Y_X11_findDark SH post) 0 0 2 [(0, aR 61), (1, aI x1)] [] SH M := by
  refine j_iload_n 1 dX11_findDark_2 rfl ?_
  refine j_aload_n 0 dX11_findDark_3 rfl ?_
  refine j_geti (i := 0) dX11_findDark_4 f_X11_133 sh_61 rfl rfl (fun _ => ?_)
  refine j_icmp_ge (tgt := 48) dX11_findDark_7 (by decide) (fun c1 => ?_) (fun c1 => ?_)
  · replace h := h.1 c1
    exact j_vret dX11_findDark_48 rfl ⟨Nat.le_of_ble_eq_true rfl, Nat.le_of_ble_eq_true rfl⟩ h
  · replace h := h.2 c1
    refine j_aload_n 0 dX11_findDark_10 rfl ?_
    refine j_getc 87 dX11_findDark_11 f_X11_96 sh_61 rfl ?_
    refine j_iconst (x := 2) dX11_findDark_14 rfl (i32_c rfl) ?_
    refine j_iload_n 1 dX11_findDark_15 rfl ?_
    obtain ⟨o2, h⟩ := h
    refine j_imul (z := (2 * x1)) dX11_findDark_16 rfl o2 ?_
    refine j_aload_n 0 dX11_findDark_17 rfl ?_
    refine j_iload_n 1 dX11_findDark_18 rfl ?_
    refine j_iconst (x := (-1)) dX11_findDark_19 rfl (i32_c rfl) ?_
    refine j_iconst (x := 0) dX11_findDark_20 rfl (i32_c rfl) ?_
    refine j_calliV (Yc := Y_X11_lastOf) (as := [aI x1, aI (-1), aI 0]) (rest := [aI (2 * x1), aR 87]) dX11_findDark_21 q_X11_291 ⟨Nat.le_of_ble_eq_true rfl, Nat.le_of_ble_eq_true rfl, Nat.le_of_ble_eq_true rfl, Nat.le_of_ble_eq_true rfl⟩ sh_61 rfl (Nat.le_of_ble_eq_true rfl) rfl (ti_mono h (fun z2 u1 h => ?_))
    obtain ⟨o3, h⟩ := h
    refine j_iast dX11_findDark_24 sh_87 o3.1 o3.2 ?_
    refine j_aload_n 0 dX11_findDark_25 rfl ?_
    refine j_getc 87 dX11_findDark_26 f_X11_96 sh_61 rfl ?_
    refine j_iconst (x := 2) dX11_findDark_29 rfl (i32_c rfl) ?_
    refine j_iload_n 1 dX11_findDark_30 rfl ?_
    refine j_imul (z := (2 * x1)) dX11_findDark_31 rfl o2 ?_
    refine j_iconst (x := 1) dX11_findDark_32 rfl (i32_c rfl) ?_
    obtain ⟨o4, h⟩ := h
    refine j_iadd (z := ((2 * x1) + 1)) dX11_findDark_33 rfl o4 ?_
    refine j_aload_n 0 dX11_findDark_34 rfl ?_
    refine j_iload_n 1 dX11_findDark_35 rfl ?_
    refine j_iconst (x := (-1)) dX11_findDark_36 rfl (i32_c rfl) ?_
    refine j_iconst (x := 1) dX11_findDark_37 rfl (i32_c rfl) ?_
    refine j_calliV (Yc := Y_X11_lastOf) (as := [aI x1, aI (-1), aI 1]) (rest := [aI ((2 * x1) + 1), aR 87]) dX11_findDark_38 q_X11_291 ⟨Nat.le_of_ble_eq_true rfl, Nat.le_of_ble_eq_true rfl, Nat.le_of_ble_eq_true rfl, Nat.le_of_ble_eq_true rfl⟩ sh_61 rfl (Nat.le_of_ble_eq_true rfl) rfl (ti_mono h (fun z4 u3 h => ?_))
    obtain ⟨o5, h⟩ := h
    refine j_iast dX11_findDark_41 sh_87 o5.1 o5.2 ?_
    obtain ⟨o6, h⟩ := h
    refine j_iinc (ll' := [(1, aI (x1 + 1)), (0, aR 61)]) 1 dX11_findDark_42 rfl (Nat.le_of_ble_eq_true rfl) o6 rfl ?_
    refine j_goto (tgt := 2) dX11_findDark_45 (by decide) ?_
    refine j_sub [1, 0] rfl ?_
    exact h
set_option maxRecDepth 100000 in
set_option maxHeartbeats 4000000 in
theorem B_X11_tellSet_0 {post : Int → ax_M → Prop} {M : ax_M} {x1 x2 x3 x4 : Int} (h : ax_J Y_X11_tellSet (ax_Ki Y_X11_tellSet SH post) 0 0 8 [(0, aR 61), (1, aI x1), (2, aI x2), (3, aI x3), (4, aI x4), (5, aI 0)] [] SH (ax_up M 61 47 0)) : ax_J Y_X11_tellSet (ax_Ki Y_X11_tellSet SH post) 0 0 0 [(0, aR 61), (1, aI x1), (2, aI x2), (3, aI x3), (4, aI x4)] [] SH M := by
  refine j_aload_n 0 dX11_tellSet_0 rfl ?_
  refine j_iconst (x := 0) dX11_tellSet_1 rfl (i32_c rfl) ?_
  refine j_puti (i := 47) dX11_tellSet_2 p_X11_340 (fun h => by cases h) sh_61 rfl rfl ?_
  refine j_iconst (x := 0) dX11_tellSet_5 rfl (i32_c rfl) ?_
  refine j_istore (ll' := [(5, aI 0), (0, aR 61), (1, aI x1), (2, aI x2), (3, aI x3), (4, aI x4)]) dX11_tellSet_6 (Nat.le_of_ble_eq_true rfl) rfl ?_
  refine j_sub [1, 2, 3, 4, 5, 0] rfl ?_
  exact h
theorem E_X11_tellSet {post : Int → ax_M → Prop} {M : ax_M} {x1 x2 x3 x4 : Int} (h : ax_mr SH M → ax_J Y_X11_tellSet (ax_Ki Y_X11_tellSet SH post) 0 0 8 [(0, aR 61), (1, aI x1), (2, aI x2), (3, aI x3), (4, aI x4), (5, aI 0)] [] SH (ax_up M 61 47 0)) : ax_Ti Y_X11_tellSet [aR 61, aI x1, aI x2, aI x3, aI x4] SH M post :=
  ti_of rfl (Nat.le_of_ble_eq_true rfl) rfl (fun q => B_X11_tellSet_0 (h q))
set_option maxRecDepth 100000 in
set_option maxHeartbeats 4000000 in
theorem B_X11_tellSet_8 {post : Int → ax_M → Prop} {M : ax_M} {x1 x2 x3 x4 x5 : Int} (h : ((((M 61 0) ≤ x5) → ax_J Y_X11_tellSet (ax_Ki Y_X11_tellSet SH post) 0 0 60 [(0, aR 61), (1, aI x1), (2, aI x2), (3, aI x3), (5, aI (-1)), (6, aI 1)] [] SH M) ∧ ((x5 < (M 61 0)) → (((¬ (bo_and (bo_shr x4 x5) 1) = 1) → (-2147483648 ≤ (x5 + 1) ∧ (x5 + 1) ≤ 2147483647) ∧ ax_J Y_X11_tellSet (ax_Ki Y_X11_tellSet SH post) 0 0 8 [(0, aR 61), (1, aI x1), (2, aI x2), (3, aI x3), (4, aI x4), (5, aI (x5 + 1))] [] SH M) ∧ (((bo_and (bo_shr x4 x5) 1) = 1) → (0 ≤ (M 61 47) ∧ (M 61 47) < 6) ∧ (-2147483648 ≤ ((M 61 47) + 1) ∧ ((M 61 47) + 1) ≤ 2147483647) ∧ (-2147483648 ≤ (x5 + 1) ∧ (x5 + 1) ≤ 2147483647) ∧ ax_J Y_X11_tellSet (ax_Ki Y_X11_tellSet SH post) 0 0 8 [(0, aR 61), (1, aI x1), (2, aI x2), (3, aI x3), (4, aI x4), (5, aI (x5 + 1))] [] SH (ax_up (ax_up M 88 (M 61 47) x5) 61 47 ((M 61 47) + 1))))))) : ax_J Y_X11_tellSet (ax_Ki Y_X11_tellSet SH post) 0 0 8 [(0, aR 61), (1, aI x1), (2, aI x2), (3, aI x3), (4, aI x4), (5, aI x5)] [] SH M := by
  refine j_iload 5 dX11_tellSet_8 rfl ?_
  refine j_aload_n 0 dX11_tellSet_10 rfl ?_
  refine j_geti (i := 0) dX11_tellSet_11 f_X11_133 sh_61 rfl rfl (fun _ => ?_)
  refine j_icmp_ge (tgt := 54) dX11_tellSet_14 (by decide) (fun c1 => ?_) (fun c1 => ?_)
  · replace h := h.1 c1
    refine j_iconst (x := (-1)) dX11_tellSet_54 rfl (i32_c rfl) ?_
    refine j_istore (ll' := [(5, aI (-1)), (0, aR 61), (1, aI x1), (2, aI x2), (3, aI x3), (4, aI x4)]) dX11_tellSet_55 (Nat.le_of_ble_eq_true rfl) rfl ?_
    refine j_iconst (x := 1) dX11_tellSet_57 rfl (i32_c rfl) ?_
    refine j_istore (ll' := [(6, aI 1), (5, aI (-1)), (0, aR 61), (1, aI x1), (2, aI x2), (3, aI x3), (4, aI x4)]) dX11_tellSet_58 (Nat.le_of_ble_eq_true rfl) rfl ?_
    refine j_sub [2, 3, 4, 5, 1, 0] rfl ?_
    exact h
  · replace h := h.2 c1
    refine j_iload 4 dX11_tellSet_17 rfl ?_
    refine j_iload 5 dX11_tellSet_19 rfl ?_
    refine j_calliS (Yc := Y_X11_has) (as := [aI x4, aI x5]) (rest := []) dX11_tellSet_21 q_X11_346 ⟨Nat.le_of_ble_eq_true rfl, Nat.le_of_ble_eq_true rfl, Nat.le_of_ble_eq_true rfl, Nat.le_of_ble_eq_true rfl⟩ rfl (Nat.le_of_ble_eq_true rfl) rfl (ti_of (ll := [(0, aI x4), (1, aI x5)]) rfl (Nat.le_of_ble_eq_true rfl) rfl (fun _ => ?_))
    refine j_iload_n 0 dX11_has_0 rfl ?_
    refine j_iload_n 1 dX11_has_1 rfl ?_
    refine j_ishr (z := (bo_shr x4 x5)) dX11_has_2 rfl ?_
    refine j_iconst (x := 1) dX11_has_3 rfl (i32_c rfl) ?_
    refine j_iand (z := (bo_and (bo_shr x4 x5) 1)) dX11_has_4 rfl ?_
    refine j_iconst (x := 1) dX11_has_5 rfl (i32_c rfl) ?_
    refine j_icmp_ne (tgt := 13) dX11_has_6 (by decide) (fun c2 => ?_) (fun c2 => ?_)
    · replace h := h.1 c2
      refine j_iconst (x := 0) dX11_has_13 rfl (i32_c rfl) ?_
      refine j_zret dX11_has_14 rfl ⟨Nat.le_of_ble_eq_true rfl, Nat.le_of_ble_eq_true rfl⟩ (by decide) ?_
      refine j_if_eq (tgt := 48) dX11_tellSet_24 (by decide) (fun _ => ?_) (fun c => absurd c (by decide))
      obtain ⟨o3, h⟩ := h
      refine j_iinc (ll' := [(5, aI (x5 + 1)), (0, aR 61), (1, aI x1), (2, aI x2), (3, aI x3), (4, aI x4)]) 5 dX11_tellSet_48 rfl (Nat.le_of_ble_eq_true rfl) o3 rfl ?_
      refine j_goto (tgt := 8) dX11_tellSet_51 (by decide) ?_
      refine j_sub [1, 2, 3, 4, 5, 0] rfl ?_
      exact h
    · replace h := h.2 c2
      refine j_iconst (x := 1) dX11_has_9 rfl (i32_c rfl) ?_
      refine j_goto (tgt := 14) dX11_has_10 (by decide) ?_
      refine j_zret dX11_has_14 rfl ⟨Nat.le_of_ble_eq_true rfl, Nat.le_of_ble_eq_true rfl⟩ (by decide) ?_
      refine j_if_eq (tgt := 48) dX11_tellSet_24 (by decide) (fun c => absurd c (by decide)) (fun _ => ?_)
      refine j_aload_n 0 dX11_tellSet_27 rfl ?_
      refine j_getc 88 dX11_tellSet_28 f_X11_99 sh_61 rfl ?_
      refine j_aload_n 0 dX11_tellSet_31 rfl ?_
      refine j_geti (i := 47) dX11_tellSet_32 f_X11_340 sh_61 rfl rfl (fun _ => ?_)
      refine j_iload 5 dX11_tellSet_35 rfl ?_
      obtain ⟨o4, h⟩ := h
      refine j_iast dX11_tellSet_37 sh_88 o4.1 o4.2 ?_
      refine j_aload_n 0 dX11_tellSet_38 rfl ?_
      refine j_dup dX11_tellSet_39 rfl ?_
      refine j_geti (i := 47) dX11_tellSet_40 f_X11_340 sh_61 rfl rfl (fun _ => ?_)
      refine j_iconst (x := 1) dX11_tellSet_43 rfl (i32_c rfl) ?_
      obtain ⟨o5, h⟩ := h
      refine j_iadd (z := ((M 61 47) + 1)) dX11_tellSet_44 rfl o5 ?_
      refine j_puti (i := 47) dX11_tellSet_45 p_X11_340 (fun h => by cases h) sh_61 rfl rfl ?_
      obtain ⟨o6, h⟩ := h
      refine j_iinc (ll' := [(5, aI (x5 + 1)), (0, aR 61), (1, aI x1), (2, aI x2), (3, aI x3), (4, aI x4)]) 5 dX11_tellSet_48 rfl (Nat.le_of_ble_eq_true rfl) o6 rfl ?_
      refine j_goto (tgt := 8) dX11_tellSet_51 (by decide) ?_
      refine j_sub [1, 2, 3, 4, 5, 0] rfl ?_
      exact h
set_option maxRecDepth 100000 in
set_option maxHeartbeats 4000000 in
theorem B_X11_tellSet_60 {post : Int → ax_M → Prop} {M : ax_M} {x1 x2 x3 x5 x6 : Int} (h : (((x6 = 0) → post x5 M) ∧ ((¬ x6 = 0) → ax_Ti Y_X11_tellRow [aR 61, aI x1, aI x2, aI x3] SH M (fun z2 u1 => (((z2 ≤ x5) → ax_Ti Y_X11_nextOrder [aR 61] SH u1 (fun z4 u3 => ax_J Y_X11_tellSet (ax_Ki Y_X11_tellSet SH post) 0 0 60 [(0, aR 61), (1, aI x1), (2, aI x2), (3, aI x3), (5, aI x5), (6, aI z4)] [] SH u3)) ∧ ((x5 < z2) → ax_Ti Y_X11_nextOrder [aR 61] SH u1 (fun z6 u5 => ax_J Y_X11_tellSet (ax_Ki Y_X11_tellSet SH post) 0 0 60 [(0, aR 61), (1, aI x1), (2, aI x2), (3, aI x3), (5, aI z2), (6, aI z6)] [] SH u5))))))) : ax_J Y_X11_tellSet (ax_Ki Y_X11_tellSet SH post) 0 0 60 [(0, aR 61), (1, aI x1), (2, aI x2), (3, aI x3), (5, aI x5), (6, aI x6)] [] SH M := by
  refine j_iload 5 dX11_tellSet_60 rfl ?_
  refine j_if_eq (tgt := 99) dX11_tellSet_62 (by decide) (fun c1 => ?_) (fun c1 => ?_)
  · replace h := h.1 c1
    refine j_iload 4 dX11_tellSet_99 rfl ?_
    exact j_iret dX11_tellSet_101 rfl ⟨Nat.le_of_ble_eq_true rfl, Nat.le_of_ble_eq_true rfl⟩ (fun _ => h)
  · replace h := h.2 c1
    refine j_aload_n 0 dX11_tellSet_65 rfl ?_
    refine j_iload_n 1 dX11_tellSet_66 rfl ?_
    refine j_iload_n 2 dX11_tellSet_67 rfl ?_
    refine j_iload_n 3 dX11_tellSet_68 rfl ?_
    refine j_calliV (Yc := Y_X11_tellRow) (as := [aI x1, aI x2, aI x3]) (rest := []) dX11_tellSet_69 q_X11_350 ⟨Nat.le_of_ble_eq_true rfl, Nat.le_of_ble_eq_true rfl, Nat.le_of_ble_eq_true rfl, Nat.le_of_ble_eq_true rfl⟩ sh_61 rfl (Nat.le_of_ble_eq_true rfl) rfl (ti_mono h (fun z2 u1 h => ?_))
    refine j_istore (ll' := [(7, aI z2), (0, aR 61), (1, aI x1), (2, aI x2), (3, aI x3), (5, aI x5), (6, aI x6)]) dX11_tellSet_72 (Nat.le_of_ble_eq_true rfl) rfl ?_
    refine j_iload 0 dX11_tellSet_74 rfl ?_
    refine j_iload 5 dX11_tellSet_76 rfl ?_
    refine j_icmp_le (tgt := 86) dX11_tellSet_78 (by decide) (fun c2 => ?_) (fun c2 => ?_)
    · replace h := h.1 c2
      refine j_iload 5 dX11_tellSet_86 rfl ?_
      refine j_istore (ll' := [(5, aI x5), (7, aI z2), (0, aR 61), (1, aI x1), (2, aI x2), (3, aI x3), (6, aI x6)]) dX11_tellSet_88 (Nat.le_of_ble_eq_true rfl) rfl ?_
      refine j_aload_n 2 dX11_tellSet_90 rfl ?_
      refine j_calliV (Yc := Y_X11_nextOrder) (as := []) (rest := []) dX11_tellSet_91 q_X11_353 ⟨Nat.le_of_ble_eq_true rfl, Nat.le_of_ble_eq_true rfl, Nat.le_of_ble_eq_true rfl, Nat.le_of_ble_eq_true rfl⟩ sh_61 rfl (Nat.le_of_ble_eq_true rfl) rfl (ti_mono h (fun z4 u3 h => ?_))
      refine j_istore (ll' := [(6, aI z4), (5, aI x5), (7, aI z2), (0, aR 61), (1, aI x1), (2, aI x2), (3, aI x3)]) dX11_tellSet_94 (Nat.le_of_ble_eq_true rfl) rfl ?_
      refine j_goto (tgt := 60) dX11_tellSet_96 (by decide) ?_
      refine j_sub [3, 4, 5, 6, 1, 0] rfl ?_
      exact h
    · replace h := h.2 c2
      refine j_iload 0 dX11_tellSet_81 rfl ?_
      refine j_goto (tgt := 88) dX11_tellSet_83 (by decide) ?_
      refine j_istore (ll' := [(5, aI z2), (7, aI z2), (0, aR 61), (1, aI x1), (2, aI x2), (3, aI x3), (6, aI x6)]) dX11_tellSet_88 (Nat.le_of_ble_eq_true rfl) rfl ?_
      refine j_aload_n 2 dX11_tellSet_90 rfl ?_
      refine j_calliV (Yc := Y_X11_nextOrder) (as := []) (rest := []) dX11_tellSet_91 q_X11_353 ⟨Nat.le_of_ble_eq_true rfl, Nat.le_of_ble_eq_true rfl, Nat.le_of_ble_eq_true rfl, Nat.le_of_ble_eq_true rfl⟩ sh_61 rfl (Nat.le_of_ble_eq_true rfl) rfl (ti_mono h (fun z6 u5 h => ?_))
      refine j_istore (ll' := [(6, aI z6), (5, aI z2), (7, aI z2), (0, aR 61), (1, aI x1), (2, aI x2), (3, aI x3)]) dX11_tellSet_94 (Nat.le_of_ble_eq_true rfl) rfl ?_
      refine j_goto (tgt := 60) dX11_tellSet_96 (by decide) ?_
      refine j_sub [3, 4, 5, 6, 1, 0] rfl ?_
      exact h
set_option maxRecDepth 100000 in
set_option maxHeartbeats 4000000 in
theorem B_X11_unknowing_0 {post : Int → ax_M → Prop} {M : ax_M} (h : ax_J Y_X11_unknowing (ax_Ki Y_X11_unknowing SH post) 0 0 4 [(0, aR 61), (1, aI 0), (2, aI 0)] [] SH M) : ax_J Y_X11_unknowing (ax_Ki Y_X11_unknowing SH post) 0 0 0 [(0, aR 61)] [] SH M := by
  refine j_iconst (x := 0) dX11_unknowing_0 rfl (i32_c rfl) ?_
  refine j_istore_n (ll' := [(1, aI 0), (0, aR 61)]) dX11_unknowing_1 (Nat.le_of_ble_eq_true rfl) rfl ?_
  refine j_iconst (x := 0) dX11_unknowing_2 rfl (i32_c rfl) ?_
  refine j_istore_n (ll' := [(2, aI 0), (1, aI 0), (0, aR 61)]) dX11_unknowing_3 (Nat.le_of_ble_eq_true rfl) rfl ?_
  refine j_sub [2, 1, 0] rfl ?_
  exact h
theorem E_X11_unknowing {post : Int → ax_M → Prop} {M : ax_M} (h : ax_mr SH M → ax_J Y_X11_unknowing (ax_Ki Y_X11_unknowing SH post) 0 0 4 [(0, aR 61), (1, aI 0), (2, aI 0)] [] SH M) : ax_Ti Y_X11_unknowing [aR 61] SH M post :=
  ti_of rfl (Nat.le_of_ble_eq_true rfl) rfl (fun q => B_X11_unknowing_0 (h q))
set_option maxRecDepth 100000 in
set_option maxHeartbeats 4000000 in
theorem B_X11_unknowing_4 {post : Int → ax_M → Prop} {M : ax_M} {x1 x2 : Int} (h : ((((M 61 25) ≤ x2) → post x1 M) ∧ ((x2 < (M 61 25)) → (0 ≤ x2 ∧ x2 < 8) ∧ ((((M 73 x2) = 0) → (-2147483648 ≤ (x2 + 1) ∧ (x2 + 1) ≤ 2147483647) ∧ ax_J Y_X11_unknowing (ax_Ki Y_X11_unknowing SH post) 0 0 4 [(0, aR 61), (1, aI (bo_or x1 (bo_shl 1 (M 72 x2)))), (2, aI (x2 + 1))] [] SH M) ∧ ((¬ (M 73 x2) = 0) → (-2147483648 ≤ (x2 + 1) ∧ (x2 + 1) ≤ 2147483647) ∧ ax_J Y_X11_unknowing (ax_Ki Y_X11_unknowing SH post) 0 0 4 [(0, aR 61), (1, aI (bo_or x1 0)), (2, aI (x2 + 1))] [] SH M))))) : ax_J Y_X11_unknowing (ax_Ki Y_X11_unknowing SH post) 0 0 4 [(0, aR 61), (1, aI x1), (2, aI x2)] [] SH M := by
  refine j_iload_n 2 dX11_unknowing_4 rfl ?_
  refine j_aload_n 0 dX11_unknowing_5 rfl ?_
  refine j_geti (i := 25) dX11_unknowing_6 f_X11_240 sh_61 rfl rfl (fun _ => ?_)
  refine j_icmp_ge (tgt := 42) dX11_unknowing_9 (by decide) (fun c1 => ?_) (fun c1 => ?_)
  · replace h := h.1 c1
    refine j_iload_n 1 dX11_unknowing_42 rfl ?_
    exact j_iret dX11_unknowing_43 rfl ⟨Nat.le_of_ble_eq_true rfl, Nat.le_of_ble_eq_true rfl⟩ (fun _ => h)
  · replace h := h.2 c1
    refine j_iload_n 1 dX11_unknowing_12 rfl ?_
    refine j_aload_n 0 dX11_unknowing_13 rfl ?_
    refine j_getc 73 dX11_unknowing_14 f_X11_51 sh_61 rfl ?_
    refine j_iload_n 2 dX11_unknowing_17 rfl ?_
    obtain ⟨o2, h⟩ := h
    refine j_zald dX11_unknowing_18 sh_73 o2.1 o2.2 (fun _ => ?_)
    refine j_if_eq (tgt := 26) dX11_unknowing_19 (by decide) (fun c3 => ?_) (fun c3 => ?_)
    · replace h := h.1 c3
      refine j_iconst (x := 1) dX11_unknowing_26 rfl (i32_c rfl) ?_
      refine j_aload_n 0 dX11_unknowing_27 rfl ?_
      refine j_getc 72 dX11_unknowing_28 f_X11_48 sh_61 rfl ?_
      refine j_iload_n 2 dX11_unknowing_31 rfl ?_
      refine j_iald dX11_unknowing_32 sh_72 o2.1 o2.2 (fun _ => ?_)
      refine j_ishl (z := (bo_shl 1 (M 72 x2))) dX11_unknowing_33 rfl ?_
      refine j_ior (z := (bo_or x1 (bo_shl 1 (M 72 x2)))) dX11_unknowing_34 rfl ?_
      refine j_istore_n (ll' := [(1, aI (bo_or x1 (bo_shl 1 (M 72 x2)))), (0, aR 61), (2, aI x2)]) dX11_unknowing_35 (Nat.le_of_ble_eq_true rfl) rfl ?_
      obtain ⟨o4, h⟩ := h
      refine j_iinc (ll' := [(2, aI (x2 + 1)), (1, aI (bo_or x1 (bo_shl 1 (M 72 x2)))), (0, aR 61)]) 2 dX11_unknowing_36 rfl (Nat.le_of_ble_eq_true rfl) o4 rfl ?_
      refine j_goto (tgt := 4) dX11_unknowing_39 (by decide) ?_
      refine j_sub [2, 1, 0] rfl ?_
      exact h
    · replace h := h.2 c3
      refine j_iconst (x := 0) dX11_unknowing_22 rfl (i32_c rfl) ?_
      refine j_goto (tgt := 34) dX11_unknowing_23 (by decide) ?_
      refine j_ior (z := (bo_or x1 0)) dX11_unknowing_34 rfl ?_
      refine j_istore_n (ll' := [(1, aI (bo_or x1 0)), (0, aR 61), (2, aI x2)]) dX11_unknowing_35 (Nat.le_of_ble_eq_true rfl) rfl ?_
      obtain ⟨o5, h⟩ := h
      refine j_iinc (ll' := [(2, aI (x2 + 1)), (1, aI (bo_or x1 0)), (0, aR 61)]) 2 dX11_unknowing_36 rfl (Nat.le_of_ble_eq_true rfl) o5 rfl ?_
      refine j_goto (tgt := 4) dX11_unknowing_39 (by decide) ?_
      refine j_sub [2, 1, 0] rfl ?_
      exact h
set_option maxRecDepth 100000 in
set_option maxHeartbeats 4000000 in
theorem B_X11_goRow_0 {post : Int → ax_M → Prop} {M : ax_M} {x1 x2 x3 : Int} (h : ax_J Y_X11_goRow (ax_Ki Y_X11_goRow SH post) 0 0 15 [(0, aR 61), (2, aI x2), (3, aI x3), (4, aI 1)] [] SH (ax_up (ax_up M 61 52 x1) 61 53 1000000)) : ax_J Y_X11_goRow (ax_Ki Y_X11_goRow SH post) 0 0 0 [(0, aR 61), (1, aI x1), (2, aI x2), (3, aI x3)] [] SH M := by
  refine j_aload_n 0 dX11_goRow_0 rfl ?_
  refine j_iload_n 1 dX11_goRow_1 rfl ?_
  refine j_puti (i := 52) dX11_goRow_2 p_X11_375 (fun h => by cases h) sh_61 rfl rfl ?_
  refine j_aload_n 0 dX11_goRow_5 rfl ?_
  refine j_ldc2 (x := 1000000) dX11_goRow_6 (ax_in 1586 (by decide +kernel) rfl) (i64_c rfl) ?_
  refine j_putl (i := 53) dX11_goRow_9 p_X11_380 (fun h => by cases h) sh_61 rfl rfl ?_
  refine j_iconst (x := 1) dX11_goRow_12 rfl (i32_c rfl) ?_
  refine j_istore (ll' := [(4, aI 1), (0, aR 61), (1, aI x1), (2, aI x2), (3, aI x3)]) dX11_goRow_13 (Nat.le_of_ble_eq_true rfl) rfl ?_
  refine j_sub [1, 3, 4, 0] rfl ?_
  exact h
theorem E_X11_goRow {post : Int → ax_M → Prop} {M : ax_M} {x1 x2 x3 : Int} (h : ax_mr SH M → ax_J Y_X11_goRow (ax_Ki Y_X11_goRow SH post) 0 0 15 [(0, aR 61), (2, aI x2), (3, aI x3), (4, aI 1)] [] SH (ax_up (ax_up M 61 52 x1) 61 53 1000000)) : ax_Ti Y_X11_goRow [aR 61, aI x1, aI x2, aI x3] SH M post :=
  ti_of rfl (Nat.le_of_ble_eq_true rfl) rfl (fun q => B_X11_goRow_0 (h q))
set_option maxRecDepth 100000 in
set_option maxHeartbeats 4000000 in
theorem B_X11_goRow_15 {post : Int → ax_M → Prop} {M : ax_M} {x2 x3 x4 : Int} (h : ((((M 61 50) ≤ x4) → post (-1) M) ∧ ((x4 < (M 61 50)) → (-2147483648 ≤ (x4 - 1) ∧ (x4 - 1) ≤ 2147483647) ∧ (0 ≤ (x4 - 1) ∧ (x4 - 1) < 12) ∧ (0 ≤ x4 ∧ x4 < 12) ∧ ax_Ti Y_X11_wayTo [aR 61, aI (M 91 (x4 - 1)), aI (M 91 x4), aI (M 61 52), aI x2, aI x3] SH M (fun z2 u1 => (((0 ≤ z2) → ax_Ti Y_X11_through [aR 61, aI z2, aI (u1 61 52), aI x2, aI x3] SH u1 (fun z4 u3 => ax_Ti Y_X11_opensOf [aR 61, aI z2, aI z4] SH (ax_up u3 61 52 z4) (fun z6 u5 => (-9223372036854775808 ≤ ((u3 61 53) * z6) ∧ ((u3 61 53) * z6) ≤ 9223372036854775807) ∧ (0 ≤ ((u3 61 53) * z6)) ∧ (-2147483648 ≤ (x4 + 1) ∧ (x4 + 1) ≤ 2147483647) ∧ ax_J Y_X11_goRow (ax_Ki Y_X11_goRow SH post) 0 0 15 [(0, aR 61), (2, aI x2), (3, aI x3), (4, aI (x4 + 1))] [] SH (ax_up u5 61 53 (((u3 61 53) * z6) / 1000000))))) ∧ ((z2 < 0) → post x4 u1)))))) : ax_J Y_X11_goRow (ax_Ki Y_X11_goRow SH post) 0 0 15 [(0, aR 61), (2, aI x2), (3, aI x3), (4, aI x4)] [] SH M := by
  refine j_iload 3 dX11_goRow_15 rfl ?_
  refine j_aload_n 0 dX11_goRow_17 rfl ?_
  refine j_geti (i := 50) dX11_goRow_18 f_X11_246 sh_61 rfl rfl (fun _ => ?_)
  refine j_icmp_ge (tgt := 106) dX11_goRow_21 (by decide) (fun c1 => ?_) (fun c1 => ?_)
  · replace h := h.1 c1
    refine j_iconst (x := (-1)) dX11_goRow_106 rfl (i32_c rfl) ?_
    exact j_iret dX11_goRow_107 rfl ⟨Nat.le_of_ble_eq_true rfl, Nat.le_of_ble_eq_true rfl⟩ (fun _ => h)
  · replace h := h.2 c1
    refine j_aload_n 0 dX11_goRow_24 rfl ?_
    refine j_aload_n 0 dX11_goRow_25 rfl ?_
    refine j_getc 91 dX11_goRow_26 f_X11_108 sh_61 rfl ?_
    refine j_iload 3 dX11_goRow_29 rfl ?_
    refine j_iconst (x := 1) dX11_goRow_31 rfl (i32_c rfl) ?_
    obtain ⟨o2, h⟩ := h
    refine j_isub (z := (x4 - 1)) dX11_goRow_32 rfl o2 ?_
    obtain ⟨o3, h⟩ := h
    refine j_iald dX11_goRow_33 sh_91 o3.1 o3.2 (fun _ => ?_)
    refine j_aload_n 0 dX11_goRow_34 rfl ?_
    refine j_getc 91 dX11_goRow_35 f_X11_108 sh_61 rfl ?_
    refine j_iload 3 dX11_goRow_38 rfl ?_
    obtain ⟨o4, h⟩ := h
    refine j_iald dX11_goRow_40 sh_91 o4.1 o4.2 (fun _ => ?_)
    refine j_aload_n 0 dX11_goRow_41 rfl ?_
    refine j_geti (i := 52) dX11_goRow_42 f_X11_375 sh_61 rfl rfl (fun _ => ?_)
    refine j_iload_n 1 dX11_goRow_45 rfl ?_
    refine j_iload_n 2 dX11_goRow_46 rfl ?_
    refine j_calliV (Yc := Y_X11_wayTo) (as := [aI (M 91 (x4 - 1)), aI (M 91 x4), aI (M 61 52), aI x2, aI x3]) (rest := []) dX11_goRow_47 q_X11_383 ⟨Nat.le_of_ble_eq_true rfl, Nat.le_of_ble_eq_true rfl, Nat.le_of_ble_eq_true rfl, Nat.le_of_ble_eq_true rfl⟩ sh_61 rfl (Nat.le_of_ble_eq_true rfl) rfl (ti_mono h (fun z2 u1 h => ?_))
    refine j_istore (ll' := [(5, aI z2), (0, aR 61), (2, aI x2), (3, aI x3), (4, aI x4)]) dX11_goRow_50 (Nat.le_of_ble_eq_true rfl) rfl ?_
    refine j_iload 0 dX11_goRow_52 rfl ?_
    refine j_if_ge (tgt := 60) dX11_goRow_54 (by decide) (fun c5 => ?_) (fun c5 => ?_)
    · replace h := h.1 c5
      refine j_aload_n 1 dX11_goRow_60 rfl ?_
      refine j_aload_n 1 dX11_goRow_61 rfl ?_
      refine j_iload 0 dX11_goRow_62 rfl ?_
      refine j_aload_n 1 dX11_goRow_64 rfl ?_
      refine j_geti (i := 52) dX11_goRow_65 f_X11_375 sh_61 rfl rfl (fun _ => ?_)
      refine j_iload_n 2 dX11_goRow_68 rfl ?_
      refine j_iload_n 3 dX11_goRow_69 rfl ?_
      refine j_calliV (Yc := Y_X11_through) (as := [aI z2, aI (u1 61 52), aI x2, aI x3]) (rest := [aR 61]) dX11_goRow_70 q_X11_276 ⟨Nat.le_of_ble_eq_true rfl, Nat.le_of_ble_eq_true rfl, Nat.le_of_ble_eq_true rfl, Nat.le_of_ble_eq_true rfl⟩ sh_61 rfl (Nat.le_of_ble_eq_true rfl) rfl (ti_mono h (fun z4 u3 h => ?_))
      refine j_puti (i := 52) dX11_goRow_73 p_X11_375 (fun h => by cases h) sh_61 rfl rfl ?_
      refine j_aload_n 1 dX11_goRow_76 rfl ?_
      refine j_aload_n 1 dX11_goRow_77 rfl ?_
      refine j_getl (i := 53) dX11_goRow_78 f_X11_380 sh_61 rfl rfl ?_
      refine j_aload_n 1 dX11_goRow_81 rfl ?_
      refine j_iload 0 dX11_goRow_82 rfl ?_
      refine j_aload_n 1 dX11_goRow_84 rfl ?_
      refine j_geti (i := 52) dX11_goRow_85 f_X11_375 sh_61 rfl rfl (fun _ => ?_)
      refine j_calliV (Yc := Y_X11_opensOf) (as := [aI z2, aI z4]) (rest := [aL (u3 61 53), aR 61]) dX11_goRow_88 q_X11_386 ⟨Nat.le_of_ble_eq_true rfl, Nat.le_of_ble_eq_true rfl, Nat.le_of_ble_eq_true rfl, Nat.le_of_ble_eq_true rfl⟩ sh_61 rfl (Nat.le_of_ble_eq_true rfl) rfl (ti_mono h (fun z6 u5 h => ?_))
      refine j_i2l dX11_goRow_91 ?_
      obtain ⟨o6, h⟩ := h
      refine j_lmul (z := ((u3 61 53) * z6)) dX11_goRow_92 rfl o6 ?_
      refine j_ldc2 (x := 1000000) dX11_goRow_93 (ax_in 1586 (by decide +kernel) rfl) (i64_c rfl) ?_
      obtain ⟨o7, h⟩ := h
      refine j_ldiv (z := (((u3 61 53) * z6) / 1000000)) dX11_goRow_96 rfl o7 (by decide) ?_
      refine j_putl (i := 53) dX11_goRow_97 p_X11_380 (fun h => by cases h) sh_61 rfl rfl ?_
      obtain ⟨o8, h⟩ := h
      refine j_iinc (ll' := [(4, aI (x4 + 1)), (5, aI z2), (0, aR 61), (2, aI x2), (3, aI x3)]) 4 dX11_goRow_100 rfl (Nat.le_of_ble_eq_true rfl) o8 rfl ?_
      refine j_goto (tgt := 15) dX11_goRow_103 (by decide) ?_
      refine j_sub [2, 3, 4, 0] rfl ?_
      exact h
    · replace h := h.2 c5
      refine j_iload 4 dX11_goRow_57 rfl ?_
      exact j_iret dX11_goRow_59 rfl ⟨Nat.le_of_ble_eq_true rfl, Nat.le_of_ble_eq_true rfl⟩ (fun _ => h)
set_option maxRecDepth 100000 in
set_option maxHeartbeats 4000000 in
theorem B_X11_opensOf_0 {post : Int → ax_M → Prop} {M : ax_M} {x1 x2 : Int} (h : ax_J Y_X11_opensOf (ax_Ki Y_X11_opensOf SH post) 0 0 7 [(0, aR 61), (1, aI x1), (2, aI x2), (3, aI 1000000), (4, aI 0)] [] SH M) : ax_J Y_X11_opensOf (ax_Ki Y_X11_opensOf SH post) 0 0 0 [(0, aR 61), (1, aI x1), (2, aI x2)] [] SH M := by
  refine j_ldcw (x := 1000000) dX11_opensOf_0 (ax_in 1595 (by decide +kernel) rfl) (i32_c rfl) ?_
  refine j_istore_n (ll' := [(3, aI 1000000), (0, aR 61), (1, aI x1), (2, aI x2)]) dX11_opensOf_3 (Nat.le_of_ble_eq_true rfl) rfl ?_
  refine j_iconst (x := 0) dX11_opensOf_4 rfl (i32_c rfl) ?_
  refine j_istore (ll' := [(4, aI 0), (3, aI 1000000), (0, aR 61), (1, aI x1), (2, aI x2)]) dX11_opensOf_5 (Nat.le_of_ble_eq_true rfl) rfl ?_
  refine j_sub [2, 3, 4, 1, 0] rfl ?_
  exact h
theorem E_X11_opensOf {post : Int → ax_M → Prop} {M : ax_M} {x1 x2 : Int} (h : ax_mr SH M → ax_J Y_X11_opensOf (ax_Ki Y_X11_opensOf SH post) 0 0 7 [(0, aR 61), (1, aI x1), (2, aI x2), (3, aI 1000000), (4, aI 0)] [] SH M) : ax_Ti Y_X11_opensOf [aR 61, aI x1, aI x2] SH M post :=
  ti_of rfl (Nat.le_of_ble_eq_true rfl) rfl (fun q => B_X11_opensOf_0 (h q))
set_option maxRecDepth 100000 in
set_option maxHeartbeats 4000000 in
theorem B_X11_opensOf_7 {post : Int → ax_M → Prop} {M : ax_M} {x1 x2 x3 x4 : Int} (h : (((x2 ≤ x4) → post x3 M) ∧ ((x4 < x2) → (0 ≤ x1 ∧ x1 < 24) ∧ (-2147483648 ≤ (1000 - (M 68 x1)) ∧ (1000 - (M 68 x1)) ≤ 2147483647) ∧ (-9223372036854775808 ≤ (x3 * (1000 - (M 68 x1))) ∧ (x3 * (1000 - (M 68 x1))) ≤ 9223372036854775807) ∧ (0 ≤ (x3 * (1000 - (M 68 x1)))) ∧ (-2147483648 ≤ ((x3 * (1000 - (M 68 x1))) / 1000) ∧ ((x3 * (1000 - (M 68 x1))) / 1000) ≤ 2147483647) ∧ (-2147483648 ≤ (x4 + 1) ∧ (x4 + 1) ≤ 2147483647) ∧ ax_J Y_X11_opensOf (ax_Ki Y_X11_opensOf SH post) 0 0 7 [(0, aR 61), (1, aI x1), (2, aI x2), (3, aI ((x3 * (1000 - (M 68 x1))) / 1000)), (4, aI (x4 + 1))] [] SH M))) : ax_J Y_X11_opensOf (ax_Ki Y_X11_opensOf SH post) 0 0 7 [(0, aR 61), (1, aI x1), (2, aI x2), (3, aI x3), (4, aI x4)] [] SH M := by
  refine j_iload 4 dX11_opensOf_7 rfl ?_
  refine j_iload_n 2 dX11_opensOf_9 rfl ?_
  refine j_icmp_ge (tgt := 39) dX11_opensOf_10 (by decide) (fun c1 => ?_) (fun c1 => ?_)
  · replace h := h.1 c1
    refine j_iload_n 3 dX11_opensOf_39 rfl ?_
    exact j_iret dX11_opensOf_40 rfl ⟨Nat.le_of_ble_eq_true rfl, Nat.le_of_ble_eq_true rfl⟩ (fun _ => h)
  · replace h := h.2 c1
    refine j_iload_n 3 dX11_opensOf_13 rfl ?_
    refine j_i2l dX11_opensOf_14 ?_
    refine j_sipush (x := 1000) dX11_opensOf_15 rfl (i32_c rfl) ?_
    refine j_aload_n 0 dX11_opensOf_18 rfl ?_
    refine j_getc 68 dX11_opensOf_19 f_X11_32 sh_61 rfl ?_
    refine j_iload_n 1 dX11_opensOf_22 rfl ?_
    obtain ⟨o2, h⟩ := h
    refine j_iald dX11_opensOf_23 sh_68 o2.1 o2.2 (fun _ => ?_)
    obtain ⟨o3, h⟩ := h
    refine j_isub (z := (1000 - (M 68 x1))) dX11_opensOf_24 rfl o3 ?_
    refine j_i2l dX11_opensOf_25 ?_
    obtain ⟨o4, h⟩ := h
    refine j_lmul (z := (x3 * (1000 - (M 68 x1)))) dX11_opensOf_26 rfl o4 ?_
    refine j_ldc2 (x := 1000) dX11_opensOf_27 (ax_in 1596 (by decide +kernel) rfl) (i64_c rfl) ?_
    obtain ⟨o5, h⟩ := h
    refine j_ldiv (z := ((x3 * (1000 - (M 68 x1))) / 1000)) dX11_opensOf_30 rfl o5 (by decide) ?_
    obtain ⟨o6, h⟩ := h
    refine j_l2i dX11_opensOf_31 o6 ?_
    refine j_istore_n (ll' := [(3, aI ((x3 * (1000 - (M 68 x1))) / 1000)), (0, aR 61), (1, aI x1), (2, aI x2), (4, aI x4)]) dX11_opensOf_32 (Nat.le_of_ble_eq_true rfl) rfl ?_
    obtain ⟨o7, h⟩ := h
    refine j_iinc (ll' := [(4, aI (x4 + 1)), (3, aI ((x3 * (1000 - (M 68 x1))) / 1000)), (0, aR 61), (1, aI x1), (2, aI x2)]) 4 dX11_opensOf_33 rfl (Nat.le_of_ble_eq_true rfl) o7 rfl ?_
    refine j_goto (tgt := 7) dX11_opensOf_36 (by decide) ?_
    refine j_sub [2, 3, 4, 1, 0] rfl ?_
    exact h
set_option maxRecDepth 100000 in
set_option maxHeartbeats 4000000 in
theorem B_X11_bestFrom_0 {post : Int → ax_M → Prop} {M : ax_M} {x1 x2 x3 : Int} (h : ax_J Y_X11_bestFrom (ax_Ki Y_X11_bestFrom SH post) 0 0 41 [(0, aR 61), (3, aI x3), (4, aI 0), (5, aI (bo_shl 1 x1)), (6, aL 0)] [] SH (ax_up (ax_up (ax_up (ax_up M 92 0 x1) 93 0 x2) 94 0 1000000) 95 0 0)) : ax_J Y_X11_bestFrom (ax_Ki Y_X11_bestFrom SH post) 0 0 0 [(0, aR 61), (1, aI x1), (2, aI x2), (3, aI x3)] [] SH M := by
  refine j_iconst (x := 0) dX11_bestFrom_0 rfl (i32_c rfl) ?_
  refine j_istore (ll' := [(4, aI 0), (0, aR 61), (1, aI x1), (2, aI x2), (3, aI x3)]) dX11_bestFrom_1 (Nat.le_of_ble_eq_true rfl) rfl ?_
  refine j_aload_n 1 dX11_bestFrom_3 rfl ?_
  refine j_getc 92 dX11_bestFrom_4 f_X11_111 sh_61 rfl ?_
  refine j_iconst (x := 0) dX11_bestFrom_7 rfl (i32_c rfl) ?_
  refine j_iload_n 2 dX11_bestFrom_8 rfl ?_
  refine j_iast dX11_bestFrom_9 sh_92 (by decide) (by decide) ?_
  refine j_aload_n 1 dX11_bestFrom_10 rfl ?_
  refine j_getc 93 dX11_bestFrom_11 f_X11_114 sh_61 rfl ?_
  refine j_iconst (x := 0) dX11_bestFrom_14 rfl (i32_c rfl) ?_
  refine j_iload_n 3 dX11_bestFrom_15 rfl ?_
  refine j_iast dX11_bestFrom_16 sh_93 (by decide) (by decide) ?_
  refine j_aload_n 1 dX11_bestFrom_17 rfl ?_
  refine j_getc 94 dX11_bestFrom_18 f_X11_117 sh_61 rfl ?_
  refine j_iconst (x := 0) dX11_bestFrom_21 rfl (i32_c rfl) ?_
  refine j_ldc2 (x := 1000000) dX11_bestFrom_22 (ax_in 1586 (by decide +kernel) rfl) (i64_c rfl) ?_
  refine j_last dX11_bestFrom_25 sh_94 (by decide) (by decide) ?_
  refine j_aload_n 1 dX11_bestFrom_26 rfl ?_
  refine j_getc 95 dX11_bestFrom_27 f_X11_121 sh_61 rfl ?_
  refine j_iconst (x := 0) dX11_bestFrom_30 rfl (i32_c rfl) ?_
  refine j_iconst (x := 0) dX11_bestFrom_31 rfl (i32_c rfl) ?_
  refine j_iast dX11_bestFrom_32 sh_95 (by decide) (by decide) ?_
  refine j_iconst (x := 1) dX11_bestFrom_33 rfl (i32_c rfl) ?_
  refine j_iload_n 2 dX11_bestFrom_34 rfl ?_
  refine j_ishl (z := (bo_shl 1 x1)) dX11_bestFrom_35 rfl ?_
  refine j_istore (ll' := [(5, aI (bo_shl 1 x1)), (4, aI 0), (0, aR 61), (1, aI x1), (2, aI x2), (3, aI x3)]) dX11_bestFrom_36 (Nat.le_of_ble_eq_true rfl) rfl ?_
  refine j_lconst (x := 0) dX11_bestFrom_38 rfl (i64_c rfl) ?_
  refine j_lstore (ll' := [(6, aL 0), (5, aI (bo_shl 1 x1)), (4, aI 0), (0, aR 61), (1, aI x1), (2, aI x2), (3, aI x3)]) dX11_bestFrom_39 (Nat.le_of_ble_eq_true rfl) rfl ?_
  refine j_sub [3, 6, 2, 1, 0] rfl ?_
  exact h
theorem E_X11_bestFrom {post : Int → ax_M → Prop} {M : ax_M} {x1 x2 x3 : Int} (h : ax_mr SH M → ax_J Y_X11_bestFrom (ax_Ki Y_X11_bestFrom SH post) 0 0 41 [(0, aR 61), (3, aI x3), (4, aI 0), (5, aI (bo_shl 1 x1)), (6, aL 0)] [] SH (ax_up (ax_up (ax_up (ax_up M 92 0 x1) 93 0 x2) 94 0 1000000) 95 0 0)) : ax_Ti Y_X11_bestFrom [aR 61, aI x1, aI x2, aI x3] SH M post :=
  ti_of rfl (Nat.le_of_ble_eq_true rfl) rfl (fun q => B_X11_bestFrom_0 (h q))
set_option maxRecDepth 100000 in
set_option maxHeartbeats 4000000 in
theorem B_X11_bestFrom_41 {post : Int → ax_M → Prop} {M : ax_M} {x3 x4 x5 x6 : Int} (h : (((x4 < 0) → (-2147483648 ≤ x6 ∧ x6 ≤ 2147483647) ∧ post x6 M) ∧ ((0 ≤ x4) → (0 ≤ x4 ∧ x4 < 8) ∧ (((¬ (M 92 x4) = (M 61 1)) → ax_J Y_X11_bestFrom (ax_Ki Y_X11_bestFrom SH post) 0 0 86 [(0, aR 61), (3, aI x3), (4, aI x4), (5, aI x5), (6, aL x6), (8, aI (M 92 x4))] [] SH M) ∧ (((M 92 x4) = (M 61 1)) → ((((M 94 x4) ≤ x6) → ax_J Y_X11_bestFrom (ax_Ki Y_X11_bestFrom SH post) 0 0 86 [(0, aR 61), (3, aI x3), (4, aI x4), (5, aI x5), (6, aL x6), (8, aI (M 92 x4))] [] SH M) ∧ ((x6 < (M 94 x4)) → ax_J Y_X11_bestFrom (ax_Ki Y_X11_bestFrom SH post) 0 0 86 [(0, aR 61), (3, aI x3), (4, aI x4), (5, aI x5), (6, aL (M 94 x4)), (8, aI (M 92 x4))] [] SH M))))))) : ax_J Y_X11_bestFrom (ax_Ki Y_X11_bestFrom SH post) 0 0 41 [(0, aR 61), (3, aI x3), (4, aI x4), (5, aI x5), (6, aL x6)] [] SH M := by
  refine j_iload 2 dX11_bestFrom_41 rfl ?_
  refine j_if_lt (tgt := 274) dX11_bestFrom_43 (by decide) (fun c1 => ?_) (fun c1 => ?_)
  · replace h := h.1 c1
    refine j_lload 4 dX11_bestFrom_274 rfl ?_
    obtain ⟨o2, h⟩ := h
    refine j_l2i dX11_bestFrom_276 o2 ?_
    exact j_iret dX11_bestFrom_277 rfl ⟨Nat.le_of_ble_eq_true rfl, Nat.le_of_ble_eq_true rfl⟩ (fun _ => h)
  · replace h := h.2 c1
    refine j_aload_n 0 dX11_bestFrom_46 rfl ?_
    refine j_getc 92 dX11_bestFrom_47 f_X11_111 sh_61 rfl ?_
    refine j_iload 2 dX11_bestFrom_50 rfl ?_
    obtain ⟨o3, h⟩ := h
    refine j_iald dX11_bestFrom_52 sh_92 o3.1 o3.2 (fun _ => ?_)
    refine j_istore (ll' := [(8, aI (M 92 x4)), (0, aR 61), (3, aI x3), (4, aI x4), (5, aI x5), (6, aL x6)]) dX11_bestFrom_53 (Nat.le_of_ble_eq_true rfl) rfl ?_
    refine j_iload 0 dX11_bestFrom_55 rfl ?_
    refine j_aload_n 1 dX11_bestFrom_57 rfl ?_
    refine j_geti (i := 1) dX11_bestFrom_58 f_X11_9 sh_61 rfl rfl (fun _ => ?_)
    refine j_icmp_ne (tgt := 86) dX11_bestFrom_61 (by decide) (fun c4 => ?_) (fun c4 => ?_)
    · replace h := h.1 c4
      refine j_sub [1, 2, 3, 4, 5, 0] rfl ?_
      exact h
    · replace h := h.2 c4
      refine j_aload_n 1 dX11_bestFrom_64 rfl ?_
      refine j_getc 94 dX11_bestFrom_65 f_X11_117 sh_61 rfl ?_
      refine j_iload 3 dX11_bestFrom_68 rfl ?_
      refine j_lald dX11_bestFrom_70 sh_94 o3.1 o3.2 (fun _ => ?_)
      refine j_lload 5 dX11_bestFrom_71 rfl ?_
      refine j_lcmp_le (tgt := 86) dX11_bestFrom_73 dX11_bestFrom_74 (by decide) (fun c5 => ?_) (fun c5 => ?_)
      · replace h := h.1 c5
        refine j_sub [1, 2, 3, 4, 5, 0] rfl ?_
        exact h
      · replace h := h.2 c5
        refine j_aload_n 1 dX11_bestFrom_77 rfl ?_
        refine j_getc 94 dX11_bestFrom_78 f_X11_117 sh_61 rfl ?_
        refine j_iload 3 dX11_bestFrom_81 rfl ?_
        refine j_lald dX11_bestFrom_83 sh_94 o3.1 o3.2 (fun _ => ?_)
        refine j_lstore (ll' := [(6, aL (M 94 x4)), (8, aI (M 92 x4)), (0, aR 61), (3, aI x3), (4, aI x4), (5, aI x5)]) dX11_bestFrom_84 (Nat.le_of_ble_eq_true rfl) rfl ?_
        refine j_sub [2, 3, 4, 5, 0, 1] rfl ?_
        exact h
set_option maxRecDepth 100000 in
set_option maxHeartbeats 4000000 in
theorem B_X11_bestFrom_86 {post : Int → ax_M → Prop} {M : ax_M} {x3 x4 x5 x6 x8 : Int} (h : (0 ≤ x4 ∧ x4 < 8) ∧ (((x8 = (M 61 1)) → ax_J Y_X11_bestFrom (ax_Ki Y_X11_bestFrom SH post) 0 0 120 [(0, aR 61), (3, aI x3), (4, aI x4), (5, aI x5), (6, aL x6), (8, aI x8)] [] SH M) ∧ ((¬ x8 = (M 61 1)) → (((x4 = 6) → ax_J Y_X11_bestFrom (ax_Ki Y_X11_bestFrom SH post) 0 0 120 [(0, aR 61), (3, aI x3), (4, aI x4), (5, aI x5), (6, aL x6), (8, aI x8)] [] SH M) ∧ ((¬ x4 = 6) → (((¬ (M 95 x4) = (M 61 0)) → (-2147483648 ≤ ((M 95 x4) + 1) ∧ ((M 95 x4) + 1) ≤ 2147483647) ∧ (((¬ (bo_and (bo_shr x5 (M 95 x4)) 1) = 1) → ax_Ti Y_X11_wayTo [aR 61, aI x8, aI (M 95 x4), aI (M 93 x4), aI x3, aI 0] SH (ax_up M 95 x4 ((M 95 x4) + 1)) (fun z2 u1 => ax_J Y_X11_bestFrom (ax_Ki Y_X11_bestFrom SH post) 0 0 179 [(0, aR 61), (3, aI x3), (4, aI x4), (5, aI x5), (6, aL x6), (9, aI (M 95 x4))] [aI z2] SH u1)) ∧ (((bo_and (bo_shr x5 (M 95 x4)) 1) = 1) → ax_J Y_X11_bestFrom (ax_Ki Y_X11_bestFrom SH post) 0 0 179 [(0, aR 61), (3, aI x3), (4, aI x4), (5, aI x5), (6, aL x6), (9, aI (M 95 x4))] [aI (-1)] SH (ax_up M 95 x4 ((M 95 x4) + 1))))) ∧ (((M 95 x4) = (M 61 0)) → ax_J Y_X11_bestFrom (ax_Ki Y_X11_bestFrom SH post) 0 0 120 [(0, aR 61), (3, aI x3), (4, aI x4), (5, aI x5), (6, aL x6), (8, aI x8)] [] SH M))))))) : ax_J Y_X11_bestFrom (ax_Ki Y_X11_bestFrom SH post) 0 0 86 [(0, aR 61), (3, aI x3), (4, aI x4), (5, aI x5), (6, aL x6), (8, aI x8)] [] SH M := by
  refine j_aload_n 0 dX11_bestFrom_86 rfl ?_
  refine j_getc 95 dX11_bestFrom_87 f_X11_121 sh_61 rfl ?_
  refine j_iload 2 dX11_bestFrom_90 rfl ?_
  obtain ⟨o1, h⟩ := h
  refine j_iald dX11_bestFrom_92 sh_95 o1.1 o1.2 (fun _ => ?_)
  refine j_istore (ll' := [(9, aI (M 95 x4)), (0, aR 61), (3, aI x3), (4, aI x4), (5, aI x5), (6, aL x6), (8, aI x8)]) dX11_bestFrom_93 (Nat.le_of_ble_eq_true rfl) rfl ?_
  refine j_iload 6 dX11_bestFrom_95 rfl ?_
  refine j_aload_n 1 dX11_bestFrom_97 rfl ?_
  refine j_geti (i := 1) dX11_bestFrom_98 f_X11_9 sh_61 rfl rfl (fun _ => ?_)
  refine j_icmp_eq (tgt := 120) dX11_bestFrom_101 (by decide) (fun c2 => ?_) (fun c2 => ?_)
  · replace h := h.1 c2
    refine j_sub [1, 2, 3, 4, 5, 6] rfl ?_
    exact h
  · replace h := h.2 c2
    refine j_iload 3 dX11_bestFrom_104 rfl ?_
    refine j_bipush (x := 6) dX11_bestFrom_106 rfl (i32_c rfl) ?_
    refine j_icmp_eq (tgt := 120) dX11_bestFrom_108 (by decide) (fun c3 => ?_) (fun c3 => ?_)
    · replace h := h.1 c3
      refine j_sub [1, 2, 3, 4, 5, 6] rfl ?_
      exact h
    · replace h := h.2 c3
      refine j_iload 0 dX11_bestFrom_111 rfl ?_
      refine j_aload_n 1 dX11_bestFrom_113 rfl ?_
      refine j_geti (i := 0) dX11_bestFrom_114 f_X11_133 sh_61 rfl rfl (fun _ => ?_)
      refine j_icmp_ne (tgt := 137) dX11_bestFrom_117 (by decide) (fun c4 => ?_) (fun c4 => ?_)
      · replace h := h.1 c4
        refine j_aload_n 1 dX11_bestFrom_137 rfl ?_
        refine j_getc 95 dX11_bestFrom_138 f_X11_121 sh_61 rfl ?_
        refine j_iload 3 dX11_bestFrom_141 rfl ?_
        refine j_dup2 dX11_bestFrom_143 rfl rfl ?_
        refine j_iald dX11_bestFrom_144 sh_95 o1.1 o1.2 (fun _ => ?_)
        refine j_iconst (x := 1) dX11_bestFrom_145 rfl (i32_c rfl) ?_
        obtain ⟨o5, h⟩ := h
        refine j_iadd (z := ((M 95 x4) + 1)) dX11_bestFrom_146 rfl o5 ?_
        refine j_iast dX11_bestFrom_147 sh_95 o1.1 o1.2 ?_
        refine j_iload 4 dX11_bestFrom_148 rfl ?_
        refine j_iload 0 dX11_bestFrom_150 rfl ?_
        refine j_calliS (Yc := Y_X11_has) (as := [aI x5, aI (M 95 x4)]) (rest := []) dX11_bestFrom_152 q_X11_346 ⟨Nat.le_of_ble_eq_true rfl, Nat.le_of_ble_eq_true rfl, Nat.le_of_ble_eq_true rfl, Nat.le_of_ble_eq_true rfl⟩ rfl (Nat.le_of_ble_eq_true rfl) rfl (ti_of (ll := [(0, aI x5), (1, aI (M 95 x4))]) rfl (Nat.le_of_ble_eq_true rfl) rfl (fun _ => ?_))
        refine j_iload_n 0 dX11_has_0 rfl ?_
        refine j_iload_n 1 dX11_has_1 rfl ?_
        refine j_ishr (z := (bo_shr x5 (M 95 x4))) dX11_has_2 rfl ?_
        refine j_iconst (x := 1) dX11_has_3 rfl (i32_c rfl) ?_
        refine j_iand (z := (bo_and (bo_shr x5 (M 95 x4)) 1)) dX11_has_4 rfl ?_
        refine j_iconst (x := 1) dX11_has_5 rfl (i32_c rfl) ?_
        refine j_icmp_ne (tgt := 13) dX11_has_6 (by decide) (fun c6 => ?_) (fun c6 => ?_)
        · replace h := h.1 c6
          refine j_iconst (x := 0) dX11_has_13 rfl (i32_c rfl) ?_
          refine j_zret dX11_has_14 rfl ⟨Nat.le_of_ble_eq_true rfl, Nat.le_of_ble_eq_true rfl⟩ (by decide) ?_
          refine j_if_eq (tgt := 162) dX11_bestFrom_155 (by decide) (fun _ => ?_) (fun c => absurd c (by decide))
          refine j_aload_n 1 dX11_bestFrom_162 rfl ?_
          refine j_iload 6 dX11_bestFrom_163 rfl ?_
          refine j_iload 0 dX11_bestFrom_165 rfl ?_
          refine j_aload_n 1 dX11_bestFrom_167 rfl ?_
          refine j_getc 93 dX11_bestFrom_168 f_X11_114 sh_61 rfl ?_
          refine j_iload 3 dX11_bestFrom_171 rfl ?_
          refine j_iald dX11_bestFrom_173 sh_93 o1.1 o1.2 (fun _ => ?_)
          refine j_iload_n 2 dX11_bestFrom_174 rfl ?_
          refine j_iconst (x := 0) dX11_bestFrom_175 rfl (i32_c rfl) ?_
          refine j_calliV (Yc := Y_X11_wayTo) (as := [aI x8, aI (M 95 x4), aI (M 93 x4), aI x3, aI 0]) (rest := []) dX11_bestFrom_176 q_X11_383 ⟨Nat.le_of_ble_eq_true rfl, Nat.le_of_ble_eq_true rfl, Nat.le_of_ble_eq_true rfl, Nat.le_of_ble_eq_true rfl⟩ sh_61 rfl (Nat.le_of_ble_eq_true rfl) rfl (ti_mono h (fun z2 u1 h => ?_))
          refine j_sub [1, 2, 3, 4, 5, 0] rfl ?_
          exact h
        · replace h := h.2 c6
          refine j_iconst (x := 1) dX11_has_9 rfl (i32_c rfl) ?_
          refine j_goto (tgt := 14) dX11_has_10 (by decide) ?_
          refine j_zret dX11_has_14 rfl ⟨Nat.le_of_ble_eq_true rfl, Nat.le_of_ble_eq_true rfl⟩ (by decide) ?_
          refine j_if_eq (tgt := 162) dX11_bestFrom_155 (by decide) (fun c => absurd c (by decide)) (fun _ => ?_)
          refine j_iconst (x := (-1)) dX11_bestFrom_158 rfl (i32_c rfl) ?_
          refine j_goto (tgt := 179) dX11_bestFrom_159 (by decide) ?_
          refine j_sub [1, 2, 3, 4, 5, 0] rfl ?_
          exact h
      · replace h := h.2 c4
        refine j_sub [1, 2, 3, 4, 5, 6] rfl ?_
        exact h
set_option maxRecDepth 100000 in
set_option maxHeartbeats 4000000 in
theorem B_X11_bestFrom_120 {post : Int → ax_M → Prop} {M : ax_M} {x3 x4 x5 x6 x8 : Int} (h : (-2147483648 ≤ (x4 + (-1)) ∧ (x4 + (-1)) ≤ 2147483647) ∧ ax_J Y_X11_bestFrom (ax_Ki Y_X11_bestFrom SH post) 0 0 271 [(0, aR 61), (3, aI x3), (4, aI (x4 + (-1))), (5, aI (bo_and x5 (bo_xor (bo_shl 1 x8) (-1)))), (6, aL x6)] [] SH M) : ax_J Y_X11_bestFrom (ax_Ki Y_X11_bestFrom SH post) 0 0 120 [(0, aR 61), (3, aI x3), (4, aI x4), (5, aI x5), (6, aL x6), (8, aI x8)] [] SH M := by
  refine j_iload 3 dX11_bestFrom_120 rfl ?_
  refine j_iconst (x := 1) dX11_bestFrom_122 rfl (i32_c rfl) ?_
  refine j_iload 5 dX11_bestFrom_123 rfl ?_
  refine j_ishl (z := (bo_shl 1 x8)) dX11_bestFrom_125 rfl ?_
  refine j_iconst (x := (-1)) dX11_bestFrom_126 rfl (i32_c rfl) ?_
  refine j_ixor (z := (bo_xor (bo_shl 1 x8) (-1))) dX11_bestFrom_127 rfl ?_
  refine j_iand (z := (bo_and x5 (bo_xor (bo_shl 1 x8) (-1)))) dX11_bestFrom_128 rfl ?_
  refine j_istore (ll' := [(5, aI (bo_and x5 (bo_xor (bo_shl 1 x8) (-1)))), (0, aR 61), (3, aI x3), (4, aI x4), (6, aL x6), (8, aI x8)]) dX11_bestFrom_129 (Nat.le_of_ble_eq_true rfl) rfl ?_
  obtain ⟨o1, h⟩ := h
  refine j_iinc (ll' := [(4, aI (x4 + (-1))), (5, aI (bo_and x5 (bo_xor (bo_shl 1 x8) (-1)))), (0, aR 61), (3, aI x3), (6, aL x6), (8, aI x8)]) 3 dX11_bestFrom_131 rfl (Nat.le_of_ble_eq_true rfl) o1 rfl ?_
  refine j_goto (tgt := 271) dX11_bestFrom_134 (by decide) ?_
  refine j_sub [2, 3, 0, 1, 4] rfl ?_
  exact h
set_option maxRecDepth 100000 in
set_option maxHeartbeats 4000000 in
theorem B_X11_bestFrom_179 {post : Int → ax_M → Prop} {M : ax_M} {s0 x3 x4 x5 x6 x9 : Int} (h : (((s0 < 0) → ax_J Y_X11_bestFrom (ax_Ki Y_X11_bestFrom SH post) 0 0 271 [(0, aR 61), (3, aI x3), (4, aI x4), (5, aI x5), (6, aL x6)] [] SH M) ∧ ((0 ≤ s0) → (0 ≤ x4 ∧ x4 < 8) ∧ ax_Ti Y_X11_through [aR 61, aI s0, aI (M 93 x4), aI x3, aI 0] SH M (fun z2 u1 => (-2147483648 ≤ (x4 + 1) ∧ (x4 + 1) ≤ 2147483647) ∧ ax_Ti Y_X11_opensOf [aR 61, aI s0, aI z2] SH u1 (fun z4 u3 => (-9223372036854775808 ≤ ((u1 94 x4) * z4) ∧ ((u1 94 x4) * z4) ≤ 9223372036854775807) ∧ (0 ≤ ((u1 94 x4) * z4)) ∧ (0 ≤ (x4 + 1) ∧ (x4 + 1) < 8) ∧ ax_J Y_X11_bestFrom (ax_Ki Y_X11_bestFrom SH post) 0 0 271 [(0, aR 61), (3, aI x3), (4, aI (x4 + 1)), (5, aI (bo_or x5 (bo_shl 1 x9))), (6, aL x6)] [] SH (ax_up (ax_up (ax_up (ax_up u3 94 (x4 + 1) (((u1 94 x4) * z4) / 1000000)) 92 (x4 + 1) x9) 93 (x4 + 1) z2) 95 (x4 + 1) 0)))))) : ax_J Y_X11_bestFrom (ax_Ki Y_X11_bestFrom SH post) 0 0 179 [(0, aR 61), (3, aI x3), (4, aI x4), (5, aI x5), (6, aL x6), (9, aI x9)] [aI s0] SH M := by
  refine j_istore (ll' := [(10, aI s0), (0, aR 61), (3, aI x3), (4, aI x4), (5, aI x5), (6, aL x6), (9, aI x9)]) dX11_bestFrom_179 (Nat.le_of_ble_eq_true rfl) rfl ?_
  refine j_iload 0 dX11_bestFrom_181 rfl ?_
  refine j_if_lt (tgt := 271) dX11_bestFrom_183 (by decide) (fun c1 => ?_) (fun c1 => ?_)
  · replace h := h.1 c1
    refine j_sub [1, 2, 3, 4, 5] rfl ?_
    exact h
  · replace h := h.2 c1
    refine j_aload_n 1 dX11_bestFrom_186 rfl ?_
    refine j_iload 0 dX11_bestFrom_187 rfl ?_
    refine j_aload_n 1 dX11_bestFrom_189 rfl ?_
    refine j_getc 93 dX11_bestFrom_190 f_X11_114 sh_61 rfl ?_
    refine j_iload 3 dX11_bestFrom_193 rfl ?_
    obtain ⟨o2, h⟩ := h
    refine j_iald dX11_bestFrom_195 sh_93 o2.1 o2.2 (fun _ => ?_)
    refine j_iload_n 2 dX11_bestFrom_196 rfl ?_
    refine j_iconst (x := 0) dX11_bestFrom_197 rfl (i32_c rfl) ?_
    refine j_calliV (Yc := Y_X11_through) (as := [aI s0, aI (M 93 x4), aI x3, aI 0]) (rest := []) dX11_bestFrom_198 q_X11_276 ⟨Nat.le_of_ble_eq_true rfl, Nat.le_of_ble_eq_true rfl, Nat.le_of_ble_eq_true rfl, Nat.le_of_ble_eq_true rfl⟩ sh_61 rfl (Nat.le_of_ble_eq_true rfl) rfl (ti_mono h (fun z2 u1 h => ?_))
    refine j_istore (ll' := [(11, aI z2), (10, aI s0), (0, aR 61), (3, aI x3), (4, aI x4), (5, aI x5), (6, aL x6), (9, aI x9)]) dX11_bestFrom_201 (Nat.le_of_ble_eq_true rfl) rfl ?_
    refine j_aload_n 2 dX11_bestFrom_203 rfl ?_
    refine j_getc 94 dX11_bestFrom_204 f_X11_117 sh_61 rfl ?_
    refine j_iload 4 dX11_bestFrom_207 rfl ?_
    refine j_iconst (x := 1) dX11_bestFrom_209 rfl (i32_c rfl) ?_
    obtain ⟨o3, h⟩ := h
    refine j_iadd (z := (x4 + 1)) dX11_bestFrom_210 rfl o3 ?_
    refine j_aload_n 2 dX11_bestFrom_211 rfl ?_
    refine j_getc 94 dX11_bestFrom_212 f_X11_117 sh_61 rfl ?_
    refine j_iload 4 dX11_bestFrom_215 rfl ?_
    refine j_lald dX11_bestFrom_217 sh_94 o2.1 o2.2 (fun _ => ?_)
    refine j_aload_n 2 dX11_bestFrom_218 rfl ?_
    refine j_iload 1 dX11_bestFrom_219 rfl ?_
    refine j_iload 0 dX11_bestFrom_221 rfl ?_
    refine j_calliV (Yc := Y_X11_opensOf) (as := [aI s0, aI z2]) (rest := [aL (u1 94 x4), aI (x4 + 1), aR 94]) dX11_bestFrom_223 q_X11_386 ⟨Nat.le_of_ble_eq_true rfl, Nat.le_of_ble_eq_true rfl, Nat.le_of_ble_eq_true rfl, Nat.le_of_ble_eq_true rfl⟩ sh_61 rfl (Nat.le_of_ble_eq_true rfl) rfl (ti_mono h (fun z4 u3 h => ?_))
    refine j_i2l dX11_bestFrom_226 ?_
    obtain ⟨o4, h⟩ := h
    refine j_lmul (z := ((u1 94 x4) * z4)) dX11_bestFrom_227 rfl o4 ?_
    refine j_ldc2 (x := 1000000) dX11_bestFrom_228 (ax_in 1586 (by decide +kernel) rfl) (i64_c rfl) ?_
    obtain ⟨o5, h⟩ := h
    refine j_ldiv (z := (((u1 94 x4) * z4) / 1000000)) dX11_bestFrom_231 rfl o5 (by decide) ?_
    obtain ⟨o6, h⟩ := h
    refine j_last dX11_bestFrom_232 sh_94 o6.1 o6.2 ?_
    refine j_iinc (ll' := [(4, aI (x4 + 1)), (11, aI z2), (10, aI s0), (0, aR 61), (3, aI x3), (5, aI x5), (6, aL x6), (9, aI x9)]) 4 dX11_bestFrom_233 rfl (Nat.le_of_ble_eq_true rfl) o3 rfl ?_
    refine j_aload_n 3 dX11_bestFrom_236 rfl ?_
    refine j_getc 92 dX11_bestFrom_237 f_X11_111 sh_61 rfl ?_
    refine j_iload 0 dX11_bestFrom_240 rfl ?_
    refine j_iload 7 dX11_bestFrom_242 rfl ?_
    refine j_iast dX11_bestFrom_244 sh_92 o6.1 o6.2 ?_
    refine j_aload_n 3 dX11_bestFrom_245 rfl ?_
    refine j_getc 93 dX11_bestFrom_246 f_X11_114 sh_61 rfl ?_
    refine j_iload 0 dX11_bestFrom_249 rfl ?_
    refine j_iload 1 dX11_bestFrom_251 rfl ?_
    refine j_iast dX11_bestFrom_253 sh_93 o6.1 o6.2 ?_
    refine j_aload_n 3 dX11_bestFrom_254 rfl ?_
    refine j_getc 95 dX11_bestFrom_255 f_X11_121 sh_61 rfl ?_
    refine j_iload 0 dX11_bestFrom_258 rfl ?_
    refine j_iconst (x := 0) dX11_bestFrom_260 rfl (i32_c rfl) ?_
    refine j_iast dX11_bestFrom_261 sh_95 o6.1 o6.2 ?_
    refine j_iload 5 dX11_bestFrom_262 rfl ?_
    refine j_iconst (x := 1) dX11_bestFrom_264 rfl (i32_c rfl) ?_
    refine j_iload 7 dX11_bestFrom_265 rfl ?_
    refine j_ishl (z := (bo_shl 1 x9)) dX11_bestFrom_267 rfl ?_
    refine j_ior (z := (bo_or x5 (bo_shl 1 x9))) dX11_bestFrom_268 rfl ?_
    refine j_istore (ll' := [(5, aI (bo_or x5 (bo_shl 1 x9))), (4, aI (x4 + 1)), (11, aI z2), (10, aI s0), (0, aR 61), (3, aI x3), (6, aL x6), (9, aI x9)]) dX11_bestFrom_269 (Nat.le_of_ble_eq_true rfl) rfl ?_
    refine j_sub [4, 5, 1, 0, 6] rfl ?_
    exact h
set_option maxRecDepth 100000 in
set_option maxHeartbeats 4000000 in
theorem B_X11_bestFrom_271 {post : Int → ax_M → Prop} {M : ax_M} {x3 x4 x5 x6 : Int} (h : ax_J Y_X11_bestFrom (ax_Ki Y_X11_bestFrom SH post) 0 0 41 [(0, aR 61), (3, aI x3), (4, aI x4), (5, aI x5), (6, aL x6)] [] SH M) : ax_J Y_X11_bestFrom (ax_Ki Y_X11_bestFrom SH post) 0 0 271 [(0, aR 61), (3, aI x3), (4, aI x4), (5, aI x5), (6, aL x6)] [] SH M := by
  refine j_goto (tgt := 41) dX11_bestFrom_271 (by decide) ?_
  exact h
set_option maxRecDepth 100000 in
set_option maxHeartbeats 4000000 in
theorem B_X11_readWord_0 {post : ax_M → Prop} {M : ax_M} (h : ax_Ti Y_X11_here [aR 61] SH M (fun z2 u1 => ax_J Y_X11_readWord (ax_Kv Y_X11_readWord SH post) 0 0 18 [(0, aR 61)] [] SH (ax_up (ax_up u1 61 16 0) 61 17 (u1 61 15)))) : ax_J Y_X11_readWord (ax_Kv Y_X11_readWord SH post) 0 0 0 [(0, aR 61)] [] SH M := by
  refine j_aload_n 0 dX11_readWord_0 rfl ?_
  refine j_calliV (Yc := Y_X11_here) (as := []) (rest := []) dX11_readWord_1 q_X11_153 ⟨Nat.le_of_ble_eq_true rfl, Nat.le_of_ble_eq_true rfl, Nat.le_of_ble_eq_true rfl, Nat.le_of_ble_eq_true rfl⟩ sh_61 rfl (Nat.le_of_ble_eq_true rfl) rfl (ti_mono h (fun z2 u1 h => ?_))
  refine j_istore_n (ll' := [(1, aI z2), (0, aR 61)]) dX11_readWord_4 (Nat.le_of_ble_eq_true rfl) rfl ?_
  refine j_aload_n 1 dX11_readWord_5 rfl ?_
  refine j_lconst (x := 0) dX11_readWord_6 rfl (i64_c rfl) ?_
  refine j_putl (i := 16) dX11_readWord_7 p_X11_157 (fun h => by cases h) sh_61 rfl rfl ?_
  refine j_aload_n 1 dX11_readWord_10 rfl ?_
  refine j_aload_n 1 dX11_readWord_11 rfl ?_
  refine j_geti (i := 15) dX11_readWord_12 f_X11_150 sh_61 rfl rfl (fun _ => ?_)
  refine j_puti (i := 17) dX11_readWord_15 p_X11_161 (fun h => by cases h) sh_61 rfl rfl ?_
  refine j_sub [1] rfl ?_
  exact h
theorem E_X11_readWord {post : ax_M → Prop} {M : ax_M} (h : ax_mr SH M → ax_Ti Y_X11_here [aR 61] SH M (fun z2 u1 => ax_J Y_X11_readWord (ax_Kv Y_X11_readWord SH post) 0 0 18 [(0, aR 61)] [] SH (ax_up (ax_up u1 61 16 0) 61 17 (u1 61 15)))) : ax_Tv Y_X11_readWord [aR 61] SH M post :=
  tv_of rfl (Nat.le_of_ble_eq_true rfl) rfl (fun q => B_X11_readWord_0 (h q))
set_option maxRecDepth 100000 in
set_option maxHeartbeats 4000000 in
theorem B_X11_readWord_18 {post : ax_M → Prop} {M : ax_M} (h : ((((M 61 13) ≤ (M 61 17)) → post M) ∧ (((M 61 17) < (M 61 13)) → (0 ≤ (M 61 17) ∧ (M 61 17) < 400) ∧ ((((M 70 (M 61 17)) < 97) → post M) ∧ ((97 ≤ (M 70 (M 61 17))) → (((122 < (M 70 (M 61 17))) → post M) ∧ (((M 70 (M 61 17)) ≤ 122) → ((((M 61 16) ≤ 1000000000000) → (-9223372036854775808 ≤ (27 * (M 61 16)) ∧ (27 * (M 61 16)) ≤ 9223372036854775807) ∧ (-9223372036854775808 ≤ ((27 * (M 61 16)) + (M 70 (M 61 17))) ∧ ((27 * (M 61 16)) + (M 70 (M 61 17))) ≤ 9223372036854775807) ∧ (-9223372036854775808 ≤ (((27 * (M 61 16)) + (M 70 (M 61 17))) - 96) ∧ (((27 * (M 61 16)) + (M 70 (M 61 17))) - 96) ≤ 9223372036854775807) ∧ (-2147483648 ≤ ((M 61 17) + 1) ∧ ((M 61 17) + 1) ≤ 2147483647) ∧ ax_J Y_X11_readWord (ax_Kv Y_X11_readWord SH post) 0 0 18 [(0, aR 61)] [] SH (ax_up (ax_up M 61 16 (((27 * (M 61 16)) + (M 70 (M 61 17))) - 96)) 61 17 ((M 61 17) + 1))) ∧ ((1000000000000 < (M 61 16)) → (-2147483648 ≤ ((M 61 17) + 1) ∧ ((M 61 17) + 1) ≤ 2147483647) ∧ ax_J Y_X11_readWord (ax_Kv Y_X11_readWord SH post) 0 0 18 [(0, aR 61)] [] SH (ax_up (ax_up M 61 16 2000000000000) 61 17 ((M 61 17) + 1))))))))))) : ax_J Y_X11_readWord (ax_Kv Y_X11_readWord SH post) 0 0 18 [(0, aR 61)] [] SH M := by
  refine j_aload_n 0 dX11_readWord_18 rfl ?_
  refine j_geti (i := 17) dX11_readWord_19 f_X11_161 sh_61 rfl rfl (fun _ => ?_)
  refine j_aload_n 0 dX11_readWord_22 rfl ?_
  refine j_geti (i := 13) dX11_readWord_23 f_X11_145 sh_61 rfl rfl (fun _ => ?_)
  refine j_icmp_ge (tgt := 108) dX11_readWord_26 (by decide) (fun c1 => ?_) (fun c1 => ?_)
  · replace h := h.1 c1
    exact j_vret dX11_readWord_108 rfl ⟨Nat.le_of_ble_eq_true rfl, Nat.le_of_ble_eq_true rfl⟩ h
  · replace h := h.2 c1
    refine j_aload_n 0 dX11_readWord_29 rfl ?_
    refine j_getc 70 dX11_readWord_30 f_X11_39 sh_61 rfl ?_
    refine j_aload_n 0 dX11_readWord_33 rfl ?_
    refine j_geti (i := 17) dX11_readWord_34 f_X11_161 sh_61 rfl rfl (fun _ => ?_)
    obtain ⟨o2, h⟩ := h
    refine j_iald dX11_readWord_37 sh_70 o2.1 o2.2 (fun _ => ?_)
    refine j_i2l dX11_readWord_38 ?_
    refine j_ldc2 (x := 97) dX11_readWord_39 (ax_in 1316 (by decide +kernel) rfl) (i64_c rfl) ?_
    refine j_ldc2 (x := 122) dX11_readWord_42 (ax_in 1317 (by decide +kernel) rfl) (i64_c rfl) ?_
    refine j_calliS (Yc := Y_X11_in) (as := [aL (M 70 (M 61 17)), aL 97, aL 122]) (rest := []) dX11_readWord_45 q_X11_136 ⟨Nat.le_of_ble_eq_true rfl, Nat.le_of_ble_eq_true rfl, Nat.le_of_ble_eq_true rfl, Nat.le_of_ble_eq_true rfl⟩ rfl (Nat.le_of_ble_eq_true rfl) rfl (ti_of (ll := [(0, aL (M 70 (M 61 17))), (2, aL 97), (4, aL 122)]) rfl (Nat.le_of_ble_eq_true rfl) rfl (fun _ => ?_))
    refine j_lload_n 0 dX11_in_0 rfl ?_
    refine j_lload_n 1 dX11_in_1 rfl ?_
    refine j_lcmp_lt (tgt := 17) dX11_in_2 dX11_in_3 (by decide) (fun c3 => ?_) (fun c3 => ?_)
    · replace h := h.1 c3
      refine j_iconst (x := 0) dX11_in_17 rfl (i32_c rfl) ?_
      refine j_zret dX11_in_18 rfl ⟨Nat.le_of_ble_eq_true rfl, Nat.le_of_ble_eq_true rfl⟩ (by decide) ?_
      refine j_if_eq (tgt := 108) dX11_readWord_48 (by decide) (fun _ => ?_) (fun c => absurd c (by decide))
      exact j_vret dX11_readWord_108 rfl ⟨Nat.le_of_ble_eq_true rfl, Nat.le_of_ble_eq_true rfl⟩ h
    · replace h := h.2 c3
      refine j_lload_n 0 dX11_in_6 rfl ?_
      refine j_lload 2 dX11_in_7 rfl ?_
      refine j_lcmp_gt (tgt := 17) dX11_in_9 dX11_in_10 (by decide) (fun c4 => ?_) (fun c4 => ?_)
      · replace h := h.1 c4
        refine j_iconst (x := 0) dX11_in_17 rfl (i32_c rfl) ?_
        refine j_zret dX11_in_18 rfl ⟨Nat.le_of_ble_eq_true rfl, Nat.le_of_ble_eq_true rfl⟩ (by decide) ?_
        refine j_if_eq (tgt := 108) dX11_readWord_48 (by decide) (fun _ => ?_) (fun c => absurd c (by decide))
        exact j_vret dX11_readWord_108 rfl ⟨Nat.le_of_ble_eq_true rfl, Nat.le_of_ble_eq_true rfl⟩ h
      · replace h := h.2 c4
        refine j_iconst (x := 1) dX11_in_13 rfl (i32_c rfl) ?_
        refine j_goto (tgt := 18) dX11_in_14 (by decide) ?_
        refine j_zret dX11_in_18 rfl ⟨Nat.le_of_ble_eq_true rfl, Nat.le_of_ble_eq_true rfl⟩ (by decide) ?_
        refine j_if_eq (tgt := 108) dX11_readWord_48 (by decide) (fun c => absurd c (by decide)) (fun _ => ?_)
        refine j_aload_n 0 dX11_readWord_51 rfl ?_
        refine j_aload_n 0 dX11_readWord_52 rfl ?_
        refine j_getl (i := 16) dX11_readWord_53 f_X11_157 sh_61 rfl rfl ?_
        refine j_ldc2 (x := 1000000000000) dX11_readWord_56 (ax_in 1318 (by decide +kernel) rfl) (i64_c rfl) ?_
        refine j_lcmp_le (tgt := 69) dX11_readWord_59 dX11_readWord_60 (by decide) (fun c5 => ?_) (fun c5 => ?_)
        · replace h := h.1 c5
          refine j_ldc2 (x := 27) dX11_readWord_69 (ax_in 1320 (by decide +kernel) rfl) (i64_c rfl) ?_
          refine j_aload_n 0 dX11_readWord_72 rfl ?_
          refine j_getl (i := 16) dX11_readWord_73 f_X11_157 sh_61 rfl rfl ?_
          obtain ⟨o6, h⟩ := h
          refine j_lmul (z := (27 * (M 61 16))) dX11_readWord_76 rfl o6 ?_
          refine j_aload_n 0 dX11_readWord_77 rfl ?_
          refine j_getc 70 dX11_readWord_78 f_X11_39 sh_61 rfl ?_
          refine j_aload_n 0 dX11_readWord_81 rfl ?_
          refine j_geti (i := 17) dX11_readWord_82 f_X11_161 sh_61 rfl rfl (fun _ => ?_)
          refine j_iald dX11_readWord_85 sh_70 o2.1 o2.2 (fun _ => ?_)
          refine j_i2l dX11_readWord_86 ?_
          obtain ⟨o7, h⟩ := h
          refine j_ladd (z := ((27 * (M 61 16)) + (M 70 (M 61 17)))) dX11_readWord_87 rfl o7 ?_
          refine j_ldc2 (x := 96) dX11_readWord_88 (ax_in 1321 (by decide +kernel) rfl) (i64_c rfl) ?_
          obtain ⟨o8, h⟩ := h
          refine j_lsub (z := (((27 * (M 61 16)) + (M 70 (M 61 17))) - 96)) dX11_readWord_91 rfl o8 ?_
          refine j_putl (i := 16) dX11_readWord_92 p_X11_157 (fun h => by cases h) sh_61 rfl rfl ?_
          refine j_aload_n 0 dX11_readWord_95 rfl ?_
          refine j_dup dX11_readWord_96 rfl ?_
          refine j_geti (i := 17) dX11_readWord_97 f_X11_161 sh_61 rfl rfl (fun _ => ?_)
          refine j_iconst (x := 1) dX11_readWord_100 rfl (i32_c rfl) ?_
          obtain ⟨o9, h⟩ := h
          refine j_iadd (z := ((M 61 17) + 1)) dX11_readWord_101 rfl o9 ?_
          refine j_puti (i := 17) dX11_readWord_102 p_X11_161 (fun h => by cases h) sh_61 rfl rfl ?_
          refine j_goto (tgt := 18) dX11_readWord_105 (by decide) ?_
          exact h
        · replace h := h.2 c5
          refine j_ldc2 (x := 2000000000000) dX11_readWord_63 (ax_in 1319 (by decide +kernel) rfl) (i64_c rfl) ?_
          refine j_goto (tgt := 92) dX11_readWord_66 (by decide) ?_
          refine j_putl (i := 16) dX11_readWord_92 p_X11_157 (fun h => by cases h) sh_61 rfl rfl ?_
          refine j_aload_n 0 dX11_readWord_95 rfl ?_
          refine j_dup dX11_readWord_96 rfl ?_
          refine j_geti (i := 17) dX11_readWord_97 f_X11_161 sh_61 rfl rfl (fun _ => ?_)
          refine j_iconst (x := 1) dX11_readWord_100 rfl (i32_c rfl) ?_
          obtain ⟨o10, h⟩ := h
          refine j_iadd (z := ((M 61 17) + 1)) dX11_readWord_101 rfl o10 ?_
          refine j_puti (i := 17) dX11_readWord_102 p_X11_161 (fun h => by cases h) sh_61 rfl rfl ?_
          refine j_goto (tgt := 18) dX11_readWord_105 (by decide) ?_
          exact h
set_option maxRecDepth 100000 in
set_option maxHeartbeats 4000000 in
theorem B_X11_takeOut_0 {post : Int → ax_M → Prop} {M : ax_M} (h : ((((M 61 21) < 0) → (-2147483648 ≤ ((M 61 20) - 1) ∧ ((M 61 20) - 1) ≤ 2147483647) ∧ ax_Ti Y_X11_takeNumber [aR 61, aI 0, aI ((M 61 20) - 1)] SH (ax_up M 61 15 (M 61 17)) (fun z2 u1 => (((z2 ≤ 0) → ax_Ti Y_X11_takeNumber [aR 61, aI 1, aI 9] SH u1 (fun z4 u3 => (((z4 ≤ 0) → ax_Ti Y_X11_takeStop [aR 61] SH (ax_up (ax_up u3 61 21 (u1 61 18)) 61 22 (u3 61 18)) (fun z6 u5 => post z6 u5)) ∧ ((0 < z4) → post z4 (ax_up (ax_up u3 61 21 (u1 61 18)) 61 22 (u3 61 18)))))) ∧ ((0 < z2) → post z2 (ax_up (ax_up u1 61 21 (u1 61 18)) 61 22 (u1 61 18)))))) ∧ ((0 ≤ (M 61 21)) → post 3 (ax_up M 61 14 (M 61 15))))) : ax_J Y_X11_takeOut (ax_Ki Y_X11_takeOut SH post) 0 0 0 [(0, aR 61)] [] SH M := by
  refine j_aload_n 0 dX11_takeOut_0 rfl ?_
  refine j_geti (i := 21) dX11_takeOut_1 f_X11_210 sh_61 rfl rfl (fun _ => ?_)
  refine j_if_lt (tgt := 17) dX11_takeOut_4 (by decide) (fun c1 => ?_) (fun c1 => ?_)
  · replace h := h.1 c1
    refine j_aload_n 0 dX11_takeOut_17 rfl ?_
    refine j_aload_n 0 dX11_takeOut_18 rfl ?_
    refine j_geti (i := 17) dX11_takeOut_19 f_X11_161 sh_61 rfl rfl (fun _ => ?_)
    refine j_puti (i := 15) dX11_takeOut_22 p_X11_150 (fun h => by cases h) sh_61 rfl rfl ?_
    refine j_aload_n 0 dX11_takeOut_25 rfl ?_
    refine j_iconst (x := 0) dX11_takeOut_26 rfl (i32_c rfl) ?_
    refine j_aload_n 0 dX11_takeOut_27 rfl ?_
    refine j_geti (i := 20) dX11_takeOut_28 f_X11_204 sh_61 rfl rfl (fun _ => ?_)
    refine j_iconst (x := 1) dX11_takeOut_31 rfl (i32_c rfl) ?_
    obtain ⟨o2, h⟩ := h
    refine j_isub (z := ((M 61 20) - 1)) dX11_takeOut_32 rfl o2 ?_
    refine j_calliV (Yc := Y_X11_takeNumber) (as := [aI 0, aI ((M 61 20) - 1)]) (rest := []) dX11_takeOut_33 q_X11_201 ⟨Nat.le_of_ble_eq_true rfl, Nat.le_of_ble_eq_true rfl, Nat.le_of_ble_eq_true rfl, Nat.le_of_ble_eq_true rfl⟩ sh_61 rfl (Nat.le_of_ble_eq_true rfl) rfl (ti_mono h (fun z2 u1 h => ?_))
    refine j_istore_n (ll' := [(1, aI z2), (0, aR 61)]) dX11_takeOut_36 (Nat.le_of_ble_eq_true rfl) rfl ?_
    refine j_aload_n 1 dX11_takeOut_37 rfl ?_
    refine j_geti (i := 18) dX11_takeOut_38 f_X11_187 sh_61 rfl rfl (fun _ => ?_)
    refine j_istore_n (ll' := [(2, aI (u1 61 18)), (1, aI z2), (0, aR 61)]) dX11_takeOut_41 (Nat.le_of_ble_eq_true rfl) rfl ?_
    refine j_iload_n 1 dX11_takeOut_42 rfl ?_
    refine j_if_le (tgt := 50) dX11_takeOut_43 (by decide) (fun c3 => ?_) (fun c3 => ?_)
    · replace h := h.1 c3
      refine j_aload_n 2 dX11_takeOut_50 rfl ?_
      refine j_iconst (x := 1) dX11_takeOut_51 rfl (i32_c rfl) ?_
      refine j_bipush (x := 9) dX11_takeOut_52 rfl (i32_c rfl) ?_
      refine j_calliV (Yc := Y_X11_takeNumber) (as := [aI 1, aI 9]) (rest := []) dX11_takeOut_54 q_X11_201 ⟨Nat.le_of_ble_eq_true rfl, Nat.le_of_ble_eq_true rfl, Nat.le_of_ble_eq_true rfl, Nat.le_of_ble_eq_true rfl⟩ sh_61 rfl (Nat.le_of_ble_eq_true rfl) rfl (ti_mono h (fun z4 u3 h => ?_))
      refine j_istore_n (ll' := [(1, aI z4), (2, aI (u1 61 18)), (0, aR 61)]) dX11_takeOut_57 (Nat.le_of_ble_eq_true rfl) rfl ?_
      refine j_aload_n 2 dX11_takeOut_58 rfl ?_
      refine j_iload_n 1 dX11_takeOut_59 rfl ?_
      refine j_puti (i := 21) dX11_takeOut_60 p_X11_210 (fun h => by cases h) sh_61 rfl rfl ?_
      refine j_aload_n 2 dX11_takeOut_63 rfl ?_
      refine j_aload_n 2 dX11_takeOut_64 rfl ?_
      refine j_geti (i := 18) dX11_takeOut_65 f_X11_187 sh_61 rfl rfl (fun _ => ?_)
      refine j_puti (i := 22) dX11_takeOut_68 p_X11_213 (fun h => by cases h) sh_61 rfl rfl ?_
      refine j_iload_n 0 dX11_takeOut_71 rfl ?_
      refine j_if_le (tgt := 79) dX11_takeOut_72 (by decide) (fun c4 => ?_) (fun c4 => ?_)
      · replace h := h.1 c4
        refine j_aload_n 2 dX11_takeOut_79 rfl ?_
        refine j_calliV (Yc := Y_X11_takeStop) (as := []) (rest := []) dX11_takeOut_80 q_X11_207 ⟨Nat.le_of_ble_eq_true rfl, Nat.le_of_ble_eq_true rfl, Nat.le_of_ble_eq_true rfl, Nat.le_of_ble_eq_true rfl⟩ sh_61 rfl (Nat.le_of_ble_eq_true rfl) rfl (ti_mono h (fun z6 u5 h => ?_))
        exact j_iret dX11_takeOut_83 rfl ⟨Nat.le_of_ble_eq_true rfl, Nat.le_of_ble_eq_true rfl⟩ (fun _ => h)
      · replace h := h.2 c4
        refine j_iload_n 0 dX11_takeOut_75 rfl ?_
        refine j_goto (tgt := 83) dX11_takeOut_76 (by decide) ?_
        exact j_iret dX11_takeOut_83 rfl ⟨Nat.le_of_ble_eq_true rfl, Nat.le_of_ble_eq_true rfl⟩ (fun _ => h)
    · replace h := h.2 c3
      refine j_iload_n 1 dX11_takeOut_46 rfl ?_
      refine j_goto (tgt := 57) dX11_takeOut_47 (by decide) ?_
      refine j_istore_n (ll' := [(1, aI z2), (2, aI (u1 61 18)), (0, aR 61)]) dX11_takeOut_57 (Nat.le_of_ble_eq_true rfl) rfl ?_
      refine j_aload_n 2 dX11_takeOut_58 rfl ?_
      refine j_iload_n 1 dX11_takeOut_59 rfl ?_
      refine j_puti (i := 21) dX11_takeOut_60 p_X11_210 (fun h => by cases h) sh_61 rfl rfl ?_
      refine j_aload_n 2 dX11_takeOut_63 rfl ?_
      refine j_aload_n 2 dX11_takeOut_64 rfl ?_
      refine j_geti (i := 18) dX11_takeOut_65 f_X11_187 sh_61 rfl rfl (fun _ => ?_)
      refine j_puti (i := 22) dX11_takeOut_68 p_X11_213 (fun h => by cases h) sh_61 rfl rfl ?_
      refine j_iload_n 0 dX11_takeOut_71 rfl ?_
      refine j_if_le (tgt := 79) dX11_takeOut_72 (by decide) (fun c => by have := c3; omega) (fun _ => ?_)
      refine j_iload_n 0 dX11_takeOut_75 rfl ?_
      refine j_goto (tgt := 83) dX11_takeOut_76 (by decide) ?_
      exact j_iret dX11_takeOut_83 rfl ⟨Nat.le_of_ble_eq_true rfl, Nat.le_of_ble_eq_true rfl⟩ (fun _ => h)
  · replace h := h.2 c1
    refine j_aload_n 0 dX11_takeOut_7 rfl ?_
    refine j_iconst (x := 3) dX11_takeOut_8 rfl (i32_c rfl) ?_
    refine j_aload_n 0 dX11_takeOut_9 rfl ?_
    refine j_geti (i := 15) dX11_takeOut_10 f_X11_150 sh_61 rfl rfl (fun _ => ?_)
    refine j_calliV (Yc := Y_X11_fails) (as := [aI 3, aI (M 61 15)]) (rest := []) dX11_takeOut_13 q_X11_180 ⟨Nat.le_of_ble_eq_true rfl, Nat.le_of_ble_eq_true rfl, Nat.le_of_ble_eq_true rfl, Nat.le_of_ble_eq_true rfl⟩ sh_61 rfl (Nat.le_of_ble_eq_true rfl) rfl (ti_of (ll := [(0, aR 61), (1, aI 3), (2, aI (M 61 15))]) rfl (Nat.le_of_ble_eq_true rfl) rfl (fun _ => ?_))
    refine j_aload_n 0 dX11_fails_0 rfl ?_
    refine j_iload_n 2 dX11_fails_1 rfl ?_
    refine j_puti (i := 14) dX11_fails_2 p_X11_42 (fun h => by cases h) sh_61 rfl rfl ?_
    refine j_iload_n 1 dX11_fails_5 rfl ?_
    refine j_iret dX11_fails_6 rfl ⟨Nat.le_of_ble_eq_true rfl, Nat.le_of_ble_eq_true rfl⟩ (fun _ => ?_)
    exact j_iret dX11_takeOut_16 rfl ⟨Nat.le_of_ble_eq_true rfl, Nat.le_of_ble_eq_true rfl⟩ (fun _ => h)
theorem E_X11_takeOut {post : Int → ax_M → Prop} {M : ax_M} (h : ax_mr SH M → ((((M 61 21) < 0) → (-2147483648 ≤ ((M 61 20) - 1) ∧ ((M 61 20) - 1) ≤ 2147483647) ∧ ax_Ti Y_X11_takeNumber [aR 61, aI 0, aI ((M 61 20) - 1)] SH (ax_up M 61 15 (M 61 17)) (fun z2 u1 => (((z2 ≤ 0) → ax_Ti Y_X11_takeNumber [aR 61, aI 1, aI 9] SH u1 (fun z4 u3 => (((z4 ≤ 0) → ax_Ti Y_X11_takeStop [aR 61] SH (ax_up (ax_up u3 61 21 (u1 61 18)) 61 22 (u3 61 18)) (fun z6 u5 => post z6 u5)) ∧ ((0 < z4) → post z4 (ax_up (ax_up u3 61 21 (u1 61 18)) 61 22 (u3 61 18)))))) ∧ ((0 < z2) → post z2 (ax_up (ax_up u1 61 21 (u1 61 18)) 61 22 (u1 61 18)))))) ∧ ((0 ≤ (M 61 21)) → post 3 (ax_up M 61 14 (M 61 15))))) : ax_Ti Y_X11_takeOut [aR 61] SH M post :=
  ti_of rfl (Nat.le_of_ble_eq_true rfl) rfl (fun q => B_X11_takeOut_0 (h q))
set_option maxRecDepth 100000 in
set_option maxHeartbeats 4000000 in
theorem B_X11_takeWay_0 {post : Int → ax_M → Prop} {M : ax_M} (h : (((¬ (M 61 23) = 24) → (-2147483648 ≤ (7 * (M 61 23)) ∧ (7 * (M 61 23)) ≤ 2147483647) ∧ (-2147483648 ≤ ((M 61 20) - 1) ∧ ((M 61 20) - 1) ≤ 2147483647) ∧ ax_Ti Y_X11_takeNumber [aR 61, aI 0, aI ((M 61 20) - 1)] SH (ax_up M 61 15 (M 61 17)) (fun z2 u1 => (0 ≤ (7 * (M 61 23)) ∧ (7 * (M 61 23)) < 168) ∧ (((z2 ≤ 0) → (-2147483648 ≤ ((u1 61 20) - 1) ∧ ((u1 61 20) - 1) ≤ 2147483647) ∧ ax_Ti Y_X11_takeNumber [aR 61, aI 0, aI ((u1 61 20) - 1)] SH (ax_up u1 71 (7 * (M 61 23)) (u1 61 18)) (fun z4 u3 => ax_J Y_X11_takeWay (ax_Ki Y_X11_takeWay SH post) 0 0 76 [(0, aR 61), (1, aI (7 * (M 61 23)))] [aI z4] SH u3)) ∧ ((0 < z2) → ax_J Y_X11_takeWay (ax_Ki Y_X11_takeWay SH post) 0 0 76 [(0, aR 61), (1, aI (7 * (M 61 23)))] [aI z2] SH (ax_up u1 71 (7 * (M 61 23)) (u1 61 18)))))) ∧ (((M 61 23) = 24) → post 4 (ax_up M 61 14 (M 61 15))))) : ax_J Y_X11_takeWay (ax_Ki Y_X11_takeWay SH post) 0 0 0 [(0, aR 61)] [] SH M := by
  refine j_aload_n 0 dX11_takeWay_0 rfl ?_
  refine j_geti (i := 23) dX11_takeWay_1 f_X11_216 sh_61 rfl rfl (fun _ => ?_)
  refine j_bipush (x := 24) dX11_takeWay_4 rfl (i32_c rfl) ?_
  refine j_icmp_ne (tgt := 19) dX11_takeWay_6 (by decide) (fun c1 => ?_) (fun c1 => ?_)
  · replace h := h.1 c1
    refine j_aload_n 0 dX11_takeWay_19 rfl ?_
    refine j_aload_n 0 dX11_takeWay_20 rfl ?_
    refine j_geti (i := 17) dX11_takeWay_21 f_X11_161 sh_61 rfl rfl (fun _ => ?_)
    refine j_puti (i := 15) dX11_takeWay_24 p_X11_150 (fun h => by cases h) sh_61 rfl rfl ?_
    refine j_bipush (x := 7) dX11_takeWay_27 rfl (i32_c rfl) ?_
    refine j_aload_n 0 dX11_takeWay_29 rfl ?_
    refine j_geti (i := 23) dX11_takeWay_30 f_X11_216 sh_61 rfl rfl (fun _ => ?_)
    obtain ⟨o2, h⟩ := h
    refine j_imul (z := (7 * (M 61 23))) dX11_takeWay_33 rfl o2 ?_
    refine j_istore_n (ll' := [(1, aI (7 * (M 61 23))), (0, aR 61)]) dX11_takeWay_34 (Nat.le_of_ble_eq_true rfl) rfl ?_
    refine j_aload_n 1 dX11_takeWay_35 rfl ?_
    refine j_iconst (x := 0) dX11_takeWay_36 rfl (i32_c rfl) ?_
    refine j_aload_n 1 dX11_takeWay_37 rfl ?_
    refine j_geti (i := 20) dX11_takeWay_38 f_X11_204 sh_61 rfl rfl (fun _ => ?_)
    refine j_iconst (x := 1) dX11_takeWay_41 rfl (i32_c rfl) ?_
    obtain ⟨o3, h⟩ := h
    refine j_isub (z := ((M 61 20) - 1)) dX11_takeWay_42 rfl o3 ?_
    refine j_calliV (Yc := Y_X11_takeNumber) (as := [aI 0, aI ((M 61 20) - 1)]) (rest := []) dX11_takeWay_43 q_X11_201 ⟨Nat.le_of_ble_eq_true rfl, Nat.le_of_ble_eq_true rfl, Nat.le_of_ble_eq_true rfl, Nat.le_of_ble_eq_true rfl⟩ sh_61 rfl (Nat.le_of_ble_eq_true rfl) rfl (ti_mono h (fun z2 u1 h => ?_))
    refine j_istore_n (ll' := [(2, aI z2), (1, aI (7 * (M 61 23))), (0, aR 61)]) dX11_takeWay_46 (Nat.le_of_ble_eq_true rfl) rfl ?_
    refine j_aload_n 2 dX11_takeWay_47 rfl ?_
    refine j_getc 71 dX11_takeWay_48 f_X11_45 sh_61 rfl ?_
    refine j_iload_n 1 dX11_takeWay_51 rfl ?_
    refine j_aload_n 2 dX11_takeWay_52 rfl ?_
    refine j_geti (i := 18) dX11_takeWay_53 f_X11_187 sh_61 rfl rfl (fun _ => ?_)
    obtain ⟨o4, h⟩ := h
    refine j_iast dX11_takeWay_56 sh_71 o4.1 o4.2 ?_
    refine j_iload_n 0 dX11_takeWay_57 rfl ?_
    refine j_if_le (tgt := 65) dX11_takeWay_58 (by decide) (fun c5 => ?_) (fun c5 => ?_)
    · replace h := h.1 c5
      refine j_aload_n 2 dX11_takeWay_65 rfl ?_
      refine j_iconst (x := 0) dX11_takeWay_66 rfl (i32_c rfl) ?_
      refine j_aload_n 2 dX11_takeWay_67 rfl ?_
      refine j_geti (i := 20) dX11_takeWay_68 f_X11_204 sh_61 rfl rfl (fun _ => ?_)
      refine j_iconst (x := 1) dX11_takeWay_71 rfl (i32_c rfl) ?_
      obtain ⟨o6, h⟩ := h
      refine j_isub (z := ((u1 61 20) - 1)) dX11_takeWay_72 rfl o6 ?_
      refine j_calliV (Yc := Y_X11_takeNumber) (as := [aI 0, aI ((u1 61 20) - 1)]) (rest := []) dX11_takeWay_73 q_X11_201 ⟨Nat.le_of_ble_eq_true rfl, Nat.le_of_ble_eq_true rfl, Nat.le_of_ble_eq_true rfl, Nat.le_of_ble_eq_true rfl⟩ sh_61 rfl (Nat.le_of_ble_eq_true rfl) rfl (ti_mono h (fun z4 u3 h => ?_))
      refine j_sub [2, 1] rfl ?_
      exact h
    · replace h := h.2 c5
      refine j_iload_n 0 dX11_takeWay_61 rfl ?_
      refine j_goto (tgt := 76) dX11_takeWay_62 (by decide) ?_
      refine j_sub [2, 1] rfl ?_
      exact h
  · replace h := h.2 c1
    refine j_aload_n 0 dX11_takeWay_9 rfl ?_
    refine j_iconst (x := 4) dX11_takeWay_10 rfl (i32_c rfl) ?_
    refine j_aload_n 0 dX11_takeWay_11 rfl ?_
    refine j_geti (i := 15) dX11_takeWay_12 f_X11_150 sh_61 rfl rfl (fun _ => ?_)
    refine j_calliV (Yc := Y_X11_fails) (as := [aI 4, aI (M 61 15)]) (rest := []) dX11_takeWay_15 q_X11_180 ⟨Nat.le_of_ble_eq_true rfl, Nat.le_of_ble_eq_true rfl, Nat.le_of_ble_eq_true rfl, Nat.le_of_ble_eq_true rfl⟩ sh_61 rfl (Nat.le_of_ble_eq_true rfl) rfl (ti_of (ll := [(0, aR 61), (1, aI 4), (2, aI (M 61 15))]) rfl (Nat.le_of_ble_eq_true rfl) rfl (fun _ => ?_))
    refine j_aload_n 0 dX11_fails_0 rfl ?_
    refine j_iload_n 2 dX11_fails_1 rfl ?_
    refine j_puti (i := 14) dX11_fails_2 p_X11_42 (fun h => by cases h) sh_61 rfl rfl ?_
    refine j_iload_n 1 dX11_fails_5 rfl ?_
    refine j_iret dX11_fails_6 rfl ⟨Nat.le_of_ble_eq_true rfl, Nat.le_of_ble_eq_true rfl⟩ (fun _ => ?_)
    exact j_iret dX11_takeWay_18 rfl ⟨Nat.le_of_ble_eq_true rfl, Nat.le_of_ble_eq_true rfl⟩ (fun _ => h)
theorem E_X11_takeWay {post : Int → ax_M → Prop} {M : ax_M} (h : ax_mr SH M → (((¬ (M 61 23) = 24) → (-2147483648 ≤ (7 * (M 61 23)) ∧ (7 * (M 61 23)) ≤ 2147483647) ∧ (-2147483648 ≤ ((M 61 20) - 1) ∧ ((M 61 20) - 1) ≤ 2147483647) ∧ ax_Ti Y_X11_takeNumber [aR 61, aI 0, aI ((M 61 20) - 1)] SH (ax_up M 61 15 (M 61 17)) (fun z2 u1 => (0 ≤ (7 * (M 61 23)) ∧ (7 * (M 61 23)) < 168) ∧ (((z2 ≤ 0) → (-2147483648 ≤ ((u1 61 20) - 1) ∧ ((u1 61 20) - 1) ≤ 2147483647) ∧ ax_Ti Y_X11_takeNumber [aR 61, aI 0, aI ((u1 61 20) - 1)] SH (ax_up u1 71 (7 * (M 61 23)) (u1 61 18)) (fun z4 u3 => ax_J Y_X11_takeWay (ax_Ki Y_X11_takeWay SH post) 0 0 76 [(0, aR 61), (1, aI (7 * (M 61 23)))] [aI z4] SH u3)) ∧ ((0 < z2) → ax_J Y_X11_takeWay (ax_Ki Y_X11_takeWay SH post) 0 0 76 [(0, aR 61), (1, aI (7 * (M 61 23)))] [aI z2] SH (ax_up u1 71 (7 * (M 61 23)) (u1 61 18)))))) ∧ (((M 61 23) = 24) → post 4 (ax_up M 61 14 (M 61 15))))) : ax_Ti Y_X11_takeWay [aR 61] SH M post :=
  ti_of rfl (Nat.le_of_ble_eq_true rfl) rfl (fun q => B_X11_takeWay_0 (h q))
set_option maxRecDepth 100000 in
set_option maxHeartbeats 4000000 in
theorem B_X11_takeWay_76 {post : Int → ax_M → Prop} {M : ax_M} {s0 x1 : Int} (h : (((¬ s0 = 0) → ax_J Y_X11_takeWay (ax_Ki Y_X11_takeWay SH post) 0 0 104 [(0, aR 61), (1, aI x1), (2, aI s0)] [] SH M) ∧ ((s0 = 0) → (0 ≤ x1 ∧ x1 < 168) ∧ (((¬ (M 61 18) = (M 71 x1)) → ax_J Y_X11_takeWay (ax_Ki Y_X11_takeWay SH post) 0 0 104 [(0, aR 61), (1, aI x1), (2, aI s0)] [] SH M) ∧ (((M 61 18) = (M 71 x1)) → ax_J Y_X11_takeWay (ax_Ki Y_X11_takeWay SH post) 0 0 104 [(0, aR 61), (1, aI x1), (2, aI 5)] [] SH (ax_up M 61 14 (M 61 19))))))) : ax_J Y_X11_takeWay (ax_Ki Y_X11_takeWay SH post) 0 0 76 [(0, aR 61), (1, aI x1)] [aI s0] SH M := by
  refine j_istore_n (ll' := [(2, aI s0), (0, aR 61), (1, aI x1)]) dX11_takeWay_76 (Nat.le_of_ble_eq_true rfl) rfl ?_
  refine j_iload_n 0 dX11_takeWay_77 rfl ?_
  refine j_if_ne (tgt := 104) dX11_takeWay_78 (by decide) (fun c1 => ?_) (fun c1 => ?_)
  · replace h := h.1 c1
    refine j_sub [1, 2, 0] rfl ?_
    exact h
  · replace h := h.2 c1
    refine j_aload_n 1 dX11_takeWay_81 rfl ?_
    refine j_geti (i := 18) dX11_takeWay_82 f_X11_187 sh_61 rfl rfl (fun _ => ?_)
    refine j_aload_n 1 dX11_takeWay_85 rfl ?_
    refine j_getc 71 dX11_takeWay_86 f_X11_45 sh_61 rfl ?_
    refine j_iload_n 2 dX11_takeWay_89 rfl ?_
    obtain ⟨o2, h⟩ := h
    refine j_iald dX11_takeWay_90 sh_71 o2.1 o2.2 (fun _ => ?_)
    refine j_icmp_ne (tgt := 104) dX11_takeWay_91 (by decide) (fun c3 => ?_) (fun c3 => ?_)
    · replace h := h.1 c3
      refine j_sub [1, 2, 0] rfl ?_
      exact h
    · replace h := h.2 c3
      refine j_aload_n 1 dX11_takeWay_94 rfl ?_
      refine j_iconst (x := 5) dX11_takeWay_95 rfl (i32_c rfl) ?_
      refine j_aload_n 1 dX11_takeWay_96 rfl ?_
      refine j_geti (i := 19) dX11_takeWay_97 f_X11_184 sh_61 rfl rfl (fun _ => ?_)
      refine j_calliV (Yc := Y_X11_fails) (as := [aI 5, aI (M 61 19)]) (rest := []) dX11_takeWay_100 q_X11_180 ⟨Nat.le_of_ble_eq_true rfl, Nat.le_of_ble_eq_true rfl, Nat.le_of_ble_eq_true rfl, Nat.le_of_ble_eq_true rfl⟩ sh_61 rfl (Nat.le_of_ble_eq_true rfl) rfl (ti_of (ll := [(0, aR 61), (1, aI 5), (2, aI (M 61 19))]) rfl (Nat.le_of_ble_eq_true rfl) rfl (fun _ => ?_))
      refine j_aload_n 0 dX11_fails_0 rfl ?_
      refine j_iload_n 2 dX11_fails_1 rfl ?_
      refine j_puti (i := 14) dX11_fails_2 p_X11_42 (fun h => by cases h) sh_61 rfl rfl ?_
      refine j_iload_n 1 dX11_fails_5 rfl ?_
      refine j_iret dX11_fails_6 rfl ⟨Nat.le_of_ble_eq_true rfl, Nat.le_of_ble_eq_true rfl⟩ (fun _ => ?_)
      refine j_istore_n (ll' := [(2, aI 5), (0, aR 61), (1, aI x1)]) dX11_takeWay_103 (Nat.le_of_ble_eq_true rfl) rfl ?_
      refine j_sub [1, 2, 0] rfl ?_
      exact h
set_option maxRecDepth 100000 in
set_option maxHeartbeats 4000000 in
theorem B_X11_takeWay_104 {post : Int → ax_M → Prop} {M : ax_M} {x1 x2 : Int} (h : (-2147483648 ≤ (x1 + 1) ∧ (x1 + 1) ≤ 2147483647) ∧ (0 ≤ (x1 + 1) ∧ (x1 + 1) < 168) ∧ (((x2 ≤ 0) → ax_Ti Y_X11_takeNumber [aR 61, aI 1, aI 30] SH (ax_up M 71 (x1 + 1) (M 61 18)) (fun z2 u1 => ax_J Y_X11_takeWay (ax_Ki Y_X11_takeWay SH post) 0 0 131 [(0, aR 61), (1, aI x1)] [aI z2] SH u1)) ∧ ((0 < x2) → ax_J Y_X11_takeWay (ax_Ki Y_X11_takeWay SH post) 0 0 131 [(0, aR 61), (1, aI x1)] [aI x2] SH (ax_up M 71 (x1 + 1) (M 61 18))))) : ax_J Y_X11_takeWay (ax_Ki Y_X11_takeWay SH post) 0 0 104 [(0, aR 61), (1, aI x1), (2, aI x2)] [] SH M := by
  refine j_aload_n 0 dX11_takeWay_104 rfl ?_
  refine j_getc 71 dX11_takeWay_105 f_X11_45 sh_61 rfl ?_
  refine j_iload_n 1 dX11_takeWay_108 rfl ?_
  refine j_iconst (x := 1) dX11_takeWay_109 rfl (i32_c rfl) ?_
  obtain ⟨o1, h⟩ := h
  refine j_iadd (z := (x1 + 1)) dX11_takeWay_110 rfl o1 ?_
  refine j_aload_n 0 dX11_takeWay_111 rfl ?_
  refine j_geti (i := 18) dX11_takeWay_112 f_X11_187 sh_61 rfl rfl (fun _ => ?_)
  obtain ⟨o2, h⟩ := h
  refine j_iast dX11_takeWay_115 sh_71 o2.1 o2.2 ?_
  refine j_iload_n 2 dX11_takeWay_116 rfl ?_
  refine j_if_le (tgt := 124) dX11_takeWay_117 (by decide) (fun c3 => ?_) (fun c3 => ?_)
  · replace h := h.1 c3
    refine j_aload_n 0 dX11_takeWay_124 rfl ?_
    refine j_iconst (x := 1) dX11_takeWay_125 rfl (i32_c rfl) ?_
    refine j_bipush (x := 30) dX11_takeWay_126 rfl (i32_c rfl) ?_
    refine j_calliV (Yc := Y_X11_takeNumber) (as := [aI 1, aI 30]) (rest := []) dX11_takeWay_128 q_X11_201 ⟨Nat.le_of_ble_eq_true rfl, Nat.le_of_ble_eq_true rfl, Nat.le_of_ble_eq_true rfl, Nat.le_of_ble_eq_true rfl⟩ sh_61 rfl (Nat.le_of_ble_eq_true rfl) rfl (ti_mono h (fun z2 u1 h => ?_))
    refine j_sub [0, 1] rfl ?_
    exact h
  · replace h := h.2 c3
    refine j_iload_n 2 dX11_takeWay_120 rfl ?_
    refine j_goto (tgt := 131) dX11_takeWay_121 (by decide) ?_
    refine j_sub [0, 1] rfl ?_
    exact h
set_option maxRecDepth 100000 in
set_option maxHeartbeats 4000000 in
theorem B_X11_takeWay_131 {post : Int → ax_M → Prop} {M : ax_M} {s0 x1 : Int} (h : (-2147483648 ≤ (x1 + 2) ∧ (x1 + 2) ≤ 2147483647) ∧ (0 ≤ (x1 + 2) ∧ (x1 + 2) < 168) ∧ (-2147483648 ≤ (x1 + 3) ∧ (x1 + 3) ≤ 2147483647) ∧ (0 ≤ (x1 + 3) ∧ (x1 + 3) < 168) ∧ (-2147483648 ≤ (x1 + 4) ∧ (x1 + 4) ≤ 2147483647) ∧ (0 ≤ (x1 + 4) ∧ (x1 + 4) < 168) ∧ (-2147483648 ≤ (x1 + 5) ∧ (x1 + 5) ≤ 2147483647) ∧ (0 ≤ (x1 + 5) ∧ (x1 + 5) < 168) ∧ (-2147483648 ≤ (x1 + 6) ∧ (x1 + 6) ≤ 2147483647) ∧ (0 ≤ (x1 + 6) ∧ (x1 + 6) < 168) ∧ ax_J Y_X11_takeWay (ax_Ki Y_X11_takeWay SH post) 0 0 185 [(0, aR 61), (1, aI x1), (2, aI s0), (3, aI 2)] [] SH (ax_up (ax_up (ax_up (ax_up (ax_up M 71 (x1 + 2) (M 61 18)) 71 (x1 + 3) (-1)) 71 (x1 + 4) 9) 71 (x1 + 5) 99) 71 (x1 + 6) 0)) : ax_J Y_X11_takeWay (ax_Ki Y_X11_takeWay SH post) 0 0 131 [(0, aR 61), (1, aI x1)] [aI s0] SH M := by
  refine j_istore_n (ll' := [(2, aI s0), (0, aR 61), (1, aI x1)]) dX11_takeWay_131 (Nat.le_of_ble_eq_true rfl) rfl ?_
  refine j_aload_n 1 dX11_takeWay_132 rfl ?_
  refine j_getc 71 dX11_takeWay_133 f_X11_45 sh_61 rfl ?_
  refine j_iload_n 2 dX11_takeWay_136 rfl ?_
  refine j_iconst (x := 2) dX11_takeWay_137 rfl (i32_c rfl) ?_
  obtain ⟨o1, h⟩ := h
  refine j_iadd (z := (x1 + 2)) dX11_takeWay_138 rfl o1 ?_
  refine j_aload_n 1 dX11_takeWay_139 rfl ?_
  refine j_geti (i := 18) dX11_takeWay_140 f_X11_187 sh_61 rfl rfl (fun _ => ?_)
  obtain ⟨o2, h⟩ := h
  refine j_iast dX11_takeWay_143 sh_71 o2.1 o2.2 ?_
  refine j_aload_n 1 dX11_takeWay_144 rfl ?_
  refine j_getc 71 dX11_takeWay_145 f_X11_45 sh_61 rfl ?_
  refine j_iload_n 2 dX11_takeWay_148 rfl ?_
  refine j_iconst (x := 3) dX11_takeWay_149 rfl (i32_c rfl) ?_
  obtain ⟨o3, h⟩ := h
  refine j_iadd (z := (x1 + 3)) dX11_takeWay_150 rfl o3 ?_
  refine j_iconst (x := (-1)) dX11_takeWay_151 rfl (i32_c rfl) ?_
  obtain ⟨o4, h⟩ := h
  refine j_iast dX11_takeWay_152 sh_71 o4.1 o4.2 ?_
  refine j_aload_n 1 dX11_takeWay_153 rfl ?_
  refine j_getc 71 dX11_takeWay_154 f_X11_45 sh_61 rfl ?_
  refine j_iload_n 2 dX11_takeWay_157 rfl ?_
  refine j_iconst (x := 4) dX11_takeWay_158 rfl (i32_c rfl) ?_
  obtain ⟨o5, h⟩ := h
  refine j_iadd (z := (x1 + 4)) dX11_takeWay_159 rfl o5 ?_
  refine j_bipush (x := 9) dX11_takeWay_160 rfl (i32_c rfl) ?_
  obtain ⟨o6, h⟩ := h
  refine j_iast dX11_takeWay_162 sh_71 o6.1 o6.2 ?_
  refine j_aload_n 1 dX11_takeWay_163 rfl ?_
  refine j_getc 71 dX11_takeWay_164 f_X11_45 sh_61 rfl ?_
  refine j_iload_n 2 dX11_takeWay_167 rfl ?_
  refine j_iconst (x := 5) dX11_takeWay_168 rfl (i32_c rfl) ?_
  obtain ⟨o7, h⟩ := h
  refine j_iadd (z := (x1 + 5)) dX11_takeWay_169 rfl o7 ?_
  refine j_bipush (x := 99) dX11_takeWay_170 rfl (i32_c rfl) ?_
  obtain ⟨o8, h⟩ := h
  refine j_iast dX11_takeWay_172 sh_71 o8.1 o8.2 ?_
  refine j_aload_n 1 dX11_takeWay_173 rfl ?_
  refine j_getc 71 dX11_takeWay_174 f_X11_45 sh_61 rfl ?_
  refine j_iload_n 2 dX11_takeWay_177 rfl ?_
  refine j_bipush (x := 6) dX11_takeWay_178 rfl (i32_c rfl) ?_
  obtain ⟨o9, h⟩ := h
  refine j_iadd (z := (x1 + 6)) dX11_takeWay_180 rfl o9 ?_
  refine j_iconst (x := 0) dX11_takeWay_181 rfl (i32_c rfl) ?_
  obtain ⟨o10, h⟩ := h
  refine j_iast dX11_takeWay_182 sh_71 o10.1 o10.2 ?_
  refine j_iconst (x := 2) dX11_takeWay_183 rfl (i32_c rfl) ?_
  refine j_istore_n (ll' := [(3, aI 2), (2, aI s0), (0, aR 61), (1, aI x1)]) dX11_takeWay_184 (Nat.le_of_ble_eq_true rfl) rfl ?_
  refine j_sub [2, 3, 1, 0] rfl ?_
  exact h
set_option maxRecDepth 100000 in
set_option maxHeartbeats 4000000 in
theorem B_X11_takeWay_185 {post : Int → ax_M → Prop} {M : ax_M} {x1 x2 x3 : Int} (h : (((¬ x2 = 0) → ax_J Y_X11_takeWay (ax_Ki Y_X11_takeWay SH post) 0 0 310 [(0, aR 61), (2, aI x2)] [] SH M) ∧ ((x2 = 0) → ax_Ti Y_X11_here [aR 61] SH M (fun z2 u1 => (((z2 = 59) → ax_J Y_X11_takeWay (ax_Ki Y_X11_takeWay SH post) 0 0 310 [(0, aR 61), (2, aI x2)] [] SH u1) ∧ ((¬ z2 = 59) → ax_Tv Y_X11_readWord [aR 61] SH u1 (fun u3 => ax_Ti Y_X11_wordOf [aR 61] SH u3 (fun z5 u4 => (((x3 < z5) → (((¬ z5 = 3) → (((¬ z5 = 4) → (((¬ z5 = 5) → ax_J Y_X11_takeWay (ax_Ki Y_X11_takeWay SH post) 0 0 290 [(0, aR 61), (1, aI x1), (3, aI z5), (4, aI z5)] [aI 999, aI 0, aR 61] SH (ax_up u4 61 15 (u4 61 17))) ∧ ((z5 = 5) → ax_J Y_X11_takeWay (ax_Ki Y_X11_takeWay SH post) 0 0 290 [(0, aR 61), (1, aI x1), (3, aI z5), (4, aI z5)] [aI 99, aI 0, aR 61] SH (ax_up u4 61 15 (u4 61 17))))) ∧ ((z5 = 4) → ax_Ti Y_X11_takeNumber [aR 61, aI 1, aI 9] SH (ax_up u4 61 15 (u4 61 17)) (fun z7 u6 => ax_J Y_X11_takeWay (ax_Ki Y_X11_takeWay SH post) 0 0 293 [(0, aR 61), (1, aI x1), (3, aI z5), (4, aI z5)] [aI z7] SH u6)))) ∧ ((z5 = 3) → (-2147483648 ≤ (x1 + 2) ∧ (x1 + 2) ≤ 2147483647) ∧ (0 ≤ (x1 + 2) ∧ (x1 + 2) < 168) ∧ ax_Ti Y_X11_takeNumber [aR 61, aI (u4 71 (x1 + 2)), aI 60] SH (ax_up u4 61 15 (u4 61 17)) (fun z9 u8 => ax_J Y_X11_takeWay (ax_Ki Y_X11_takeWay SH post) 0 0 293 [(0, aR 61), (1, aI x1), (3, aI z5), (4, aI z5)] [aI z9] SH u8)))) ∧ ((z5 ≤ x3) → post 1 (ax_up u4 61 14 (u4 61 15)))))))))))) : ax_J Y_X11_takeWay (ax_Ki Y_X11_takeWay SH post) 0 0 185 [(0, aR 61), (1, aI x1), (2, aI x2), (3, aI x3)] [] SH M := by
  refine j_iload_n 2 dX11_takeWay_185 rfl ?_
  refine j_if_ne (tgt := 310) dX11_takeWay_186 (by decide) (fun c1 => ?_) (fun c1 => ?_)
  · replace h := h.1 c1
    refine j_sub [0, 2] rfl ?_
    exact h
  · replace h := h.2 c1
    refine j_aload_n 0 dX11_takeWay_189 rfl ?_
    refine j_calliV (Yc := Y_X11_here) (as := []) (rest := []) dX11_takeWay_190 q_X11_153 ⟨Nat.le_of_ble_eq_true rfl, Nat.le_of_ble_eq_true rfl, Nat.le_of_ble_eq_true rfl, Nat.le_of_ble_eq_true rfl⟩ sh_61 rfl (Nat.le_of_ble_eq_true rfl) rfl (ti_mono h (fun z2 u1 h => ?_))
    refine j_bipush (x := 59) dX11_takeWay_193 rfl (i32_c rfl) ?_
    refine j_icmp_eq (tgt := 310) dX11_takeWay_195 (by decide) (fun c2 => ?_) (fun c2 => ?_)
    · replace h := h.1 c2
      refine j_sub [0, 2] rfl ?_
      exact h
    · replace h := h.2 c2
      refine j_aload_n 0 dX11_takeWay_198 rfl ?_
      refine j_callvV (Yc := Y_X11_readWord) (as := []) (rest := []) dX11_takeWay_199 q_X11_190 ⟨Nat.le_of_ble_eq_true rfl, Nat.le_of_ble_eq_true rfl, Nat.le_of_ble_eq_true rfl, Nat.le_of_ble_eq_true rfl⟩ sh_61 rfl (Nat.le_of_ble_eq_true rfl) rfl (tv_mono h (fun u3 h => ?_))
      refine j_aload_n 0 dX11_takeWay_202 rfl ?_
      refine j_calliV (Yc := Y_X11_wordOf) (as := []) (rest := []) dX11_takeWay_203 q_X11_219 ⟨Nat.le_of_ble_eq_true rfl, Nat.le_of_ble_eq_true rfl, Nat.le_of_ble_eq_true rfl, Nat.le_of_ble_eq_true rfl⟩ sh_61 rfl (Nat.le_of_ble_eq_true rfl) rfl (ti_mono h (fun z5 u4 h => ?_))
      refine j_istore (ll' := [(4, aI z5), (0, aR 61), (1, aI x1), (2, aI x2), (3, aI x3)]) dX11_takeWay_206 (Nat.le_of_ble_eq_true rfl) rfl ?_
      refine j_iload 0 dX11_takeWay_208 rfl ?_
      refine j_iload_n 4 dX11_takeWay_210 rfl ?_
      refine j_icmp_gt (tgt := 224) dX11_takeWay_211 (by decide) (fun c3 => ?_) (fun c3 => ?_)
      · replace h := h.1 c3
        refine j_iload 0 dX11_takeWay_224 rfl ?_
        refine j_istore_n (ll' := [(3, aI z5), (4, aI z5), (0, aR 61), (1, aI x1), (2, aI x2)]) dX11_takeWay_226 (Nat.le_of_ble_eq_true rfl) rfl ?_
        refine j_aload_n 2 dX11_takeWay_227 rfl ?_
        refine j_aload_n 2 dX11_takeWay_228 rfl ?_
        refine j_geti (i := 17) dX11_takeWay_229 f_X11_161 sh_61 rfl rfl (fun _ => ?_)
        refine j_puti (i := 15) dX11_takeWay_232 p_X11_150 (fun h => by cases h) sh_61 rfl rfl ?_
        refine j_iload 1 dX11_takeWay_235 rfl ?_
        refine j_iconst (x := 3) dX11_takeWay_237 rfl (i32_c rfl) ?_
        refine j_icmp_ne (tgt := 258) dX11_takeWay_238 (by decide) (fun c4 => ?_) (fun c4 => ?_)
        · replace h := h.1 c4
          refine j_iload 1 dX11_takeWay_258 rfl ?_
          refine j_iconst (x := 4) dX11_takeWay_260 rfl (i32_c rfl) ?_
          refine j_icmp_ne (tgt := 274) dX11_takeWay_261 (by decide) (fun c5 => ?_) (fun c5 => ?_)
          · replace h := h.1 c5
            refine j_aload_n 2 dX11_takeWay_274 rfl ?_
            refine j_iconst (x := 0) dX11_takeWay_275 rfl (i32_c rfl) ?_
            refine j_iload 1 dX11_takeWay_276 rfl ?_
            refine j_iconst (x := 5) dX11_takeWay_278 rfl (i32_c rfl) ?_
            refine j_icmp_ne (tgt := 287) dX11_takeWay_279 (by decide) (fun c6 => ?_) (fun c6 => ?_)
            · replace h := h.1 c6
              refine j_sipush (x := 999) dX11_takeWay_287 rfl (i32_c rfl) ?_
              refine j_sub [2, 3, 0, 1] rfl ?_
              exact h
            · replace h := h.2 c6
              refine j_bipush (x := 99) dX11_takeWay_282 rfl (i32_c rfl) ?_
              refine j_goto (tgt := 290) dX11_takeWay_284 (by decide) ?_
              refine j_sub [2, 3, 0, 1] rfl ?_
              exact h
          · replace h := h.2 c5
            refine j_aload_n 2 dX11_takeWay_264 rfl ?_
            refine j_iconst (x := 1) dX11_takeWay_265 rfl (i32_c rfl) ?_
            refine j_bipush (x := 9) dX11_takeWay_266 rfl (i32_c rfl) ?_
            refine j_calliV (Yc := Y_X11_takeNumber) (as := [aI 1, aI 9]) (rest := []) dX11_takeWay_268 q_X11_201 ⟨Nat.le_of_ble_eq_true rfl, Nat.le_of_ble_eq_true rfl, Nat.le_of_ble_eq_true rfl, Nat.le_of_ble_eq_true rfl⟩ sh_61 rfl (Nat.le_of_ble_eq_true rfl) rfl (ti_mono h (fun z7 u6 h => ?_))
            refine j_goto (tgt := 293) dX11_takeWay_271 (by decide) ?_
            refine j_sub [2, 3, 0, 1] rfl ?_
            exact h
        · replace h := h.2 c4
          refine j_aload_n 2 dX11_takeWay_241 rfl ?_
          refine j_aload_n 2 dX11_takeWay_242 rfl ?_
          refine j_getc 71 dX11_takeWay_243 f_X11_45 sh_61 rfl ?_
          refine j_iload_n 3 dX11_takeWay_246 rfl ?_
          refine j_iconst (x := 2) dX11_takeWay_247 rfl (i32_c rfl) ?_
          obtain ⟨o7, h⟩ := h
          refine j_iadd (z := (x1 + 2)) dX11_takeWay_248 rfl o7 ?_
          obtain ⟨o8, h⟩ := h
          refine j_iald dX11_takeWay_249 sh_71 o8.1 o8.2 (fun _ => ?_)
          refine j_bipush (x := 60) dX11_takeWay_250 rfl (i32_c rfl) ?_
          refine j_calliV (Yc := Y_X11_takeNumber) (as := [aI (u4 71 (x1 + 2)), aI 60]) (rest := []) dX11_takeWay_252 q_X11_201 ⟨Nat.le_of_ble_eq_true rfl, Nat.le_of_ble_eq_true rfl, Nat.le_of_ble_eq_true rfl, Nat.le_of_ble_eq_true rfl⟩ sh_61 rfl (Nat.le_of_ble_eq_true rfl) rfl (ti_mono h (fun z9 u8 h => ?_))
          refine j_goto (tgt := 293) dX11_takeWay_255 (by decide) ?_
          refine j_sub [2, 3, 0, 1] rfl ?_
          exact h
      · replace h := h.2 c3
        refine j_aload_n 1 dX11_takeWay_214 rfl ?_
        refine j_iconst (x := 1) dX11_takeWay_215 rfl (i32_c rfl) ?_
        refine j_aload_n 1 dX11_takeWay_216 rfl ?_
        refine j_geti (i := 15) dX11_takeWay_217 f_X11_150 sh_61 rfl rfl (fun _ => ?_)
        refine j_calliV (Yc := Y_X11_fails) (as := [aI 1, aI (u4 61 15)]) (rest := []) dX11_takeWay_220 q_X11_180 ⟨Nat.le_of_ble_eq_true rfl, Nat.le_of_ble_eq_true rfl, Nat.le_of_ble_eq_true rfl, Nat.le_of_ble_eq_true rfl⟩ sh_61 rfl (Nat.le_of_ble_eq_true rfl) rfl (ti_of (ll := [(0, aR 61), (1, aI 1), (2, aI (u4 61 15))]) rfl (Nat.le_of_ble_eq_true rfl) rfl (fun _ => ?_))
        refine j_aload_n 0 dX11_fails_0 rfl ?_
        refine j_iload_n 2 dX11_fails_1 rfl ?_
        refine j_puti (i := 14) dX11_fails_2 p_X11_42 (fun h => by cases h) sh_61 rfl rfl ?_
        refine j_iload_n 1 dX11_fails_5 rfl ?_
        refine j_iret dX11_fails_6 rfl ⟨Nat.le_of_ble_eq_true rfl, Nat.le_of_ble_eq_true rfl⟩ (fun _ => ?_)
        exact j_iret dX11_takeWay_223 rfl ⟨Nat.le_of_ble_eq_true rfl, Nat.le_of_ble_eq_true rfl⟩ (fun _ => h)
set_option maxRecDepth 100000 in
set_option maxHeartbeats 4000000 in
theorem B_X11_takeWay_290 {post : Int → ax_M → Prop} {M : ax_M} {s0 s1 x1 x3 x4 : Int} (h : ax_Ti Y_X11_takeNumber [aR 61, aI s1, aI s0] SH M (fun z2 u1 => ax_J Y_X11_takeWay (ax_Ki Y_X11_takeWay SH post) 0 0 293 [(0, aR 61), (1, aI x1), (3, aI x3), (4, aI x4)] [aI z2] SH u1)) : ax_J Y_X11_takeWay (ax_Ki Y_X11_takeWay SH post) 0 0 290 [(0, aR 61), (1, aI x1), (3, aI x3), (4, aI x4)] [aI s0, aI s1, aR 61] SH M := by
  refine j_calliV (Yc := Y_X11_takeNumber) (as := [aI s1, aI s0]) (rest := []) dX11_takeWay_290 q_X11_201 ⟨Nat.le_of_ble_eq_true rfl, Nat.le_of_ble_eq_true rfl, Nat.le_of_ble_eq_true rfl, Nat.le_of_ble_eq_true rfl⟩ sh_61 rfl (Nat.le_of_ble_eq_true rfl) rfl (ti_mono h (fun z2 u1 h => ?_))
  exact h
set_option maxRecDepth 100000 in
set_option maxHeartbeats 4000000 in
theorem B_X11_takeWay_293 {post : Int → ax_M → Prop} {M : ax_M} {s0 x1 x3 x4 : Int} (h : (-2147483648 ≤ (x1 + x4) ∧ (x1 + x4) ≤ 2147483647) ∧ (0 ≤ (x1 + x4) ∧ (x1 + x4) < 168) ∧ ax_J Y_X11_takeWay (ax_Ki Y_X11_takeWay SH post) 0 0 185 [(0, aR 61), (1, aI x1), (2, aI s0), (3, aI x3)] [] SH (ax_up M 71 (x1 + x4) (M 61 18))) : ax_J Y_X11_takeWay (ax_Ki Y_X11_takeWay SH post) 0 0 293 [(0, aR 61), (1, aI x1), (3, aI x3), (4, aI x4)] [aI s0] SH M := by
  refine j_istore_n (ll' := [(2, aI s0), (0, aR 61), (1, aI x1), (3, aI x3), (4, aI x4)]) dX11_takeWay_293 (Nat.le_of_ble_eq_true rfl) rfl ?_
  refine j_aload_n 1 dX11_takeWay_294 rfl ?_
  refine j_getc 71 dX11_takeWay_295 f_X11_45 sh_61 rfl ?_
  refine j_iload_n 2 dX11_takeWay_298 rfl ?_
  refine j_iload 4 dX11_takeWay_299 rfl ?_
  obtain ⟨o1, h⟩ := h
  refine j_iadd (z := (x1 + x4)) dX11_takeWay_301 rfl o1 ?_
  refine j_aload_n 1 dX11_takeWay_302 rfl ?_
  refine j_geti (i := 18) dX11_takeWay_303 f_X11_187 sh_61 rfl rfl (fun _ => ?_)
  obtain ⟨o2, h⟩ := h
  refine j_iast dX11_takeWay_306 sh_71 o2.1 o2.2 ?_
  refine j_goto (tgt := 185) dX11_takeWay_307 (by decide) ?_
  refine j_sub [1, 2, 0, 3] rfl ?_
  exact h
set_option maxRecDepth 100000 in
set_option maxHeartbeats 4000000 in
theorem B_X11_takeWay_310 {post : Int → ax_M → Prop} {M : ax_M} {x2 : Int} (h : (-2147483648 ≤ ((M 61 23) + 1) ∧ ((M 61 23) + 1) ≤ 2147483647) ∧ (((x2 ≤ 0) → ax_Ti Y_X11_takeStop [aR 61] SH (ax_up M 61 23 ((M 61 23) + 1)) (fun z2 u1 => post z2 u1)) ∧ ((0 < x2) → post x2 (ax_up M 61 23 ((M 61 23) + 1))))) : ax_J Y_X11_takeWay (ax_Ki Y_X11_takeWay SH post) 0 0 310 [(0, aR 61), (2, aI x2)] [] SH M := by
  refine j_aload_n 0 dX11_takeWay_310 rfl ?_
  refine j_dup dX11_takeWay_311 rfl ?_
  refine j_geti (i := 23) dX11_takeWay_312 f_X11_216 sh_61 rfl rfl (fun _ => ?_)
  refine j_iconst (x := 1) dX11_takeWay_315 rfl (i32_c rfl) ?_
  obtain ⟨o1, h⟩ := h
  refine j_iadd (z := ((M 61 23) + 1)) dX11_takeWay_316 rfl o1 ?_
  refine j_puti (i := 23) dX11_takeWay_317 p_X11_216 (fun h => by cases h) sh_61 rfl rfl ?_
  refine j_iload_n 1 dX11_takeWay_320 rfl ?_
  refine j_if_le (tgt := 328) dX11_takeWay_321 (by decide) (fun c2 => ?_) (fun c2 => ?_)
  · replace h := h.1 c2
    refine j_aload_n 0 dX11_takeWay_328 rfl ?_
    refine j_calliV (Yc := Y_X11_takeStop) (as := []) (rest := []) dX11_takeWay_329 q_X11_207 ⟨Nat.le_of_ble_eq_true rfl, Nat.le_of_ble_eq_true rfl, Nat.le_of_ble_eq_true rfl, Nat.le_of_ble_eq_true rfl⟩ sh_61 rfl (Nat.le_of_ble_eq_true rfl) rfl (ti_mono h (fun z2 u1 h => ?_))
    exact j_iret dX11_takeWay_332 rfl ⟨Nat.le_of_ble_eq_true rfl, Nat.le_of_ble_eq_true rfl⟩ (fun _ => h)
  · replace h := h.2 c2
    refine j_iload_n 1 dX11_takeWay_324 rfl ?_
    refine j_goto (tgt := 332) dX11_takeWay_325 (by decide) ?_
    exact j_iret dX11_takeWay_332 rfl ⟨Nat.le_of_ble_eq_true rfl, Nat.le_of_ble_eq_true rfl⟩ (fun _ => h)
set_option maxRecDepth 100000 in
set_option maxHeartbeats 4000000 in
theorem B_X11_takeNumber_0 {post : Int → ax_M → Prop} {M : ax_M} {x1 x2 : Int} (h : ax_Ti Y_X11_here [aR 61] SH M (fun z2 u1 => (((z2 < 48) → post 1 (ax_up u1 61 14 (u1 61 15))) ∧ ((48 ≤ z2) → (((57 < z2) → post 1 (ax_up u1 61 14 (u1 61 15))) ∧ ((z2 ≤ 57) → ax_J Y_X11_takeNumber (ax_Ki Y_X11_takeNumber SH post) 0 0 42 [(0, aR 61), (1, aI x1), (2, aI x2)] [] SH (ax_up (ax_up u1 61 19 (u1 61 15)) 61 18 0))))))) : ax_J Y_X11_takeNumber (ax_Ki Y_X11_takeNumber SH post) 0 0 0 [(0, aR 61), (1, aI x1), (2, aI x2)] [] SH M := by
  refine j_aload_n 0 dX11_takeNumber_0 rfl ?_
  refine j_calliV (Yc := Y_X11_here) (as := []) (rest := []) dX11_takeNumber_1 q_X11_153 ⟨Nat.le_of_ble_eq_true rfl, Nat.le_of_ble_eq_true rfl, Nat.le_of_ble_eq_true rfl, Nat.le_of_ble_eq_true rfl⟩ sh_61 rfl (Nat.le_of_ble_eq_true rfl) rfl (ti_mono h (fun z2 u1 h => ?_))
  refine j_istore_n (ll' := [(3, aI z2), (0, aR 61), (1, aI x1), (2, aI x2)]) dX11_takeNumber_4 (Nat.le_of_ble_eq_true rfl) rfl ?_
  refine j_iload_n 0 dX11_takeNumber_5 rfl ?_
  refine j_i2l dX11_takeNumber_6 ?_
  refine j_ldc2 (x := 48) dX11_takeNumber_7 (ax_in 1336 (by decide +kernel) rfl) (i64_c rfl) ?_
  refine j_ldc2 (x := 57) dX11_takeNumber_10 (ax_in 1337 (by decide +kernel) rfl) (i64_c rfl) ?_
  refine j_calliS (Yc := Y_X11_in) (as := [aL z2, aL 48, aL 57]) (rest := []) dX11_takeNumber_13 q_X11_136 ⟨Nat.le_of_ble_eq_true rfl, Nat.le_of_ble_eq_true rfl, Nat.le_of_ble_eq_true rfl, Nat.le_of_ble_eq_true rfl⟩ rfl (Nat.le_of_ble_eq_true rfl) rfl (ti_of (ll := [(0, aL z2), (2, aL 48), (4, aL 57)]) rfl (Nat.le_of_ble_eq_true rfl) rfl (fun _ => ?_))
  refine j_lload_n 0 dX11_in_0 rfl ?_
  refine j_lload_n 1 dX11_in_1 rfl ?_
  refine j_lcmp_lt (tgt := 17) dX11_in_2 dX11_in_3 (by decide) (fun c1 => ?_) (fun c1 => ?_)
  · replace h := h.1 c1
    refine j_iconst (x := 0) dX11_in_17 rfl (i32_c rfl) ?_
    refine j_zret dX11_in_18 rfl ⟨Nat.le_of_ble_eq_true rfl, Nat.le_of_ble_eq_true rfl⟩ (by decide) ?_
    refine j_if_ne (tgt := 29) dX11_takeNumber_16 (by decide) (fun c => absurd c (by decide)) (fun _ => ?_)
    refine j_aload_n 1 dX11_takeNumber_19 rfl ?_
    refine j_iconst (x := 1) dX11_takeNumber_20 rfl (i32_c rfl) ?_
    refine j_aload_n 1 dX11_takeNumber_21 rfl ?_
    refine j_geti (i := 15) dX11_takeNumber_22 f_X11_150 sh_61 rfl rfl (fun _ => ?_)
    refine j_calliV (Yc := Y_X11_fails) (as := [aI 1, aI (u1 61 15)]) (rest := []) dX11_takeNumber_25 q_X11_180 ⟨Nat.le_of_ble_eq_true rfl, Nat.le_of_ble_eq_true rfl, Nat.le_of_ble_eq_true rfl, Nat.le_of_ble_eq_true rfl⟩ sh_61 rfl (Nat.le_of_ble_eq_true rfl) rfl (ti_of (ll := [(0, aR 61), (1, aI 1), (2, aI (u1 61 15))]) rfl (Nat.le_of_ble_eq_true rfl) rfl (fun _ => ?_))
    refine j_aload_n 0 dX11_fails_0 rfl ?_
    refine j_iload_n 2 dX11_fails_1 rfl ?_
    refine j_puti (i := 14) dX11_fails_2 p_X11_42 (fun h => by cases h) sh_61 rfl rfl ?_
    refine j_iload_n 1 dX11_fails_5 rfl ?_
    refine j_iret dX11_fails_6 rfl ⟨Nat.le_of_ble_eq_true rfl, Nat.le_of_ble_eq_true rfl⟩ (fun _ => ?_)
    exact j_iret dX11_takeNumber_28 rfl ⟨Nat.le_of_ble_eq_true rfl, Nat.le_of_ble_eq_true rfl⟩ (fun _ => h)
  · replace h := h.2 c1
    refine j_lload_n 0 dX11_in_6 rfl ?_
    refine j_lload 2 dX11_in_7 rfl ?_
    refine j_lcmp_gt (tgt := 17) dX11_in_9 dX11_in_10 (by decide) (fun c2 => ?_) (fun c2 => ?_)
    · replace h := h.1 c2
      refine j_iconst (x := 0) dX11_in_17 rfl (i32_c rfl) ?_
      refine j_zret dX11_in_18 rfl ⟨Nat.le_of_ble_eq_true rfl, Nat.le_of_ble_eq_true rfl⟩ (by decide) ?_
      refine j_if_ne (tgt := 29) dX11_takeNumber_16 (by decide) (fun c => absurd c (by decide)) (fun _ => ?_)
      refine j_aload_n 1 dX11_takeNumber_19 rfl ?_
      refine j_iconst (x := 1) dX11_takeNumber_20 rfl (i32_c rfl) ?_
      refine j_aload_n 1 dX11_takeNumber_21 rfl ?_
      refine j_geti (i := 15) dX11_takeNumber_22 f_X11_150 sh_61 rfl rfl (fun _ => ?_)
      refine j_calliV (Yc := Y_X11_fails) (as := [aI 1, aI (u1 61 15)]) (rest := []) dX11_takeNumber_25 q_X11_180 ⟨Nat.le_of_ble_eq_true rfl, Nat.le_of_ble_eq_true rfl, Nat.le_of_ble_eq_true rfl, Nat.le_of_ble_eq_true rfl⟩ sh_61 rfl (Nat.le_of_ble_eq_true rfl) rfl (ti_of (ll := [(0, aR 61), (1, aI 1), (2, aI (u1 61 15))]) rfl (Nat.le_of_ble_eq_true rfl) rfl (fun _ => ?_))
      refine j_aload_n 0 dX11_fails_0 rfl ?_
      refine j_iload_n 2 dX11_fails_1 rfl ?_
      refine j_puti (i := 14) dX11_fails_2 p_X11_42 (fun h => by cases h) sh_61 rfl rfl ?_
      refine j_iload_n 1 dX11_fails_5 rfl ?_
      refine j_iret dX11_fails_6 rfl ⟨Nat.le_of_ble_eq_true rfl, Nat.le_of_ble_eq_true rfl⟩ (fun _ => ?_)
      exact j_iret dX11_takeNumber_28 rfl ⟨Nat.le_of_ble_eq_true rfl, Nat.le_of_ble_eq_true rfl⟩ (fun _ => h)
    · replace h := h.2 c2
      refine j_iconst (x := 1) dX11_in_13 rfl (i32_c rfl) ?_
      refine j_goto (tgt := 18) dX11_in_14 (by decide) ?_
      refine j_zret dX11_in_18 rfl ⟨Nat.le_of_ble_eq_true rfl, Nat.le_of_ble_eq_true rfl⟩ (by decide) ?_
      refine j_if_ne (tgt := 29) dX11_takeNumber_16 (by decide) (fun _ => ?_) (fun c => absurd c (by decide))
      refine j_aload_n 1 dX11_takeNumber_29 rfl ?_
      refine j_aload_n 1 dX11_takeNumber_30 rfl ?_
      refine j_geti (i := 15) dX11_takeNumber_31 f_X11_150 sh_61 rfl rfl (fun _ => ?_)
      refine j_puti (i := 19) dX11_takeNumber_34 p_X11_184 (fun h => by cases h) sh_61 rfl rfl ?_
      refine j_aload_n 1 dX11_takeNumber_37 rfl ?_
      refine j_iconst (x := 0) dX11_takeNumber_38 rfl (i32_c rfl) ?_
      refine j_puti (i := 18) dX11_takeNumber_39 p_X11_187 (fun h => by cases h) sh_61 rfl rfl ?_
      refine j_sub [1, 2, 3] rfl ?_
      exact h
theorem E_X11_takeNumber {post : Int → ax_M → Prop} {M : ax_M} {x1 x2 : Int} (h : ax_mr SH M → ax_Ti Y_X11_here [aR 61] SH M (fun z2 u1 => (((z2 < 48) → post 1 (ax_up u1 61 14 (u1 61 15))) ∧ ((48 ≤ z2) → (((57 < z2) → post 1 (ax_up u1 61 14 (u1 61 15))) ∧ ((z2 ≤ 57) → ax_J Y_X11_takeNumber (ax_Ki Y_X11_takeNumber SH post) 0 0 42 [(0, aR 61), (1, aI x1), (2, aI x2)] [] SH (ax_up (ax_up u1 61 19 (u1 61 15)) 61 18 0))))))) : ax_Ti Y_X11_takeNumber [aR 61, aI x1, aI x2] SH M post :=
  ti_of rfl (Nat.le_of_ble_eq_true rfl) rfl (fun q => B_X11_takeNumber_0 (h q))
set_option maxRecDepth 100000 in
set_option maxHeartbeats 4000000 in
theorem B_X11_takeNumber_42 {post : Int → ax_M → Prop} {M : ax_M} {x1 x2 : Int} (h : ((((M 61 13) ≤ (M 61 15)) → ax_J Y_X11_takeNumber (ax_Ki Y_X11_takeNumber SH post) 0 0 129 [(0, aR 61), (1, aI x1), (2, aI x2)] [] SH M) ∧ (((M 61 15) < (M 61 13)) → (0 ≤ (M 61 15) ∧ (M 61 15) < 400) ∧ ((((M 70 (M 61 15)) < 48) → ax_J Y_X11_takeNumber (ax_Ki Y_X11_takeNumber SH post) 0 0 129 [(0, aR 61), (1, aI x1), (2, aI x2)] [] SH M) ∧ ((48 ≤ (M 70 (M 61 15))) → (((57 < (M 70 (M 61 15))) → ax_J Y_X11_takeNumber (ax_Ki Y_X11_takeNumber SH post) 0 0 129 [(0, aR 61), (1, aI x1), (2, aI x2)] [] SH M) ∧ (((M 70 (M 61 15)) ≤ 57) → ((((M 61 18) ≤ 10000) → (-2147483648 ≤ (10 * (M 61 18)) ∧ (10 * (M 61 18)) ≤ 2147483647) ∧ (-2147483648 ≤ ((10 * (M 61 18)) + (M 70 (M 61 15))) ∧ ((10 * (M 61 18)) + (M 70 (M 61 15))) ≤ 2147483647) ∧ (-2147483648 ≤ (((10 * (M 61 18)) + (M 70 (M 61 15))) - 48) ∧ (((10 * (M 61 18)) + (M 70 (M 61 15))) - 48) ≤ 2147483647) ∧ ax_J Y_X11_takeNumber (ax_Ki Y_X11_takeNumber SH post) 0 0 113 [(0, aR 61), (1, aI x1), (2, aI x2)] [aI (((10 * (M 61 18)) + (M 70 (M 61 15))) - 48), aR 61] SH M) ∧ ((10000 < (M 61 18)) → ax_J Y_X11_takeNumber (ax_Ki Y_X11_takeNumber SH post) 0 0 113 [(0, aR 61), (1, aI x1), (2, aI x2)] [aI (M 61 18), aR 61] SH M))))))))) : ax_J Y_X11_takeNumber (ax_Ki Y_X11_takeNumber SH post) 0 0 42 [(0, aR 61), (1, aI x1), (2, aI x2)] [] SH M := by
  refine j_aload_n 0 dX11_takeNumber_42 rfl ?_
  refine j_geti (i := 15) dX11_takeNumber_43 f_X11_150 sh_61 rfl rfl (fun _ => ?_)
  refine j_aload_n 0 dX11_takeNumber_46 rfl ?_
  refine j_geti (i := 13) dX11_takeNumber_47 f_X11_145 sh_61 rfl rfl (fun _ => ?_)
  refine j_icmp_ge (tgt := 129) dX11_takeNumber_50 (by decide) (fun c1 => ?_) (fun c1 => ?_)
  · replace h := h.1 c1
    exact h
  · replace h := h.2 c1
    refine j_aload_n 0 dX11_takeNumber_53 rfl ?_
    refine j_getc 70 dX11_takeNumber_54 f_X11_39 sh_61 rfl ?_
    refine j_aload_n 0 dX11_takeNumber_57 rfl ?_
    refine j_geti (i := 15) dX11_takeNumber_58 f_X11_150 sh_61 rfl rfl (fun _ => ?_)
    obtain ⟨o2, h⟩ := h
    refine j_iald dX11_takeNumber_61 sh_70 o2.1 o2.2 (fun _ => ?_)
    refine j_i2l dX11_takeNumber_62 ?_
    refine j_ldc2 (x := 48) dX11_takeNumber_63 (ax_in 1336 (by decide +kernel) rfl) (i64_c rfl) ?_
    refine j_ldc2 (x := 57) dX11_takeNumber_66 (ax_in 1337 (by decide +kernel) rfl) (i64_c rfl) ?_
    refine j_calliS (Yc := Y_X11_in) (as := [aL (M 70 (M 61 15)), aL 48, aL 57]) (rest := []) dX11_takeNumber_69 q_X11_136 ⟨Nat.le_of_ble_eq_true rfl, Nat.le_of_ble_eq_true rfl, Nat.le_of_ble_eq_true rfl, Nat.le_of_ble_eq_true rfl⟩ rfl (Nat.le_of_ble_eq_true rfl) rfl (ti_of (ll := [(0, aL (M 70 (M 61 15))), (2, aL 48), (4, aL 57)]) rfl (Nat.le_of_ble_eq_true rfl) rfl (fun _ => ?_))
    refine j_lload_n 0 dX11_in_0 rfl ?_
    refine j_lload_n 1 dX11_in_1 rfl ?_
    refine j_lcmp_lt (tgt := 17) dX11_in_2 dX11_in_3 (by decide) (fun c3 => ?_) (fun c3 => ?_)
    · replace h := h.1 c3
      refine j_iconst (x := 0) dX11_in_17 rfl (i32_c rfl) ?_
      refine j_zret dX11_in_18 rfl ⟨Nat.le_of_ble_eq_true rfl, Nat.le_of_ble_eq_true rfl⟩ (by decide) ?_
      refine j_if_eq (tgt := 129) dX11_takeNumber_72 (by decide) (fun _ => ?_) (fun c => absurd c (by decide))
      exact h
    · replace h := h.2 c3
      refine j_lload_n 0 dX11_in_6 rfl ?_
      refine j_lload 2 dX11_in_7 rfl ?_
      refine j_lcmp_gt (tgt := 17) dX11_in_9 dX11_in_10 (by decide) (fun c4 => ?_) (fun c4 => ?_)
      · replace h := h.1 c4
        refine j_iconst (x := 0) dX11_in_17 rfl (i32_c rfl) ?_
        refine j_zret dX11_in_18 rfl ⟨Nat.le_of_ble_eq_true rfl, Nat.le_of_ble_eq_true rfl⟩ (by decide) ?_
        refine j_if_eq (tgt := 129) dX11_takeNumber_72 (by decide) (fun _ => ?_) (fun c => absurd c (by decide))
        exact h
      · replace h := h.2 c4
        refine j_iconst (x := 1) dX11_in_13 rfl (i32_c rfl) ?_
        refine j_goto (tgt := 18) dX11_in_14 (by decide) ?_
        refine j_zret dX11_in_18 rfl ⟨Nat.le_of_ble_eq_true rfl, Nat.le_of_ble_eq_true rfl⟩ (by decide) ?_
        refine j_if_eq (tgt := 129) dX11_takeNumber_72 (by decide) (fun c => absurd c (by decide)) (fun _ => ?_)
        refine j_aload_n 0 dX11_takeNumber_75 rfl ?_
        refine j_aload_n 0 dX11_takeNumber_76 rfl ?_
        refine j_geti (i := 18) dX11_takeNumber_77 f_X11_187 sh_61 rfl rfl (fun _ => ?_)
        refine j_sipush (x := 10000) dX11_takeNumber_80 rfl (i32_c rfl) ?_
        refine j_icmp_le (tgt := 93) dX11_takeNumber_83 (by decide) (fun c5 => ?_) (fun c5 => ?_)
        · replace h := h.1 c5
          refine j_bipush (x := 10) dX11_takeNumber_93 rfl (i32_c rfl) ?_
          refine j_aload_n 0 dX11_takeNumber_95 rfl ?_
          refine j_geti (i := 18) dX11_takeNumber_96 f_X11_187 sh_61 rfl rfl (fun _ => ?_)
          obtain ⟨o6, h⟩ := h
          refine j_imul (z := (10 * (M 61 18))) dX11_takeNumber_99 rfl o6 ?_
          refine j_aload_n 0 dX11_takeNumber_100 rfl ?_
          refine j_getc 70 dX11_takeNumber_101 f_X11_39 sh_61 rfl ?_
          refine j_aload_n 0 dX11_takeNumber_104 rfl ?_
          refine j_geti (i := 15) dX11_takeNumber_105 f_X11_150 sh_61 rfl rfl (fun _ => ?_)
          refine j_iald dX11_takeNumber_108 sh_70 o2.1 o2.2 (fun _ => ?_)
          obtain ⟨o7, h⟩ := h
          refine j_iadd (z := ((10 * (M 61 18)) + (M 70 (M 61 15)))) dX11_takeNumber_109 rfl o7 ?_
          refine j_bipush (x := 48) dX11_takeNumber_110 rfl (i32_c rfl) ?_
          obtain ⟨o8, h⟩ := h
          refine j_isub (z := (((10 * (M 61 18)) + (M 70 (M 61 15))) - 48)) dX11_takeNumber_112 rfl o8 ?_
          exact h
        · replace h := h.2 c5
          refine j_aload_n 0 dX11_takeNumber_86 rfl ?_
          refine j_geti (i := 18) dX11_takeNumber_87 f_X11_187 sh_61 rfl rfl (fun _ => ?_)
          refine j_goto (tgt := 113) dX11_takeNumber_90 (by decide) ?_
          exact h
set_option maxRecDepth 100000 in
set_option maxHeartbeats 4000000 in
theorem B_X11_takeNumber_113 {post : Int → ax_M → Prop} {M : ax_M} {s0 x1 x2 : Int} (h : (-2147483648 ≤ ((M 61 15) + 1) ∧ ((M 61 15) + 1) ≤ 2147483647) ∧ ax_J Y_X11_takeNumber (ax_Ki Y_X11_takeNumber SH post) 0 0 42 [(0, aR 61), (1, aI x1), (2, aI x2)] [] SH (ax_up (ax_up M 61 18 s0) 61 15 ((M 61 15) + 1))) : ax_J Y_X11_takeNumber (ax_Ki Y_X11_takeNumber SH post) 0 0 113 [(0, aR 61), (1, aI x1), (2, aI x2)] [aI s0, aR 61] SH M := by
  refine j_puti (i := 18) dX11_takeNumber_113 p_X11_187 (fun h => by cases h) sh_61 rfl rfl ?_
  refine j_aload_n 0 dX11_takeNumber_116 rfl ?_
  refine j_dup dX11_takeNumber_117 rfl ?_
  refine j_geti (i := 15) dX11_takeNumber_118 f_X11_150 sh_61 rfl rfl (fun _ => ?_)
  refine j_iconst (x := 1) dX11_takeNumber_121 rfl (i32_c rfl) ?_
  obtain ⟨o1, h⟩ := h
  refine j_iadd (z := ((M 61 15) + 1)) dX11_takeNumber_122 rfl o1 ?_
  refine j_puti (i := 15) dX11_takeNumber_123 p_X11_150 (fun h => by cases h) sh_61 rfl rfl ?_
  refine j_goto (tgt := 42) dX11_takeNumber_126 (by decide) ?_
  exact h
set_option maxRecDepth 100000 in
set_option maxHeartbeats 4000000 in
theorem B_X11_takeNumber_129 {post : Int → ax_M → Prop} {M : ax_M} {x1 x2 : Int} (h : (-2147483648 ≤ ((M 61 15) - (M 61 19)) ∧ ((M 61 15) - (M 61 19)) ≤ 2147483647) ∧ (((3 < ((M 61 15) - (M 61 19))) → ax_J Y_X11_takeNumber (ax_Ki Y_X11_takeNumber SH post) 0 0 157 [(0, aR 61)] [] SH M) ∧ ((((M 61 15) - (M 61 19)) ≤ 3) → ((((M 61 18) < x1) → ax_J Y_X11_takeNumber (ax_Ki Y_X11_takeNumber SH post) 0 0 157 [(0, aR 61)] [] SH M) ∧ ((x1 ≤ (M 61 18)) → (((x2 < (M 61 18)) → ax_J Y_X11_takeNumber (ax_Ki Y_X11_takeNumber SH post) 0 0 157 [(0, aR 61)] [] SH M) ∧ (((M 61 18) ≤ x2) → post 0 M))))))) : ax_J Y_X11_takeNumber (ax_Ki Y_X11_takeNumber SH post) 0 0 129 [(0, aR 61), (1, aI x1), (2, aI x2)] [] SH M := by
  refine j_aload_n 0 dX11_takeNumber_129 rfl ?_
  refine j_geti (i := 15) dX11_takeNumber_130 f_X11_150 sh_61 rfl rfl (fun _ => ?_)
  refine j_aload_n 0 dX11_takeNumber_133 rfl ?_
  refine j_geti (i := 19) dX11_takeNumber_134 f_X11_184 sh_61 rfl rfl (fun _ => ?_)
  obtain ⟨o1, h⟩ := h
  refine j_isub (z := ((M 61 15) - (M 61 19))) dX11_takeNumber_137 rfl o1 ?_
  refine j_iconst (x := 3) dX11_takeNumber_138 rfl (i32_c rfl) ?_
  refine j_icmp_gt (tgt := 157) dX11_takeNumber_139 (by decide) (fun c2 => ?_) (fun c2 => ?_)
  · replace h := h.1 c2
    refine j_sub [0] rfl ?_
    exact h
  · replace h := h.2 c2
    refine j_aload_n 0 dX11_takeNumber_142 rfl ?_
    refine j_geti (i := 18) dX11_takeNumber_143 f_X11_187 sh_61 rfl rfl (fun _ => ?_)
    refine j_i2l dX11_takeNumber_146 ?_
    refine j_iload_n 1 dX11_takeNumber_147 rfl ?_
    refine j_i2l dX11_takeNumber_148 ?_
    refine j_iload_n 2 dX11_takeNumber_149 rfl ?_
    refine j_i2l dX11_takeNumber_150 ?_
    refine j_calliS (Yc := Y_X11_in) (as := [aL (M 61 18), aL x1, aL x2]) (rest := []) dX11_takeNumber_151 q_X11_136 ⟨Nat.le_of_ble_eq_true rfl, Nat.le_of_ble_eq_true rfl, Nat.le_of_ble_eq_true rfl, Nat.le_of_ble_eq_true rfl⟩ rfl (Nat.le_of_ble_eq_true rfl) rfl (ti_of (ll := [(0, aL (M 61 18)), (2, aL x1), (4, aL x2)]) rfl (Nat.le_of_ble_eq_true rfl) rfl (fun _ => ?_))
    refine j_lload_n 0 dX11_in_0 rfl ?_
    refine j_lload_n 1 dX11_in_1 rfl ?_
    refine j_lcmp_lt (tgt := 17) dX11_in_2 dX11_in_3 (by decide) (fun c3 => ?_) (fun c3 => ?_)
    · replace h := h.1 c3
      refine j_iconst (x := 0) dX11_in_17 rfl (i32_c rfl) ?_
      refine j_zret dX11_in_18 rfl ⟨Nat.le_of_ble_eq_true rfl, Nat.le_of_ble_eq_true rfl⟩ (by decide) ?_
      refine j_if_ne (tgt := 169) dX11_takeNumber_154 (by decide) (fun c => absurd c (by decide)) (fun _ => ?_)
      refine j_sub [0] rfl ?_
      exact h
    · replace h := h.2 c3
      refine j_lload_n 0 dX11_in_6 rfl ?_
      refine j_lload 2 dX11_in_7 rfl ?_
      refine j_lcmp_gt (tgt := 17) dX11_in_9 dX11_in_10 (by decide) (fun c4 => ?_) (fun c4 => ?_)
      · replace h := h.1 c4
        refine j_iconst (x := 0) dX11_in_17 rfl (i32_c rfl) ?_
        refine j_zret dX11_in_18 rfl ⟨Nat.le_of_ble_eq_true rfl, Nat.le_of_ble_eq_true rfl⟩ (by decide) ?_
        refine j_if_ne (tgt := 169) dX11_takeNumber_154 (by decide) (fun c => absurd c (by decide)) (fun _ => ?_)
        refine j_sub [0] rfl ?_
        exact h
      · replace h := h.2 c4
        refine j_iconst (x := 1) dX11_in_13 rfl (i32_c rfl) ?_
        refine j_goto (tgt := 18) dX11_in_14 (by decide) ?_
        refine j_zret dX11_in_18 rfl ⟨Nat.le_of_ble_eq_true rfl, Nat.le_of_ble_eq_true rfl⟩ (by decide) ?_
        refine j_if_ne (tgt := 169) dX11_takeNumber_154 (by decide) (fun _ => ?_) (fun c => absurd c (by decide))
        refine j_iconst (x := 0) dX11_takeNumber_169 rfl (i32_c rfl) ?_
        exact j_iret dX11_takeNumber_170 rfl ⟨Nat.le_of_ble_eq_true rfl, Nat.le_of_ble_eq_true rfl⟩ (fun _ => h)
set_option maxRecDepth 100000 in
set_option maxHeartbeats 4000000 in
theorem B_X11_takeNumber_157 {post : Int → ax_M → Prop} {M : ax_M} (h : post 2 (ax_up M 61 14 (M 61 19))) : ax_J Y_X11_takeNumber (ax_Ki Y_X11_takeNumber SH post) 0 0 157 [(0, aR 61)] [] SH M := by
  refine j_aload_n 0 dX11_takeNumber_157 rfl ?_
  refine j_iconst (x := 2) dX11_takeNumber_158 rfl (i32_c rfl) ?_
  refine j_aload_n 0 dX11_takeNumber_159 rfl ?_
  refine j_geti (i := 19) dX11_takeNumber_160 f_X11_184 sh_61 rfl rfl (fun _ => ?_)
  refine j_calliV (Yc := Y_X11_fails) (as := [aI 2, aI (M 61 19)]) (rest := []) dX11_takeNumber_163 q_X11_180 ⟨Nat.le_of_ble_eq_true rfl, Nat.le_of_ble_eq_true rfl, Nat.le_of_ble_eq_true rfl, Nat.le_of_ble_eq_true rfl⟩ sh_61 rfl (Nat.le_of_ble_eq_true rfl) rfl (ti_of (ll := [(0, aR 61), (1, aI 2), (2, aI (M 61 19))]) rfl (Nat.le_of_ble_eq_true rfl) rfl (fun _ => ?_))
  refine j_aload_n 0 dX11_fails_0 rfl ?_
  refine j_iload_n 2 dX11_fails_1 rfl ?_
  refine j_puti (i := 14) dX11_fails_2 p_X11_42 (fun h => by cases h) sh_61 rfl rfl ?_
  refine j_iload_n 1 dX11_fails_5 rfl ?_
  refine j_iret dX11_fails_6 rfl ⟨Nat.le_of_ble_eq_true rfl, Nat.le_of_ble_eq_true rfl⟩ (fun _ => ?_)
  refine j_goto (tgt := 170) dX11_takeNumber_166 (by decide) ?_
  exact j_iret dX11_takeNumber_170 rfl ⟨Nat.le_of_ble_eq_true rfl, Nat.le_of_ble_eq_true rfl⟩ (fun _ => h)
set_option maxRecDepth 100000 in
set_option maxHeartbeats 4000000 in
theorem B_X11_takeStop_0 {post : Int → ax_M → Prop} {M : ax_M} (h : ax_Ti Y_X11_here [aR 61] SH M (fun z2 u1 => (((z2 = 59) → (-2147483648 ≤ ((u1 61 15) + 1) ∧ ((u1 61 15) + 1) ≤ 2147483647) ∧ post 0 (ax_up u1 61 15 ((u1 61 15) + 1))) ∧ ((¬ z2 = 59) → post 1 (ax_up u1 61 14 (u1 61 15)))))) : ax_J Y_X11_takeStop (ax_Ki Y_X11_takeStop SH post) 0 0 0 [(0, aR 61)] [] SH M := by
  refine j_aload_n 0 dX11_takeStop_0 rfl ?_
  refine j_calliV (Yc := Y_X11_here) (as := []) (rest := []) dX11_takeStop_1 q_X11_153 ⟨Nat.le_of_ble_eq_true rfl, Nat.le_of_ble_eq_true rfl, Nat.le_of_ble_eq_true rfl, Nat.le_of_ble_eq_true rfl⟩ sh_61 rfl (Nat.le_of_ble_eq_true rfl) rfl (ti_mono h (fun z2 u1 h => ?_))
  refine j_bipush (x := 59) dX11_takeStop_4 rfl (i32_c rfl) ?_
  refine j_icmp_eq (tgt := 19) dX11_takeStop_6 (by decide) (fun c1 => ?_) (fun c1 => ?_)
  · replace h := h.1 c1
    refine j_aload_n 0 dX11_takeStop_19 rfl ?_
    refine j_dup dX11_takeStop_20 rfl ?_
    refine j_geti (i := 15) dX11_takeStop_21 f_X11_150 sh_61 rfl rfl (fun _ => ?_)
    refine j_iconst (x := 1) dX11_takeStop_24 rfl (i32_c rfl) ?_
    obtain ⟨o2, h⟩ := h
    refine j_iadd (z := ((u1 61 15) + 1)) dX11_takeStop_25 rfl o2 ?_
    refine j_puti (i := 15) dX11_takeStop_26 p_X11_150 (fun h => by cases h) sh_61 rfl rfl ?_
    refine j_iconst (x := 0) dX11_takeStop_29 rfl (i32_c rfl) ?_
    exact j_iret dX11_takeStop_30 rfl ⟨Nat.le_of_ble_eq_true rfl, Nat.le_of_ble_eq_true rfl⟩ (fun _ => h)
  · replace h := h.2 c1
    refine j_aload_n 0 dX11_takeStop_9 rfl ?_
    refine j_iconst (x := 1) dX11_takeStop_10 rfl (i32_c rfl) ?_
    refine j_aload_n 0 dX11_takeStop_11 rfl ?_
    refine j_geti (i := 15) dX11_takeStop_12 f_X11_150 sh_61 rfl rfl (fun _ => ?_)
    refine j_calliV (Yc := Y_X11_fails) (as := [aI 1, aI (u1 61 15)]) (rest := []) dX11_takeStop_15 q_X11_180 ⟨Nat.le_of_ble_eq_true rfl, Nat.le_of_ble_eq_true rfl, Nat.le_of_ble_eq_true rfl, Nat.le_of_ble_eq_true rfl⟩ sh_61 rfl (Nat.le_of_ble_eq_true rfl) rfl (ti_of (ll := [(0, aR 61), (1, aI 1), (2, aI (u1 61 15))]) rfl (Nat.le_of_ble_eq_true rfl) rfl (fun _ => ?_))
    refine j_aload_n 0 dX11_fails_0 rfl ?_
    refine j_iload_n 2 dX11_fails_1 rfl ?_
    refine j_puti (i := 14) dX11_fails_2 p_X11_42 (fun h => by cases h) sh_61 rfl rfl ?_
    refine j_iload_n 1 dX11_fails_5 rfl ?_
    refine j_iret dX11_fails_6 rfl ⟨Nat.le_of_ble_eq_true rfl, Nat.le_of_ble_eq_true rfl⟩ (fun _ => ?_)
    exact j_iret dX11_takeStop_18 rfl ⟨Nat.le_of_ble_eq_true rfl, Nat.le_of_ble_eq_true rfl⟩ (fun _ => h)
theorem E_X11_takeStop {post : Int → ax_M → Prop} {M : ax_M} (h : ax_mr SH M → ax_Ti Y_X11_here [aR 61] SH M (fun z2 u1 => (((z2 = 59) → (-2147483648 ≤ ((u1 61 15) + 1) ∧ ((u1 61 15) + 1) ≤ 2147483647) ∧ post 0 (ax_up u1 61 15 ((u1 61 15) + 1))) ∧ ((¬ z2 = 59) → post 1 (ax_up u1 61 14 (u1 61 15)))))) : ax_Ti Y_X11_takeStop [aR 61] SH M post :=
  ti_of rfl (Nat.le_of_ble_eq_true rfl) rfl (fun q => B_X11_takeStop_0 (h q))
set_option maxRecDepth 100000 in
set_option maxHeartbeats 4000000 in
theorem B_X11_walk_0 {post : ax_M → Prop} {M : ax_M} {x1 x2 x3 x4 : Int} (h : ax_J Y_X11_walk (ax_Kv Y_X11_walk SH post) 0 0 3 [(0, aR 61), (1, aI x1), (2, aI x2), (3, aI x3), (4, aI x4), (5, aI 0)] [] SH M) : ax_J Y_X11_walk (ax_Kv Y_X11_walk SH post) 0 0 0 [(0, aR 61), (1, aI x1), (2, aI x2), (3, aI x3), (4, aI x4)] [] SH M := by
  refine j_iconst (x := 0) dX11_walk_0 rfl (i32_c rfl) ?_
  refine j_istore (ll' := [(5, aI 0), (0, aR 61), (1, aI x1), (2, aI x2), (3, aI x3), (4, aI x4)]) dX11_walk_1 (Nat.le_of_ble_eq_true rfl) rfl ?_
  refine j_sub [1, 2, 3, 4, 5, 0] rfl ?_
  exact h
theorem E_X11_walk {post : ax_M → Prop} {M : ax_M} {x1 x2 x3 x4 : Int} (h : ax_mr SH M → ax_J Y_X11_walk (ax_Kv Y_X11_walk SH post) 0 0 3 [(0, aR 61), (1, aI x1), (2, aI x2), (3, aI x3), (4, aI x4), (5, aI 0)] [] SH M) : ax_Tv Y_X11_walk [aR 61, aI x1, aI x2, aI x3, aI x4] SH M post :=
  tv_of rfl (Nat.le_of_ble_eq_true rfl) rfl (fun q => B_X11_walk_0 (h q))
set_option maxRecDepth 100000 in
set_option maxHeartbeats 4000000 in
theorem B_X11_walk_3 {post : ax_M → Prop} {M : ax_M} {x1 x2 x3 x4 x5 : Int} (h : ((((M 61 0) ≤ x5) → ax_J Y_X11_walk (ax_Kv Y_X11_walk SH post) 0 0 39 [(0, aR 61), (3, aI x3), (4, aI x4), (5, aI 1)] [] SH M) ∧ ((x5 < (M 61 0)) → (((¬ x5 = x1) → (0 ≤ x5 ∧ x5 < 12) ∧ (-2147483648 ≤ (x5 + 1) ∧ (x5 + 1) ≤ 2147483647) ∧ ax_J Y_X11_walk (ax_Kv Y_X11_walk SH post) 0 0 3 [(0, aR 61), (1, aI x1), (2, aI x2), (3, aI x3), (4, aI x4), (5, aI (x5 + 1))] [] SH (ax_up M 77 x5 (-1))) ∧ ((x5 = x1) → (0 ≤ x5 ∧ x5 < 12) ∧ (-2147483648 ≤ (x5 + 1) ∧ (x5 + 1) ≤ 2147483647) ∧ ax_J Y_X11_walk (ax_Kv Y_X11_walk SH post) 0 0 3 [(0, aR 61), (1, aI x1), (2, aI x2), (3, aI x3), (4, aI x4), (5, aI (x5 + 1))] [] SH (ax_up M 77 x5 x2)))))) : ax_J Y_X11_walk (ax_Kv Y_X11_walk SH post) 0 0 3 [(0, aR 61), (1, aI x1), (2, aI x2), (3, aI x3), (4, aI x4), (5, aI x5)] [] SH M := by
  refine j_iload 5 dX11_walk_3 rfl ?_
  refine j_aload_n 0 dX11_walk_5 rfl ?_
  refine j_geti (i := 0) dX11_walk_6 f_X11_133 sh_61 rfl rfl (fun _ => ?_)
  refine j_icmp_ge (tgt := 36) dX11_walk_9 (by decide) (fun c1 => ?_) (fun c1 => ?_)
  · replace h := h.1 c1
    refine j_iconst (x := 1) dX11_walk_36 rfl (i32_c rfl) ?_
    refine j_istore (ll' := [(5, aI 1), (0, aR 61), (1, aI x1), (2, aI x2), (3, aI x3), (4, aI x4)]) dX11_walk_37 (Nat.le_of_ble_eq_true rfl) rfl ?_
    refine j_sub [1, 4, 5, 0] rfl ?_
    exact h
  · replace h := h.2 c1
    refine j_aload_n 0 dX11_walk_12 rfl ?_
    refine j_getc 77 dX11_walk_13 f_X11_66 sh_61 rfl ?_
    refine j_iload 5 dX11_walk_16 rfl ?_
    refine j_iload 5 dX11_walk_18 rfl ?_
    refine j_iload_n 1 dX11_walk_20 rfl ?_
    refine j_icmp_ne (tgt := 28) dX11_walk_21 (by decide) (fun c2 => ?_) (fun c2 => ?_)
    · replace h := h.1 c2
      refine j_iconst (x := (-1)) dX11_walk_28 rfl (i32_c rfl) ?_
      obtain ⟨o3, h⟩ := h
      refine j_iast dX11_walk_29 sh_77 o3.1 o3.2 ?_
      obtain ⟨o4, h⟩ := h
      refine j_iinc (ll' := [(5, aI (x5 + 1)), (0, aR 61), (1, aI x1), (2, aI x2), (3, aI x3), (4, aI x4)]) 5 dX11_walk_30 rfl (Nat.le_of_ble_eq_true rfl) o4 rfl ?_
      refine j_goto (tgt := 3) dX11_walk_33 (by decide) ?_
      refine j_sub [1, 2, 3, 4, 5, 0] rfl ?_
      exact h
    · replace h := h.2 c2
      refine j_iload_n 2 dX11_walk_24 rfl ?_
      refine j_goto (tgt := 29) dX11_walk_25 (by decide) ?_
      obtain ⟨o5, h⟩ := h
      refine j_iast dX11_walk_29 sh_77 o5.1 o5.2 ?_
      obtain ⟨o6, h⟩ := h
      refine j_iinc (ll' := [(5, aI (x5 + 1)), (0, aR 61), (1, aI x1), (2, aI x2), (3, aI x3), (4, aI x4)]) 5 dX11_walk_30 rfl (Nat.le_of_ble_eq_true rfl) o6 rfl ?_
      refine j_goto (tgt := 3) dX11_walk_33 (by decide) ?_
      refine j_sub [1, 2, 3, 4, 5, 0] rfl ?_
      exact h
set_option maxRecDepth 100000 in
set_option maxHeartbeats 4000000 in
theorem B_X11_walk_39 {post : ax_M → Prop} {M : ax_M} {x3 x4 x5 : Int} (h : (((x5 = 0) → post M) ∧ ((¬ x5 = 0) → ax_J Y_X11_walk (ax_Kv Y_X11_walk SH post) 0 0 50 [(0, aR 61), (3, aI x3), (4, aI x4), (5, aI 0), (6, aI 0)] [] SH M))) : ax_J Y_X11_walk (ax_Kv Y_X11_walk SH post) 0 0 39 [(0, aR 61), (3, aI x3), (4, aI x4), (5, aI x5)] [] SH M := by
  refine j_iload 3 dX11_walk_39 rfl ?_
  refine j_if_eq (tgt := 144) dX11_walk_41 (by decide) (fun c1 => ?_) (fun c1 => ?_)
  · replace h := h.1 c1
    exact j_vret dX11_walk_144 rfl ⟨Nat.le_of_ble_eq_true rfl, Nat.le_of_ble_eq_true rfl⟩ h
  · replace h := h.2 c1
    refine j_iconst (x := 0) dX11_walk_44 rfl (i32_c rfl) ?_
    refine j_istore (ll' := [(5, aI 0), (0, aR 61), (3, aI x3), (4, aI x4)]) dX11_walk_45 (Nat.le_of_ble_eq_true rfl) rfl ?_
    refine j_iconst (x := 0) dX11_walk_47 rfl (i32_c rfl) ?_
    refine j_istore (ll' := [(6, aI 0), (5, aI 0), (0, aR 61), (3, aI x3), (4, aI x4)]) dX11_walk_48 (Nat.le_of_ble_eq_true rfl) rfl ?_
    refine j_sub [2, 3, 4, 1, 0] rfl ?_
    exact h
set_option maxRecDepth 100000 in
set_option maxHeartbeats 4000000 in
theorem B_X11_walk_50 {post : ax_M → Prop} {M : ax_M} {x3 x4 x5 x6 : Int} (h : ((((M 61 3) ≤ x6) → ax_J Y_X11_walk (ax_Kv Y_X11_walk SH post) 0 0 39 [(0, aR 61), (3, aI x3), (4, aI x4), (5, aI x5)] [] SH M) ∧ ((x6 < (M 61 3)) → (0 ≤ x6 ∧ x6 < 24) ∧ ax_Ti Y_X11_step [aR 61, aI x6, aI (M 62 x6), aI (M 63 x6), aI x3, aI x4] SH M (fun z2 u1 => (((¬ z2 = 0) → ax_Ti Y_X11_step [aR 61, aI x6, aI (u1 63 x6), aI (u1 62 x6), aI x3, aI x4] SH u1 (fun z4 u3 => (((¬ z4 = 0) → (-2147483648 ≤ (x6 + 1) ∧ (x6 + 1) ≤ 2147483647) ∧ ax_J Y_X11_walk (ax_Kv Y_X11_walk SH post) 0 0 50 [(0, aR 61), (3, aI x3), (4, aI x4), (5, aI 1), (6, aI (x6 + 1))] [] SH u3) ∧ ((z4 = 0) → (-2147483648 ≤ (x6 + 1) ∧ (x6 + 1) ≤ 2147483647) ∧ ax_J Y_X11_walk (ax_Kv Y_X11_walk SH post) 0 0 50 [(0, aR 61), (3, aI x3), (4, aI x4), (5, aI 1), (6, aI (x6 + 1))] [] SH u3)))) ∧ ((z2 = 0) → (((x5 = 0) → ax_Ti Y_X11_step [aR 61, aI x6, aI (u1 63 x6), aI (u1 62 x6), aI x3, aI x4] SH u1 (fun z6 u5 => (((¬ z6 = 0) → (-2147483648 ≤ (x6 + 1) ∧ (x6 + 1) ≤ 2147483647) ∧ ax_J Y_X11_walk (ax_Kv Y_X11_walk SH post) 0 0 50 [(0, aR 61), (3, aI x3), (4, aI x4), (5, aI 1), (6, aI (x6 + 1))] [] SH u5) ∧ ((z6 = 0) → (-2147483648 ≤ (x6 + 1) ∧ (x6 + 1) ≤ 2147483647) ∧ ax_J Y_X11_walk (ax_Kv Y_X11_walk SH post) 0 0 50 [(0, aR 61), (3, aI x3), (4, aI x4), (5, aI 0), (6, aI (x6 + 1))] [] SH u5)))) ∧ ((¬ x5 = 0) → ax_Ti Y_X11_step [aR 61, aI x6, aI (u1 63 x6), aI (u1 62 x6), aI x3, aI x4] SH u1 (fun z8 u7 => (((¬ z8 = 0) → (-2147483648 ≤ (x6 + 1) ∧ (x6 + 1) ≤ 2147483647) ∧ ax_J Y_X11_walk (ax_Kv Y_X11_walk SH post) 0 0 50 [(0, aR 61), (3, aI x3), (4, aI x4), (5, aI 1), (6, aI (x6 + 1))] [] SH u7) ∧ ((z8 = 0) → (-2147483648 ≤ (x6 + 1) ∧ (x6 + 1) ≤ 2147483647) ∧ ax_J Y_X11_walk (ax_Kv Y_X11_walk SH post) 0 0 50 [(0, aR 61), (3, aI x3), (4, aI x4), (5, aI 1), (6, aI (x6 + 1))] [] SH u7))))))))))) : ax_J Y_X11_walk (ax_Kv Y_X11_walk SH post) 0 0 50 [(0, aR 61), (3, aI x3), (4, aI x4), (5, aI x5), (6, aI x6)] [] SH M := by
  refine j_iload 4 dX11_walk_50 rfl ?_
  refine j_aload_n 0 dX11_walk_52 rfl ?_
  refine j_geti (i := 3) dX11_walk_53 f_X11_140 sh_61 rfl rfl (fun _ => ?_)
  refine j_icmp_ge (tgt := 141) dX11_walk_56 (by decide) (fun c1 => ?_) (fun c1 => ?_)
  · replace h := h.1 c1
    refine j_goto (tgt := 39) dX11_walk_141 (by decide) ?_
    refine j_sub [0, 1, 2, 3] rfl ?_
    exact h
  · replace h := h.2 c1
    refine j_aload_n 0 dX11_walk_59 rfl ?_
    refine j_iload 4 dX11_walk_60 rfl ?_
    refine j_aload_n 0 dX11_walk_62 rfl ?_
    refine j_getc 62 dX11_walk_63 f_X11_13 sh_61 rfl ?_
    refine j_iload 4 dX11_walk_66 rfl ?_
    obtain ⟨o2, h⟩ := h
    refine j_iald dX11_walk_68 sh_62 o2.1 o2.2 (fun _ => ?_)
    refine j_aload_n 0 dX11_walk_69 rfl ?_
    refine j_getc 63 dX11_walk_70 f_X11_17 sh_61 rfl ?_
    refine j_iload 4 dX11_walk_73 rfl ?_
    refine j_iald dX11_walk_75 sh_63 o2.1 o2.2 (fun _ => ?_)
    refine j_iload_n 1 dX11_walk_76 rfl ?_
    refine j_iload 2 dX11_walk_77 rfl ?_
    refine j_calliV (Yc := Y_X11_step) (as := [aI x6, aI (M 62 x6), aI (M 63 x6), aI x3, aI x4]) (rest := []) dX11_walk_79 q_X11_272 ⟨Nat.le_of_ble_eq_true rfl, Nat.le_of_ble_eq_true rfl, Nat.le_of_ble_eq_true rfl, Nat.le_of_ble_eq_true rfl⟩ sh_61 rfl (Nat.le_of_ble_eq_true rfl) rfl (ti_mono h (fun z2 u1 h => ?_))
    refine j_if_ne (tgt := 90) dX11_walk_82 (by decide) (fun c3 => ?_) (fun c3 => ?_)
    · replace h := h.1 c3
      refine j_iconst (x := 1) dX11_walk_90 rfl (i32_c rfl) ?_
      refine j_goto (tgt := 95) dX11_walk_91 (by decide) ?_
      refine j_istore (ll' := [(5, aI 1), (0, aR 61), (3, aI x3), (4, aI x4), (6, aI x6)]) dX11_walk_95 (Nat.le_of_ble_eq_true rfl) rfl ?_
      refine j_aload_n 1 dX11_walk_97 rfl ?_
      refine j_iload 4 dX11_walk_98 rfl ?_
      refine j_aload_n 1 dX11_walk_100 rfl ?_
      refine j_getc 63 dX11_walk_101 f_X11_17 sh_61 rfl ?_
      refine j_iload 4 dX11_walk_104 rfl ?_
      refine j_iald dX11_walk_106 sh_63 o2.1 o2.2 (fun _ => ?_)
      refine j_aload_n 1 dX11_walk_107 rfl ?_
      refine j_getc 62 dX11_walk_108 f_X11_13 sh_61 rfl ?_
      refine j_iload 4 dX11_walk_111 rfl ?_
      refine j_iald dX11_walk_113 sh_62 o2.1 o2.2 (fun _ => ?_)
      refine j_iload_n 2 dX11_walk_114 rfl ?_
      refine j_iload 3 dX11_walk_115 rfl ?_
      refine j_calliV (Yc := Y_X11_step) (as := [aI x6, aI (u1 63 x6), aI (u1 62 x6), aI x3, aI x4]) (rest := []) dX11_walk_117 q_X11_272 ⟨Nat.le_of_ble_eq_true rfl, Nat.le_of_ble_eq_true rfl, Nat.le_of_ble_eq_true rfl, Nat.le_of_ble_eq_true rfl⟩ sh_61 rfl (Nat.le_of_ble_eq_true rfl) rfl (ti_mono h (fun z4 u3 h => ?_))
      refine j_if_ne (tgt := 128) dX11_walk_120 (by decide) (fun c4 => ?_) (fun c4 => ?_)
      · replace h := h.1 c4
        refine j_iconst (x := 1) dX11_walk_128 rfl (i32_c rfl) ?_
        refine j_goto (tgt := 133) dX11_walk_129 (by decide) ?_
        refine j_istore (ll' := [(5, aI 1), (0, aR 61), (3, aI x3), (4, aI x4), (6, aI x6)]) dX11_walk_133 (Nat.le_of_ble_eq_true rfl) rfl ?_
        obtain ⟨o5, h⟩ := h
        refine j_iinc (ll' := [(6, aI (x6 + 1)), (5, aI 1), (0, aR 61), (3, aI x3), (4, aI x4)]) 4 dX11_walk_135 rfl (Nat.le_of_ble_eq_true rfl) o5 rfl ?_
        refine j_goto (tgt := 50) dX11_walk_138 (by decide) ?_
        refine j_sub [2, 3, 4, 1, 0] rfl ?_
        exact h
      · replace h := h.2 c4
        refine j_iload 0 dX11_walk_123 rfl ?_
        refine j_if_eq (tgt := 132) dX11_walk_125 (by decide) (fun c => absurd c (by decide)) (fun _ => ?_)
        refine j_iconst (x := 1) dX11_walk_128 rfl (i32_c rfl) ?_
        refine j_goto (tgt := 133) dX11_walk_129 (by decide) ?_
        refine j_istore (ll' := [(5, aI 1), (0, aR 61), (3, aI x3), (4, aI x4), (6, aI x6)]) dX11_walk_133 (Nat.le_of_ble_eq_true rfl) rfl ?_
        obtain ⟨o6, h⟩ := h
        refine j_iinc (ll' := [(6, aI (x6 + 1)), (5, aI 1), (0, aR 61), (3, aI x3), (4, aI x4)]) 4 dX11_walk_135 rfl (Nat.le_of_ble_eq_true rfl) o6 rfl ?_
        refine j_goto (tgt := 50) dX11_walk_138 (by decide) ?_
        refine j_sub [2, 3, 4, 1, 0] rfl ?_
        exact h
    · replace h := h.2 c3
      refine j_iload 3 dX11_walk_85 rfl ?_
      refine j_if_eq (tgt := 94) dX11_walk_87 (by decide) (fun c7 => ?_) (fun c7 => ?_)
      · replace h := h.1 c7
        refine j_iconst (x := 0) dX11_walk_94 rfl (i32_c rfl) ?_
        refine j_istore (ll' := [(5, aI 0), (0, aR 61), (3, aI x3), (4, aI x4), (6, aI x6)]) dX11_walk_95 (Nat.le_of_ble_eq_true rfl) rfl ?_
        refine j_aload_n 1 dX11_walk_97 rfl ?_
        refine j_iload 4 dX11_walk_98 rfl ?_
        refine j_aload_n 1 dX11_walk_100 rfl ?_
        refine j_getc 63 dX11_walk_101 f_X11_17 sh_61 rfl ?_
        refine j_iload 4 dX11_walk_104 rfl ?_
        refine j_iald dX11_walk_106 sh_63 o2.1 o2.2 (fun _ => ?_)
        refine j_aload_n 1 dX11_walk_107 rfl ?_
        refine j_getc 62 dX11_walk_108 f_X11_13 sh_61 rfl ?_
        refine j_iload 4 dX11_walk_111 rfl ?_
        refine j_iald dX11_walk_113 sh_62 o2.1 o2.2 (fun _ => ?_)
        refine j_iload_n 2 dX11_walk_114 rfl ?_
        refine j_iload 3 dX11_walk_115 rfl ?_
        refine j_calliV (Yc := Y_X11_step) (as := [aI x6, aI (u1 63 x6), aI (u1 62 x6), aI x3, aI x4]) (rest := []) dX11_walk_117 q_X11_272 ⟨Nat.le_of_ble_eq_true rfl, Nat.le_of_ble_eq_true rfl, Nat.le_of_ble_eq_true rfl, Nat.le_of_ble_eq_true rfl⟩ sh_61 rfl (Nat.le_of_ble_eq_true rfl) rfl (ti_mono h (fun z6 u5 h => ?_))
        refine j_if_ne (tgt := 128) dX11_walk_120 (by decide) (fun c8 => ?_) (fun c8 => ?_)
        · replace h := h.1 c8
          refine j_iconst (x := 1) dX11_walk_128 rfl (i32_c rfl) ?_
          refine j_goto (tgt := 133) dX11_walk_129 (by decide) ?_
          refine j_istore (ll' := [(5, aI 1), (0, aR 61), (3, aI x3), (4, aI x4), (6, aI x6)]) dX11_walk_133 (Nat.le_of_ble_eq_true rfl) rfl ?_
          obtain ⟨o9, h⟩ := h
          refine j_iinc (ll' := [(6, aI (x6 + 1)), (5, aI 1), (0, aR 61), (3, aI x3), (4, aI x4)]) 4 dX11_walk_135 rfl (Nat.le_of_ble_eq_true rfl) o9 rfl ?_
          refine j_goto (tgt := 50) dX11_walk_138 (by decide) ?_
          refine j_sub [2, 3, 4, 1, 0] rfl ?_
          exact h
        · replace h := h.2 c8
          refine j_iload 0 dX11_walk_123 rfl ?_
          refine j_if_eq (tgt := 132) dX11_walk_125 (by decide) (fun _ => ?_) (fun c => absurd c (by decide))
          refine j_iconst (x := 0) dX11_walk_132 rfl (i32_c rfl) ?_
          refine j_istore (ll' := [(5, aI 0), (0, aR 61), (3, aI x3), (4, aI x4), (6, aI x6)]) dX11_walk_133 (Nat.le_of_ble_eq_true rfl) rfl ?_
          obtain ⟨o10, h⟩ := h
          refine j_iinc (ll' := [(6, aI (x6 + 1)), (5, aI 0), (0, aR 61), (3, aI x3), (4, aI x4)]) 4 dX11_walk_135 rfl (Nat.le_of_ble_eq_true rfl) o10 rfl ?_
          refine j_goto (tgt := 50) dX11_walk_138 (by decide) ?_
          refine j_sub [2, 3, 4, 1, 0] rfl ?_
          exact h
      · replace h := h.2 c7
        refine j_iconst (x := 1) dX11_walk_90 rfl (i32_c rfl) ?_
        refine j_goto (tgt := 95) dX11_walk_91 (by decide) ?_
        refine j_istore (ll' := [(5, aI 1), (0, aR 61), (3, aI x3), (4, aI x4), (6, aI x6)]) dX11_walk_95 (Nat.le_of_ble_eq_true rfl) rfl ?_
        refine j_aload_n 1 dX11_walk_97 rfl ?_
        refine j_iload 4 dX11_walk_98 rfl ?_
        refine j_aload_n 1 dX11_walk_100 rfl ?_
        refine j_getc 63 dX11_walk_101 f_X11_17 sh_61 rfl ?_
        refine j_iload 4 dX11_walk_104 rfl ?_
        refine j_iald dX11_walk_106 sh_63 o2.1 o2.2 (fun _ => ?_)
        refine j_aload_n 1 dX11_walk_107 rfl ?_
        refine j_getc 62 dX11_walk_108 f_X11_13 sh_61 rfl ?_
        refine j_iload 4 dX11_walk_111 rfl ?_
        refine j_iald dX11_walk_113 sh_62 o2.1 o2.2 (fun _ => ?_)
        refine j_iload_n 2 dX11_walk_114 rfl ?_
        refine j_iload 3 dX11_walk_115 rfl ?_
        refine j_calliV (Yc := Y_X11_step) (as := [aI x6, aI (u1 63 x6), aI (u1 62 x6), aI x3, aI x4]) (rest := []) dX11_walk_117 q_X11_272 ⟨Nat.le_of_ble_eq_true rfl, Nat.le_of_ble_eq_true rfl, Nat.le_of_ble_eq_true rfl, Nat.le_of_ble_eq_true rfl⟩ sh_61 rfl (Nat.le_of_ble_eq_true rfl) rfl (ti_mono h (fun z8 u7 h => ?_))
        refine j_if_ne (tgt := 128) dX11_walk_120 (by decide) (fun c11 => ?_) (fun c11 => ?_)
        · replace h := h.1 c11
          refine j_iconst (x := 1) dX11_walk_128 rfl (i32_c rfl) ?_
          refine j_goto (tgt := 133) dX11_walk_129 (by decide) ?_
          refine j_istore (ll' := [(5, aI 1), (0, aR 61), (3, aI x3), (4, aI x4), (6, aI x6)]) dX11_walk_133 (Nat.le_of_ble_eq_true rfl) rfl ?_
          obtain ⟨o12, h⟩ := h
          refine j_iinc (ll' := [(6, aI (x6 + 1)), (5, aI 1), (0, aR 61), (3, aI x3), (4, aI x4)]) 4 dX11_walk_135 rfl (Nat.le_of_ble_eq_true rfl) o12 rfl ?_
          refine j_goto (tgt := 50) dX11_walk_138 (by decide) ?_
          refine j_sub [2, 3, 4, 1, 0] rfl ?_
          exact h
        · replace h := h.2 c11
          refine j_iload 0 dX11_walk_123 rfl ?_
          refine j_if_eq (tgt := 132) dX11_walk_125 (by decide) (fun c => absurd c (by decide)) (fun _ => ?_)
          refine j_iconst (x := 1) dX11_walk_128 rfl (i32_c rfl) ?_
          refine j_goto (tgt := 133) dX11_walk_129 (by decide) ?_
          refine j_istore (ll' := [(5, aI 1), (0, aR 61), (3, aI x3), (4, aI x4), (6, aI x6)]) dX11_walk_133 (Nat.le_of_ble_eq_true rfl) rfl ?_
          obtain ⟨o13, h⟩ := h
          refine j_iinc (ll' := [(6, aI (x6 + 1)), (5, aI 1), (0, aR 61), (3, aI x3), (4, aI x4)]) 4 dX11_walk_135 rfl (Nat.le_of_ble_eq_true rfl) o13 rfl ?_
          refine j_goto (tgt := 50) dX11_walk_138 (by decide) ?_
          refine j_sub [2, 3, 4, 1, 0] rfl ?_
          exact h
set_option maxRecDepth 100000 in
set_option maxHeartbeats 4000000 in
theorem B_X11_seek_0 {post : Int → ax_M → Prop} {M : ax_M} {x1 : Int} (h : ax_J Y_X11_seek (ax_Ki Y_X11_seek SH post) 0 0 7 [(0, aR 61), (1, aI x1), (2, aI 0)] [] SH (ax_up M 61 43 0)) : ax_J Y_X11_seek (ax_Ki Y_X11_seek SH post) 0 0 0 [(0, aR 61), (1, aI x1)] [] SH M := by
  refine j_aload_n 0 dX11_seek_0 rfl ?_
  refine j_iconst (x := 0) dX11_seek_1 rfl (i32_c rfl) ?_
  refine j_puti (i := 43) dX11_seek_2 p_X11_295 (fun h => by cases h) sh_61 rfl rfl ?_
  refine j_iconst (x := 0) dX11_seek_5 rfl (i32_c rfl) ?_
  refine j_istore_n (ll' := [(2, aI 0), (0, aR 61), (1, aI x1)]) dX11_seek_6 (Nat.le_of_ble_eq_true rfl) rfl ?_
  refine j_sub [1, 2, 0] rfl ?_
  exact h
theorem E_X11_seek {post : Int → ax_M → Prop} {M : ax_M} {x1 : Int} (h : ax_mr SH M → ax_J Y_X11_seek (ax_Ki Y_X11_seek SH post) 0 0 7 [(0, aR 61), (1, aI x1), (2, aI 0)] [] SH (ax_up M 61 43 0)) : ax_Ti Y_X11_seek [aR 61, aI x1] SH M post :=
  ti_of rfl (Nat.le_of_ble_eq_true rfl) rfl (fun q => B_X11_seek_0 (h q))
set_option maxRecDepth 100000 in
set_option maxHeartbeats 4000000 in
theorem B_X11_seek_7 {post : Int → ax_M → Prop} {M : ax_M} {x1 x2 : Int} (h : (((732 ≤ x2) → ax_J Y_X11_seek (ax_Ki Y_X11_seek SH post) 0 0 29 [(0, aR 61), (1, aI x1), (2, aI 0)] [] SH M) ∧ ((x2 < 732) → (0 ≤ x2 ∧ x2 < 732) ∧ (-2147483648 ≤ (x2 + 1) ∧ (x2 + 1) ≤ 2147483647) ∧ ax_J Y_X11_seek (ax_Ki Y_X11_seek SH post) 0 0 7 [(0, aR 61), (1, aI x1), (2, aI (x2 + 1))] [] SH (ax_up M 82 x2 0)))) : ax_J Y_X11_seek (ax_Ki Y_X11_seek SH post) 0 0 7 [(0, aR 61), (1, aI x1), (2, aI x2)] [] SH M := by
  refine j_iload_n 2 dX11_seek_7 rfl ?_
  refine j_sipush (x := 732) dX11_seek_8 rfl (i32_c rfl) ?_
  refine j_icmp_ge (tgt := 27) dX11_seek_11 (by decide) (fun c1 => ?_) (fun c1 => ?_)
  · replace h := h.1 c1
    refine j_iconst (x := 0) dX11_seek_27 rfl (i32_c rfl) ?_
    refine j_istore_n (ll' := [(2, aI 0), (0, aR 61), (1, aI x1)]) dX11_seek_28 (Nat.le_of_ble_eq_true rfl) rfl ?_
    refine j_sub [1, 2, 0] rfl ?_
    exact h
  · replace h := h.2 c1
    refine j_aload_n 0 dX11_seek_14 rfl ?_
    refine j_getc 82 dX11_seek_15 f_X11_81 sh_61 rfl ?_
    refine j_iload_n 2 dX11_seek_18 rfl ?_
    refine j_iconst (x := 0) dX11_seek_19 rfl (i32_c rfl) ?_
    obtain ⟨o2, h⟩ := h
    refine j_zast dX11_seek_20 sh_82 o2.1 o2.2 (by decide) ?_
    obtain ⟨o3, h⟩ := h
    refine j_iinc (ll' := [(2, aI (x2 + 1)), (0, aR 61), (1, aI x1)]) 2 dX11_seek_21 rfl (Nat.le_of_ble_eq_true rfl) o3 rfl ?_
    refine j_goto (tgt := 7) dX11_seek_24 (by decide) ?_
    refine j_sub [1, 2, 0] rfl ?_
    exact h
set_option maxRecDepth 100000 in
set_option maxHeartbeats 4000000 in
theorem B_X11_seek_29 {post : Int → ax_M → Prop} {M : ax_M} {x1 x2 : Int} (h : ((((M 61 0) ≤ x2) → ax_J Y_X11_seek (ax_Ki Y_X11_seek SH post) 0 0 70 [(0, aR 61), (1, aI x1), (2, aI 0)] [] SH M) ∧ ((x2 < (M 61 0)) → (0 ≤ x2 ∧ x2 < 12) ∧ ax_Ti Y_X11_menAt [aR 61, aI x2] SH M (fun z2 u1 => (((z2 ≤ (M 81 x2)) → (-2147483648 ≤ (x2 + 1) ∧ (x2 + 1) ≤ 2147483647) ∧ ax_J Y_X11_seek (ax_Ki Y_X11_seek SH post) 0 0 29 [(0, aR 61), (1, aI x1), (2, aI (x2 + 1))] [] SH u1) ∧ (((M 81 x2) < z2) → (-2147483648 ≤ (61 * x2) ∧ (61 * x2) ≤ 2147483647) ∧ (-2147483648 ≤ ((61 * x2) + 0) ∧ ((61 * x2) + 0) ≤ 2147483647) ∧ ax_Tv Y_X11_come [aR 61, aI ((61 * x2) + 0), aI (-1), aI (-1)] SH u1 (fun u3 => (-2147483648 ≤ (x2 + 1) ∧ (x2 + 1) ≤ 2147483647) ∧ ax_J Y_X11_seek (ax_Ki Y_X11_seek SH post) 0 0 29 [(0, aR 61), (1, aI x1), (2, aI (x2 + 1))] [] SH u3))))))) : ax_J Y_X11_seek (ax_Ki Y_X11_seek SH post) 0 0 29 [(0, aR 61), (1, aI x1), (2, aI x2)] [] SH M := by
  refine j_iload_n 2 dX11_seek_29 rfl ?_
  refine j_aload_n 0 dX11_seek_30 rfl ?_
  refine j_geti (i := 0) dX11_seek_31 f_X11_133 sh_61 rfl rfl (fun _ => ?_)
  refine j_icmp_ge (tgt := 68) dX11_seek_34 (by decide) (fun c1 => ?_) (fun c1 => ?_)
  · replace h := h.1 c1
    refine j_iconst (x := 0) dX11_seek_68 rfl (i32_c rfl) ?_
    refine j_istore_n (ll' := [(2, aI 0), (0, aR 61), (1, aI x1)]) dX11_seek_69 (Nat.le_of_ble_eq_true rfl) rfl ?_
    refine j_sub [1, 2, 0] rfl ?_
    exact h
  · replace h := h.2 c1
    refine j_aload_n 0 dX11_seek_37 rfl ?_
    refine j_getc 81 dX11_seek_38 f_X11_78 sh_61 rfl ?_
    refine j_iload_n 2 dX11_seek_41 rfl ?_
    obtain ⟨o2, h⟩ := h
    refine j_iald dX11_seek_42 sh_81 o2.1 o2.2 (fun _ => ?_)
    refine j_aload_n 0 dX11_seek_43 rfl ?_
    refine j_iload_n 2 dX11_seek_44 rfl ?_
    refine j_calliV (Yc := Y_X11_menAt) (as := [aI x2]) (rest := [aI (M 81 x2)]) dX11_seek_45 q_X11_308 ⟨Nat.le_of_ble_eq_true rfl, Nat.le_of_ble_eq_true rfl, Nat.le_of_ble_eq_true rfl, Nat.le_of_ble_eq_true rfl⟩ sh_61 rfl (Nat.le_of_ble_eq_true rfl) rfl (ti_mono h (fun z2 u1 h => ?_))
    refine j_icmp_ge (tgt := 62) dX11_seek_48 (by decide) (fun c3 => ?_) (fun c3 => ?_)
    · replace h := h.1 c3
      obtain ⟨o4, h⟩ := h
      refine j_iinc (ll' := [(2, aI (x2 + 1)), (0, aR 61), (1, aI x1)]) 2 dX11_seek_62 rfl (Nat.le_of_ble_eq_true rfl) o4 rfl ?_
      refine j_goto (tgt := 29) dX11_seek_65 (by decide) ?_
      refine j_sub [1, 2, 0] rfl ?_
      exact h
    · replace h := h.2 c3
      refine j_aload_n 0 dX11_seek_51 rfl ?_
      refine j_iload_n 2 dX11_seek_52 rfl ?_
      refine j_iconst (x := 0) dX11_seek_53 rfl (i32_c rfl) ?_
      refine j_calliS (Yc := Y_X11_at) (as := [aI x2, aI 0]) (rest := [aR 61]) dX11_seek_54 q_X11_301 ⟨Nat.le_of_ble_eq_true rfl, Nat.le_of_ble_eq_true rfl, Nat.le_of_ble_eq_true rfl, Nat.le_of_ble_eq_true rfl⟩ rfl (Nat.le_of_ble_eq_true rfl) rfl (ti_of (ll := [(0, aI x2), (1, aI 0)]) rfl (Nat.le_of_ble_eq_true rfl) rfl (fun _ => ?_))
      refine j_bipush (x := 61) dX11_at_0 rfl (i32_c rfl) ?_
      refine j_iload_n 0 dX11_at_2 rfl ?_
      obtain ⟨o5, h⟩ := h
      refine j_imul (z := (61 * x2)) dX11_at_3 rfl o5 ?_
      refine j_iload_n 1 dX11_at_4 rfl ?_
      obtain ⟨o6, h⟩ := h
      refine j_iadd (z := ((61 * x2) + 0)) dX11_at_5 rfl o6 ?_
      refine j_iret dX11_at_6 rfl ⟨Nat.le_of_ble_eq_true rfl, Nat.le_of_ble_eq_true rfl⟩ (fun _ => ?_)
      refine j_iconst (x := (-1)) dX11_seek_57 rfl (i32_c rfl) ?_
      refine j_iconst (x := (-1)) dX11_seek_58 rfl (i32_c rfl) ?_
      refine j_callvV (Yc := Y_X11_come) (as := [aI ((61 * x2) + 0), aI (-1), aI (-1)]) (rest := []) dX11_seek_59 q_X11_304 ⟨Nat.le_of_ble_eq_true rfl, Nat.le_of_ble_eq_true rfl, Nat.le_of_ble_eq_true rfl, Nat.le_of_ble_eq_true rfl⟩ sh_61 rfl (Nat.le_of_ble_eq_true rfl) rfl (tv_mono h (fun u3 h => ?_))
      obtain ⟨o7, h⟩ := h
      refine j_iinc (ll' := [(2, aI (x2 + 1)), (0, aR 61), (1, aI x1)]) 2 dX11_seek_62 rfl (Nat.le_of_ble_eq_true rfl) o7 rfl ?_
      refine j_goto (tgt := 29) dX11_seek_65 (by decide) ?_
      refine j_sub [1, 2, 0] rfl ?_
      exact h
set_option maxRecDepth 100000 in
set_option maxHeartbeats 4000000 in
theorem B_X11_seek_70 {post : Int → ax_M → Prop} {M : ax_M} {x1 x2 : Int} (h : ((((M 61 43) ≤ x2) → post (-1) M) ∧ ((x2 < (M 61 43)) → (0 ≤ x2 ∧ x2 < 732) ∧ (0 ≤ (M 85 x2)) ∧ (((¬ ((M 85 x2) / 61) = (M 61 1)) → ax_J Y_X11_seek (ax_Ki Y_X11_seek SH post) 0 0 131 [(0, aR 61), (1, aI x1), (2, aI x2), (3, aI ((M 85 x2) / 61)), (4, aI ((M 85 x2) % 61)), (5, aI 0)] [] SH M) ∧ ((((M 85 x2) / 61) = (M 61 1)) → (0 ≤ ((M 85 x2) % 61) ∧ ((M 85 x2) % 61) < 61) ∧ ((((M 61 2) ≤ (M 80 ((M 85 x2) % 61))) → ax_J Y_X11_seek (ax_Ki Y_X11_seek SH post) 0 0 131 [(0, aR 61), (1, aI x1), (2, aI x2), (3, aI ((M 85 x2) / 61)), (4, aI ((M 85 x2) % 61)), (5, aI 0)] [] SH M) ∧ (((M 80 ((M 85 x2) % 61)) < (M 61 2)) → post (M 85 x2) M))))))) : ax_J Y_X11_seek (ax_Ki Y_X11_seek SH post) 0 0 70 [(0, aR 61), (1, aI x1), (2, aI x2)] [] SH M := by
  refine j_iload_n 2 dX11_seek_70 rfl ?_
  refine j_aload_n 0 dX11_seek_71 rfl ?_
  refine j_geti (i := 43) dX11_seek_72 f_X11_295 sh_61 rfl rfl (fun _ => ?_)
  refine j_icmp_ge (tgt := 231) dX11_seek_75 (by decide) (fun c1 => ?_) (fun c1 => ?_)
  · replace h := h.1 c1
    refine j_iconst (x := (-1)) dX11_seek_231 rfl (i32_c rfl) ?_
    exact j_iret dX11_seek_232 rfl ⟨Nat.le_of_ble_eq_true rfl, Nat.le_of_ble_eq_true rfl⟩ (fun _ => h)
  · replace h := h.2 c1
    refine j_aload_n 0 dX11_seek_78 rfl ?_
    refine j_getc 85 dX11_seek_79 f_X11_90 sh_61 rfl ?_
    refine j_iload_n 2 dX11_seek_82 rfl ?_
    obtain ⟨o2, h⟩ := h
    refine j_iald dX11_seek_83 sh_85 o2.1 o2.2 (fun _ => ?_)
    refine j_bipush (x := 61) dX11_seek_84 rfl (i32_c rfl) ?_
    obtain ⟨o3, h⟩ := h
    refine j_idiv (z := ((M 85 x2) / 61)) dX11_seek_86 rfl o3 (by decide) ?_
    refine j_istore_n (ll' := [(3, aI ((M 85 x2) / 61)), (0, aR 61), (1, aI x1), (2, aI x2)]) dX11_seek_87 (Nat.le_of_ble_eq_true rfl) rfl ?_
    refine j_aload_n 1 dX11_seek_88 rfl ?_
    refine j_getc 85 dX11_seek_89 f_X11_90 sh_61 rfl ?_
    refine j_iload_n 3 dX11_seek_92 rfl ?_
    refine j_iald dX11_seek_93 sh_85 o2.1 o2.2 (fun _ => ?_)
    refine j_bipush (x := 61) dX11_seek_94 rfl (i32_c rfl) ?_
    refine j_irem (z := ((M 85 x2) % 61)) dX11_seek_96 rfl o3 (by decide) ?_
    refine j_istore (ll' := [(4, aI ((M 85 x2) % 61)), (3, aI ((M 85 x2) / 61)), (0, aR 61), (1, aI x1), (2, aI x2)]) dX11_seek_97 (Nat.le_of_ble_eq_true rfl) rfl ?_
    refine j_iload_n 1 dX11_seek_99 rfl ?_
    refine j_aload_n 2 dX11_seek_100 rfl ?_
    refine j_geti (i := 1) dX11_seek_101 f_X11_9 sh_61 rfl rfl (fun _ => ?_)
    refine j_icmp_ne (tgt := 128) dX11_seek_104 (by decide) (fun c4 => ?_) (fun c4 => ?_)
    · replace h := h.1 c4
      refine j_iconst (x := 0) dX11_seek_128 rfl (i32_c rfl) ?_
      refine j_istore (ll' := [(5, aI 0), (4, aI ((M 85 x2) % 61)), (3, aI ((M 85 x2) / 61)), (0, aR 61), (1, aI x1), (2, aI x2)]) dX11_seek_129 (Nat.le_of_ble_eq_true rfl) rfl ?_
      refine j_sub [3, 4, 5, 2, 1, 0] rfl ?_
      exact h
    · replace h := h.2 c4
      refine j_aload_n 2 dX11_seek_107 rfl ?_
      refine j_getc 80 dX11_seek_108 f_X11_75 sh_61 rfl ?_
      refine j_iload 0 dX11_seek_111 rfl ?_
      obtain ⟨o5, h⟩ := h
      refine j_iald dX11_seek_113 sh_80 o5.1 o5.2 (fun _ => ?_)
      refine j_aload_n 2 dX11_seek_114 rfl ?_
      refine j_geti (i := 2) dX11_seek_115 f_X11_237 sh_61 rfl rfl (fun _ => ?_)
      refine j_icmp_ge (tgt := 128) dX11_seek_118 (by decide) (fun c6 => ?_) (fun c6 => ?_)
      · replace h := h.1 c6
        refine j_iconst (x := 0) dX11_seek_128 rfl (i32_c rfl) ?_
        refine j_istore (ll' := [(5, aI 0), (4, aI ((M 85 x2) % 61)), (3, aI ((M 85 x2) / 61)), (0, aR 61), (1, aI x1), (2, aI x2)]) dX11_seek_129 (Nat.le_of_ble_eq_true rfl) rfl ?_
        refine j_sub [3, 4, 5, 2, 1, 0] rfl ?_
        exact h
      · replace h := h.2 c6
        refine j_aload_n 2 dX11_seek_121 rfl ?_
        refine j_getc 85 dX11_seek_122 f_X11_90 sh_61 rfl ?_
        refine j_iload_n 4 dX11_seek_125 rfl ?_
        refine j_iald dX11_seek_126 sh_85 o2.1 o2.2 (fun _ => ?_)
        exact j_iret dX11_seek_127 rfl ⟨Nat.le_of_ble_eq_true rfl, Nat.le_of_ble_eq_true rfl⟩ (fun _ => h)
set_option maxRecDepth 100000 in
set_option maxHeartbeats 4000000 in
theorem B_X11_seek_131 {post : Int → ax_M → Prop} {M : ax_M} {x1 x2 x3 x4 x5 : Int} (h : ((((M 61 3) ≤ x5) → (((x1 ≤ x4) → (((x4 ≤ 0) → (-2147483648 ≤ (x2 + 1) ∧ (x2 + 1) ≤ 2147483647) ∧ ax_J Y_X11_seek (ax_Ki Y_X11_seek SH post) 0 0 70 [(0, aR 61), (1, aI x1), (2, aI (x2 + 1))] [] SH M) ∧ ((0 < x4) → (-2147483648 ≤ (x4 - 1) ∧ (x4 - 1) ≤ 2147483647) ∧ (-2147483648 ≤ (61 * x3) ∧ (61 * x3) ≤ 2147483647) ∧ (-2147483648 ≤ ((61 * x3) + (x4 - 1)) ∧ ((61 * x3) + (x4 - 1)) ≤ 2147483647) ∧ (0 ≤ ((61 * x3) + (x4 - 1)) ∧ ((61 * x3) + (x4 - 1)) < 732) ∧ ((((M 79 ((61 * x3) + (x4 - 1))) ≤ 0) → (-2147483648 ≤ (x2 + 1) ∧ (x2 + 1) ≤ 2147483647) ∧ ax_J Y_X11_seek (ax_Ki Y_X11_seek SH post) 0 0 70 [(0, aR 61), (1, aI x1), (2, aI (x2 + 1))] [] SH M) ∧ ((0 < (M 79 ((61 * x3) + (x4 - 1)))) → (-2147483648 ≤ ((61 * x3) + x4) ∧ ((61 * x3) + x4) ≤ 2147483647) ∧ ax_Tv Y_X11_come [aR 61, aI ((61 * x3) + (x4 - 1)), aI ((61 * x3) + x4), aI 300] SH M (fun u1 => (-2147483648 ≤ (x2 + 1) ∧ (x2 + 1) ≤ 2147483647) ∧ ax_J Y_X11_seek (ax_Ki Y_X11_seek SH post) 0 0 70 [(0, aR 61), (1, aI x1), (2, aI (x2 + 1))] [] SH u1)))))) ∧ ((x4 < x1) → (-2147483648 ≤ (x4 + 1) ∧ (x4 + 1) ≤ 2147483647) ∧ (-2147483648 ≤ (61 * x3) ∧ (61 * x3) ≤ 2147483647) ∧ (-2147483648 ≤ ((61 * x3) + (x4 + 1)) ∧ ((61 * x3) + (x4 + 1)) ≤ 2147483647) ∧ (-2147483648 ≤ ((61 * x3) + x4) ∧ ((61 * x3) + x4) ≤ 2147483647) ∧ ax_Tv Y_X11_come [aR 61, aI ((61 * x3) + (x4 + 1)), aI ((61 * x3) + x4), aI 200] SH M (fun u2 => (((x4 ≤ 0) → (-2147483648 ≤ (x2 + 1) ∧ (x2 + 1) ≤ 2147483647) ∧ ax_J Y_X11_seek (ax_Ki Y_X11_seek SH post) 0 0 70 [(0, aR 61), (1, aI x1), (2, aI (x2 + 1))] [] SH u2) ∧ ((0 < x4) → (-2147483648 ≤ (x4 - 1) ∧ (x4 - 1) ≤ 2147483647) ∧ (-2147483648 ≤ ((61 * x3) + (x4 - 1)) ∧ ((61 * x3) + (x4 - 1)) ≤ 2147483647) ∧ (0 ≤ ((61 * x3) + (x4 - 1)) ∧ ((61 * x3) + (x4 - 1)) < 732) ∧ ((((u2 79 ((61 * x3) + (x4 - 1))) ≤ 0) → (-2147483648 ≤ (x2 + 1) ∧ (x2 + 1) ≤ 2147483647) ∧ ax_J Y_X11_seek (ax_Ki Y_X11_seek SH post) 0 0 70 [(0, aR 61), (1, aI x1), (2, aI (x2 + 1))] [] SH u2) ∧ ((0 < (u2 79 ((61 * x3) + (x4 - 1)))) → ax_Tv Y_X11_come [aR 61, aI ((61 * x3) + (x4 - 1)), aI ((61 * x3) + x4), aI 300] SH u2 (fun u3 => (-2147483648 ≤ (x2 + 1) ∧ (x2 + 1) ≤ 2147483647) ∧ ax_J Y_X11_seek (ax_Ki Y_X11_seek SH post) 0 0 70 [(0, aR 61), (1, aI x1), (2, aI (x2 + 1))] [] SH u3))))))))) ∧ ((x5 < (M 61 3)) → ax_Tv Y_X11_goOn [aR 61, aI x5, aI x3, aI x4, aI x1] SH M (fun u4 => (-2147483648 ≤ (x5 + 1) ∧ (x5 + 1) ≤ 2147483647) ∧ ax_J Y_X11_seek (ax_Ki Y_X11_seek SH post) 0 0 131 [(0, aR 61), (1, aI x1), (2, aI x2), (3, aI x3), (4, aI x4), (5, aI (x5 + 1))] [] SH u4)))) : ax_J Y_X11_seek (ax_Ki Y_X11_seek SH post) 0 0 131 [(0, aR 61), (1, aI x1), (2, aI x2), (3, aI x3), (4, aI x4), (5, aI x5)] [] SH M := by
  refine j_iload 5 dX11_seek_131 rfl ?_
  refine j_aload_n 0 dX11_seek_133 rfl ?_
  refine j_geti (i := 3) dX11_seek_134 f_X11_140 sh_61 rfl rfl (fun _ => ?_)
  refine j_icmp_ge (tgt := 156) dX11_seek_137 (by decide) (fun c1 => ?_) (fun c1 => ?_)
  · replace h := h.1 c1
    refine j_iload 4 dX11_seek_156 rfl ?_
    refine j_iload_n 1 dX11_seek_158 rfl ?_
    refine j_icmp_ge (tgt := 183) dX11_seek_159 (by decide) (fun c2 => ?_) (fun c2 => ?_)
    · replace h := h.1 c2
      refine j_iload 4 dX11_seek_183 rfl ?_
      refine j_if_le (tgt := 225) dX11_seek_185 (by decide) (fun c3 => ?_) (fun c3 => ?_)
      · replace h := h.1 c3
        obtain ⟨o4, h⟩ := h
        refine j_iinc (ll' := [(2, aI (x2 + 1)), (0, aR 61), (1, aI x1), (3, aI x3), (4, aI x4), (5, aI x5)]) 2 dX11_seek_225 rfl (Nat.le_of_ble_eq_true rfl) o4 rfl ?_
        refine j_goto (tgt := 70) dX11_seek_228 (by decide) ?_
        refine j_sub [1, 2, 0] rfl ?_
        exact h
      · replace h := h.2 c3
        refine j_aload_n 0 dX11_seek_188 rfl ?_
        refine j_getc 79 dX11_seek_189 f_X11_72 sh_61 rfl ?_
        refine j_iload_n 3 dX11_seek_192 rfl ?_
        refine j_iload 4 dX11_seek_193 rfl ?_
        refine j_iconst (x := 1) dX11_seek_195 rfl (i32_c rfl) ?_
        obtain ⟨o5, h⟩ := h
        refine j_isub (z := (x4 - 1)) dX11_seek_196 rfl o5 ?_
        refine j_calliS (Yc := Y_X11_at) (as := [aI x3, aI (x4 - 1)]) (rest := [aR 79]) dX11_seek_197 q_X11_301 ⟨Nat.le_of_ble_eq_true rfl, Nat.le_of_ble_eq_true rfl, Nat.le_of_ble_eq_true rfl, Nat.le_of_ble_eq_true rfl⟩ rfl (Nat.le_of_ble_eq_true rfl) rfl (ti_of (ll := [(0, aI x3), (1, aI (x4 - 1))]) rfl (Nat.le_of_ble_eq_true rfl) rfl (fun _ => ?_))
        refine j_bipush (x := 61) dX11_at_0 rfl (i32_c rfl) ?_
        refine j_iload_n 0 dX11_at_2 rfl ?_
        obtain ⟨o6, h⟩ := h
        refine j_imul (z := (61 * x3)) dX11_at_3 rfl o6 ?_
        refine j_iload_n 1 dX11_at_4 rfl ?_
        obtain ⟨o7, h⟩ := h
        refine j_iadd (z := ((61 * x3) + (x4 - 1))) dX11_at_5 rfl o7 ?_
        refine j_iret dX11_at_6 rfl ⟨Nat.le_of_ble_eq_true rfl, Nat.le_of_ble_eq_true rfl⟩ (fun _ => ?_)
        obtain ⟨o8, h⟩ := h
        refine j_iald dX11_seek_200 sh_79 o8.1 o8.2 (fun _ => ?_)
        refine j_if_le (tgt := 225) dX11_seek_201 (by decide) (fun c9 => ?_) (fun c9 => ?_)
        · replace h := h.1 c9
          obtain ⟨o10, h⟩ := h
          refine j_iinc (ll' := [(2, aI (x2 + 1)), (0, aR 61), (1, aI x1), (3, aI x3), (4, aI x4), (5, aI x5)]) 2 dX11_seek_225 rfl (Nat.le_of_ble_eq_true rfl) o10 rfl ?_
          refine j_goto (tgt := 70) dX11_seek_228 (by decide) ?_
          refine j_sub [1, 2, 0] rfl ?_
          exact h
        · replace h := h.2 c9
          refine j_aload_n 0 dX11_seek_204 rfl ?_
          refine j_iload_n 3 dX11_seek_205 rfl ?_
          refine j_iload 4 dX11_seek_206 rfl ?_
          refine j_iconst (x := 1) dX11_seek_208 rfl (i32_c rfl) ?_
          refine j_isub (z := (x4 - 1)) dX11_seek_209 rfl o5 ?_
          refine j_calliS (Yc := Y_X11_at) (as := [aI x3, aI (x4 - 1)]) (rest := [aR 61]) dX11_seek_210 q_X11_301 ⟨Nat.le_of_ble_eq_true rfl, Nat.le_of_ble_eq_true rfl, Nat.le_of_ble_eq_true rfl, Nat.le_of_ble_eq_true rfl⟩ rfl (Nat.le_of_ble_eq_true rfl) rfl (ti_of (ll := [(0, aI x3), (1, aI (x4 - 1))]) rfl (Nat.le_of_ble_eq_true rfl) rfl (fun _ => ?_))
          refine j_bipush (x := 61) dX11_at_0 rfl (i32_c rfl) ?_
          refine j_iload_n 0 dX11_at_2 rfl ?_
          refine j_imul (z := (61 * x3)) dX11_at_3 rfl o6 ?_
          refine j_iload_n 1 dX11_at_4 rfl ?_
          refine j_iadd (z := ((61 * x3) + (x4 - 1))) dX11_at_5 rfl o7 ?_
          refine j_iret dX11_at_6 rfl ⟨Nat.le_of_ble_eq_true rfl, Nat.le_of_ble_eq_true rfl⟩ (fun _ => ?_)
          refine j_iload_n 3 dX11_seek_213 rfl ?_
          refine j_iload 4 dX11_seek_214 rfl ?_
          refine j_calliS (Yc := Y_X11_at) (as := [aI x3, aI x4]) (rest := [aI ((61 * x3) + (x4 - 1)), aR 61]) dX11_seek_216 q_X11_301 ⟨Nat.le_of_ble_eq_true rfl, Nat.le_of_ble_eq_true rfl, Nat.le_of_ble_eq_true rfl, Nat.le_of_ble_eq_true rfl⟩ rfl (Nat.le_of_ble_eq_true rfl) rfl (ti_of (ll := [(0, aI x3), (1, aI x4)]) rfl (Nat.le_of_ble_eq_true rfl) rfl (fun _ => ?_))
          refine j_bipush (x := 61) dX11_at_0 rfl (i32_c rfl) ?_
          refine j_iload_n 0 dX11_at_2 rfl ?_
          refine j_imul (z := (61 * x3)) dX11_at_3 rfl o6 ?_
          refine j_iload_n 1 dX11_at_4 rfl ?_
          obtain ⟨o11, h⟩ := h
          refine j_iadd (z := ((61 * x3) + x4)) dX11_at_5 rfl o11 ?_
          refine j_iret dX11_at_6 rfl ⟨Nat.le_of_ble_eq_true rfl, Nat.le_of_ble_eq_true rfl⟩ (fun _ => ?_)
          refine j_sipush (x := 300) dX11_seek_219 rfl (i32_c rfl) ?_
          refine j_callvV (Yc := Y_X11_come) (as := [aI ((61 * x3) + (x4 - 1)), aI ((61 * x3) + x4), aI 300]) (rest := []) dX11_seek_222 q_X11_304 ⟨Nat.le_of_ble_eq_true rfl, Nat.le_of_ble_eq_true rfl, Nat.le_of_ble_eq_true rfl, Nat.le_of_ble_eq_true rfl⟩ sh_61 rfl (Nat.le_of_ble_eq_true rfl) rfl (tv_mono h (fun u1 h => ?_))
          obtain ⟨o12, h⟩ := h
          refine j_iinc (ll' := [(2, aI (x2 + 1)), (0, aR 61), (1, aI x1), (3, aI x3), (4, aI x4), (5, aI x5)]) 2 dX11_seek_225 rfl (Nat.le_of_ble_eq_true rfl) o12 rfl ?_
          refine j_goto (tgt := 70) dX11_seek_228 (by decide) ?_
          refine j_sub [1, 2, 0] rfl ?_
          exact h
    · replace h := h.2 c2
      refine j_aload_n 0 dX11_seek_162 rfl ?_
      refine j_iload_n 3 dX11_seek_163 rfl ?_
      refine j_iload 4 dX11_seek_164 rfl ?_
      refine j_iconst (x := 1) dX11_seek_166 rfl (i32_c rfl) ?_
      obtain ⟨o13, h⟩ := h
      refine j_iadd (z := (x4 + 1)) dX11_seek_167 rfl o13 ?_
      refine j_calliS (Yc := Y_X11_at) (as := [aI x3, aI (x4 + 1)]) (rest := [aR 61]) dX11_seek_168 q_X11_301 ⟨Nat.le_of_ble_eq_true rfl, Nat.le_of_ble_eq_true rfl, Nat.le_of_ble_eq_true rfl, Nat.le_of_ble_eq_true rfl⟩ rfl (Nat.le_of_ble_eq_true rfl) rfl (ti_of (ll := [(0, aI x3), (1, aI (x4 + 1))]) rfl (Nat.le_of_ble_eq_true rfl) rfl (fun _ => ?_))
      refine j_bipush (x := 61) dX11_at_0 rfl (i32_c rfl) ?_
      refine j_iload_n 0 dX11_at_2 rfl ?_
      obtain ⟨o14, h⟩ := h
      refine j_imul (z := (61 * x3)) dX11_at_3 rfl o14 ?_
      refine j_iload_n 1 dX11_at_4 rfl ?_
      obtain ⟨o15, h⟩ := h
      refine j_iadd (z := ((61 * x3) + (x4 + 1))) dX11_at_5 rfl o15 ?_
      refine j_iret dX11_at_6 rfl ⟨Nat.le_of_ble_eq_true rfl, Nat.le_of_ble_eq_true rfl⟩ (fun _ => ?_)
      refine j_iload_n 3 dX11_seek_171 rfl ?_
      refine j_iload 4 dX11_seek_172 rfl ?_
      refine j_calliS (Yc := Y_X11_at) (as := [aI x3, aI x4]) (rest := [aI ((61 * x3) + (x4 + 1)), aR 61]) dX11_seek_174 q_X11_301 ⟨Nat.le_of_ble_eq_true rfl, Nat.le_of_ble_eq_true rfl, Nat.le_of_ble_eq_true rfl, Nat.le_of_ble_eq_true rfl⟩ rfl (Nat.le_of_ble_eq_true rfl) rfl (ti_of (ll := [(0, aI x3), (1, aI x4)]) rfl (Nat.le_of_ble_eq_true rfl) rfl (fun _ => ?_))
      refine j_bipush (x := 61) dX11_at_0 rfl (i32_c rfl) ?_
      refine j_iload_n 0 dX11_at_2 rfl ?_
      refine j_imul (z := (61 * x3)) dX11_at_3 rfl o14 ?_
      refine j_iload_n 1 dX11_at_4 rfl ?_
      obtain ⟨o16, h⟩ := h
      refine j_iadd (z := ((61 * x3) + x4)) dX11_at_5 rfl o16 ?_
      refine j_iret dX11_at_6 rfl ⟨Nat.le_of_ble_eq_true rfl, Nat.le_of_ble_eq_true rfl⟩ (fun _ => ?_)
      refine j_sipush (x := 200) dX11_seek_177 rfl (i32_c rfl) ?_
      refine j_callvV (Yc := Y_X11_come) (as := [aI ((61 * x3) + (x4 + 1)), aI ((61 * x3) + x4), aI 200]) (rest := []) dX11_seek_180 q_X11_304 ⟨Nat.le_of_ble_eq_true rfl, Nat.le_of_ble_eq_true rfl, Nat.le_of_ble_eq_true rfl, Nat.le_of_ble_eq_true rfl⟩ sh_61 rfl (Nat.le_of_ble_eq_true rfl) rfl (tv_mono h (fun u2 h => ?_))
      refine j_iload 4 dX11_seek_183 rfl ?_
      refine j_if_le (tgt := 225) dX11_seek_185 (by decide) (fun c17 => ?_) (fun c17 => ?_)
      · replace h := h.1 c17
        obtain ⟨o18, h⟩ := h
        refine j_iinc (ll' := [(2, aI (x2 + 1)), (0, aR 61), (1, aI x1), (3, aI x3), (4, aI x4), (5, aI x5)]) 2 dX11_seek_225 rfl (Nat.le_of_ble_eq_true rfl) o18 rfl ?_
        refine j_goto (tgt := 70) dX11_seek_228 (by decide) ?_
        refine j_sub [1, 2, 0] rfl ?_
        exact h
      · replace h := h.2 c17
        refine j_aload_n 0 dX11_seek_188 rfl ?_
        refine j_getc 79 dX11_seek_189 f_X11_72 sh_61 rfl ?_
        refine j_iload_n 3 dX11_seek_192 rfl ?_
        refine j_iload 4 dX11_seek_193 rfl ?_
        refine j_iconst (x := 1) dX11_seek_195 rfl (i32_c rfl) ?_
        obtain ⟨o19, h⟩ := h
        refine j_isub (z := (x4 - 1)) dX11_seek_196 rfl o19 ?_
        refine j_calliS (Yc := Y_X11_at) (as := [aI x3, aI (x4 - 1)]) (rest := [aR 79]) dX11_seek_197 q_X11_301 ⟨Nat.le_of_ble_eq_true rfl, Nat.le_of_ble_eq_true rfl, Nat.le_of_ble_eq_true rfl, Nat.le_of_ble_eq_true rfl⟩ rfl (Nat.le_of_ble_eq_true rfl) rfl (ti_of (ll := [(0, aI x3), (1, aI (x4 - 1))]) rfl (Nat.le_of_ble_eq_true rfl) rfl (fun _ => ?_))
        refine j_bipush (x := 61) dX11_at_0 rfl (i32_c rfl) ?_
        refine j_iload_n 0 dX11_at_2 rfl ?_
        refine j_imul (z := (61 * x3)) dX11_at_3 rfl o14 ?_
        refine j_iload_n 1 dX11_at_4 rfl ?_
        obtain ⟨o20, h⟩ := h
        refine j_iadd (z := ((61 * x3) + (x4 - 1))) dX11_at_5 rfl o20 ?_
        refine j_iret dX11_at_6 rfl ⟨Nat.le_of_ble_eq_true rfl, Nat.le_of_ble_eq_true rfl⟩ (fun _ => ?_)
        obtain ⟨o21, h⟩ := h
        refine j_iald dX11_seek_200 sh_79 o21.1 o21.2 (fun _ => ?_)
        refine j_if_le (tgt := 225) dX11_seek_201 (by decide) (fun c22 => ?_) (fun c22 => ?_)
        · replace h := h.1 c22
          obtain ⟨o23, h⟩ := h
          refine j_iinc (ll' := [(2, aI (x2 + 1)), (0, aR 61), (1, aI x1), (3, aI x3), (4, aI x4), (5, aI x5)]) 2 dX11_seek_225 rfl (Nat.le_of_ble_eq_true rfl) o23 rfl ?_
          refine j_goto (tgt := 70) dX11_seek_228 (by decide) ?_
          refine j_sub [1, 2, 0] rfl ?_
          exact h
        · replace h := h.2 c22
          refine j_aload_n 0 dX11_seek_204 rfl ?_
          refine j_iload_n 3 dX11_seek_205 rfl ?_
          refine j_iload 4 dX11_seek_206 rfl ?_
          refine j_iconst (x := 1) dX11_seek_208 rfl (i32_c rfl) ?_
          refine j_isub (z := (x4 - 1)) dX11_seek_209 rfl o19 ?_
          refine j_calliS (Yc := Y_X11_at) (as := [aI x3, aI (x4 - 1)]) (rest := [aR 61]) dX11_seek_210 q_X11_301 ⟨Nat.le_of_ble_eq_true rfl, Nat.le_of_ble_eq_true rfl, Nat.le_of_ble_eq_true rfl, Nat.le_of_ble_eq_true rfl⟩ rfl (Nat.le_of_ble_eq_true rfl) rfl (ti_of (ll := [(0, aI x3), (1, aI (x4 - 1))]) rfl (Nat.le_of_ble_eq_true rfl) rfl (fun _ => ?_))
          refine j_bipush (x := 61) dX11_at_0 rfl (i32_c rfl) ?_
          refine j_iload_n 0 dX11_at_2 rfl ?_
          refine j_imul (z := (61 * x3)) dX11_at_3 rfl o14 ?_
          refine j_iload_n 1 dX11_at_4 rfl ?_
          refine j_iadd (z := ((61 * x3) + (x4 - 1))) dX11_at_5 rfl o20 ?_
          refine j_iret dX11_at_6 rfl ⟨Nat.le_of_ble_eq_true rfl, Nat.le_of_ble_eq_true rfl⟩ (fun _ => ?_)
          refine j_iload_n 3 dX11_seek_213 rfl ?_
          refine j_iload 4 dX11_seek_214 rfl ?_
          refine j_calliS (Yc := Y_X11_at) (as := [aI x3, aI x4]) (rest := [aI ((61 * x3) + (x4 - 1)), aR 61]) dX11_seek_216 q_X11_301 ⟨Nat.le_of_ble_eq_true rfl, Nat.le_of_ble_eq_true rfl, Nat.le_of_ble_eq_true rfl, Nat.le_of_ble_eq_true rfl⟩ rfl (Nat.le_of_ble_eq_true rfl) rfl (ti_of (ll := [(0, aI x3), (1, aI x4)]) rfl (Nat.le_of_ble_eq_true rfl) rfl (fun _ => ?_))
          refine j_bipush (x := 61) dX11_at_0 rfl (i32_c rfl) ?_
          refine j_iload_n 0 dX11_at_2 rfl ?_
          refine j_imul (z := (61 * x3)) dX11_at_3 rfl o14 ?_
          refine j_iload_n 1 dX11_at_4 rfl ?_
          refine j_iadd (z := ((61 * x3) + x4)) dX11_at_5 rfl o16 ?_
          refine j_iret dX11_at_6 rfl ⟨Nat.le_of_ble_eq_true rfl, Nat.le_of_ble_eq_true rfl⟩ (fun _ => ?_)
          refine j_sipush (x := 300) dX11_seek_219 rfl (i32_c rfl) ?_
          refine j_callvV (Yc := Y_X11_come) (as := [aI ((61 * x3) + (x4 - 1)), aI ((61 * x3) + x4), aI 300]) (rest := []) dX11_seek_222 q_X11_304 ⟨Nat.le_of_ble_eq_true rfl, Nat.le_of_ble_eq_true rfl, Nat.le_of_ble_eq_true rfl, Nat.le_of_ble_eq_true rfl⟩ sh_61 rfl (Nat.le_of_ble_eq_true rfl) rfl (tv_mono h (fun u3 h => ?_))
          obtain ⟨o24, h⟩ := h
          refine j_iinc (ll' := [(2, aI (x2 + 1)), (0, aR 61), (1, aI x1), (3, aI x3), (4, aI x4), (5, aI x5)]) 2 dX11_seek_225 rfl (Nat.le_of_ble_eq_true rfl) o24 rfl ?_
          refine j_goto (tgt := 70) dX11_seek_228 (by decide) ?_
          refine j_sub [1, 2, 0] rfl ?_
          exact h
  · replace h := h.2 c1
    refine j_aload_n 0 dX11_seek_140 rfl ?_
    refine j_iload 5 dX11_seek_141 rfl ?_
    refine j_iload_n 3 dX11_seek_143 rfl ?_
    refine j_iload 4 dX11_seek_144 rfl ?_
    refine j_iload_n 1 dX11_seek_146 rfl ?_
    refine j_callvV (Yc := Y_X11_goOn) (as := [aI x5, aI x3, aI x4, aI x1]) (rest := []) dX11_seek_147 q_X11_312 ⟨Nat.le_of_ble_eq_true rfl, Nat.le_of_ble_eq_true rfl, Nat.le_of_ble_eq_true rfl, Nat.le_of_ble_eq_true rfl⟩ sh_61 rfl (Nat.le_of_ble_eq_true rfl) rfl (tv_mono h (fun u4 h => ?_))
    obtain ⟨o25, h⟩ := h
    refine j_iinc (ll' := [(5, aI (x5 + 1)), (0, aR 61), (1, aI x1), (2, aI x2), (3, aI x3), (4, aI x4)]) 5 dX11_seek_150 rfl (Nat.le_of_ble_eq_true rfl) o25 rfl ?_
    refine j_goto (tgt := 131) dX11_seek_153 (by decide) ?_
    refine j_sub [1, 2, 3, 4, 5, 0] rfl ?_
    exact h
set_option maxRecDepth 100000 in
set_option maxHeartbeats 4000000 in
theorem B_X11_send_0 {post : ax_M → Prop} {M : ax_M} {x1 : Int} (h : (0 ≤ x1) ∧ (0 ≤ (x1 % 61) ∧ (x1 % 61) < 61) ∧ (-2147483648 ≤ ((M 80 (x1 % 61)) + 1) ∧ ((M 80 (x1 % 61)) + 1) ≤ 2147483647) ∧ ax_J Y_X11_send (ax_Kv Y_X11_send SH post) 0 0 15 [(0, aR 61), (2, aI x1)] [] SH (ax_up M 80 (x1 % 61) ((M 80 (x1 % 61)) + 1))) : ax_J Y_X11_send (ax_Kv Y_X11_send SH post) 0 0 0 [(0, aR 61), (1, aI x1)] [] SH M := by
  refine j_aload_n 0 dX11_send_0 rfl ?_
  refine j_getc 80 dX11_send_1 f_X11_75 sh_61 rfl ?_
  refine j_iload_n 1 dX11_send_4 rfl ?_
  refine j_bipush (x := 61) dX11_send_5 rfl (i32_c rfl) ?_
  obtain ⟨o1, h⟩ := h
  refine j_irem (z := (x1 % 61)) dX11_send_7 rfl o1 (by decide) ?_
  refine j_dup2 dX11_send_8 rfl rfl ?_
  obtain ⟨o2, h⟩ := h
  refine j_iald dX11_send_9 sh_80 o2.1 o2.2 (fun _ => ?_)
  refine j_iconst (x := 1) dX11_send_10 rfl (i32_c rfl) ?_
  obtain ⟨o3, h⟩ := h
  refine j_iadd (z := ((M 80 (x1 % 61)) + 1)) dX11_send_11 rfl o3 ?_
  refine j_iast dX11_send_12 sh_80 o2.1 o2.2 ?_
  refine j_iload_n 1 dX11_send_13 rfl ?_
  refine j_istore_n (ll' := [(2, aI x1), (0, aR 61), (1, aI x1)]) dX11_send_14 (Nat.le_of_ble_eq_true rfl) rfl ?_
  refine j_sub [1, 0] rfl ?_
  exact h
theorem E_X11_send {post : ax_M → Prop} {M : ax_M} {x1 : Int} (h : ax_mr SH M → (0 ≤ x1) ∧ (0 ≤ (x1 % 61) ∧ (x1 % 61) < 61) ∧ (-2147483648 ≤ ((M 80 (x1 % 61)) + 1) ∧ ((M 80 (x1 % 61)) + 1) ≤ 2147483647) ∧ ax_J Y_X11_send (ax_Kv Y_X11_send SH post) 0 0 15 [(0, aR 61), (2, aI x1)] [] SH (ax_up M 80 (x1 % 61) ((M 80 (x1 % 61)) + 1))) : ax_Tv Y_X11_send [aR 61, aI x1] SH M post :=
  tv_of rfl (Nat.le_of_ble_eq_true rfl) rfl (fun q => B_X11_send_0 (h q))
set_option maxRecDepth 100000 in
set_option maxHeartbeats 4000000 in
theorem B_X11_send_15 {post : ax_M → Prop} {M : ax_M} {x2 : Int} (h : (0 ≤ x2 ∧ x2 < 732) ∧ ((((M 83 x2) < 0) → (0 ≤ x2) ∧ (0 ≤ (x2 / 61) ∧ (x2 / 61) < 12) ∧ (-2147483648 ≤ ((M 81 (x2 / 61)) + 1) ∧ ((M 81 (x2 / 61)) + 1) ≤ 2147483647) ∧ post (ax_up M 81 (x2 / 61) ((M 81 (x2 / 61)) + 1))) ∧ ((0 ≤ (M 83 x2)) → (((100 ≤ (M 84 x2)) → (((200 ≤ (M 84 x2)) → (((¬ (M 84 x2) = 200) → (-2147483648 ≤ ((M 79 x2) - 1) ∧ ((M 79 x2) - 1) ≤ 2147483647) ∧ ax_J Y_X11_send (ax_Kv Y_X11_send SH post) 0 0 15 [(0, aR 61), (2, aI (M 83 x2))] [] SH (ax_up M 79 x2 ((M 79 x2) - 1))) ∧ (((M 84 x2) = 200) → (0 ≤ (M 83 x2) ∧ (M 83 x2) < 732) ∧ (-2147483648 ≤ ((M 79 (M 83 x2)) + 1) ∧ ((M 79 (M 83 x2)) + 1) ≤ 2147483647) ∧ ax_J Y_X11_send (ax_Kv Y_X11_send SH post) 0 0 15 [(0, aR 61), (2, aI (M 83 x2))] [] SH (ax_up M 79 (M 83 x2) ((M 79 (M 83 x2)) + 1))))) ∧ (((M 84 x2) < 200) → (-2147483648 ≤ ((M 84 x2) - 100) ∧ ((M 84 x2) - 100) ≤ 2147483647) ∧ (-2147483648 ≤ (61 * ((M 84 x2) - 100)) ∧ (61 * ((M 84 x2) - 100)) ≤ 2147483647) ∧ (0 ≤ x2) ∧ (-2147483648 ≤ ((61 * ((M 84 x2) - 100)) + (x2 % 61)) ∧ ((61 * ((M 84 x2) - 100)) + (x2 % 61)) ≤ 2147483647) ∧ (0 ≤ ((61 * ((M 84 x2) - 100)) + (x2 % 61)) ∧ ((61 * ((M 84 x2) - 100)) + (x2 % 61)) < 2928) ∧ (-2147483648 ≤ ((M 78 ((61 * ((M 84 x2) - 100)) + (x2 % 61))) - 1) ∧ ((M 78 ((61 * ((M 84 x2) - 100)) + (x2 % 61))) - 1) ≤ 2147483647) ∧ ax_J Y_X11_send (ax_Kv Y_X11_send SH post) 0 0 15 [(0, aR 61), (2, aI (M 83 x2))] [] SH (ax_up M 78 ((61 * ((M 84 x2) - 100)) + (x2 % 61)) ((M 78 ((61 * ((M 84 x2) - 100)) + (x2 % 61))) - 1))))) ∧ (((M 84 x2) < 100) → (-2147483648 ≤ (61 * (M 84 x2)) ∧ (61 * (M 84 x2)) ≤ 2147483647) ∧ (-2147483648 ≤ ((61 * (M 84 x2)) + ((M 83 x2) % 61)) ∧ ((61 * (M 84 x2)) + ((M 83 x2) % 61)) ≤ 2147483647) ∧ (0 ≤ ((61 * (M 84 x2)) + ((M 83 x2) % 61)) ∧ ((61 * (M 84 x2)) + ((M 83 x2) % 61)) < 2928) ∧ (-2147483648 ≤ ((M 78 ((61 * (M 84 x2)) + ((M 83 x2) % 61))) + 1) ∧ ((M 78 ((61 * (M 84 x2)) + ((M 83 x2) % 61))) + 1) ≤ 2147483647) ∧ ax_J Y_X11_send (ax_Kv Y_X11_send SH post) 0 0 15 [(0, aR 61), (2, aI (M 83 x2))] [] SH (ax_up M 78 ((61 * (M 84 x2)) + ((M 83 x2) % 61)) ((M 78 ((61 * (M 84 x2)) + ((M 83 x2) % 61))) + 1))))))) : ax_J Y_X11_send (ax_Kv Y_X11_send SH post) 0 0 15 [(0, aR 61), (2, aI x2)] [] SH M := by
  refine j_aload_n 0 dX11_send_15 rfl ?_
  refine j_getc 83 dX11_send_16 f_X11_84 sh_61 rfl ?_
  refine j_iload_n 1 dX11_send_19 rfl ?_
  obtain ⟨o1, h⟩ := h
  refine j_iald dX11_send_20 sh_83 o1.1 o1.2 (fun _ => ?_)
  refine j_if_lt (tgt := 137) dX11_send_21 (by decide) (fun c2 => ?_) (fun c2 => ?_)
  · replace h := h.1 c2
    refine j_aload_n 0 dX11_send_137 rfl ?_
    refine j_getc 81 dX11_send_138 f_X11_78 sh_61 rfl ?_
    refine j_iload_n 1 dX11_send_141 rfl ?_
    refine j_bipush (x := 61) dX11_send_142 rfl (i32_c rfl) ?_
    obtain ⟨o3, h⟩ := h
    refine j_idiv (z := (x2 / 61)) dX11_send_144 rfl o3 (by decide) ?_
    refine j_dup2 dX11_send_145 rfl rfl ?_
    obtain ⟨o4, h⟩ := h
    refine j_iald dX11_send_146 sh_81 o4.1 o4.2 (fun _ => ?_)
    refine j_iconst (x := 1) dX11_send_147 rfl (i32_c rfl) ?_
    obtain ⟨o5, h⟩ := h
    refine j_iadd (z := ((M 81 (x2 / 61)) + 1)) dX11_send_148 rfl o5 ?_
    refine j_iast dX11_send_149 sh_81 o4.1 o4.2 ?_
    exact j_vret dX11_send_150 rfl ⟨Nat.le_of_ble_eq_true rfl, Nat.le_of_ble_eq_true rfl⟩ h
  · replace h := h.2 c2
    refine j_aload_n 0 dX11_send_24 rfl ?_
    refine j_getc 83 dX11_send_25 f_X11_84 sh_61 rfl ?_
    refine j_iload_n 1 dX11_send_28 rfl ?_
    refine j_iald dX11_send_29 sh_83 o1.1 o1.2 (fun _ => ?_)
    refine j_istore_n (ll' := [(3, aI (M 83 x2)), (0, aR 61), (2, aI x2)]) dX11_send_30 (Nat.le_of_ble_eq_true rfl) rfl ?_
    refine j_aload_n 1 dX11_send_31 rfl ?_
    refine j_getc 84 dX11_send_32 f_X11_87 sh_61 rfl ?_
    refine j_iload_n 2 dX11_send_35 rfl ?_
    refine j_iald dX11_send_36 sh_84 o1.1 o1.2 (fun _ => ?_)
    refine j_istore (ll' := [(4, aI (M 84 x2)), (3, aI (M 83 x2)), (0, aR 61), (2, aI x2)]) dX11_send_37 (Nat.le_of_ble_eq_true rfl) rfl ?_
    refine j_iload 0 dX11_send_39 rfl ?_
    refine j_bipush (x := 100) dX11_send_41 rfl (i32_c rfl) ?_
    refine j_icmp_ge (tgt := 68) dX11_send_43 (by decide) (fun c6 => ?_) (fun c6 => ?_)
    · replace h := h.1 c6
      refine j_iload 0 dX11_send_68 rfl ?_
      refine j_sipush (x := 200) dX11_send_70 rfl (i32_c rfl) ?_
      refine j_icmp_ge (tgt := 101) dX11_send_73 (by decide) (fun c7 => ?_) (fun c7 => ?_)
      · replace h := h.1 c7
        refine j_iload 0 dX11_send_101 rfl ?_
        refine j_sipush (x := 200) dX11_send_103 rfl (i32_c rfl) ?_
        refine j_icmp_ne (tgt := 122) dX11_send_106 (by decide) (fun c8 => ?_) (fun c8 => ?_)
        · replace h := h.1 c8
          refine j_aload_n 2 dX11_send_122 rfl ?_
          refine j_getc 79 dX11_send_123 f_X11_72 sh_61 rfl ?_
          refine j_iload_n 3 dX11_send_126 rfl ?_
          refine j_dup2 dX11_send_127 rfl rfl ?_
          refine j_iald dX11_send_128 sh_79 o1.1 o1.2 (fun _ => ?_)
          refine j_iconst (x := 1) dX11_send_129 rfl (i32_c rfl) ?_
          obtain ⟨o9, h⟩ := h
          refine j_isub (z := ((M 79 x2) - 1)) dX11_send_130 rfl o9 ?_
          refine j_iast dX11_send_131 sh_79 o1.1 o1.2 ?_
          refine j_iload_n 1 dX11_send_132 rfl ?_
          refine j_istore_n (ll' := [(2, aI (M 83 x2)), (4, aI (M 84 x2)), (3, aI (M 83 x2)), (0, aR 61)]) dX11_send_133 (Nat.le_of_ble_eq_true rfl) rfl ?_
          refine j_goto (tgt := 15) dX11_send_134 (by decide) ?_
          refine j_sub [3, 0] rfl ?_
          exact h
        · replace h := h.2 c8
          refine j_aload_n 2 dX11_send_109 rfl ?_
          refine j_getc 79 dX11_send_110 f_X11_72 sh_61 rfl ?_
          refine j_iload_n 1 dX11_send_113 rfl ?_
          refine j_dup2 dX11_send_114 rfl rfl ?_
          obtain ⟨o10, h⟩ := h
          refine j_iald dX11_send_115 sh_79 o10.1 o10.2 (fun _ => ?_)
          refine j_iconst (x := 1) dX11_send_116 rfl (i32_c rfl) ?_
          obtain ⟨o11, h⟩ := h
          refine j_iadd (z := ((M 79 (M 83 x2)) + 1)) dX11_send_117 rfl o11 ?_
          refine j_iast dX11_send_118 sh_79 o10.1 o10.2 ?_
          refine j_goto (tgt := 132) dX11_send_119 (by decide) ?_
          refine j_iload_n 1 dX11_send_132 rfl ?_
          refine j_istore_n (ll' := [(2, aI (M 83 x2)), (4, aI (M 84 x2)), (3, aI (M 83 x2)), (0, aR 61)]) dX11_send_133 (Nat.le_of_ble_eq_true rfl) rfl ?_
          refine j_goto (tgt := 15) dX11_send_134 (by decide) ?_
          refine j_sub [3, 0] rfl ?_
          exact h
      · replace h := h.2 c7
        refine j_aload_n 2 dX11_send_76 rfl ?_
        refine j_getc 78 dX11_send_77 f_X11_69 sh_61 rfl ?_
        refine j_bipush (x := 61) dX11_send_80 rfl (i32_c rfl) ?_
        refine j_iload 0 dX11_send_82 rfl ?_
        refine j_bipush (x := 100) dX11_send_84 rfl (i32_c rfl) ?_
        obtain ⟨o12, h⟩ := h
        refine j_isub (z := ((M 84 x2) - 100)) dX11_send_86 rfl o12 ?_
        obtain ⟨o13, h⟩ := h
        refine j_imul (z := (61 * ((M 84 x2) - 100))) dX11_send_87 rfl o13 ?_
        refine j_iload_n 3 dX11_send_88 rfl ?_
        refine j_bipush (x := 61) dX11_send_89 rfl (i32_c rfl) ?_
        obtain ⟨o14, h⟩ := h
        refine j_irem (z := (x2 % 61)) dX11_send_91 rfl o14 (by decide) ?_
        obtain ⟨o15, h⟩ := h
        refine j_iadd (z := ((61 * ((M 84 x2) - 100)) + (x2 % 61))) dX11_send_92 rfl o15 ?_
        refine j_dup2 dX11_send_93 rfl rfl ?_
        obtain ⟨o16, h⟩ := h
        refine j_iald dX11_send_94 sh_78 o16.1 o16.2 (fun _ => ?_)
        refine j_iconst (x := 1) dX11_send_95 rfl (i32_c rfl) ?_
        obtain ⟨o17, h⟩ := h
        refine j_isub (z := ((M 78 ((61 * ((M 84 x2) - 100)) + (x2 % 61))) - 1)) dX11_send_96 rfl o17 ?_
        refine j_iast dX11_send_97 sh_78 o16.1 o16.2 ?_
        refine j_goto (tgt := 132) dX11_send_98 (by decide) ?_
        refine j_iload_n 1 dX11_send_132 rfl ?_
        refine j_istore_n (ll' := [(2, aI (M 83 x2)), (4, aI (M 84 x2)), (3, aI (M 83 x2)), (0, aR 61)]) dX11_send_133 (Nat.le_of_ble_eq_true rfl) rfl ?_
        refine j_goto (tgt := 15) dX11_send_134 (by decide) ?_
        refine j_sub [3, 0] rfl ?_
        exact h
    · replace h := h.2 c6
      refine j_aload_n 2 dX11_send_46 rfl ?_
      refine j_getc 78 dX11_send_47 f_X11_69 sh_61 rfl ?_
      refine j_bipush (x := 61) dX11_send_50 rfl (i32_c rfl) ?_
      refine j_iload 0 dX11_send_52 rfl ?_
      obtain ⟨o18, h⟩ := h
      refine j_imul (z := (61 * (M 84 x2))) dX11_send_54 rfl o18 ?_
      refine j_iload_n 1 dX11_send_55 rfl ?_
      refine j_bipush (x := 61) dX11_send_56 rfl (i32_c rfl) ?_
      refine j_irem (z := ((M 83 x2) % 61)) dX11_send_58 rfl c2 (by decide) ?_
      obtain ⟨o19, h⟩ := h
      refine j_iadd (z := ((61 * (M 84 x2)) + ((M 83 x2) % 61))) dX11_send_59 rfl o19 ?_
      refine j_dup2 dX11_send_60 rfl rfl ?_
      obtain ⟨o20, h⟩ := h
      refine j_iald dX11_send_61 sh_78 o20.1 o20.2 (fun _ => ?_)
      refine j_iconst (x := 1) dX11_send_62 rfl (i32_c rfl) ?_
      obtain ⟨o21, h⟩ := h
      refine j_iadd (z := ((M 78 ((61 * (M 84 x2)) + ((M 83 x2) % 61))) + 1)) dX11_send_63 rfl o21 ?_
      refine j_iast dX11_send_64 sh_78 o20.1 o20.2 ?_
      refine j_goto (tgt := 132) dX11_send_65 (by decide) ?_
      refine j_iload_n 1 dX11_send_132 rfl ?_
      refine j_istore_n (ll' := [(2, aI (M 83 x2)), (4, aI (M 84 x2)), (3, aI (M 83 x2)), (0, aR 61)]) dX11_send_133 (Nat.le_of_ble_eq_true rfl) rfl ?_
      refine j_goto (tgt := 15) dX11_send_134 (by decide) ?_
      refine j_sub [3, 0] rfl ?_
      exact h
set_option maxRecDepth 100000 in
set_option maxHeartbeats 4000000 in
theorem B_X11_bits_0 {post : Int → ax_M → Prop} {M : ax_M} {x0 : Int} (h : ax_J Y_X11_bits (ax_Ki Y_X11_bits SH post) 0 0 4 [(0, aI x0), (1, aI 0), (2, aI 0)] [] SH M) : ax_J Y_X11_bits (ax_Ki Y_X11_bits SH post) 0 0 0 [(0, aI x0)] [] SH M := by
  refine j_iconst (x := 0) dX11_bits_0 rfl (i32_c rfl) ?_
  refine j_istore_n (ll' := [(1, aI 0), (0, aI x0)]) dX11_bits_1 (Nat.le_of_ble_eq_true rfl) rfl ?_
  refine j_iconst (x := 0) dX11_bits_2 rfl (i32_c rfl) ?_
  refine j_istore_n (ll' := [(2, aI 0), (1, aI 0), (0, aI x0)]) dX11_bits_3 (Nat.le_of_ble_eq_true rfl) rfl ?_
  refine j_sub [2, 1, 0] rfl ?_
  exact h
theorem E_X11_bits {post : Int → ax_M → Prop} {M : ax_M} {x0 : Int} (h : ax_mr SH M → ax_J Y_X11_bits (ax_Ki Y_X11_bits SH post) 0 0 4 [(0, aI x0), (1, aI 0), (2, aI 0)] [] SH M) : ax_Ti Y_X11_bits [aI x0] SH M post :=
  ti_of rfl (Nat.le_of_ble_eq_true rfl) rfl (fun q => B_X11_bits_0 (h q))
set_option maxRecDepth 100000 in
set_option maxHeartbeats 4000000 in
theorem B_X11_bits_4 {post : Int → ax_M → Prop} {M : ax_M} {x0 x1 x2 : Int} (h : (((12 ≤ x2) → post x1 M) ∧ ((x2 < 12) → (-2147483648 ≤ (x1 + (bo_and (bo_shr x0 x2) 1)) ∧ (x1 + (bo_and (bo_shr x0 x2) 1)) ≤ 2147483647) ∧ (-2147483648 ≤ (x2 + 1) ∧ (x2 + 1) ≤ 2147483647) ∧ ax_J Y_X11_bits (ax_Ki Y_X11_bits SH post) 0 0 4 [(0, aI x0), (1, aI (x1 + (bo_and (bo_shr x0 x2) 1))), (2, aI (x2 + 1))] [] SH M))) : ax_J Y_X11_bits (ax_Ki Y_X11_bits SH post) 0 0 4 [(0, aI x0), (1, aI x1), (2, aI x2)] [] SH M := by
  refine j_iload_n 2 dX11_bits_4 rfl ?_
  refine j_bipush (x := 12) dX11_bits_5 rfl (i32_c rfl) ?_
  refine j_icmp_ge (tgt := 24) dX11_bits_7 (by decide) (fun c1 => ?_) (fun c1 => ?_)
  · replace h := h.1 c1
    refine j_iload_n 1 dX11_bits_24 rfl ?_
    exact j_iret dX11_bits_25 rfl ⟨Nat.le_of_ble_eq_true rfl, Nat.le_of_ble_eq_true rfl⟩ (fun _ => h)
  · replace h := h.2 c1
    refine j_iload_n 1 dX11_bits_10 rfl ?_
    refine j_iload_n 0 dX11_bits_11 rfl ?_
    refine j_iload_n 2 dX11_bits_12 rfl ?_
    refine j_ishr (z := (bo_shr x0 x2)) dX11_bits_13 rfl ?_
    refine j_iconst (x := 1) dX11_bits_14 rfl (i32_c rfl) ?_
    refine j_iand (z := (bo_and (bo_shr x0 x2) 1)) dX11_bits_15 rfl ?_
    obtain ⟨o2, h⟩ := h
    refine j_iadd (z := (x1 + (bo_and (bo_shr x0 x2) 1))) dX11_bits_16 rfl o2 ?_
    refine j_istore_n (ll' := [(1, aI (x1 + (bo_and (bo_shr x0 x2) 1))), (0, aI x0), (2, aI x2)]) dX11_bits_17 (Nat.le_of_ble_eq_true rfl) rfl ?_
    obtain ⟨o3, h⟩ := h
    refine j_iinc (ll' := [(2, aI (x2 + 1)), (1, aI (x1 + (bo_and (bo_shr x0 x2) 1))), (0, aI x0)]) 2 dX11_bits_18 rfl (Nat.le_of_ble_eq_true rfl) o3 rfl ?_
    refine j_goto (tgt := 4) dX11_bits_21 (by decide) ?_
    refine j_sub [2, 1, 0] rfl ?_
    exact h
set_option maxRecDepth 100000 in
set_option maxHeartbeats 4000000 in
theorem B_X11_nextOrder_0 {post : Int → ax_M → Prop} {M : ax_M} (h : (-2147483648 ≤ ((M 61 47) - 2) ∧ ((M 61 47) - 2) ≤ 2147483647) ∧ ax_J Y_X11_nextOrder (ax_Ki Y_X11_nextOrder SH post) 0 0 7 [(0, aR 61), (1, aI ((M 61 47) - 2))] [] SH M) : ax_J Y_X11_nextOrder (ax_Ki Y_X11_nextOrder SH post) 0 0 0 [(0, aR 61)] [] SH M := by
  refine j_aload_n 0 dX11_nextOrder_0 rfl ?_
  refine j_geti (i := 47) dX11_nextOrder_1 f_X11_340 sh_61 rfl rfl (fun _ => ?_)
  refine j_iconst (x := 2) dX11_nextOrder_4 rfl (i32_c rfl) ?_
  obtain ⟨o1, h⟩ := h
  refine j_isub (z := ((M 61 47) - 2)) dX11_nextOrder_5 rfl o1 ?_
  refine j_istore_n (ll' := [(1, aI ((M 61 47) - 2)), (0, aR 61)]) dX11_nextOrder_6 (Nat.le_of_ble_eq_true rfl) rfl ?_
  refine j_sub [1, 0] rfl ?_
  exact h
theorem E_X11_nextOrder {post : Int → ax_M → Prop} {M : ax_M} (h : ax_mr SH M → (-2147483648 ≤ ((M 61 47) - 2) ∧ ((M 61 47) - 2) ≤ 2147483647) ∧ ax_J Y_X11_nextOrder (ax_Ki Y_X11_nextOrder SH post) 0 0 7 [(0, aR 61), (1, aI ((M 61 47) - 2))] [] SH M) : ax_Ti Y_X11_nextOrder [aR 61] SH M post :=
  ti_of rfl (Nat.le_of_ble_eq_true rfl) rfl (fun q => B_X11_nextOrder_0 (h q))
set_option maxRecDepth 100000 in
set_option maxHeartbeats 4000000 in
theorem B_X11_nextOrder_7 {post : Int → ax_M → Prop} {M : ax_M} {x1 : Int} (h : (((x1 < 0) → post 0 M) ∧ ((0 ≤ x1) → (0 ≤ x1 ∧ x1 < 6) ∧ (-2147483648 ≤ (x1 + 1) ∧ (x1 + 1) ≤ 2147483647) ∧ (0 ≤ (x1 + 1) ∧ (x1 + 1) < 6) ∧ ((((M 88 x1) ≤ (M 88 (x1 + 1))) → (-2147483648 ≤ ((M 61 47) - 1) ∧ ((M 61 47) - 1) ≤ 2147483647) ∧ ax_J Y_X11_nextOrder (ax_Ki Y_X11_nextOrder SH post) 0 0 47 [(0, aR 61), (1, aI x1), (2, aI ((M 61 47) - 1))] [] SH M) ∧ (((M 88 (x1 + 1)) < (M 88 x1)) → (-2147483648 ≤ (x1 + (-1)) ∧ (x1 + (-1)) ≤ 2147483647) ∧ ax_J Y_X11_nextOrder (ax_Ki Y_X11_nextOrder SH post) 0 0 7 [(0, aR 61), (1, aI (x1 + (-1)))] [] SH M))))) : ax_J Y_X11_nextOrder (ax_Ki Y_X11_nextOrder SH post) 0 0 7 [(0, aR 61), (1, aI x1)] [] SH M := by
  refine j_iload_n 1 dX11_nextOrder_7 rfl ?_
  refine j_if_lt (tgt := 34) dX11_nextOrder_8 (by decide) (fun c1 => ?_) (fun c1 => ?_)
  · replace h := h.1 c1
    refine j_iload_n 1 dX11_nextOrder_34 rfl ?_
    refine j_if_ge (tgt := 40) dX11_nextOrder_35 (by decide) (fun c => by have := c1; omega) (fun _ => ?_)
    refine j_iconst (x := 0) dX11_nextOrder_38 rfl (i32_c rfl) ?_
    exact j_zret dX11_nextOrder_39 rfl ⟨Nat.le_of_ble_eq_true rfl, Nat.le_of_ble_eq_true rfl⟩ (by decide) h
  · replace h := h.2 c1
    refine j_aload_n 0 dX11_nextOrder_11 rfl ?_
    refine j_getc 88 dX11_nextOrder_12 f_X11_99 sh_61 rfl ?_
    refine j_iload_n 1 dX11_nextOrder_15 rfl ?_
    obtain ⟨o2, h⟩ := h
    refine j_iald dX11_nextOrder_16 sh_88 o2.1 o2.2 (fun _ => ?_)
    refine j_aload_n 0 dX11_nextOrder_17 rfl ?_
    refine j_getc 88 dX11_nextOrder_18 f_X11_99 sh_61 rfl ?_
    refine j_iload_n 1 dX11_nextOrder_21 rfl ?_
    refine j_iconst (x := 1) dX11_nextOrder_22 rfl (i32_c rfl) ?_
    obtain ⟨o3, h⟩ := h
    refine j_iadd (z := (x1 + 1)) dX11_nextOrder_23 rfl o3 ?_
    obtain ⟨o4, h⟩ := h
    refine j_iald dX11_nextOrder_24 sh_88 o4.1 o4.2 (fun _ => ?_)
    refine j_icmp_le (tgt := 34) dX11_nextOrder_25 (by decide) (fun c5 => ?_) (fun c5 => ?_)
    · replace h := h.1 c5
      refine j_iload_n 1 dX11_nextOrder_34 rfl ?_
      refine j_if_ge (tgt := 40) dX11_nextOrder_35 (by decide) (fun _ => ?_) (fun c => by have := c1; omega)
      refine j_aload_n 0 dX11_nextOrder_40 rfl ?_
      refine j_geti (i := 47) dX11_nextOrder_41 f_X11_340 sh_61 rfl rfl (fun _ => ?_)
      refine j_iconst (x := 1) dX11_nextOrder_44 rfl (i32_c rfl) ?_
      obtain ⟨o6, h⟩ := h
      refine j_isub (z := ((M 61 47) - 1)) dX11_nextOrder_45 rfl o6 ?_
      refine j_istore_n (ll' := [(2, aI ((M 61 47) - 1)), (0, aR 61), (1, aI x1)]) dX11_nextOrder_46 (Nat.le_of_ble_eq_true rfl) rfl ?_
      refine j_sub [1, 2, 0] rfl ?_
      exact h
    · replace h := h.2 c5
      obtain ⟨o7, h⟩ := h
      refine j_iinc (ll' := [(1, aI (x1 + (-1))), (0, aR 61)]) 1 dX11_nextOrder_28 rfl (Nat.le_of_ble_eq_true rfl) o7 rfl ?_
      refine j_goto (tgt := 7) dX11_nextOrder_31 (by decide) ?_
      refine j_sub [1, 0] rfl ?_
      exact h
set_option maxRecDepth 100000 in
set_option maxHeartbeats 4000000 in
theorem B_X11_nextOrder_47 {post : Int → ax_M → Prop} {M : ax_M} {x1 x2 : Int} (h : (0 ≤ x2 ∧ x2 < 6) ∧ (0 ≤ x1 ∧ x1 < 6) ∧ ((((M 88 x1) ≤ (M 88 x2)) → (-2147483648 ≤ (x1 + 1) ∧ (x1 + 1) ≤ 2147483647) ∧ (-2147483648 ≤ ((M 61 47) - 1) ∧ ((M 61 47) - 1) ≤ 2147483647) ∧ ax_J Y_X11_nextOrder (ax_Ki Y_X11_nextOrder SH post) 0 0 107 [(0, aR 61), (4, aI (x1 + 1)), (5, aI ((M 61 47) - 1))] [] SH (ax_up (ax_up M 88 x1 (M 88 x2)) 88 x2 (M 88 x1))) ∧ (((M 88 x2) < (M 88 x1)) → (-2147483648 ≤ (x2 + (-1)) ∧ (x2 + (-1)) ≤ 2147483647) ∧ ax_J Y_X11_nextOrder (ax_Ki Y_X11_nextOrder SH post) 0 0 47 [(0, aR 61), (1, aI x1), (2, aI (x2 + (-1)))] [] SH M))) : ax_J Y_X11_nextOrder (ax_Ki Y_X11_nextOrder SH post) 0 0 47 [(0, aR 61), (1, aI x1), (2, aI x2)] [] SH M := by
  refine j_aload_n 0 dX11_nextOrder_47 rfl ?_
  refine j_getc 88 dX11_nextOrder_48 f_X11_99 sh_61 rfl ?_
  refine j_iload_n 2 dX11_nextOrder_51 rfl ?_
  obtain ⟨o1, h⟩ := h
  refine j_iald dX11_nextOrder_52 sh_88 o1.1 o1.2 (fun _ => ?_)
  refine j_aload_n 0 dX11_nextOrder_53 rfl ?_
  refine j_getc 88 dX11_nextOrder_54 f_X11_99 sh_61 rfl ?_
  refine j_iload_n 1 dX11_nextOrder_57 rfl ?_
  obtain ⟨o2, h⟩ := h
  refine j_iald dX11_nextOrder_58 sh_88 o2.1 o2.2 (fun _ => ?_)
  refine j_icmp_ge (tgt := 68) dX11_nextOrder_59 (by decide) (fun c3 => ?_) (fun c3 => ?_)
  · replace h := h.1 c3
    refine j_aload_n 0 dX11_nextOrder_68 rfl ?_
    refine j_getc 88 dX11_nextOrder_69 f_X11_99 sh_61 rfl ?_
    refine j_iload_n 1 dX11_nextOrder_72 rfl ?_
    refine j_iald dX11_nextOrder_73 sh_88 o2.1 o2.2 (fun _ => ?_)
    refine j_istore_n (ll' := [(3, aI (M 88 x1)), (0, aR 61), (1, aI x1), (2, aI x2)]) dX11_nextOrder_74 (Nat.le_of_ble_eq_true rfl) rfl ?_
    refine j_aload_n 1 dX11_nextOrder_75 rfl ?_
    refine j_getc 88 dX11_nextOrder_76 f_X11_99 sh_61 rfl ?_
    refine j_iload_n 2 dX11_nextOrder_79 rfl ?_
    refine j_aload_n 1 dX11_nextOrder_80 rfl ?_
    refine j_getc 88 dX11_nextOrder_81 f_X11_99 sh_61 rfl ?_
    refine j_iload_n 3 dX11_nextOrder_84 rfl ?_
    refine j_iald dX11_nextOrder_85 sh_88 o1.1 o1.2 (fun _ => ?_)
    refine j_iast dX11_nextOrder_86 sh_88 o2.1 o2.2 ?_
    refine j_aload_n 1 dX11_nextOrder_87 rfl ?_
    refine j_getc 88 dX11_nextOrder_88 f_X11_99 sh_61 rfl ?_
    refine j_iload_n 3 dX11_nextOrder_91 rfl ?_
    refine j_iload_n 0 dX11_nextOrder_92 rfl ?_
    refine j_iast dX11_nextOrder_93 sh_88 o1.1 o1.2 ?_
    refine j_iload_n 2 dX11_nextOrder_94 rfl ?_
    refine j_iconst (x := 1) dX11_nextOrder_95 rfl (i32_c rfl) ?_
    obtain ⟨o4, h⟩ := h
    refine j_iadd (z := (x1 + 1)) dX11_nextOrder_96 rfl o4 ?_
    refine j_istore (ll' := [(4, aI (x1 + 1)), (3, aI (M 88 x1)), (0, aR 61), (1, aI x1), (2, aI x2)]) dX11_nextOrder_97 (Nat.le_of_ble_eq_true rfl) rfl ?_
    refine j_aload_n 2 dX11_nextOrder_99 rfl ?_
    refine j_geti (i := 47) dX11_nextOrder_100 f_X11_340 sh_61 rfl rfl (fun _ => ?_)
    refine j_iconst (x := 1) dX11_nextOrder_103 rfl (i32_c rfl) ?_
    obtain ⟨o5, h⟩ := h
    refine j_isub (z := ((M 61 47) - 1)) dX11_nextOrder_104 rfl o5 ?_
    refine j_istore (ll' := [(5, aI ((M 61 47) - 1)), (4, aI (x1 + 1)), (3, aI (M 88 x1)), (0, aR 61), (1, aI x1), (2, aI x2)]) dX11_nextOrder_105 (Nat.le_of_ble_eq_true rfl) rfl ?_
    refine j_sub [3, 1, 0] rfl ?_
    exact h
  · replace h := h.2 c3
    obtain ⟨o6, h⟩ := h
    refine j_iinc (ll' := [(2, aI (x2 + (-1))), (0, aR 61), (1, aI x1)]) 2 dX11_nextOrder_62 rfl (Nat.le_of_ble_eq_true rfl) o6 rfl ?_
    refine j_goto (tgt := 47) dX11_nextOrder_65 (by decide) ?_
    refine j_sub [1, 2, 0] rfl ?_
    exact h
set_option maxRecDepth 100000 in
set_option maxHeartbeats 4000000 in
theorem B_X11_nextOrder_107 {post : Int → ax_M → Prop} {M : ax_M} {x4 x5 : Int} (h : (((x5 ≤ x4) → post 1 M) ∧ ((x4 < x5) → (0 ≤ x4 ∧ x4 < 6) ∧ (0 ≤ x5 ∧ x5 < 6) ∧ (-2147483648 ≤ (x4 + 1) ∧ (x4 + 1) ≤ 2147483647) ∧ (-2147483648 ≤ (x5 + (-1)) ∧ (x5 + (-1)) ≤ 2147483647) ∧ ax_J Y_X11_nextOrder (ax_Ki Y_X11_nextOrder SH post) 0 0 107 [(0, aR 61), (4, aI (x4 + 1)), (5, aI (x5 + (-1)))] [] SH (ax_up (ax_up M 88 x4 (M 88 x5)) 88 x5 (M 88 x4))))) : ax_J Y_X11_nextOrder (ax_Ki Y_X11_nextOrder SH post) 0 0 107 [(0, aR 61), (4, aI x4), (5, aI x5)] [] SH M := by
  refine j_iload 1 dX11_nextOrder_107 rfl ?_
  refine j_iload 2 dX11_nextOrder_109 rfl ?_
  refine j_icmp_ge (tgt := 155) dX11_nextOrder_111 (by decide) (fun c1 => ?_) (fun c1 => ?_)
  · replace h := h.1 c1
    refine j_iconst (x := 1) dX11_nextOrder_155 rfl (i32_c rfl) ?_
    exact j_zret dX11_nextOrder_156 rfl ⟨Nat.le_of_ble_eq_true rfl, Nat.le_of_ble_eq_true rfl⟩ (by decide) h
  · replace h := h.2 c1
    refine j_aload_n 0 dX11_nextOrder_114 rfl ?_
    refine j_getc 88 dX11_nextOrder_115 f_X11_99 sh_61 rfl ?_
    refine j_iload 1 dX11_nextOrder_118 rfl ?_
    obtain ⟨o2, h⟩ := h
    refine j_iald dX11_nextOrder_120 sh_88 o2.1 o2.2 (fun _ => ?_)
    refine j_istore (ll' := [(6, aI (M 88 x4)), (0, aR 61), (4, aI x4), (5, aI x5)]) dX11_nextOrder_121 (Nat.le_of_ble_eq_true rfl) rfl ?_
    refine j_aload_n 1 dX11_nextOrder_123 rfl ?_
    refine j_getc 88 dX11_nextOrder_124 f_X11_99 sh_61 rfl ?_
    refine j_iload 2 dX11_nextOrder_127 rfl ?_
    refine j_aload_n 1 dX11_nextOrder_129 rfl ?_
    refine j_getc 88 dX11_nextOrder_130 f_X11_99 sh_61 rfl ?_
    refine j_iload 3 dX11_nextOrder_133 rfl ?_
    obtain ⟨o3, h⟩ := h
    refine j_iald dX11_nextOrder_135 sh_88 o3.1 o3.2 (fun _ => ?_)
    refine j_iast dX11_nextOrder_136 sh_88 o2.1 o2.2 ?_
    refine j_aload_n 1 dX11_nextOrder_137 rfl ?_
    refine j_getc 88 dX11_nextOrder_138 f_X11_99 sh_61 rfl ?_
    refine j_iload 3 dX11_nextOrder_141 rfl ?_
    refine j_iload 0 dX11_nextOrder_143 rfl ?_
    refine j_iast dX11_nextOrder_145 sh_88 o3.1 o3.2 ?_
    obtain ⟨o4, h⟩ := h
    refine j_iinc (ll' := [(4, aI (x4 + 1)), (6, aI (M 88 x4)), (0, aR 61), (5, aI x5)]) 2 dX11_nextOrder_146 rfl (Nat.le_of_ble_eq_true rfl) o4 rfl ?_
    obtain ⟨o5, h⟩ := h
    refine j_iinc (ll' := [(5, aI (x5 + (-1))), (4, aI (x4 + 1)), (6, aI (M 88 x4)), (0, aR 61)]) 3 dX11_nextOrder_149 rfl (Nat.le_of_ble_eq_true rfl) o5 rfl ?_
    refine j_goto (tgt := 107) dX11_nextOrder_152 (by decide) ?_
    refine j_sub [3, 1, 0] rfl ?_
    exact h
set_option maxRecDepth 100000 in
set_option maxHeartbeats 4000000 in
theorem B_X11_tellRow_0 {post : Int → ax_M → Prop} {M : ax_M} {x1 x2 x3 : Int} (h : (0 ≤ x1 ∧ x1 < 8) ∧ ax_J Y_X11_tellRow (ax_Ki Y_X11_tellRow SH post) 0 0 17 [(0, aR 61), (1, aI x1), (2, aI x2), (4, aI (M 72 x1)), (5, aI x3), (6, aI 0), (7, aI 0)] [] SH M) : ax_J Y_X11_tellRow (ax_Ki Y_X11_tellRow SH post) 0 0 0 [(0, aR 61), (1, aI x1), (2, aI x2), (3, aI x3)] [] SH M := by
  refine j_aload_n 0 dX11_tellRow_0 rfl ?_
  refine j_getc 72 dX11_tellRow_1 f_X11_48 sh_61 rfl ?_
  refine j_iload_n 1 dX11_tellRow_4 rfl ?_
  obtain ⟨o1, h⟩ := h
  refine j_iald dX11_tellRow_5 sh_72 o1.1 o1.2 (fun _ => ?_)
  refine j_istore (ll' := [(4, aI (M 72 x1)), (0, aR 61), (1, aI x1), (2, aI x2), (3, aI x3)]) dX11_tellRow_6 (Nat.le_of_ble_eq_true rfl) rfl ?_
  refine j_iload_n 4 dX11_tellRow_8 rfl ?_
  refine j_istore (ll' := [(5, aI x3), (4, aI (M 72 x1)), (0, aR 61), (1, aI x1), (2, aI x2), (3, aI x3)]) dX11_tellRow_9 (Nat.le_of_ble_eq_true rfl) rfl ?_
  refine j_iconst (x := 0) dX11_tellRow_11 rfl (i32_c rfl) ?_
  refine j_istore (ll' := [(6, aI 0), (5, aI x3), (4, aI (M 72 x1)), (0, aR 61), (1, aI x1), (2, aI x2), (3, aI x3)]) dX11_tellRow_12 (Nat.le_of_ble_eq_true rfl) rfl ?_
  refine j_iconst (x := 0) dX11_tellRow_14 rfl (i32_c rfl) ?_
  refine j_istore (ll' := [(7, aI 0), (6, aI 0), (5, aI x3), (4, aI (M 72 x1)), (0, aR 61), (1, aI x1), (2, aI x2), (3, aI x3)]) dX11_tellRow_15 (Nat.le_of_ble_eq_true rfl) rfl ?_
  refine j_sub [4, 5, 6, 3, 2, 1, 0] rfl ?_
  exact h
theorem E_X11_tellRow {post : Int → ax_M → Prop} {M : ax_M} {x1 x2 x3 : Int} (h : ax_mr SH M → (0 ≤ x1 ∧ x1 < 8) ∧ ax_J Y_X11_tellRow (ax_Ki Y_X11_tellRow SH post) 0 0 17 [(0, aR 61), (1, aI x1), (2, aI x2), (4, aI (M 72 x1)), (5, aI x3), (6, aI 0), (7, aI 0)] [] SH M) : ax_Ti Y_X11_tellRow [aR 61, aI x1, aI x2, aI x3] SH M post :=
  ti_of rfl (Nat.le_of_ble_eq_true rfl) rfl (fun q => B_X11_tellRow_0 (h q))
set_option maxRecDepth 100000 in
set_option maxHeartbeats 4000000 in
theorem B_X11_tellRow_17 {post : Int → ax_M → Prop} {M : ax_M} {x1 x2 x4 x5 x6 x7 : Int} (h : ((((M 61 47) ≤ x7) → (((x5 < 0) → post (-1) M) ∧ ((0 ≤ x5) → (0 ≤ x1 ∧ x1 < 8) ∧ ax_Ti Y_X11_comes [aR 61, aI x4, aI (M 61 1), aI x5, aI x2, aI (M 74 x1)] SH M (fun z2 u1 => (((z2 < 0) → post (-1) u1) ∧ ((0 ≤ z2) → post x6 u1)))))) ∧ ((x7 < (M 61 47)) → (((x5 < 0) → post (-1) M) ∧ ((0 ≤ x5) → (0 ≤ x7 ∧ x7 < 6) ∧ (0 ≤ x1 ∧ x1 < 8) ∧ ax_Ti Y_X11_comes [aR 61, aI x4, aI (M 88 x7), aI x5, aI x2, aI (M 74 x1)] SH M (fun z4 u3 => (((0 ≤ z4) → ax_Ti Y_X11_toldAt [aR 61, aI (u3 88 x7), aI z4] SH u3 (fun z6 u5 => (-2147483648 ≤ (x6 + z6) ∧ (x6 + z6) ≤ 2147483647) ∧ (-2147483648 ≤ (x7 + 1) ∧ (x7 + 1) ≤ 2147483647) ∧ ax_J Y_X11_tellRow (ax_Ki Y_X11_tellRow SH post) 0 0 17 [(0, aR 61), (1, aI x1), (2, aI x2), (4, aI (u3 88 x7)), (5, aI z4), (6, aI (x6 + z6)), (7, aI (x7 + 1))] [] SH u5)) ∧ ((z4 < 0) → (-2147483648 ≤ (x6 + 0) ∧ (x6 + 0) ≤ 2147483647) ∧ (-2147483648 ≤ (x7 + 1) ∧ (x7 + 1) ≤ 2147483647) ∧ ax_J Y_X11_tellRow (ax_Ki Y_X11_tellRow SH post) 0 0 17 [(0, aR 61), (1, aI x1), (2, aI x2), (4, aI (u3 88 x7)), (5, aI z4), (6, aI (x6 + 0)), (7, aI (x7 + 1))] [] SH u3)))))))) : ax_J Y_X11_tellRow (ax_Ki Y_X11_tellRow SH post) 0 0 17 [(0, aR 61), (1, aI x1), (2, aI x2), (4, aI x4), (5, aI x5), (6, aI x6), (7, aI x7)] [] SH M := by
  refine j_iload 6 dX11_tellRow_17 rfl ?_
  refine j_aload_n 0 dX11_tellRow_19 rfl ?_
  refine j_geti (i := 47) dX11_tellRow_20 f_X11_340 sh_61 rfl rfl (fun _ => ?_)
  refine j_icmp_ge (tgt := 92) dX11_tellRow_23 (by decide) (fun c1 => ?_) (fun c1 => ?_)
  · replace h := h.1 c1
    refine j_iload 4 dX11_tellRow_92 rfl ?_
    refine j_if_lt (tgt := 124) dX11_tellRow_94 (by decide) (fun c2 => ?_) (fun c2 => ?_)
    · replace h := h.1 c2
      refine j_iconst (x := (-1)) dX11_tellRow_124 rfl (i32_c rfl) ?_
      exact j_iret dX11_tellRow_125 rfl ⟨Nat.le_of_ble_eq_true rfl, Nat.le_of_ble_eq_true rfl⟩ (fun _ => h)
    · replace h := h.2 c2
      refine j_aload_n 0 dX11_tellRow_97 rfl ?_
      refine j_iload 3 dX11_tellRow_98 rfl ?_
      refine j_aload_n 0 dX11_tellRow_100 rfl ?_
      refine j_geti (i := 1) dX11_tellRow_101 f_X11_9 sh_61 rfl rfl (fun _ => ?_)
      refine j_iload 4 dX11_tellRow_104 rfl ?_
      refine j_iload_n 2 dX11_tellRow_106 rfl ?_
      refine j_aload_n 0 dX11_tellRow_107 rfl ?_
      refine j_getc 74 dX11_tellRow_108 f_X11_54 sh_61 rfl ?_
      refine j_iload_n 1 dX11_tellRow_111 rfl ?_
      obtain ⟨o3, h⟩ := h
      refine j_zald dX11_tellRow_112 sh_74 o3.1 o3.2 (fun _ => ?_)
      refine j_calliV (Yc := Y_X11_comes) (as := [aI x4, aI (M 61 1), aI x5, aI x2, aI (M 74 x1)]) (rest := []) dX11_tellRow_113 q_X11_287 ⟨Nat.le_of_ble_eq_true rfl, Nat.le_of_ble_eq_true rfl, Nat.le_of_ble_eq_true rfl, Nat.le_of_ble_eq_true rfl⟩ sh_61 rfl (Nat.le_of_ble_eq_true rfl) rfl (ti_mono h (fun z2 u1 h => ?_))
      refine j_if_lt (tgt := 124) dX11_tellRow_116 (by decide) (fun c4 => ?_) (fun c4 => ?_)
      · replace h := h.1 c4
        refine j_iconst (x := (-1)) dX11_tellRow_124 rfl (i32_c rfl) ?_
        exact j_iret dX11_tellRow_125 rfl ⟨Nat.le_of_ble_eq_true rfl, Nat.le_of_ble_eq_true rfl⟩ (fun _ => h)
      · replace h := h.2 c4
        refine j_iload 5 dX11_tellRow_119 rfl ?_
        refine j_goto (tgt := 125) dX11_tellRow_121 (by decide) ?_
        exact j_iret dX11_tellRow_125 rfl ⟨Nat.le_of_ble_eq_true rfl, Nat.le_of_ble_eq_true rfl⟩ (fun _ => h)
  · replace h := h.2 c1
    refine j_iload 4 dX11_tellRow_26 rfl ?_
    refine j_if_lt (tgt := 92) dX11_tellRow_28 (by decide) (fun c5 => ?_) (fun c5 => ?_)
    · replace h := h.1 c5
      refine j_iload 4 dX11_tellRow_92 rfl ?_
      refine j_if_lt (tgt := 124) dX11_tellRow_94 (by decide) (fun _ => ?_) (fun c => by have := c5; omega)
      refine j_iconst (x := (-1)) dX11_tellRow_124 rfl (i32_c rfl) ?_
      exact j_iret dX11_tellRow_125 rfl ⟨Nat.le_of_ble_eq_true rfl, Nat.le_of_ble_eq_true rfl⟩ (fun _ => h)
    · replace h := h.2 c5
      refine j_aload_n 0 dX11_tellRow_31 rfl ?_
      refine j_iload 3 dX11_tellRow_32 rfl ?_
      refine j_aload_n 0 dX11_tellRow_34 rfl ?_
      refine j_getc 88 dX11_tellRow_35 f_X11_99 sh_61 rfl ?_
      refine j_iload 6 dX11_tellRow_38 rfl ?_
      obtain ⟨o6, h⟩ := h
      refine j_iald dX11_tellRow_40 sh_88 o6.1 o6.2 (fun _ => ?_)
      refine j_iload 4 dX11_tellRow_41 rfl ?_
      refine j_iload_n 2 dX11_tellRow_43 rfl ?_
      refine j_aload_n 0 dX11_tellRow_44 rfl ?_
      refine j_getc 74 dX11_tellRow_45 f_X11_54 sh_61 rfl ?_
      refine j_iload_n 1 dX11_tellRow_48 rfl ?_
      obtain ⟨o7, h⟩ := h
      refine j_zald dX11_tellRow_49 sh_74 o7.1 o7.2 (fun _ => ?_)
      refine j_calliV (Yc := Y_X11_comes) (as := [aI x4, aI (M 88 x7), aI x5, aI x2, aI (M 74 x1)]) (rest := []) dX11_tellRow_50 q_X11_287 ⟨Nat.le_of_ble_eq_true rfl, Nat.le_of_ble_eq_true rfl, Nat.le_of_ble_eq_true rfl, Nat.le_of_ble_eq_true rfl⟩ sh_61 rfl (Nat.le_of_ble_eq_true rfl) rfl (ti_mono h (fun z4 u3 h => ?_))
      refine j_istore (ll' := [(5, aI z4), (0, aR 61), (1, aI x1), (2, aI x2), (4, aI x4), (6, aI x6), (7, aI x7)]) dX11_tellRow_53 (Nat.le_of_ble_eq_true rfl) rfl ?_
      refine j_aload_n 1 dX11_tellRow_55 rfl ?_
      refine j_getc 88 dX11_tellRow_56 f_X11_99 sh_61 rfl ?_
      refine j_iload 6 dX11_tellRow_59 rfl ?_
      refine j_iald dX11_tellRow_61 sh_88 o6.1 o6.2 (fun _ => ?_)
      refine j_istore (ll' := [(4, aI (u3 88 x7)), (5, aI z4), (0, aR 61), (1, aI x1), (2, aI x2), (6, aI x6), (7, aI x7)]) dX11_tellRow_62 (Nat.le_of_ble_eq_true rfl) rfl ?_
      refine j_iload 5 dX11_tellRow_64 rfl ?_
      refine j_iload 1 dX11_tellRow_66 rfl ?_
      refine j_if_ge (tgt := 75) dX11_tellRow_68 (by decide) (fun c8 => ?_) (fun c8 => ?_)
      · replace h := h.1 c8
        refine j_aload_n 2 dX11_tellRow_75 rfl ?_
        refine j_iload 0 dX11_tellRow_76 rfl ?_
        refine j_iload 1 dX11_tellRow_78 rfl ?_
        refine j_calliV (Yc := Y_X11_toldAt) (as := [aI (u3 88 x7), aI z4]) (rest := [aI x6]) dX11_tellRow_80 q_X11_343 ⟨Nat.le_of_ble_eq_true rfl, Nat.le_of_ble_eq_true rfl, Nat.le_of_ble_eq_true rfl, Nat.le_of_ble_eq_true rfl⟩ sh_61 rfl (Nat.le_of_ble_eq_true rfl) rfl (ti_mono h (fun z6 u5 h => ?_))
        obtain ⟨o9, h⟩ := h
        refine j_iadd (z := (x6 + z6)) dX11_tellRow_83 rfl o9 ?_
        refine j_istore (ll' := [(6, aI (x6 + z6)), (4, aI (u3 88 x7)), (5, aI z4), (0, aR 61), (1, aI x1), (2, aI x2), (7, aI x7)]) dX11_tellRow_84 (Nat.le_of_ble_eq_true rfl) rfl ?_
        obtain ⟨o10, h⟩ := h
        refine j_iinc (ll' := [(7, aI (x7 + 1)), (6, aI (x6 + z6)), (4, aI (u3 88 x7)), (5, aI z4), (0, aR 61), (1, aI x1), (2, aI x2)]) 6 dX11_tellRow_86 rfl (Nat.le_of_ble_eq_true rfl) o10 rfl ?_
        refine j_goto (tgt := 17) dX11_tellRow_89 (by decide) ?_
        refine j_sub [4, 5, 6, 2, 3, 1, 0] rfl ?_
        exact h
      · replace h := h.2 c8
        refine j_iconst (x := 0) dX11_tellRow_71 rfl (i32_c rfl) ?_
        refine j_goto (tgt := 83) dX11_tellRow_72 (by decide) ?_
        obtain ⟨o11, h⟩ := h
        refine j_iadd (z := (x6 + 0)) dX11_tellRow_83 rfl o11 ?_
        refine j_istore (ll' := [(6, aI (x6 + 0)), (4, aI (u3 88 x7)), (5, aI z4), (0, aR 61), (1, aI x1), (2, aI x2), (7, aI x7)]) dX11_tellRow_84 (Nat.le_of_ble_eq_true rfl) rfl ?_
        obtain ⟨o12, h⟩ := h
        refine j_iinc (ll' := [(7, aI (x7 + 1)), (6, aI (x6 + 0)), (4, aI (u3 88 x7)), (5, aI z4), (0, aR 61), (1, aI x1), (2, aI x2)]) 6 dX11_tellRow_86 rfl (Nat.le_of_ble_eq_true rfl) o12 rfl ?_
        refine j_goto (tgt := 17) dX11_tellRow_89 (by decide) ?_
        refine j_sub [4, 5, 6, 2, 3, 1, 0] rfl ?_
        exact h
set_option maxRecDepth 100000 in
set_option maxHeartbeats 4000000 in
theorem B_X11_through_0 {post : Int → ax_M → Prop} {M : ax_M} {x1 x2 x3 x4 : Int} (h : (0 ≤ x1 ∧ x1 < 24) ∧ ((((M 69 x1) = 0) → (((x4 = 0) → ax_J Y_X11_through (ax_Ki Y_X11_through SH post) 0 0 22 [(0, aR 61), (1, aI x1), (2, aI x2), (3, aI x3), (4, aI x4)] [aI 1, aI x2] SH M) ∧ ((¬ x4 = 0) → ax_J Y_X11_through (ax_Ki Y_X11_through SH post) 0 0 22 [(0, aR 61), (1, aI x1), (2, aI x2), (3, aI x3), (4, aI x4)] [aI 2, aI x2] SH M))) ∧ ((¬ (M 69 x1) = 0) → post (-1) M))) : ax_J Y_X11_through (ax_Ki Y_X11_through SH post) 0 0 0 [(0, aR 61), (1, aI x1), (2, aI x2), (3, aI x3), (4, aI x4)] [] SH M := by
  refine j_aload_n 0 dX11_through_0 rfl ?_
  refine j_getc 69 dX11_through_1 f_X11_35 sh_61 rfl ?_
  refine j_iload_n 1 dX11_through_4 rfl ?_
  obtain ⟨o1, h⟩ := h
  refine j_zald dX11_through_5 sh_69 o1.1 o1.2 (fun _ => ?_)
  refine j_if_eq (tgt := 11) dX11_through_6 (by decide) (fun c2 => ?_) (fun c2 => ?_)
  · replace h := h.1 c2
    refine j_iload_n 2 dX11_through_11 rfl ?_
    refine j_iload 4 dX11_through_12 rfl ?_
    refine j_if_eq (tgt := 21) dX11_through_14 (by decide) (fun c3 => ?_) (fun c3 => ?_)
    · replace h := h.1 c3
      refine j_iconst (x := 1) dX11_through_21 rfl (i32_c rfl) ?_
      exact h
    · replace h := h.2 c3
      refine j_iconst (x := 2) dX11_through_17 rfl (i32_c rfl) ?_
      refine j_goto (tgt := 22) dX11_through_18 (by decide) ?_
      exact h
  · replace h := h.2 c2
    refine j_iconst (x := (-1)) dX11_through_9 rfl (i32_c rfl) ?_
    exact j_iret dX11_through_10 rfl ⟨Nat.le_of_ble_eq_true rfl, Nat.le_of_ble_eq_true rfl⟩ (fun _ => h)
theorem E_X11_through {post : Int → ax_M → Prop} {M : ax_M} {x1 x2 x3 x4 : Int} (h : ax_mr SH M → (0 ≤ x1 ∧ x1 < 24) ∧ ((((M 69 x1) = 0) → (((x4 = 0) → ax_J Y_X11_through (ax_Ki Y_X11_through SH post) 0 0 22 [(0, aR 61), (1, aI x1), (2, aI x2), (3, aI x3), (4, aI x4)] [aI 1, aI x2] SH M) ∧ ((¬ x4 = 0) → ax_J Y_X11_through (ax_Ki Y_X11_through SH post) 0 0 22 [(0, aR 61), (1, aI x1), (2, aI x2), (3, aI x3), (4, aI x4)] [aI 2, aI x2] SH M))) ∧ ((¬ (M 69 x1) = 0) → post (-1) M))) : ax_Ti Y_X11_through [aR 61, aI x1, aI x2, aI x3, aI x4] SH M post :=
  ti_of rfl (Nat.le_of_ble_eq_true rfl) rfl (fun q => B_X11_through_0 (h q))
set_option maxRecDepth 100000 in
set_option maxHeartbeats 4000000 in
theorem B_X11_through_22 {post : Int → ax_M → Prop} {M : ax_M} {s0 s1 x1 x2 x3 x4 : Int} (h : (0 ≤ x1 ∧ x1 < 24) ∧ (-2147483648 ≤ (s0 * (M 64 x1)) ∧ (s0 * (M 64 x1)) ≤ 2147483647) ∧ (-2147483648 ≤ (s1 + (s0 * (M 64 x1))) ∧ (s1 + (s0 * (M 64 x1))) ≤ 2147483647) ∧ ((((M 61 32) < 0) → ax_J Y_X11_through (ax_Ki Y_X11_through SH post) 0 0 78 [(0, aR 61), (1, aI x1), (2, aI x2), (3, aI x3), (4, aI x4), (5, aI (s1 + (s0 * (M 64 x1))))] [] SH M) ∧ ((0 ≤ (M 61 32)) → ((((M 62 x1) = (M 61 32)) → ax_J Y_X11_through (ax_Ki Y_X11_through SH post) 0 0 65 [(0, aR 61), (1, aI x1), (2, aI x2), (3, aI x3), (4, aI x4), (5, aI (s1 + (s0 * (M 64 x1))))] [] SH M) ∧ ((¬ (M 62 x1) = (M 61 32)) → (((¬ (M 63 x1) = (M 61 32)) → ax_J Y_X11_through (ax_Ki Y_X11_through SH post) 0 0 78 [(0, aR 61), (1, aI x1), (2, aI x2), (3, aI x3), (4, aI x4), (5, aI (s1 + (s0 * (M 64 x1))))] [] SH M) ∧ (((M 63 x1) = (M 61 32)) → ax_J Y_X11_through (ax_Ki Y_X11_through SH post) 0 0 65 [(0, aR 61), (1, aI x1), (2, aI x2), (3, aI x3), (4, aI x4), (5, aI (s1 + (s0 * (M 64 x1))))] [] SH M))))))) : ax_J Y_X11_through (ax_Ki Y_X11_through SH post) 0 0 22 [(0, aR 61), (1, aI x1), (2, aI x2), (3, aI x3), (4, aI x4)] [aI s0, aI s1] SH M := by
  refine j_aload_n 0 dX11_through_22 rfl ?_
  refine j_getc 64 dX11_through_23 f_X11_20 sh_61 rfl ?_
  refine j_iload_n 1 dX11_through_26 rfl ?_
  obtain ⟨o1, h⟩ := h
  refine j_iald dX11_through_27 sh_64 o1.1 o1.2 (fun _ => ?_)
  obtain ⟨o2, h⟩ := h
  refine j_imul (z := (s0 * (M 64 x1))) dX11_through_28 rfl o2 ?_
  obtain ⟨o3, h⟩ := h
  refine j_iadd (z := (s1 + (s0 * (M 64 x1)))) dX11_through_29 rfl o3 ?_
  refine j_istore (ll' := [(5, aI (s1 + (s0 * (M 64 x1)))), (0, aR 61), (1, aI x1), (2, aI x2), (3, aI x3), (4, aI x4)]) dX11_through_30 (Nat.le_of_ble_eq_true rfl) rfl ?_
  refine j_aload_n 1 dX11_through_32 rfl ?_
  refine j_geti (i := 32) dX11_through_33 f_X11_63 sh_61 rfl rfl (fun _ => ?_)
  refine j_if_lt (tgt := 78) dX11_through_36 (by decide) (fun c4 => ?_) (fun c4 => ?_)
  · replace h := h.1 c4
    refine j_sub [1, 2, 3, 4, 5, 0] rfl ?_
    exact h
  · replace h := h.2 c4
    refine j_aload_n 1 dX11_through_39 rfl ?_
    refine j_getc 62 dX11_through_40 f_X11_13 sh_61 rfl ?_
    refine j_iload_n 2 dX11_through_43 rfl ?_
    refine j_iald dX11_through_44 sh_62 o1.1 o1.2 (fun _ => ?_)
    refine j_aload_n 1 dX11_through_45 rfl ?_
    refine j_geti (i := 32) dX11_through_46 f_X11_63 sh_61 rfl rfl (fun _ => ?_)
    refine j_icmp_eq (tgt := 65) dX11_through_49 (by decide) (fun c5 => ?_) (fun c5 => ?_)
    · replace h := h.1 c5
      refine j_sub [1, 2, 3, 4, 5, 0] rfl ?_
      exact h
    · replace h := h.2 c5
      refine j_aload_n 1 dX11_through_52 rfl ?_
      refine j_getc 63 dX11_through_53 f_X11_17 sh_61 rfl ?_
      refine j_iload_n 2 dX11_through_56 rfl ?_
      refine j_iald dX11_through_57 sh_63 o1.1 o1.2 (fun _ => ?_)
      refine j_aload_n 1 dX11_through_58 rfl ?_
      refine j_geti (i := 32) dX11_through_59 f_X11_63 sh_61 rfl rfl (fun _ => ?_)
      refine j_icmp_ne (tgt := 78) dX11_through_62 (by decide) (fun c6 => ?_) (fun c6 => ?_)
      · replace h := h.1 c6
        refine j_sub [1, 2, 3, 4, 5, 0] rfl ?_
        exact h
      · replace h := h.2 c6
        refine j_sub [1, 2, 3, 4, 5, 0] rfl ?_
        exact h
set_option maxRecDepth 100000 in
set_option maxHeartbeats 4000000 in
theorem B_X11_through_65 {post : Int → ax_M → Prop} {M : ax_M} {x1 x2 x3 x4 x5 : Int} (h : ((((M 61 33) < x5) → ax_J Y_X11_through (ax_Ki Y_X11_through SH post) 0 0 78 [(0, aR 61), (1, aI x1), (2, aI x2), (3, aI x3), (4, aI x4), (5, aI x5)] [] SH M) ∧ ((x5 ≤ (M 61 33)) → ax_J Y_X11_through (ax_Ki Y_X11_through SH post) 0 0 79 [(0, aR 61), (1, aI x1), (2, aI x2), (3, aI x3), (4, aI x4), (5, aI x5)] [aI 1] SH M))) : ax_J Y_X11_through (ax_Ki Y_X11_through SH post) 0 0 65 [(0, aR 61), (1, aI x1), (2, aI x2), (3, aI x3), (4, aI x4), (5, aI x5)] [] SH M := by
  refine j_iload 5 dX11_through_65 rfl ?_
  refine j_aload_n 0 dX11_through_67 rfl ?_
  refine j_geti (i := 33) dX11_through_68 f_X11_269 sh_61 rfl rfl (fun _ => ?_)
  refine j_icmp_gt (tgt := 78) dX11_through_71 (by decide) (fun c1 => ?_) (fun c1 => ?_)
  · replace h := h.1 c1
    exact h
  · replace h := h.2 c1
    refine j_iconst (x := 1) dX11_through_74 rfl (i32_c rfl) ?_
    refine j_goto (tgt := 79) dX11_through_75 (by decide) ?_
    exact h
set_option maxRecDepth 100000 in
set_option maxHeartbeats 4000000 in
theorem B_X11_through_78 {post : Int → ax_M → Prop} {M : ax_M} {x1 x2 x3 x4 x5 : Int} (h : ax_J Y_X11_through (ax_Ki Y_X11_through SH post) 0 0 79 [(0, aR 61), (1, aI x1), (2, aI x2), (3, aI x3), (4, aI x4), (5, aI x5)] [aI 0] SH M) : ax_J Y_X11_through (ax_Ki Y_X11_through SH post) 0 0 78 [(0, aR 61), (1, aI x1), (2, aI x2), (3, aI x3), (4, aI x4), (5, aI x5)] [] SH M := by
  refine j_iconst (x := 0) dX11_through_78 rfl (i32_c rfl) ?_
  exact h
set_option maxRecDepth 100000 in
set_option maxHeartbeats 4000000 in
theorem B_X11_through_79 {post : Int → ax_M → Prop} {M : ax_M} {s0 x1 x2 x3 x4 x5 : Int} (h : (((x5 ≤ x3) → ax_J Y_X11_through (ax_Ki Y_X11_through SH post) 0 0 92 [(0, aR 61), (1, aI x1), (5, aI x5)] [] SH M) ∧ ((x3 < x5) → (((s0 = 0) → (0 ≤ x1 ∧ x1 < 24) ∧ (((0 ≤ (M 65 x1)) → (((x4 = 0) → ax_J Y_X11_through (ax_Ki Y_X11_through SH post) 0 0 121 [(0, aR 61), (1, aI x1)] [aI 1, aI x2] SH M) ∧ ((¬ x4 = 0) → ax_J Y_X11_through (ax_Ki Y_X11_through SH post) 0 0 121 [(0, aR 61), (1, aI x1)] [aI 2, aI x2] SH M))) ∧ (((M 65 x1) < 0) → ax_J Y_X11_through (ax_Ki Y_X11_through SH post) 0 0 129 [(0, aR 61), (1, aI x1)] [aI (-1)] SH M))) ∧ ((¬ s0 = 0) → ax_J Y_X11_through (ax_Ki Y_X11_through SH post) 0 0 92 [(0, aR 61), (1, aI x1), (5, aI x5)] [] SH M))))) : ax_J Y_X11_through (ax_Ki Y_X11_through SH post) 0 0 79 [(0, aR 61), (1, aI x1), (2, aI x2), (3, aI x3), (4, aI x4), (5, aI x5)] [aI s0] SH M := by
  refine j_istore (ll' := [(6, aI s0), (0, aR 61), (1, aI x1), (2, aI x2), (3, aI x3), (4, aI x4), (5, aI x5)]) dX11_through_79 (Nat.le_of_ble_eq_true rfl) rfl ?_
  refine j_iload 6 dX11_through_81 rfl ?_
  refine j_iload_n 4 dX11_through_83 rfl ?_
  refine j_icmp_le (tgt := 92) dX11_through_84 (by decide) (fun c1 => ?_) (fun c1 => ?_)
  · replace h := h.1 c1
    refine j_sub [1, 2, 6] rfl ?_
    exact h
  · replace h := h.2 c1
    refine j_iload 0 dX11_through_87 rfl ?_
    refine j_if_eq (tgt := 97) dX11_through_89 (by decide) (fun c2 => ?_) (fun c2 => ?_)
    · replace h := h.1 c2
      refine j_aload_n 1 dX11_through_97 rfl ?_
      refine j_getc 65 dX11_through_98 f_X11_23 sh_61 rfl ?_
      refine j_iload_n 2 dX11_through_101 rfl ?_
      obtain ⟨o3, h⟩ := h
      refine j_iald dX11_through_102 sh_65 o3.1 o3.2 (fun _ => ?_)
      refine j_if_ge (tgt := 110) dX11_through_103 (by decide) (fun c4 => ?_) (fun c4 => ?_)
      · replace h := h.1 c4
        refine j_iload_n 3 dX11_through_110 rfl ?_
        refine j_iload 5 dX11_through_111 rfl ?_
        refine j_if_eq (tgt := 120) dX11_through_113 (by decide) (fun c5 => ?_) (fun c5 => ?_)
        · replace h := h.1 c5
          refine j_iconst (x := 1) dX11_through_120 rfl (i32_c rfl) ?_
          refine j_sub [1, 2] rfl ?_
          exact h
        · replace h := h.2 c5
          refine j_iconst (x := 2) dX11_through_116 rfl (i32_c rfl) ?_
          refine j_goto (tgt := 121) dX11_through_117 (by decide) ?_
          refine j_sub [1, 2] rfl ?_
          exact h
      · replace h := h.2 c4
        refine j_iconst (x := (-1)) dX11_through_106 rfl (i32_c rfl) ?_
        refine j_goto (tgt := 129) dX11_through_107 (by decide) ?_
        refine j_sub [1, 2] rfl ?_
        exact h
    · replace h := h.2 c2
      refine j_sub [1, 2, 6] rfl ?_
      exact h
set_option maxRecDepth 100000 in
set_option maxHeartbeats 4000000 in
theorem B_X11_through_92 {post : Int → ax_M → Prop} {M : ax_M} {x1 x5 : Int} (h : ax_J Y_X11_through (ax_Ki Y_X11_through SH post) 0 0 129 [(0, aR 61), (1, aI x1)] [aI x5] SH M) : ax_J Y_X11_through (ax_Ki Y_X11_through SH post) 0 0 92 [(0, aR 61), (1, aI x1), (5, aI x5)] [] SH M := by
  refine j_iload 2 dX11_through_92 rfl ?_
  refine j_goto (tgt := 129) dX11_through_94 (by decide) ?_
  refine j_sub [0, 1] rfl ?_
  exact h
set_option maxRecDepth 100000 in
set_option maxHeartbeats 4000000 in
theorem B_X11_through_121 {post : Int → ax_M → Prop} {M : ax_M} {s0 s1 x1 : Int} (h : (0 ≤ x1 ∧ x1 < 24) ∧ (-2147483648 ≤ (s0 * (M 65 x1)) ∧ (s0 * (M 65 x1)) ≤ 2147483647) ∧ (-2147483648 ≤ (s1 + (s0 * (M 65 x1))) ∧ (s1 + (s0 * (M 65 x1))) ≤ 2147483647) ∧ ax_J Y_X11_through (ax_Ki Y_X11_through SH post) 0 0 129 [(0, aR 61), (1, aI x1)] [aI (s1 + (s0 * (M 65 x1)))] SH M) : ax_J Y_X11_through (ax_Ki Y_X11_through SH post) 0 0 121 [(0, aR 61), (1, aI x1)] [aI s0, aI s1] SH M := by
  refine j_aload_n 0 dX11_through_121 rfl ?_
  refine j_getc 65 dX11_through_122 f_X11_23 sh_61 rfl ?_
  refine j_iload_n 1 dX11_through_125 rfl ?_
  obtain ⟨o1, h⟩ := h
  refine j_iald dX11_through_126 sh_65 o1.1 o1.2 (fun _ => ?_)
  obtain ⟨o2, h⟩ := h
  refine j_imul (z := (s0 * (M 65 x1))) dX11_through_127 rfl o2 ?_
  obtain ⟨o3, h⟩ := h
  refine j_iadd (z := (s1 + (s0 * (M 65 x1)))) dX11_through_128 rfl o3 ?_
  exact h
set_option maxRecDepth 100000 in
set_option maxHeartbeats 4000000 in
theorem B_X11_through_129 {post : Int → ax_M → Prop} {M : ax_M} {s0 x1 : Int} (h : (0 ≤ x1 ∧ x1 < 24) ∧ ((((M 67 x1) < s0) → post (-1) M) ∧ ((s0 ≤ (M 67 x1)) → post s0 M))) : ax_J Y_X11_through (ax_Ki Y_X11_through SH post) 0 0 129 [(0, aR 61), (1, aI x1)] [aI s0] SH M := by
  refine j_istore (ll' := [(7, aI s0), (0, aR 61), (1, aI x1)]) dX11_through_129 (Nat.le_of_ble_eq_true rfl) rfl ?_
  refine j_iload 0 dX11_through_131 rfl ?_
  refine j_aload_n 1 dX11_through_133 rfl ?_
  refine j_getc 67 dX11_through_134 f_X11_29 sh_61 rfl ?_
  refine j_iload_n 2 dX11_through_137 rfl ?_
  obtain ⟨o1, h⟩ := h
  refine j_iald dX11_through_138 sh_67 o1.1 o1.2 (fun _ => ?_)
  refine j_icmp_gt (tgt := 147) dX11_through_139 (by decide) (fun c2 => ?_) (fun c2 => ?_)
  · replace h := h.1 c2
    refine j_iconst (x := (-1)) dX11_through_147 rfl (i32_c rfl) ?_
    exact j_iret dX11_through_148 rfl ⟨Nat.le_of_ble_eq_true rfl, Nat.le_of_ble_eq_true rfl⟩ (fun _ => h)
  · replace h := h.2 c2
    refine j_iload 0 dX11_through_142 rfl ?_
    refine j_goto (tgt := 148) dX11_through_144 (by decide) ?_
    exact j_iret dX11_through_148 rfl ⟨Nat.le_of_ble_eq_true rfl, Nat.le_of_ble_eq_true rfl⟩ (fun _ => h)
set_option maxRecDepth 100000 in
set_option maxHeartbeats 4000000 in
theorem B_X11_wayTo_0 {post : Int → ax_M → Prop} {M : ax_M} {x1 x2 x3 x4 x5 : Int} (h : ax_J Y_X11_wayTo (ax_Ki Y_X11_wayTo SH post) 0 0 9 [(0, aR 61), (1, aI x1), (2, aI x2), (3, aI x3), (4, aI x4), (5, aI x5), (6, aI (-1)), (7, aI 0), (8, aI 0)] [] SH M) : ax_J Y_X11_wayTo (ax_Ki Y_X11_wayTo SH post) 0 0 0 [(0, aR 61), (1, aI x1), (2, aI x2), (3, aI x3), (4, aI x4), (5, aI x5)] [] SH M := by
  refine j_iconst (x := (-1)) dX11_wayTo_0 rfl (i32_c rfl) ?_
  refine j_istore (ll' := [(6, aI (-1)), (0, aR 61), (1, aI x1), (2, aI x2), (3, aI x3), (4, aI x4), (5, aI x5)]) dX11_wayTo_1 (Nat.le_of_ble_eq_true rfl) rfl ?_
  refine j_iconst (x := 0) dX11_wayTo_3 rfl (i32_c rfl) ?_
  refine j_istore (ll' := [(7, aI 0), (6, aI (-1)), (0, aR 61), (1, aI x1), (2, aI x2), (3, aI x3), (4, aI x4), (5, aI x5)]) dX11_wayTo_4 (Nat.le_of_ble_eq_true rfl) rfl ?_
  refine j_iconst (x := 0) dX11_wayTo_6 rfl (i32_c rfl) ?_
  refine j_istore (ll' := [(8, aI 0), (7, aI 0), (6, aI (-1)), (0, aR 61), (1, aI x1), (2, aI x2), (3, aI x3), (4, aI x4), (5, aI x5)]) dX11_wayTo_7 (Nat.le_of_ble_eq_true rfl) rfl ?_
  refine j_sub [3, 4, 5, 6, 7, 8, 2, 1, 0] rfl ?_
  exact h
theorem E_X11_wayTo {post : Int → ax_M → Prop} {M : ax_M} {x1 x2 x3 x4 x5 : Int} (h : ax_mr SH M → ax_J Y_X11_wayTo (ax_Ki Y_X11_wayTo SH post) 0 0 9 [(0, aR 61), (1, aI x1), (2, aI x2), (3, aI x3), (4, aI x4), (5, aI x5), (6, aI (-1)), (7, aI 0), (8, aI 0)] [] SH M) : ax_Ti Y_X11_wayTo [aR 61, aI x1, aI x2, aI x3, aI x4, aI x5] SH M post :=
  ti_of rfl (Nat.le_of_ble_eq_true rfl) rfl (fun q => B_X11_wayTo_0 (h q))
set_option maxRecDepth 100000 in
set_option maxHeartbeats 4000000 in
theorem B_X11_wayTo_9 {post : Int → ax_M → Prop} {M : ax_M} {x1 x2 x3 x4 x5 x6 x7 x8 : Int} (h : ((((M 61 3) ≤ x8) → post x6 M) ∧ ((x8 < (M 61 3)) → (0 ≤ x8 ∧ x8 < 24) ∧ (((¬ (M 62 x8) = x1) → ax_J Y_X11_wayTo (ax_Ki Y_X11_wayTo SH post) 0 0 40 [(0, aR 61), (1, aI x1), (2, aI x2), (3, aI x3), (4, aI x4), (5, aI x5), (6, aI x6), (7, aI x7), (8, aI x8)] [] SH M) ∧ (((M 62 x8) = x1) → ((((M 63 x8) = x2) → ax_J Y_X11_wayTo (ax_Ki Y_X11_wayTo SH post) 0 0 62 [(0, aR 61), (1, aI x1), (2, aI x2), (3, aI x3), (4, aI x4), (5, aI x5), (6, aI x6), (7, aI x7), (8, aI x8)] [] SH M) ∧ ((¬ (M 63 x8) = x2) → ax_J Y_X11_wayTo (ax_Ki Y_X11_wayTo SH post) 0 0 40 [(0, aR 61), (1, aI x1), (2, aI x2), (3, aI x3), (4, aI x4), (5, aI x5), (6, aI x6), (7, aI x7), (8, aI x8)] [] SH M))))))) : ax_J Y_X11_wayTo (ax_Ki Y_X11_wayTo SH post) 0 0 9 [(0, aR 61), (1, aI x1), (2, aI x2), (3, aI x3), (4, aI x4), (5, aI x5), (6, aI x6), (7, aI x7), (8, aI x8)] [] SH M := by
  refine j_iload 8 dX11_wayTo_9 rfl ?_
  refine j_aload_n 0 dX11_wayTo_11 rfl ?_
  refine j_geti (i := 3) dX11_wayTo_12 f_X11_140 sh_61 rfl rfl (fun _ => ?_)
  refine j_icmp_ge (tgt := 122) dX11_wayTo_15 (by decide) (fun c1 => ?_) (fun c1 => ?_)
  · replace h := h.1 c1
    refine j_iload 6 dX11_wayTo_122 rfl ?_
    exact j_iret dX11_wayTo_124 rfl ⟨Nat.le_of_ble_eq_true rfl, Nat.le_of_ble_eq_true rfl⟩ (fun _ => h)
  · replace h := h.2 c1
    refine j_aload_n 0 dX11_wayTo_18 rfl ?_
    refine j_getc 62 dX11_wayTo_19 f_X11_13 sh_61 rfl ?_
    refine j_iload 8 dX11_wayTo_22 rfl ?_
    obtain ⟨o2, h⟩ := h
    refine j_iald dX11_wayTo_24 sh_62 o2.1 o2.2 (fun _ => ?_)
    refine j_iload_n 1 dX11_wayTo_25 rfl ?_
    refine j_icmp_ne (tgt := 40) dX11_wayTo_26 (by decide) (fun c3 => ?_) (fun c3 => ?_)
    · replace h := h.1 c3
      exact h
    · replace h := h.2 c3
      refine j_aload_n 0 dX11_wayTo_29 rfl ?_
      refine j_getc 63 dX11_wayTo_30 f_X11_17 sh_61 rfl ?_
      refine j_iload 8 dX11_wayTo_33 rfl ?_
      refine j_iald dX11_wayTo_35 sh_63 o2.1 o2.2 (fun _ => ?_)
      refine j_iload_n 2 dX11_wayTo_36 rfl ?_
      refine j_icmp_eq (tgt := 62) dX11_wayTo_37 (by decide) (fun c4 => ?_) (fun c4 => ?_)
      · replace h := h.1 c4
        exact h
      · replace h := h.2 c4
        exact h
set_option maxRecDepth 100000 in
set_option maxHeartbeats 4000000 in
theorem B_X11_wayTo_40 {post : Int → ax_M → Prop} {M : ax_M} {x1 x2 x3 x4 x5 x6 x7 x8 : Int} (h : (0 ≤ x8 ∧ x8 < 24) ∧ (((¬ (M 62 x8) = x2) → ax_J Y_X11_wayTo (ax_Ki Y_X11_wayTo SH post) 0 0 66 [(0, aR 61), (1, aI x1), (2, aI x2), (3, aI x3), (4, aI x4), (5, aI x5), (6, aI x6), (7, aI x7), (8, aI x8)] [] SH M) ∧ (((M 62 x8) = x2) → (((¬ (M 63 x8) = x1) → ax_J Y_X11_wayTo (ax_Ki Y_X11_wayTo SH post) 0 0 66 [(0, aR 61), (1, aI x1), (2, aI x2), (3, aI x3), (4, aI x4), (5, aI x5), (6, aI x6), (7, aI x7), (8, aI x8)] [] SH M) ∧ (((M 63 x8) = x1) → ax_J Y_X11_wayTo (ax_Ki Y_X11_wayTo SH post) 0 0 62 [(0, aR 61), (1, aI x1), (2, aI x2), (3, aI x3), (4, aI x4), (5, aI x5), (6, aI x6), (7, aI x7), (8, aI x8)] [] SH M))))) : ax_J Y_X11_wayTo (ax_Ki Y_X11_wayTo SH post) 0 0 40 [(0, aR 61), (1, aI x1), (2, aI x2), (3, aI x3), (4, aI x4), (5, aI x5), (6, aI x6), (7, aI x7), (8, aI x8)] [] SH M := by
  refine j_aload_n 0 dX11_wayTo_40 rfl ?_
  refine j_getc 62 dX11_wayTo_41 f_X11_13 sh_61 rfl ?_
  refine j_iload 8 dX11_wayTo_44 rfl ?_
  obtain ⟨o1, h⟩ := h
  refine j_iald dX11_wayTo_46 sh_62 o1.1 o1.2 (fun _ => ?_)
  refine j_iload_n 2 dX11_wayTo_47 rfl ?_
  refine j_icmp_ne (tgt := 66) dX11_wayTo_48 (by decide) (fun c2 => ?_) (fun c2 => ?_)
  · replace h := h.1 c2
    exact h
  · replace h := h.2 c2
    refine j_aload_n 0 dX11_wayTo_51 rfl ?_
    refine j_getc 63 dX11_wayTo_52 f_X11_17 sh_61 rfl ?_
    refine j_iload 8 dX11_wayTo_55 rfl ?_
    refine j_iald dX11_wayTo_57 sh_63 o1.1 o1.2 (fun _ => ?_)
    refine j_iload_n 1 dX11_wayTo_58 rfl ?_
    refine j_icmp_ne (tgt := 66) dX11_wayTo_59 (by decide) (fun c3 => ?_) (fun c3 => ?_)
    · replace h := h.1 c3
      exact h
    · replace h := h.2 c3
      exact h
set_option maxRecDepth 100000 in
set_option maxHeartbeats 4000000 in
theorem B_X11_wayTo_62 {post : Int → ax_M → Prop} {M : ax_M} {x1 x2 x3 x4 x5 x6 x7 x8 : Int} (h : ax_J Y_X11_wayTo (ax_Ki Y_X11_wayTo SH post) 0 0 67 [(0, aR 61), (1, aI x1), (2, aI x2), (3, aI x3), (4, aI x4), (5, aI x5), (6, aI x6), (7, aI x7), (8, aI x8)] [aI 1] SH M) : ax_J Y_X11_wayTo (ax_Ki Y_X11_wayTo SH post) 0 0 62 [(0, aR 61), (1, aI x1), (2, aI x2), (3, aI x3), (4, aI x4), (5, aI x5), (6, aI x6), (7, aI x7), (8, aI x8)] [] SH M := by
  refine j_iconst (x := 1) dX11_wayTo_62 rfl (i32_c rfl) ?_
  refine j_goto (tgt := 67) dX11_wayTo_63 (by decide) ?_
  exact h
set_option maxRecDepth 100000 in
set_option maxHeartbeats 4000000 in
theorem B_X11_wayTo_66 {post : Int → ax_M → Prop} {M : ax_M} {x1 x2 x3 x4 x5 x6 x7 x8 : Int} (h : ax_J Y_X11_wayTo (ax_Ki Y_X11_wayTo SH post) 0 0 67 [(0, aR 61), (1, aI x1), (2, aI x2), (3, aI x3), (4, aI x4), (5, aI x5), (6, aI x6), (7, aI x7), (8, aI x8)] [aI 0] SH M) : ax_J Y_X11_wayTo (ax_Ki Y_X11_wayTo SH post) 0 0 66 [(0, aR 61), (1, aI x1), (2, aI x2), (3, aI x3), (4, aI x4), (5, aI x5), (6, aI x6), (7, aI x7), (8, aI x8)] [] SH M := by
  refine j_iconst (x := 0) dX11_wayTo_66 rfl (i32_c rfl) ?_
  exact h
set_option maxRecDepth 100000 in
set_option maxHeartbeats 4000000 in
theorem B_X11_wayTo_67 {post : Int → ax_M → Prop} {M : ax_M} {s0 x1 x2 x3 x4 x5 x6 x7 x8 : Int} (h : (((s0 = 0) → ax_J Y_X11_wayTo (ax_Ki Y_X11_wayTo SH post) 0 0 89 [(0, aR 61), (1, aI x1), (2, aI x2), (3, aI x3), (4, aI x4), (5, aI x5), (6, aI x6), (7, aI x7), (8, aI x8)] [aI (-1)] SH M) ∧ ((¬ s0 = 0) → ax_Ti Y_X11_through [aR 61, aI x8, aI x3, aI x4, aI x5] SH M (fun z2 u1 => ax_J Y_X11_wayTo (ax_Ki Y_X11_wayTo SH post) 0 0 89 [(0, aR 61), (1, aI x1), (2, aI x2), (3, aI x3), (4, aI x4), (5, aI x5), (6, aI x6), (7, aI x7), (8, aI x8)] [aI z2] SH u1)))) : ax_J Y_X11_wayTo (ax_Ki Y_X11_wayTo SH post) 0 0 67 [(0, aR 61), (1, aI x1), (2, aI x2), (3, aI x3), (4, aI x4), (5, aI x5), (6, aI x6), (7, aI x7), (8, aI x8)] [aI s0] SH M := by
  refine j_istore (ll' := [(9, aI s0), (0, aR 61), (1, aI x1), (2, aI x2), (3, aI x3), (4, aI x4), (5, aI x5), (6, aI x6), (7, aI x7), (8, aI x8)]) dX11_wayTo_67 (Nat.le_of_ble_eq_true rfl) rfl ?_
  refine j_iload 0 dX11_wayTo_69 rfl ?_
  refine j_if_eq (tgt := 88) dX11_wayTo_71 (by decide) (fun c1 => ?_) (fun c1 => ?_)
  · replace h := h.1 c1
    refine j_iconst (x := (-1)) dX11_wayTo_88 rfl (i32_c rfl) ?_
    refine j_sub [1, 2, 3, 4, 5, 6, 7, 8, 9] rfl ?_
    exact h
  · replace h := h.2 c1
    refine j_aload_n 1 dX11_wayTo_74 rfl ?_
    refine j_iload 9 dX11_wayTo_75 rfl ?_
    refine j_iload_n 4 dX11_wayTo_77 rfl ?_
    refine j_iload 5 dX11_wayTo_78 rfl ?_
    refine j_iload 6 dX11_wayTo_80 rfl ?_
    refine j_calliV (Yc := Y_X11_through) (as := [aI x8, aI x3, aI x4, aI x5]) (rest := []) dX11_wayTo_82 q_X11_276 ⟨Nat.le_of_ble_eq_true rfl, Nat.le_of_ble_eq_true rfl, Nat.le_of_ble_eq_true rfl, Nat.le_of_ble_eq_true rfl⟩ sh_61 rfl (Nat.le_of_ble_eq_true rfl) rfl (ti_mono h (fun z2 u1 h => ?_))
    refine j_goto (tgt := 89) dX11_wayTo_85 (by decide) ?_
    refine j_sub [1, 2, 3, 4, 5, 6, 7, 8, 9] rfl ?_
    exact h
set_option maxRecDepth 100000 in
set_option maxHeartbeats 4000000 in
theorem B_X11_wayTo_89 {post : Int → ax_M → Prop} {M : ax_M} {s0 x1 x2 x3 x4 x5 x6 x7 x8 : Int} (h : (((s0 < 0) → ax_J Y_X11_wayTo (ax_Ki Y_X11_wayTo SH post) 0 0 116 [(0, aR 61), (1, aI x1), (2, aI x2), (3, aI x3), (4, aI x4), (5, aI x5), (6, aI x6), (7, aI x7), (8, aI x8)] [] SH M) ∧ ((0 ≤ s0) → (((x6 < 0) → ax_J Y_X11_wayTo (ax_Ki Y_X11_wayTo SH post) 0 0 108 [(0, aR 61), (1, aI x1), (2, aI x2), (3, aI x3), (4, aI x4), (5, aI x5), (8, aI x8), (10, aI s0)] [] SH M) ∧ ((0 ≤ x6) → (((x7 ≤ s0) → ax_J Y_X11_wayTo (ax_Ki Y_X11_wayTo SH post) 0 0 116 [(0, aR 61), (1, aI x1), (2, aI x2), (3, aI x3), (4, aI x4), (5, aI x5), (6, aI x6), (7, aI x7), (8, aI x8)] [] SH M) ∧ ((s0 < x7) → ax_J Y_X11_wayTo (ax_Ki Y_X11_wayTo SH post) 0 0 108 [(0, aR 61), (1, aI x1), (2, aI x2), (3, aI x3), (4, aI x4), (5, aI x5), (8, aI x8), (10, aI s0)] [] SH M))))))) : ax_J Y_X11_wayTo (ax_Ki Y_X11_wayTo SH post) 0 0 89 [(0, aR 61), (1, aI x1), (2, aI x2), (3, aI x3), (4, aI x4), (5, aI x5), (6, aI x6), (7, aI x7), (8, aI x8)] [aI s0] SH M := by
  refine j_istore (ll' := [(10, aI s0), (0, aR 61), (1, aI x1), (2, aI x2), (3, aI x3), (4, aI x4), (5, aI x5), (6, aI x6), (7, aI x7), (8, aI x8)]) dX11_wayTo_89 (Nat.le_of_ble_eq_true rfl) rfl ?_
  refine j_iload 0 dX11_wayTo_91 rfl ?_
  refine j_if_lt (tgt := 116) dX11_wayTo_93 (by decide) (fun c1 => ?_) (fun c1 => ?_)
  · replace h := h.1 c1
    refine j_sub [1, 2, 3, 4, 5, 6, 7, 8, 9] rfl ?_
    exact h
  · replace h := h.2 c1
    refine j_iload 7 dX11_wayTo_96 rfl ?_
    refine j_if_lt (tgt := 108) dX11_wayTo_98 (by decide) (fun c2 => ?_) (fun c2 => ?_)
    · replace h := h.1 c2
      refine j_sub [1, 2, 3, 4, 5, 6, 9, 0] rfl ?_
      exact h
    · replace h := h.2 c2
      refine j_iload 0 dX11_wayTo_101 rfl ?_
      refine j_iload 8 dX11_wayTo_103 rfl ?_
      refine j_icmp_ge (tgt := 116) dX11_wayTo_105 (by decide) (fun c3 => ?_) (fun c3 => ?_)
      · replace h := h.1 c3
        refine j_sub [1, 2, 3, 4, 5, 6, 7, 8, 9] rfl ?_
        exact h
      · replace h := h.2 c3
        refine j_sub [1, 2, 3, 4, 5, 6, 9, 0] rfl ?_
        exact h
set_option maxRecDepth 100000 in
set_option maxHeartbeats 4000000 in
theorem B_X11_wayTo_108 {post : Int → ax_M → Prop} {M : ax_M} {x1 x2 x3 x4 x5 x8 x10 : Int} (h : ax_J Y_X11_wayTo (ax_Ki Y_X11_wayTo SH post) 0 0 116 [(0, aR 61), (1, aI x1), (2, aI x2), (3, aI x3), (4, aI x4), (5, aI x5), (6, aI x8), (7, aI x10), (8, aI x8)] [] SH M) : ax_J Y_X11_wayTo (ax_Ki Y_X11_wayTo SH post) 0 0 108 [(0, aR 61), (1, aI x1), (2, aI x2), (3, aI x3), (4, aI x4), (5, aI x5), (8, aI x8), (10, aI x10)] [] SH M := by
  refine j_iload 6 dX11_wayTo_108 rfl ?_
  refine j_istore (ll' := [(6, aI x8), (0, aR 61), (1, aI x1), (2, aI x2), (3, aI x3), (4, aI x4), (5, aI x5), (8, aI x8), (10, aI x10)]) dX11_wayTo_110 (Nat.le_of_ble_eq_true rfl) rfl ?_
  refine j_iload 8 dX11_wayTo_112 rfl ?_
  refine j_istore (ll' := [(7, aI x10), (6, aI x8), (0, aR 61), (1, aI x1), (2, aI x2), (3, aI x3), (4, aI x4), (5, aI x5), (8, aI x8), (10, aI x10)]) dX11_wayTo_114 (Nat.le_of_ble_eq_true rfl) rfl ?_
  refine j_sub [2, 3, 4, 5, 6, 7, 1, 0, 8] rfl ?_
  exact h
set_option maxRecDepth 100000 in
set_option maxHeartbeats 4000000 in
theorem B_X11_wayTo_116 {post : Int → ax_M → Prop} {M : ax_M} {x1 x2 x3 x4 x5 x6 x7 x8 : Int} (h : (-2147483648 ≤ (x8 + 1) ∧ (x8 + 1) ≤ 2147483647) ∧ ax_J Y_X11_wayTo (ax_Ki Y_X11_wayTo SH post) 0 0 9 [(0, aR 61), (1, aI x1), (2, aI x2), (3, aI x3), (4, aI x4), (5, aI x5), (6, aI x6), (7, aI x7), (8, aI (x8 + 1))] [] SH M) : ax_J Y_X11_wayTo (ax_Ki Y_X11_wayTo SH post) 0 0 116 [(0, aR 61), (1, aI x1), (2, aI x2), (3, aI x3), (4, aI x4), (5, aI x5), (6, aI x6), (7, aI x7), (8, aI x8)] [] SH M := by
  obtain ⟨o1, h⟩ := h
  refine j_iinc (ll' := [(8, aI (x8 + 1)), (0, aR 61), (1, aI x1), (2, aI x2), (3, aI x3), (4, aI x4), (5, aI x5), (6, aI x6), (7, aI x7)]) 8 dX11_wayTo_116 rfl (Nat.le_of_ble_eq_true rfl) o1 rfl ?_
  refine j_goto (tgt := 9) dX11_wayTo_119 (by decide) ?_
  refine j_sub [1, 2, 3, 4, 5, 6, 7, 8, 0] rfl ?_
  exact h
set_option maxRecDepth 100000 in
set_option maxHeartbeats 4000000 in
theorem B_X11_wordOf_0 {post : Int → ax_M → Prop} {M : ax_M} (h : (((¬ (M 61 16) = 79958) → (((¬ (M 61 16) = 459383) → (((¬ (M 61 16) = 3374884) → (((¬ (M 61 16) = 1489) → post (-1) M) ∧ (((M 61 16) = 1489) → post 6 M))) ∧ (((M 61 16) = 3374884) → post 5 M))) ∧ (((M 61 16) = 459383) → post 4 M))) ∧ (((M 61 16) = 79958) → post 3 M))) : ax_J Y_X11_wordOf (ax_Ki Y_X11_wordOf SH post) 0 0 0 [(0, aR 61)] [] SH M := by
  refine j_bipush (x := 102) dX11_wordOf_0 rfl (i32_c rfl) ?_
  refine j_bipush (x := 105) dX11_wordOf_2 rfl (i32_c rfl) ?_
  refine j_bipush (x := 108) dX11_wordOf_4 rfl (i32_c rfl) ?_
  refine j_calllS (Yc := Y_X11_code) (as := [aI 102, aI 105, aI 108]) (rest := []) dX11_wordOf_6 q_X11_193 ⟨Nat.le_of_ble_eq_true rfl, Nat.le_of_ble_eq_true rfl, Nat.le_of_ble_eq_true rfl, Nat.le_of_ble_eq_true rfl⟩ rfl (Nat.le_of_ble_eq_true rfl) rfl (tl_of (ll := [(0, aI 102), (1, aI 105), (2, aI 108)]) rfl (Nat.le_of_ble_eq_true rfl) rfl (fun _ => ?_))
  refine j_ldc2 (x := 27) dX11_code_0 (ax_in 1320 (by decide +kernel) rfl) (i64_c rfl) ?_
  refine j_ldc2 (x := 27) dX11_code_3 (ax_in 1320 (by decide +kernel) rfl) (i64_c rfl) ?_
  refine j_iload_n 0 dX11_code_6 rfl ?_
  refine j_i2l dX11_code_7 ?_
  refine j_ldc2 (x := 96) dX11_code_8 (ax_in 1321 (by decide +kernel) rfl) (i64_c rfl) ?_
  refine j_lsub (z := 6) dX11_code_11 rfl (i64_c rfl) ?_
  refine j_lmul (z := 162) dX11_code_12 rfl (i64_c rfl) ?_
  refine j_iload_n 1 dX11_code_13 rfl ?_
  refine j_i2l dX11_code_14 ?_
  refine j_ladd (z := 267) dX11_code_15 rfl (i64_c rfl) ?_
  refine j_ldc2 (x := 96) dX11_code_16 (ax_in 1321 (by decide +kernel) rfl) (i64_c rfl) ?_
  refine j_lsub (z := 171) dX11_code_19 rfl (i64_c rfl) ?_
  refine j_lmul (z := 4617) dX11_code_20 rfl (i64_c rfl) ?_
  refine j_iload_n 2 dX11_code_21 rfl ?_
  refine j_i2l dX11_code_22 ?_
  refine j_ladd (z := 4725) dX11_code_23 rfl (i64_c rfl) ?_
  refine j_ldc2 (x := 96) dX11_code_24 (ax_in 1321 (by decide +kernel) rfl) (i64_c rfl) ?_
  refine j_lsub (z := 4629) dX11_code_27 rfl (i64_c rfl) ?_
  refine j_lret dX11_code_28 rfl ⟨Nat.le_of_ble_eq_true rfl, Nat.le_of_ble_eq_true rfl⟩ (fun _ => ?_)
  refine j_bipush (x := 108) dX11_wordOf_9 rfl (i32_c rfl) ?_
  refine j_calllS (Yc := Y_X11_longer) (as := [aL 4629, aI 108]) (rest := []) dX11_wordOf_11 q_X11_197 ⟨Nat.le_of_ble_eq_true rfl, Nat.le_of_ble_eq_true rfl, Nat.le_of_ble_eq_true rfl, Nat.le_of_ble_eq_true rfl⟩ rfl (Nat.le_of_ble_eq_true rfl) rfl (tl_of (ll := [(0, aL 4629), (2, aI 108)]) rfl (Nat.le_of_ble_eq_true rfl) rfl (fun _ => ?_))
  refine j_ldc2 (x := 27) dX11_longer_0 (ax_in 1320 (by decide +kernel) rfl) (i64_c rfl) ?_
  refine j_lload_n 0 dX11_longer_3 rfl ?_
  refine j_lmul (z := 124983) dX11_longer_4 rfl (i64_c rfl) ?_
  refine j_iload_n 1 dX11_longer_5 rfl ?_
  refine j_i2l dX11_longer_6 ?_
  refine j_ladd (z := 125091) dX11_longer_7 rfl (i64_c rfl) ?_
  refine j_ldc2 (x := 96) dX11_longer_8 (ax_in 1321 (by decide +kernel) rfl) (i64_c rfl) ?_
  refine j_lsub (z := 124995) dX11_longer_11 rfl (i64_c rfl) ?_
  refine j_lret dX11_longer_12 rfl ⟨Nat.le_of_ble_eq_true rfl, Nat.le_of_ble_eq_true rfl⟩ (fun _ => ?_)
  refine j_bipush (x := 115) dX11_wordOf_14 rfl (i32_c rfl) ?_
  refine j_calllS (Yc := Y_X11_longer) (as := [aL 124995, aI 115]) (rest := []) dX11_wordOf_16 q_X11_197 ⟨Nat.le_of_ble_eq_true rfl, Nat.le_of_ble_eq_true rfl, Nat.le_of_ble_eq_true rfl, Nat.le_of_ble_eq_true rfl⟩ rfl (Nat.le_of_ble_eq_true rfl) rfl (tl_of (ll := [(0, aL 124995), (2, aI 115)]) rfl (Nat.le_of_ble_eq_true rfl) rfl (fun _ => ?_))
  refine j_ldc2 (x := 27) dX11_longer_0 (ax_in 1320 (by decide +kernel) rfl) (i64_c rfl) ?_
  refine j_lload_n 0 dX11_longer_3 rfl ?_
  refine j_lmul (z := 3374865) dX11_longer_4 rfl (i64_c rfl) ?_
  refine j_iload_n 1 dX11_longer_5 rfl ?_
  refine j_i2l dX11_longer_6 ?_
  refine j_ladd (z := 3374980) dX11_longer_7 rfl (i64_c rfl) ?_
  refine j_ldc2 (x := 96) dX11_longer_8 (ax_in 1321 (by decide +kernel) rfl) (i64_c rfl) ?_
  refine j_lsub (z := 3374884) dX11_longer_11 rfl (i64_c rfl) ?_
  refine j_lret dX11_longer_12 rfl ⟨Nat.le_of_ble_eq_true rfl, Nat.le_of_ble_eq_true rfl⟩ (fun _ => ?_)
  refine j_lstore_n (ll' := [(1, aL 3374884), (0, aR 61)]) dX11_wordOf_19 (Nat.le_of_ble_eq_true rfl) rfl ?_
  refine j_aload_n 1 dX11_wordOf_20 rfl ?_
  refine j_getl (i := 16) dX11_wordOf_21 f_X11_157 sh_61 rfl rfl ?_
  refine j_bipush (x := 100) dX11_wordOf_24 rfl (i32_c rfl) ?_
  refine j_bipush (x := 97) dX11_wordOf_26 rfl (i32_c rfl) ?_
  refine j_bipush (x := 114) dX11_wordOf_28 rfl (i32_c rfl) ?_
  refine j_calllS (Yc := Y_X11_code) (as := [aI 100, aI 97, aI 114]) (rest := [aL (M 61 16)]) dX11_wordOf_30 q_X11_193 ⟨Nat.le_of_ble_eq_true rfl, Nat.le_of_ble_eq_true rfl, Nat.le_of_ble_eq_true rfl, Nat.le_of_ble_eq_true rfl⟩ rfl (Nat.le_of_ble_eq_true rfl) rfl (tl_of (ll := [(0, aI 100), (1, aI 97), (2, aI 114)]) rfl (Nat.le_of_ble_eq_true rfl) rfl (fun _ => ?_))
  refine j_ldc2 (x := 27) dX11_code_0 (ax_in 1320 (by decide +kernel) rfl) (i64_c rfl) ?_
  refine j_ldc2 (x := 27) dX11_code_3 (ax_in 1320 (by decide +kernel) rfl) (i64_c rfl) ?_
  refine j_iload_n 0 dX11_code_6 rfl ?_
  refine j_i2l dX11_code_7 ?_
  refine j_ldc2 (x := 96) dX11_code_8 (ax_in 1321 (by decide +kernel) rfl) (i64_c rfl) ?_
  refine j_lsub (z := 4) dX11_code_11 rfl (i64_c rfl) ?_
  refine j_lmul (z := 108) dX11_code_12 rfl (i64_c rfl) ?_
  refine j_iload_n 1 dX11_code_13 rfl ?_
  refine j_i2l dX11_code_14 ?_
  refine j_ladd (z := 205) dX11_code_15 rfl (i64_c rfl) ?_
  refine j_ldc2 (x := 96) dX11_code_16 (ax_in 1321 (by decide +kernel) rfl) (i64_c rfl) ?_
  refine j_lsub (z := 109) dX11_code_19 rfl (i64_c rfl) ?_
  refine j_lmul (z := 2943) dX11_code_20 rfl (i64_c rfl) ?_
  refine j_iload_n 2 dX11_code_21 rfl ?_
  refine j_i2l dX11_code_22 ?_
  refine j_ladd (z := 3057) dX11_code_23 rfl (i64_c rfl) ?_
  refine j_ldc2 (x := 96) dX11_code_24 (ax_in 1321 (by decide +kernel) rfl) (i64_c rfl) ?_
  refine j_lsub (z := 2961) dX11_code_27 rfl (i64_c rfl) ?_
  refine j_lret dX11_code_28 rfl ⟨Nat.le_of_ble_eq_true rfl, Nat.le_of_ble_eq_true rfl⟩ (fun _ => ?_)
  refine j_bipush (x := 107) dX11_wordOf_33 rfl (i32_c rfl) ?_
  refine j_calllS (Yc := Y_X11_longer) (as := [aL 2961, aI 107]) (rest := [aL (M 61 16)]) dX11_wordOf_35 q_X11_197 ⟨Nat.le_of_ble_eq_true rfl, Nat.le_of_ble_eq_true rfl, Nat.le_of_ble_eq_true rfl, Nat.le_of_ble_eq_true rfl⟩ rfl (Nat.le_of_ble_eq_true rfl) rfl (tl_of (ll := [(0, aL 2961), (2, aI 107)]) rfl (Nat.le_of_ble_eq_true rfl) rfl (fun _ => ?_))
  refine j_ldc2 (x := 27) dX11_longer_0 (ax_in 1320 (by decide +kernel) rfl) (i64_c rfl) ?_
  refine j_lload_n 0 dX11_longer_3 rfl ?_
  refine j_lmul (z := 79947) dX11_longer_4 rfl (i64_c rfl) ?_
  refine j_iload_n 1 dX11_longer_5 rfl ?_
  refine j_i2l dX11_longer_6 ?_
  refine j_ladd (z := 80054) dX11_longer_7 rfl (i64_c rfl) ?_
  refine j_ldc2 (x := 96) dX11_longer_8 (ax_in 1321 (by decide +kernel) rfl) (i64_c rfl) ?_
  refine j_lsub (z := 79958) dX11_longer_11 rfl (i64_c rfl) ?_
  refine j_lret dX11_longer_12 rfl ⟨Nat.le_of_ble_eq_true rfl, Nat.le_of_ble_eq_true rfl⟩ (fun _ => ?_)
  refine j_lcmp_ne (tgt := 46) dX11_wordOf_38 dX11_wordOf_39 (by decide) (fun c1 => ?_) (fun c1 => ?_)
  · replace h := h.1 c1
    refine j_aload_n 1 dX11_wordOf_46 rfl ?_
    refine j_getl (i := 16) dX11_wordOf_47 f_X11_157 sh_61 rfl rfl ?_
    refine j_bipush (x := 119) dX11_wordOf_50 rfl (i32_c rfl) ?_
    refine j_bipush (x := 105) dX11_wordOf_52 rfl (i32_c rfl) ?_
    refine j_bipush (x := 100) dX11_wordOf_54 rfl (i32_c rfl) ?_
    refine j_calllS (Yc := Y_X11_code) (as := [aI 119, aI 105, aI 100]) (rest := [aL (M 61 16)]) dX11_wordOf_56 q_X11_193 ⟨Nat.le_of_ble_eq_true rfl, Nat.le_of_ble_eq_true rfl, Nat.le_of_ble_eq_true rfl, Nat.le_of_ble_eq_true rfl⟩ rfl (Nat.le_of_ble_eq_true rfl) rfl (tl_of (ll := [(0, aI 119), (1, aI 105), (2, aI 100)]) rfl (Nat.le_of_ble_eq_true rfl) rfl (fun _ => ?_))
    refine j_ldc2 (x := 27) dX11_code_0 (ax_in 1320 (by decide +kernel) rfl) (i64_c rfl) ?_
    refine j_ldc2 (x := 27) dX11_code_3 (ax_in 1320 (by decide +kernel) rfl) (i64_c rfl) ?_
    refine j_iload_n 0 dX11_code_6 rfl ?_
    refine j_i2l dX11_code_7 ?_
    refine j_ldc2 (x := 96) dX11_code_8 (ax_in 1321 (by decide +kernel) rfl) (i64_c rfl) ?_
    refine j_lsub (z := 23) dX11_code_11 rfl (i64_c rfl) ?_
    refine j_lmul (z := 621) dX11_code_12 rfl (i64_c rfl) ?_
    refine j_iload_n 1 dX11_code_13 rfl ?_
    refine j_i2l dX11_code_14 ?_
    refine j_ladd (z := 726) dX11_code_15 rfl (i64_c rfl) ?_
    refine j_ldc2 (x := 96) dX11_code_16 (ax_in 1321 (by decide +kernel) rfl) (i64_c rfl) ?_
    refine j_lsub (z := 630) dX11_code_19 rfl (i64_c rfl) ?_
    refine j_lmul (z := 17010) dX11_code_20 rfl (i64_c rfl) ?_
    refine j_iload_n 2 dX11_code_21 rfl ?_
    refine j_i2l dX11_code_22 ?_
    refine j_ladd (z := 17110) dX11_code_23 rfl (i64_c rfl) ?_
    refine j_ldc2 (x := 96) dX11_code_24 (ax_in 1321 (by decide +kernel) rfl) (i64_c rfl) ?_
    refine j_lsub (z := 17014) dX11_code_27 rfl (i64_c rfl) ?_
    refine j_lret dX11_code_28 rfl ⟨Nat.le_of_ble_eq_true rfl, Nat.le_of_ble_eq_true rfl⟩ (fun _ => ?_)
    refine j_bipush (x := 101) dX11_wordOf_59 rfl (i32_c rfl) ?_
    refine j_calllS (Yc := Y_X11_longer) (as := [aL 17014, aI 101]) (rest := [aL (M 61 16)]) dX11_wordOf_61 q_X11_197 ⟨Nat.le_of_ble_eq_true rfl, Nat.le_of_ble_eq_true rfl, Nat.le_of_ble_eq_true rfl, Nat.le_of_ble_eq_true rfl⟩ rfl (Nat.le_of_ble_eq_true rfl) rfl (tl_of (ll := [(0, aL 17014), (2, aI 101)]) rfl (Nat.le_of_ble_eq_true rfl) rfl (fun _ => ?_))
    refine j_ldc2 (x := 27) dX11_longer_0 (ax_in 1320 (by decide +kernel) rfl) (i64_c rfl) ?_
    refine j_lload_n 0 dX11_longer_3 rfl ?_
    refine j_lmul (z := 459378) dX11_longer_4 rfl (i64_c rfl) ?_
    refine j_iload_n 1 dX11_longer_5 rfl ?_
    refine j_i2l dX11_longer_6 ?_
    refine j_ladd (z := 459479) dX11_longer_7 rfl (i64_c rfl) ?_
    refine j_ldc2 (x := 96) dX11_longer_8 (ax_in 1321 (by decide +kernel) rfl) (i64_c rfl) ?_
    refine j_lsub (z := 459383) dX11_longer_11 rfl (i64_c rfl) ?_
    refine j_lret dX11_longer_12 rfl ⟨Nat.le_of_ble_eq_true rfl, Nat.le_of_ble_eq_true rfl⟩ (fun _ => ?_)
    refine j_lcmp_ne (tgt := 72) dX11_wordOf_64 dX11_wordOf_65 (by decide) (fun c2 => ?_) (fun c2 => ?_)
    · replace h := h.1 c2
      refine j_aload_n 1 dX11_wordOf_72 rfl ?_
      refine j_getl (i := 16) dX11_wordOf_73 f_X11_157 sh_61 rfl rfl ?_
      refine j_lload_n 0 dX11_wordOf_76 rfl ?_
      refine j_lcmp_ne (tgt := 85) dX11_wordOf_77 dX11_wordOf_78 (by decide) (fun c3 => ?_) (fun c3 => ?_)
      · replace h := h.1 c3
        refine j_aload_n 1 dX11_wordOf_85 rfl ?_
        refine j_getl (i := 16) dX11_wordOf_86 f_X11_157 sh_61 rfl rfl ?_
        refine j_bipush (x := 98) dX11_wordOf_89 rfl (i32_c rfl) ?_
        refine j_bipush (x := 97) dX11_wordOf_91 rfl (i32_c rfl) ?_
        refine j_bipush (x := 100) dX11_wordOf_93 rfl (i32_c rfl) ?_
        refine j_calllS (Yc := Y_X11_code) (as := [aI 98, aI 97, aI 100]) (rest := [aL (M 61 16)]) dX11_wordOf_95 q_X11_193 ⟨Nat.le_of_ble_eq_true rfl, Nat.le_of_ble_eq_true rfl, Nat.le_of_ble_eq_true rfl, Nat.le_of_ble_eq_true rfl⟩ rfl (Nat.le_of_ble_eq_true rfl) rfl (tl_of (ll := [(0, aI 98), (1, aI 97), (2, aI 100)]) rfl (Nat.le_of_ble_eq_true rfl) rfl (fun _ => ?_))
        refine j_ldc2 (x := 27) dX11_code_0 (ax_in 1320 (by decide +kernel) rfl) (i64_c rfl) ?_
        refine j_ldc2 (x := 27) dX11_code_3 (ax_in 1320 (by decide +kernel) rfl) (i64_c rfl) ?_
        refine j_iload_n 0 dX11_code_6 rfl ?_
        refine j_i2l dX11_code_7 ?_
        refine j_ldc2 (x := 96) dX11_code_8 (ax_in 1321 (by decide +kernel) rfl) (i64_c rfl) ?_
        refine j_lsub (z := 2) dX11_code_11 rfl (i64_c rfl) ?_
        refine j_lmul (z := 54) dX11_code_12 rfl (i64_c rfl) ?_
        refine j_iload_n 1 dX11_code_13 rfl ?_
        refine j_i2l dX11_code_14 ?_
        refine j_ladd (z := 151) dX11_code_15 rfl (i64_c rfl) ?_
        refine j_ldc2 (x := 96) dX11_code_16 (ax_in 1321 (by decide +kernel) rfl) (i64_c rfl) ?_
        refine j_lsub (z := 55) dX11_code_19 rfl (i64_c rfl) ?_
        refine j_lmul (z := 1485) dX11_code_20 rfl (i64_c rfl) ?_
        refine j_iload_n 2 dX11_code_21 rfl ?_
        refine j_i2l dX11_code_22 ?_
        refine j_ladd (z := 1585) dX11_code_23 rfl (i64_c rfl) ?_
        refine j_ldc2 (x := 96) dX11_code_24 (ax_in 1321 (by decide +kernel) rfl) (i64_c rfl) ?_
        refine j_lsub (z := 1489) dX11_code_27 rfl (i64_c rfl) ?_
        refine j_lret dX11_code_28 rfl ⟨Nat.le_of_ble_eq_true rfl, Nat.le_of_ble_eq_true rfl⟩ (fun _ => ?_)
        refine j_lcmp_ne (tgt := 107) dX11_wordOf_98 dX11_wordOf_99 (by decide) (fun c4 => ?_) (fun c4 => ?_)
        · replace h := h.1 c4
          refine j_iconst (x := (-1)) dX11_wordOf_107 rfl (i32_c rfl) ?_
          exact j_iret dX11_wordOf_108 rfl ⟨Nat.le_of_ble_eq_true rfl, Nat.le_of_ble_eq_true rfl⟩ (fun _ => h)
        · replace h := h.2 c4
          refine j_bipush (x := 6) dX11_wordOf_102 rfl (i32_c rfl) ?_
          refine j_goto (tgt := 108) dX11_wordOf_104 (by decide) ?_
          exact j_iret dX11_wordOf_108 rfl ⟨Nat.le_of_ble_eq_true rfl, Nat.le_of_ble_eq_true rfl⟩ (fun _ => h)
      · replace h := h.2 c3
        refine j_iconst (x := 5) dX11_wordOf_81 rfl (i32_c rfl) ?_
        refine j_goto (tgt := 108) dX11_wordOf_82 (by decide) ?_
        exact j_iret dX11_wordOf_108 rfl ⟨Nat.le_of_ble_eq_true rfl, Nat.le_of_ble_eq_true rfl⟩ (fun _ => h)
    · replace h := h.2 c2
      refine j_iconst (x := 4) dX11_wordOf_68 rfl (i32_c rfl) ?_
      refine j_goto (tgt := 108) dX11_wordOf_69 (by decide) ?_
      exact j_iret dX11_wordOf_108 rfl ⟨Nat.le_of_ble_eq_true rfl, Nat.le_of_ble_eq_true rfl⟩ (fun _ => h)
  · replace h := h.2 c1
    refine j_iconst (x := 3) dX11_wordOf_42 rfl (i32_c rfl) ?_
    refine j_goto (tgt := 108) dX11_wordOf_43 (by decide) ?_
    exact j_iret dX11_wordOf_108 rfl ⟨Nat.le_of_ble_eq_true rfl, Nat.le_of_ble_eq_true rfl⟩ (fun _ => h)
theorem E_X11_wordOf {post : Int → ax_M → Prop} {M : ax_M} (h : ax_mr SH M → (((¬ (M 61 16) = 79958) → (((¬ (M 61 16) = 459383) → (((¬ (M 61 16) = 3374884) → (((¬ (M 61 16) = 1489) → post (-1) M) ∧ (((M 61 16) = 1489) → post 6 M))) ∧ (((M 61 16) = 3374884) → post 5 M))) ∧ (((M 61 16) = 459383) → post 4 M))) ∧ (((M 61 16) = 79958) → post 3 M))) : ax_Ti Y_X11_wordOf [aR 61] SH M post :=
  ti_of rfl (Nat.le_of_ble_eq_true rfl) rfl (fun q => B_X11_wordOf_0 (h q))
set_option maxRecDepth 100000 in
set_option maxHeartbeats 4000000 in
theorem B_X11_step_0 {post : Int → ax_M → Prop} {M : ax_M} {x1 x2 x3 x4 x5 : Int} (h : (0 ≤ x2 ∧ x2 < 12) ∧ (((0 ≤ (M 77 x2)) → ax_Ti Y_X11_through [aR 61, aI x1, aI (M 77 x2), aI x4, aI x5] SH M (fun z2 u1 => (((z2 < 0) → (0 ≤ x3 ∧ x3 < 12) ∧ post 0 (ax_up u1 77 x3 (u1 77 x3))) ∧ ((0 ≤ z2) → (0 ≤ x3 ∧ x3 < 12) ∧ ((((u1 77 x3) < 0) → post 1 (ax_up u1 77 x3 z2)) ∧ ((0 ≤ (u1 77 x3)) → ((((u1 77 x3) ≤ z2) → post 0 (ax_up u1 77 x3 (u1 77 x3))) ∧ ((z2 < (u1 77 x3)) → post 1 (ax_up u1 77 x3 z2))))))))) ∧ (((M 77 x2) < 0) → (0 ≤ x3 ∧ x3 < 12) ∧ post 0 (ax_up M 77 x3 (M 77 x3))))) : ax_J Y_X11_step (ax_Ki Y_X11_step SH post) 0 0 0 [(0, aR 61), (1, aI x1), (2, aI x2), (3, aI x3), (4, aI x4), (5, aI x5)] [] SH M := by
  refine j_aload_n 0 dX11_step_0 rfl ?_
  refine j_getc 77 dX11_step_1 f_X11_66 sh_61 rfl ?_
  refine j_iload_n 2 dX11_step_4 rfl ?_
  obtain ⟨o1, h⟩ := h
  refine j_iald dX11_step_5 sh_77 o1.1 o1.2 (fun _ => ?_)
  refine j_if_ge (tgt := 13) dX11_step_6 (by decide) (fun c2 => ?_) (fun c2 => ?_)
  · replace h := h.1 c2
    refine j_aload_n 0 dX11_step_13 rfl ?_
    refine j_iload_n 1 dX11_step_14 rfl ?_
    refine j_aload_n 0 dX11_step_15 rfl ?_
    refine j_getc 77 dX11_step_16 f_X11_66 sh_61 rfl ?_
    refine j_iload_n 2 dX11_step_19 rfl ?_
    refine j_iald dX11_step_20 sh_77 o1.1 o1.2 (fun _ => ?_)
    refine j_iload 4 dX11_step_21 rfl ?_
    refine j_iload 5 dX11_step_23 rfl ?_
    refine j_calliV (Yc := Y_X11_through) (as := [aI x1, aI (M 77 x2), aI x4, aI x5]) (rest := []) dX11_step_25 q_X11_276 ⟨Nat.le_of_ble_eq_true rfl, Nat.le_of_ble_eq_true rfl, Nat.le_of_ble_eq_true rfl, Nat.le_of_ble_eq_true rfl⟩ sh_61 rfl (Nat.le_of_ble_eq_true rfl) rfl (ti_mono h (fun z2 u1 h => ?_))
    refine j_istore (ll' := [(6, aI z2), (0, aR 61), (1, aI x1), (2, aI x2), (3, aI x3), (4, aI x4), (5, aI x5)]) dX11_step_28 (Nat.le_of_ble_eq_true rfl) rfl ?_
    refine j_iload 0 dX11_step_30 rfl ?_
    refine j_if_lt (tgt := 59) dX11_step_32 (by decide) (fun c3 => ?_) (fun c3 => ?_)
    · replace h := h.1 c3
      refine j_iconst (x := 0) dX11_step_59 rfl (i32_c rfl) ?_
      refine j_istore (ll' := [(7, aI 0), (6, aI z2), (0, aR 61), (1, aI x1), (2, aI x2), (3, aI x3), (4, aI x4), (5, aI x5)]) dX11_step_60 (Nat.le_of_ble_eq_true rfl) rfl ?_
      refine j_aload_n 2 dX11_step_62 rfl ?_
      refine j_getc 77 dX11_step_63 f_X11_66 sh_61 rfl ?_
      refine j_iload_n 5 dX11_step_66 rfl ?_
      refine j_iload 0 dX11_step_67 rfl ?_
      refine j_if_eq (tgt := 77) dX11_step_69 (by decide) (fun _ => ?_) (fun c => absurd c (by decide))
      refine j_aload_n 2 dX11_step_77 rfl ?_
      refine j_getc 77 dX11_step_78 f_X11_66 sh_61 rfl ?_
      refine j_iload_n 5 dX11_step_81 rfl ?_
      obtain ⟨o4, h⟩ := h
      refine j_iald dX11_step_82 sh_77 o4.1 o4.2 (fun _ => ?_)
      refine j_iast dX11_step_83 sh_77 o4.1 o4.2 ?_
      refine j_iload 0 dX11_step_84 rfl ?_
      exact j_zret dX11_step_86 rfl ⟨Nat.le_of_ble_eq_true rfl, Nat.le_of_ble_eq_true rfl⟩ (by decide) h
    · replace h := h.2 c3
      refine j_aload_n 1 dX11_step_35 rfl ?_
      refine j_getc 77 dX11_step_36 f_X11_66 sh_61 rfl ?_
      refine j_iload_n 4 dX11_step_39 rfl ?_
      obtain ⟨o5, h⟩ := h
      refine j_iald dX11_step_40 sh_77 o5.1 o5.2 (fun _ => ?_)
      refine j_if_lt (tgt := 55) dX11_step_41 (by decide) (fun c6 => ?_) (fun c6 => ?_)
      · replace h := h.1 c6
        refine j_iconst (x := 1) dX11_step_55 rfl (i32_c rfl) ?_
        refine j_goto (tgt := 60) dX11_step_56 (by decide) ?_
        refine j_istore (ll' := [(7, aI 1), (6, aI z2), (0, aR 61), (1, aI x1), (2, aI x2), (3, aI x3), (4, aI x4), (5, aI x5)]) dX11_step_60 (Nat.le_of_ble_eq_true rfl) rfl ?_
        refine j_aload_n 2 dX11_step_62 rfl ?_
        refine j_getc 77 dX11_step_63 f_X11_66 sh_61 rfl ?_
        refine j_iload_n 5 dX11_step_66 rfl ?_
        refine j_iload 0 dX11_step_67 rfl ?_
        refine j_if_eq (tgt := 77) dX11_step_69 (by decide) (fun c => absurd c (by decide)) (fun _ => ?_)
        refine j_iload 1 dX11_step_72 rfl ?_
        refine j_goto (tgt := 83) dX11_step_74 (by decide) ?_
        refine j_iast dX11_step_83 sh_77 o5.1 o5.2 ?_
        refine j_iload 0 dX11_step_84 rfl ?_
        exact j_zret dX11_step_86 rfl ⟨Nat.le_of_ble_eq_true rfl, Nat.le_of_ble_eq_true rfl⟩ (by decide) h
      · replace h := h.2 c6
        refine j_iload 0 dX11_step_44 rfl ?_
        refine j_aload_n 1 dX11_step_46 rfl ?_
        refine j_getc 77 dX11_step_47 f_X11_66 sh_61 rfl ?_
        refine j_iload_n 4 dX11_step_50 rfl ?_
        refine j_iald dX11_step_51 sh_77 o5.1 o5.2 (fun _ => ?_)
        refine j_icmp_ge (tgt := 59) dX11_step_52 (by decide) (fun c7 => ?_) (fun c7 => ?_)
        · replace h := h.1 c7
          refine j_iconst (x := 0) dX11_step_59 rfl (i32_c rfl) ?_
          refine j_istore (ll' := [(7, aI 0), (6, aI z2), (0, aR 61), (1, aI x1), (2, aI x2), (3, aI x3), (4, aI x4), (5, aI x5)]) dX11_step_60 (Nat.le_of_ble_eq_true rfl) rfl ?_
          refine j_aload_n 2 dX11_step_62 rfl ?_
          refine j_getc 77 dX11_step_63 f_X11_66 sh_61 rfl ?_
          refine j_iload_n 5 dX11_step_66 rfl ?_
          refine j_iload 0 dX11_step_67 rfl ?_
          refine j_if_eq (tgt := 77) dX11_step_69 (by decide) (fun _ => ?_) (fun c => absurd c (by decide))
          refine j_aload_n 2 dX11_step_77 rfl ?_
          refine j_getc 77 dX11_step_78 f_X11_66 sh_61 rfl ?_
          refine j_iload_n 5 dX11_step_81 rfl ?_
          refine j_iald dX11_step_82 sh_77 o5.1 o5.2 (fun _ => ?_)
          refine j_iast dX11_step_83 sh_77 o5.1 o5.2 ?_
          refine j_iload 0 dX11_step_84 rfl ?_
          exact j_zret dX11_step_86 rfl ⟨Nat.le_of_ble_eq_true rfl, Nat.le_of_ble_eq_true rfl⟩ (by decide) h
        · replace h := h.2 c7
          refine j_iconst (x := 1) dX11_step_55 rfl (i32_c rfl) ?_
          refine j_goto (tgt := 60) dX11_step_56 (by decide) ?_
          refine j_istore (ll' := [(7, aI 1), (6, aI z2), (0, aR 61), (1, aI x1), (2, aI x2), (3, aI x3), (4, aI x4), (5, aI x5)]) dX11_step_60 (Nat.le_of_ble_eq_true rfl) rfl ?_
          refine j_aload_n 2 dX11_step_62 rfl ?_
          refine j_getc 77 dX11_step_63 f_X11_66 sh_61 rfl ?_
          refine j_iload_n 5 dX11_step_66 rfl ?_
          refine j_iload 0 dX11_step_67 rfl ?_
          refine j_if_eq (tgt := 77) dX11_step_69 (by decide) (fun c => absurd c (by decide)) (fun _ => ?_)
          refine j_iload 1 dX11_step_72 rfl ?_
          refine j_goto (tgt := 83) dX11_step_74 (by decide) ?_
          refine j_iast dX11_step_83 sh_77 o5.1 o5.2 ?_
          refine j_iload 0 dX11_step_84 rfl ?_
          exact j_zret dX11_step_86 rfl ⟨Nat.le_of_ble_eq_true rfl, Nat.le_of_ble_eq_true rfl⟩ (by decide) h
  · replace h := h.2 c2
    refine j_iconst (x := (-1)) dX11_step_9 rfl (i32_c rfl) ?_
    refine j_goto (tgt := 28) dX11_step_10 (by decide) ?_
    refine j_istore (ll' := [(6, aI (-1)), (0, aR 61), (1, aI x1), (2, aI x2), (3, aI x3), (4, aI x4), (5, aI x5)]) dX11_step_28 (Nat.le_of_ble_eq_true rfl) rfl ?_
    refine j_iload 0 dX11_step_30 rfl ?_
    refine j_if_lt (tgt := 59) dX11_step_32 (by decide) (fun _ => ?_) (fun c => absurd c (by decide))
    refine j_iconst (x := 0) dX11_step_59 rfl (i32_c rfl) ?_
    refine j_istore (ll' := [(7, aI 0), (6, aI (-1)), (0, aR 61), (1, aI x1), (2, aI x2), (3, aI x3), (4, aI x4), (5, aI x5)]) dX11_step_60 (Nat.le_of_ble_eq_true rfl) rfl ?_
    refine j_aload_n 2 dX11_step_62 rfl ?_
    refine j_getc 77 dX11_step_63 f_X11_66 sh_61 rfl ?_
    refine j_iload_n 5 dX11_step_66 rfl ?_
    refine j_iload 0 dX11_step_67 rfl ?_
    refine j_if_eq (tgt := 77) dX11_step_69 (by decide) (fun _ => ?_) (fun c => absurd c (by decide))
    refine j_aload_n 2 dX11_step_77 rfl ?_
    refine j_getc 77 dX11_step_78 f_X11_66 sh_61 rfl ?_
    refine j_iload_n 5 dX11_step_81 rfl ?_
    obtain ⟨o8, h⟩ := h
    refine j_iald dX11_step_82 sh_77 o8.1 o8.2 (fun _ => ?_)
    refine j_iast dX11_step_83 sh_77 o8.1 o8.2 ?_
    refine j_iload 0 dX11_step_84 rfl ?_
    exact j_zret dX11_step_86 rfl ⟨Nat.le_of_ble_eq_true rfl, Nat.le_of_ble_eq_true rfl⟩ (by decide) h
theorem E_X11_step {post : Int → ax_M → Prop} {M : ax_M} {x1 x2 x3 x4 x5 : Int} (h : ax_mr SH M → (0 ≤ x2 ∧ x2 < 12) ∧ (((0 ≤ (M 77 x2)) → ax_Ti Y_X11_through [aR 61, aI x1, aI (M 77 x2), aI x4, aI x5] SH M (fun z2 u1 => (((z2 < 0) → (0 ≤ x3 ∧ x3 < 12) ∧ post 0 (ax_up u1 77 x3 (u1 77 x3))) ∧ ((0 ≤ z2) → (0 ≤ x3 ∧ x3 < 12) ∧ ((((u1 77 x3) < 0) → post 1 (ax_up u1 77 x3 z2)) ∧ ((0 ≤ (u1 77 x3)) → ((((u1 77 x3) ≤ z2) → post 0 (ax_up u1 77 x3 (u1 77 x3))) ∧ ((z2 < (u1 77 x3)) → post 1 (ax_up u1 77 x3 z2))))))))) ∧ (((M 77 x2) < 0) → (0 ≤ x3 ∧ x3 < 12) ∧ post 0 (ax_up M 77 x3 (M 77 x3))))) : ax_Ti Y_X11_step [aR 61, aI x1, aI x2, aI x3, aI x4, aI x5] SH M post :=
  ti_of rfl (Nat.le_of_ble_eq_true rfl) rfl (fun q => B_X11_step_0 (h q))
set_option maxRecDepth 100000 in
set_option maxHeartbeats 4000000 in
theorem B_X11_come_0 {post : ax_M → Prop} {M : ax_M} {x1 x2 x3 : Int} (h : (0 ≤ x1 ∧ x1 < 732) ∧ (((¬ (M 82 x1) = 0) → post M) ∧ (((M 82 x1) = 0) → (0 ≤ (M 61 43) ∧ (M 61 43) < 732) ∧ (-2147483648 ≤ ((M 61 43) + 1) ∧ ((M 61 43) + 1) ≤ 2147483647) ∧ post (ax_up (ax_up (ax_up (ax_up (ax_up M 82 x1 1) 83 x1 x2) 84 x1 x3) 85 (M 61 43) x1) 61 43 ((M 61 43) + 1))))) : ax_J Y_X11_come (ax_Kv Y_X11_come SH post) 0 0 0 [(0, aR 61), (1, aI x1), (2, aI x2), (3, aI x3)] [] SH M := by
  refine j_aload_n 0 dX11_come_0 rfl ?_
  refine j_getc 82 dX11_come_1 f_X11_81 sh_61 rfl ?_
  refine j_iload_n 1 dX11_come_4 rfl ?_
  obtain ⟨o1, h⟩ := h
  refine j_zald dX11_come_5 sh_82 o1.1 o1.2 (fun _ => ?_)
  refine j_if_ne (tgt := 50) dX11_come_6 (by decide) (fun c2 => ?_) (fun c2 => ?_)
  · replace h := h.1 c2
    exact j_vret dX11_come_50 rfl ⟨Nat.le_of_ble_eq_true rfl, Nat.le_of_ble_eq_true rfl⟩ h
  · replace h := h.2 c2
    refine j_aload_n 0 dX11_come_9 rfl ?_
    refine j_getc 82 dX11_come_10 f_X11_81 sh_61 rfl ?_
    refine j_iload_n 1 dX11_come_13 rfl ?_
    refine j_iconst (x := 1) dX11_come_14 rfl (i32_c rfl) ?_
    refine j_zast dX11_come_15 sh_82 o1.1 o1.2 (by decide) ?_
    refine j_aload_n 0 dX11_come_16 rfl ?_
    refine j_getc 83 dX11_come_17 f_X11_84 sh_61 rfl ?_
    refine j_iload_n 1 dX11_come_20 rfl ?_
    refine j_iload_n 2 dX11_come_21 rfl ?_
    refine j_iast dX11_come_22 sh_83 o1.1 o1.2 ?_
    refine j_aload_n 0 dX11_come_23 rfl ?_
    refine j_getc 84 dX11_come_24 f_X11_87 sh_61 rfl ?_
    refine j_iload_n 1 dX11_come_27 rfl ?_
    refine j_iload_n 3 dX11_come_28 rfl ?_
    refine j_iast dX11_come_29 sh_84 o1.1 o1.2 ?_
    refine j_aload_n 0 dX11_come_30 rfl ?_
    refine j_getc 85 dX11_come_31 f_X11_90 sh_61 rfl ?_
    refine j_aload_n 0 dX11_come_34 rfl ?_
    refine j_geti (i := 43) dX11_come_35 f_X11_295 sh_61 rfl rfl (fun _ => ?_)
    refine j_iload_n 1 dX11_come_38 rfl ?_
    obtain ⟨o3, h⟩ := h
    refine j_iast dX11_come_39 sh_85 o3.1 o3.2 ?_
    refine j_aload_n 0 dX11_come_40 rfl ?_
    refine j_dup dX11_come_41 rfl ?_
    refine j_geti (i := 43) dX11_come_42 f_X11_295 sh_61 rfl rfl (fun _ => ?_)
    refine j_iconst (x := 1) dX11_come_45 rfl (i32_c rfl) ?_
    obtain ⟨o4, h⟩ := h
    refine j_iadd (z := ((M 61 43) + 1)) dX11_come_46 rfl o4 ?_
    refine j_puti (i := 43) dX11_come_47 p_X11_295 (fun h => by cases h) sh_61 rfl rfl ?_
    exact j_vret dX11_come_50 rfl ⟨Nat.le_of_ble_eq_true rfl, Nat.le_of_ble_eq_true rfl⟩ h
theorem E_X11_come {post : ax_M → Prop} {M : ax_M} {x1 x2 x3 : Int} (h : ax_mr SH M → (0 ≤ x1 ∧ x1 < 732) ∧ (((¬ (M 82 x1) = 0) → post M) ∧ (((M 82 x1) = 0) → (0 ≤ (M 61 43) ∧ (M 61 43) < 732) ∧ (-2147483648 ≤ ((M 61 43) + 1) ∧ ((M 61 43) + 1) ≤ 2147483647) ∧ post (ax_up (ax_up (ax_up (ax_up (ax_up M 82 x1 1) 83 x1 x2) 84 x1 x3) 85 (M 61 43) x1) 61 43 ((M 61 43) + 1))))) : ax_Tv Y_X11_come [aR 61, aI x1, aI x2, aI x3] SH M post :=
  tv_of rfl (Nat.le_of_ble_eq_true rfl) rfl (fun q => B_X11_come_0 (h q))
set_option maxRecDepth 100000 in
set_option maxHeartbeats 4000000 in
theorem B_X11_goOn_0 {post : ax_M → Prop} {M : ax_M} {x1 x2 x3 x4 : Int} (h : (0 ≤ x1 ∧ x1 < 24) ∧ (((¬ (M 62 x1) = x2) → (((¬ (M 63 x1) = x2) → post M) ∧ (((M 63 x1) = x2) → ((((M 69 x1) = 0) → ax_J Y_X11_goOn (ax_Kv Y_X11_goOn SH post) 0 0 43 [(0, aR 61), (1, aI x1), (2, aI x2), (3, aI x3), (4, aI x4), (5, aI 1)] [aI (M 62 x1)] SH M) ∧ ((¬ (M 69 x1) = 0) → post M))))) ∧ (((M 62 x1) = x2) → ((((M 69 x1) = 0) → ax_J Y_X11_goOn (ax_Kv Y_X11_goOn SH post) 0 0 43 [(0, aR 61), (1, aI x1), (2, aI x2), (3, aI x3), (4, aI x4), (5, aI 0)] [aI (M 63 x1)] SH M) ∧ ((¬ (M 69 x1) = 0) → post M))))) : ax_J Y_X11_goOn (ax_Kv Y_X11_goOn SH post) 0 0 0 [(0, aR 61), (1, aI x1), (2, aI x2), (3, aI x3), (4, aI x4)] [] SH M := by
  refine j_aload_n 0 dX11_goOn_0 rfl ?_
  refine j_iload_n 1 dX11_goOn_1 rfl ?_
  refine j_iload_n 2 dX11_goOn_2 rfl ?_
  refine j_calliV (Yc := Y_X11_side) (as := [aI x1, aI x2]) (rest := []) dX11_goOn_3 q_X11_298 ⟨Nat.le_of_ble_eq_true rfl, Nat.le_of_ble_eq_true rfl, Nat.le_of_ble_eq_true rfl, Nat.le_of_ble_eq_true rfl⟩ sh_61 rfl (Nat.le_of_ble_eq_true rfl) rfl (ti_of (ll := [(0, aR 61), (1, aI x1), (2, aI x2)]) rfl (Nat.le_of_ble_eq_true rfl) rfl (fun _ => ?_))
  refine j_aload_n 0 dX11_side_0 rfl ?_
  refine j_getc 62 dX11_side_1 f_X11_13 sh_61 rfl ?_
  refine j_iload_n 1 dX11_side_4 rfl ?_
  obtain ⟨o1, h⟩ := h
  refine j_iald dX11_side_5 sh_62 o1.1 o1.2 (fun _ => ?_)
  refine j_iload_n 2 dX11_side_6 rfl ?_
  refine j_icmp_ne (tgt := 14) dX11_side_7 (by decide) (fun c2 => ?_) (fun c2 => ?_)
  · replace h := h.1 c2
    refine j_aload_n 0 dX11_side_14 rfl ?_
    refine j_getc 63 dX11_side_15 f_X11_17 sh_61 rfl ?_
    refine j_iload_n 1 dX11_side_18 rfl ?_
    refine j_iald dX11_side_19 sh_63 o1.1 o1.2 (fun _ => ?_)
    refine j_iload_n 2 dX11_side_20 rfl ?_
    refine j_icmp_ne (tgt := 28) dX11_side_21 (by decide) (fun c3 => ?_) (fun c3 => ?_)
    · replace h := h.1 c3
      refine j_iconst (x := (-1)) dX11_side_28 rfl (i32_c rfl) ?_
      refine j_iret dX11_side_29 rfl ⟨Nat.le_of_ble_eq_true rfl, Nat.le_of_ble_eq_true rfl⟩ (fun _ => ?_)
      refine j_istore (ll' := [(5, aI (-1)), (0, aR 61), (1, aI x1), (2, aI x2), (3, aI x3), (4, aI x4)]) dX11_goOn_6 (Nat.le_of_ble_eq_true rfl) rfl ?_
      refine j_iload 0 dX11_goOn_8 rfl ?_
      refine j_if_lt (tgt := 22) dX11_goOn_10 (by decide) (fun _ => ?_) (fun c => absurd c (by decide))
      exact j_vret dX11_goOn_22 rfl ⟨Nat.le_of_ble_eq_true rfl, Nat.le_of_ble_eq_true rfl⟩ h
    · replace h := h.2 c3
      refine j_iconst (x := 1) dX11_side_24 rfl (i32_c rfl) ?_
      refine j_goto (tgt := 29) dX11_side_25 (by decide) ?_
      refine j_iret dX11_side_29 rfl ⟨Nat.le_of_ble_eq_true rfl, Nat.le_of_ble_eq_true rfl⟩ (fun _ => ?_)
      refine j_istore (ll' := [(5, aI 1), (0, aR 61), (1, aI x1), (2, aI x2), (3, aI x3), (4, aI x4)]) dX11_goOn_6 (Nat.le_of_ble_eq_true rfl) rfl ?_
      refine j_iload 0 dX11_goOn_8 rfl ?_
      refine j_if_lt (tgt := 22) dX11_goOn_10 (by decide) (fun c => absurd c (by decide)) (fun _ => ?_)
      refine j_aload_n 1 dX11_goOn_13 rfl ?_
      refine j_getc 69 dX11_goOn_14 f_X11_35 sh_61 rfl ?_
      refine j_iload_n 2 dX11_goOn_17 rfl ?_
      refine j_zald dX11_goOn_18 sh_69 o1.1 o1.2 (fun _ => ?_)
      refine j_if_eq (tgt := 23) dX11_goOn_19 (by decide) (fun c4 => ?_) (fun c4 => ?_)
      · replace h := h.1 c4
        refine j_iload 0 dX11_goOn_23 rfl ?_
        refine j_if_ne (tgt := 37) dX11_goOn_25 (by decide) (fun _ => ?_) (fun c => absurd c (by decide))
        refine j_aload_n 1 dX11_goOn_37 rfl ?_
        refine j_getc 62 dX11_goOn_38 f_X11_13 sh_61 rfl ?_
        refine j_iload_n 2 dX11_goOn_41 rfl ?_
        refine j_iald dX11_goOn_42 sh_62 o1.1 o1.2 (fun _ => ?_)
        refine j_sub [1, 2, 3, 4, 5, 0] rfl ?_
        exact h
      · replace h := h.2 c4
        exact j_vret dX11_goOn_22 rfl ⟨Nat.le_of_ble_eq_true rfl, Nat.le_of_ble_eq_true rfl⟩ h
  · replace h := h.2 c2
    refine j_iconst (x := 0) dX11_side_10 rfl (i32_c rfl) ?_
    refine j_goto (tgt := 29) dX11_side_11 (by decide) ?_
    refine j_iret dX11_side_29 rfl ⟨Nat.le_of_ble_eq_true rfl, Nat.le_of_ble_eq_true rfl⟩ (fun _ => ?_)
    refine j_istore (ll' := [(5, aI 0), (0, aR 61), (1, aI x1), (2, aI x2), (3, aI x3), (4, aI x4)]) dX11_goOn_6 (Nat.le_of_ble_eq_true rfl) rfl ?_
    refine j_iload 0 dX11_goOn_8 rfl ?_
    refine j_if_lt (tgt := 22) dX11_goOn_10 (by decide) (fun c => absurd c (by decide)) (fun _ => ?_)
    refine j_aload_n 1 dX11_goOn_13 rfl ?_
    refine j_getc 69 dX11_goOn_14 f_X11_35 sh_61 rfl ?_
    refine j_iload_n 2 dX11_goOn_17 rfl ?_
    refine j_zald dX11_goOn_18 sh_69 o1.1 o1.2 (fun _ => ?_)
    refine j_if_eq (tgt := 23) dX11_goOn_19 (by decide) (fun c5 => ?_) (fun c5 => ?_)
    · replace h := h.1 c5
      refine j_iload 0 dX11_goOn_23 rfl ?_
      refine j_if_ne (tgt := 37) dX11_goOn_25 (by decide) (fun c => absurd c (by decide)) (fun _ => ?_)
      refine j_aload_n 1 dX11_goOn_28 rfl ?_
      refine j_getc 63 dX11_goOn_29 f_X11_17 sh_61 rfl ?_
      refine j_iload_n 2 dX11_goOn_32 rfl ?_
      refine j_iald dX11_goOn_33 sh_63 o1.1 o1.2 (fun _ => ?_)
      refine j_goto (tgt := 43) dX11_goOn_34 (by decide) ?_
      refine j_sub [1, 2, 3, 4, 5, 0] rfl ?_
      exact h
    · replace h := h.2 c5
      exact j_vret dX11_goOn_22 rfl ⟨Nat.le_of_ble_eq_true rfl, Nat.le_of_ble_eq_true rfl⟩ h
theorem E_X11_goOn {post : ax_M → Prop} {M : ax_M} {x1 x2 x3 x4 : Int} (h : ax_mr SH M → (0 ≤ x1 ∧ x1 < 24) ∧ (((¬ (M 62 x1) = x2) → (((¬ (M 63 x1) = x2) → post M) ∧ (((M 63 x1) = x2) → ((((M 69 x1) = 0) → ax_J Y_X11_goOn (ax_Kv Y_X11_goOn SH post) 0 0 43 [(0, aR 61), (1, aI x1), (2, aI x2), (3, aI x3), (4, aI x4), (5, aI 1)] [aI (M 62 x1)] SH M) ∧ ((¬ (M 69 x1) = 0) → post M))))) ∧ (((M 62 x1) = x2) → ((((M 69 x1) = 0) → ax_J Y_X11_goOn (ax_Kv Y_X11_goOn SH post) 0 0 43 [(0, aR 61), (1, aI x1), (2, aI x2), (3, aI x3), (4, aI x4), (5, aI 0)] [aI (M 63 x1)] SH M) ∧ ((¬ (M 69 x1) = 0) → post M))))) : ax_Tv Y_X11_goOn [aR 61, aI x1, aI x2, aI x3, aI x4] SH M post :=
  tv_of rfl (Nat.le_of_ble_eq_true rfl) rfl (fun q => B_X11_goOn_0 (h q))
set_option maxRecDepth 100000 in
set_option maxHeartbeats 4000000 in
theorem B_X11_goOn_43 {post : ax_M → Prop} {M : ax_M} {s0 x1 x2 x3 x4 x5 : Int} (h : (0 ≤ x1 ∧ x1 < 24) ∧ (-2147483648 ≤ (x3 + (M 64 x1)) ∧ (x3 + (M 64 x1)) ≤ 2147483647) ∧ (((x4 < (x3 + (M 64 x1))) → ax_J Y_X11_goOn (ax_Kv Y_X11_goOn SH post) 0 0 120 [(0, aR 61), (1, aI x1), (2, aI x2), (3, aI x3), (5, aI x5), (6, aI s0)] [] SH M) ∧ (((x3 + (M 64 x1)) ≤ x4) → ((((M 67 x1) < (x3 + (M 64 x1))) → ax_J Y_X11_goOn (ax_Kv Y_X11_goOn SH post) 0 0 120 [(0, aR 61), (1, aI x1), (2, aI x2), (3, aI x3), (5, aI x5), (6, aI s0)] [] SH M) ∧ (((x3 + (M 64 x1)) ≤ (M 67 x1)) → (-2147483648 ≤ (2 * x1) ∧ (2 * x1) ≤ 2147483647) ∧ (-2147483648 ≤ ((2 * x1) + x5) ∧ ((2 * x1) + x5) ≤ 2147483647) ∧ (-2147483648 ≤ (61 * ((2 * x1) + x5)) ∧ (61 * ((2 * x1) + x5)) ≤ 2147483647) ∧ (-2147483648 ≤ ((61 * ((2 * x1) + x5)) + x3) ∧ ((61 * ((2 * x1) + x5)) + x3) ≤ 2147483647) ∧ (0 ≤ ((61 * ((2 * x1) + x5)) + x3) ∧ ((61 * ((2 * x1) + x5)) + x3) < 2928) ∧ ((((M 66 x1) ≤ (M 78 ((61 * ((2 * x1) + x5)) + x3))) → ax_J Y_X11_goOn (ax_Kv Y_X11_goOn SH post) 0 0 120 [(0, aR 61), (1, aI x1), (2, aI x2), (3, aI x3), (5, aI x5), (6, aI s0)] [] SH M) ∧ (((M 78 ((61 * ((2 * x1) + x5)) + x3)) < (M 66 x1)) → (-2147483648 ≤ (61 * s0) ∧ (61 * s0) ≤ 2147483647) ∧ (-2147483648 ≤ ((61 * s0) + (x3 + (M 64 x1))) ∧ ((61 * s0) + (x3 + (M 64 x1))) ≤ 2147483647) ∧ (-2147483648 ≤ (61 * x2) ∧ (61 * x2) ≤ 2147483647) ∧ (-2147483648 ≤ ((61 * x2) + x3) ∧ ((61 * x2) + x3) ≤ 2147483647) ∧ ax_Tv Y_X11_come [aR 61, aI ((61 * s0) + (x3 + (M 64 x1))), aI ((61 * x2) + x3), aI ((2 * x1) + x5)] SH M (fun u1 => ax_J Y_X11_goOn (ax_Kv Y_X11_goOn SH post) 0 0 120 [(0, aR 61), (1, aI x1), (2, aI x2), (3, aI x3), (5, aI x5), (6, aI s0)] [] SH u1)))))))) : ax_J Y_X11_goOn (ax_Kv Y_X11_goOn SH post) 0 0 43 [(0, aR 61), (1, aI x1), (2, aI x2), (3, aI x3), (4, aI x4), (5, aI x5)] [aI s0] SH M := by
  refine j_istore (ll' := [(6, aI s0), (0, aR 61), (1, aI x1), (2, aI x2), (3, aI x3), (4, aI x4), (5, aI x5)]) dX11_goOn_43 (Nat.le_of_ble_eq_true rfl) rfl ?_
  refine j_iload_n 4 dX11_goOn_45 rfl ?_
  refine j_aload_n 1 dX11_goOn_46 rfl ?_
  refine j_getc 64 dX11_goOn_47 f_X11_20 sh_61 rfl ?_
  refine j_iload_n 2 dX11_goOn_50 rfl ?_
  obtain ⟨o1, h⟩ := h
  refine j_iald dX11_goOn_51 sh_64 o1.1 o1.2 (fun _ => ?_)
  obtain ⟨o2, h⟩ := h
  refine j_iadd (z := (x3 + (M 64 x1))) dX11_goOn_52 rfl o2 ?_
  refine j_istore (ll' := [(7, aI (x3 + (M 64 x1))), (6, aI s0), (0, aR 61), (1, aI x1), (2, aI x2), (3, aI x3), (4, aI x4), (5, aI x5)]) dX11_goOn_53 (Nat.le_of_ble_eq_true rfl) rfl ?_
  refine j_iload 0 dX11_goOn_55 rfl ?_
  refine j_iload 6 dX11_goOn_57 rfl ?_
  refine j_icmp_gt (tgt := 120) dX11_goOn_59 (by decide) (fun c3 => ?_) (fun c3 => ?_)
  · replace h := h.1 c3
    refine j_sub [2, 3, 4, 5, 7, 1] rfl ?_
    exact h
  · replace h := h.2 c3
    refine j_iload 0 dX11_goOn_62 rfl ?_
    refine j_aload_n 2 dX11_goOn_64 rfl ?_
    refine j_getc 67 dX11_goOn_65 f_X11_29 sh_61 rfl ?_
    refine j_iload_n 3 dX11_goOn_68 rfl ?_
    refine j_iald dX11_goOn_69 sh_67 o1.1 o1.2 (fun _ => ?_)
    refine j_icmp_gt (tgt := 120) dX11_goOn_70 (by decide) (fun c4 => ?_) (fun c4 => ?_)
    · replace h := h.1 c4
      refine j_sub [2, 3, 4, 5, 7, 1] rfl ?_
      exact h
    · replace h := h.2 c4
      refine j_aload_n 2 dX11_goOn_73 rfl ?_
      refine j_getc 78 dX11_goOn_74 f_X11_69 sh_61 rfl ?_
      refine j_bipush (x := 61) dX11_goOn_77 rfl (i32_c rfl) ?_
      refine j_iconst (x := 2) dX11_goOn_79 rfl (i32_c rfl) ?_
      refine j_iload_n 3 dX11_goOn_80 rfl ?_
      obtain ⟨o5, h⟩ := h
      refine j_imul (z := (2 * x1)) dX11_goOn_81 rfl o5 ?_
      refine j_iload 7 dX11_goOn_82 rfl ?_
      obtain ⟨o6, h⟩ := h
      refine j_iadd (z := ((2 * x1) + x5)) dX11_goOn_84 rfl o6 ?_
      obtain ⟨o7, h⟩ := h
      refine j_imul (z := (61 * ((2 * x1) + x5))) dX11_goOn_85 rfl o7 ?_
      refine j_iload_n 5 dX11_goOn_86 rfl ?_
      obtain ⟨o8, h⟩ := h
      refine j_iadd (z := ((61 * ((2 * x1) + x5)) + x3)) dX11_goOn_87 rfl o8 ?_
      obtain ⟨o9, h⟩ := h
      refine j_iald dX11_goOn_88 sh_78 o9.1 o9.2 (fun _ => ?_)
      refine j_aload_n 2 dX11_goOn_89 rfl ?_
      refine j_getc 66 dX11_goOn_90 f_X11_26 sh_61 rfl ?_
      refine j_iload_n 3 dX11_goOn_93 rfl ?_
      refine j_iald dX11_goOn_94 sh_66 o1.1 o1.2 (fun _ => ?_)
      refine j_icmp_ge (tgt := 120) dX11_goOn_95 (by decide) (fun c10 => ?_) (fun c10 => ?_)
      · replace h := h.1 c10
        refine j_sub [2, 3, 4, 5, 7, 1] rfl ?_
        exact h
      · replace h := h.2 c10
        refine j_aload_n 2 dX11_goOn_98 rfl ?_
        refine j_iload 1 dX11_goOn_99 rfl ?_
        refine j_iload 0 dX11_goOn_101 rfl ?_
        refine j_calliS (Yc := Y_X11_at) (as := [aI s0, aI (x3 + (M 64 x1))]) (rest := [aR 61]) dX11_goOn_103 q_X11_301 ⟨Nat.le_of_ble_eq_true rfl, Nat.le_of_ble_eq_true rfl, Nat.le_of_ble_eq_true rfl, Nat.le_of_ble_eq_true rfl⟩ rfl (Nat.le_of_ble_eq_true rfl) rfl (ti_of (ll := [(0, aI s0), (1, aI (x3 + (M 64 x1)))]) rfl (Nat.le_of_ble_eq_true rfl) rfl (fun _ => ?_))
        refine j_bipush (x := 61) dX11_at_0 rfl (i32_c rfl) ?_
        refine j_iload_n 0 dX11_at_2 rfl ?_
        obtain ⟨o11, h⟩ := h
        refine j_imul (z := (61 * s0)) dX11_at_3 rfl o11 ?_
        refine j_iload_n 1 dX11_at_4 rfl ?_
        obtain ⟨o12, h⟩ := h
        refine j_iadd (z := ((61 * s0) + (x3 + (M 64 x1)))) dX11_at_5 rfl o12 ?_
        refine j_iret dX11_at_6 rfl ⟨Nat.le_of_ble_eq_true rfl, Nat.le_of_ble_eq_true rfl⟩ (fun _ => ?_)
        refine j_iload_n 4 dX11_goOn_106 rfl ?_
        refine j_iload_n 5 dX11_goOn_107 rfl ?_
        refine j_calliS (Yc := Y_X11_at) (as := [aI x2, aI x3]) (rest := [aI ((61 * s0) + (x3 + (M 64 x1))), aR 61]) dX11_goOn_108 q_X11_301 ⟨Nat.le_of_ble_eq_true rfl, Nat.le_of_ble_eq_true rfl, Nat.le_of_ble_eq_true rfl, Nat.le_of_ble_eq_true rfl⟩ rfl (Nat.le_of_ble_eq_true rfl) rfl (ti_of (ll := [(0, aI x2), (1, aI x3)]) rfl (Nat.le_of_ble_eq_true rfl) rfl (fun _ => ?_))
        refine j_bipush (x := 61) dX11_at_0 rfl (i32_c rfl) ?_
        refine j_iload_n 0 dX11_at_2 rfl ?_
        obtain ⟨o13, h⟩ := h
        refine j_imul (z := (61 * x2)) dX11_at_3 rfl o13 ?_
        refine j_iload_n 1 dX11_at_4 rfl ?_
        obtain ⟨o14, h⟩ := h
        refine j_iadd (z := ((61 * x2) + x3)) dX11_at_5 rfl o14 ?_
        refine j_iret dX11_at_6 rfl ⟨Nat.le_of_ble_eq_true rfl, Nat.le_of_ble_eq_true rfl⟩ (fun _ => ?_)
        refine j_iconst (x := 2) dX11_goOn_111 rfl (i32_c rfl) ?_
        refine j_iload_n 3 dX11_goOn_112 rfl ?_
        refine j_imul (z := (2 * x1)) dX11_goOn_113 rfl o5 ?_
        refine j_iload 7 dX11_goOn_114 rfl ?_
        refine j_iadd (z := ((2 * x1) + x5)) dX11_goOn_116 rfl o6 ?_
        refine j_callvV (Yc := Y_X11_come) (as := [aI ((61 * s0) + (x3 + (M 64 x1))), aI ((61 * x2) + x3), aI ((2 * x1) + x5)]) (rest := []) dX11_goOn_117 q_X11_304 ⟨Nat.le_of_ble_eq_true rfl, Nat.le_of_ble_eq_true rfl, Nat.le_of_ble_eq_true rfl, Nat.le_of_ble_eq_true rfl⟩ sh_61 rfl (Nat.le_of_ble_eq_true rfl) rfl (tv_mono h (fun u1 h => ?_))
        refine j_sub [2, 3, 4, 5, 7, 1] rfl ?_
        exact h
set_option maxRecDepth 100000 in
set_option maxHeartbeats 4000000 in
theorem B_X11_goOn_120 {post : ax_M → Prop} {M : ax_M} {x1 x2 x3 x5 x6 : Int} (h : (0 ≤ x1 ∧ x1 < 24) ∧ (-2147483648 ≤ (x3 - (M 64 x1)) ∧ (x3 - (M 64 x1)) ≤ 2147483647) ∧ ((((x3 - (M 64 x1)) < 0) → post M) ∧ ((0 ≤ (x3 - (M 64 x1))) → (-2147483648 ≤ (2 * x1) ∧ (2 * x1) ≤ 2147483647) ∧ (-2147483648 ≤ ((2 * x1) + 1) ∧ ((2 * x1) + 1) ≤ 2147483647) ∧ (-2147483648 ≤ (((2 * x1) + 1) - x5) ∧ (((2 * x1) + 1) - x5) ≤ 2147483647) ∧ (-2147483648 ≤ (61 * (((2 * x1) + 1) - x5)) ∧ (61 * (((2 * x1) + 1) - x5)) ≤ 2147483647) ∧ (-2147483648 ≤ ((61 * (((2 * x1) + 1) - x5)) + (x3 - (M 64 x1))) ∧ ((61 * (((2 * x1) + 1) - x5)) + (x3 - (M 64 x1))) ≤ 2147483647) ∧ (0 ≤ ((61 * (((2 * x1) + 1) - x5)) + (x3 - (M 64 x1))) ∧ ((61 * (((2 * x1) + 1) - x5)) + (x3 - (M 64 x1))) < 2928) ∧ ((((M 78 ((61 * (((2 * x1) + 1) - x5)) + (x3 - (M 64 x1)))) ≤ 0) → post M) ∧ ((0 < (M 78 ((61 * (((2 * x1) + 1) - x5)) + (x3 - (M 64 x1))))) → (-2147483648 ≤ (61 * x6) ∧ (61 * x6) ≤ 2147483647) ∧ (-2147483648 ≤ ((61 * x6) + (x3 - (M 64 x1))) ∧ ((61 * x6) + (x3 - (M 64 x1))) ≤ 2147483647) ∧ (-2147483648 ≤ (61 * x2) ∧ (61 * x2) ≤ 2147483647) ∧ (-2147483648 ≤ ((61 * x2) + x3) ∧ ((61 * x2) + x3) ≤ 2147483647) ∧ (-2147483648 ≤ (100 + (2 * x1)) ∧ (100 + (2 * x1)) ≤ 2147483647) ∧ (-2147483648 ≤ ((100 + (2 * x1)) + 1) ∧ ((100 + (2 * x1)) + 1) ≤ 2147483647) ∧ (-2147483648 ≤ (((100 + (2 * x1)) + 1) - x5) ∧ (((100 + (2 * x1)) + 1) - x5) ≤ 2147483647) ∧ ax_Tv Y_X11_come [aR 61, aI ((61 * x6) + (x3 - (M 64 x1))), aI ((61 * x2) + x3), aI (((100 + (2 * x1)) + 1) - x5)] SH M (fun u1 => post u1)))))) : ax_J Y_X11_goOn (ax_Kv Y_X11_goOn SH post) 0 0 120 [(0, aR 61), (1, aI x1), (2, aI x2), (3, aI x3), (5, aI x5), (6, aI x6)] [] SH M := by
  refine j_iload_n 3 dX11_goOn_120 rfl ?_
  refine j_aload_n 0 dX11_goOn_121 rfl ?_
  refine j_getc 64 dX11_goOn_122 f_X11_20 sh_61 rfl ?_
  refine j_iload_n 1 dX11_goOn_125 rfl ?_
  obtain ⟨o1, h⟩ := h
  refine j_iald dX11_goOn_126 sh_64 o1.1 o1.2 (fun _ => ?_)
  obtain ⟨o2, h⟩ := h
  refine j_isub (z := (x3 - (M 64 x1))) dX11_goOn_127 rfl o2 ?_
  refine j_istore (ll' := [(8, aI (x3 - (M 64 x1))), (0, aR 61), (1, aI x1), (2, aI x2), (3, aI x3), (5, aI x5), (6, aI x6)]) dX11_goOn_128 (Nat.le_of_ble_eq_true rfl) rfl ?_
  refine j_iload 0 dX11_goOn_130 rfl ?_
  refine j_if_lt (tgt := 184) dX11_goOn_132 (by decide) (fun c3 => ?_) (fun c3 => ?_)
  · replace h := h.1 c3
    exact j_vret dX11_goOn_184 rfl ⟨Nat.le_of_ble_eq_true rfl, Nat.le_of_ble_eq_true rfl⟩ h
  · replace h := h.2 c3
    refine j_aload_n 1 dX11_goOn_135 rfl ?_
    refine j_getc 78 dX11_goOn_136 f_X11_69 sh_61 rfl ?_
    refine j_bipush (x := 61) dX11_goOn_139 rfl (i32_c rfl) ?_
    refine j_iconst (x := 2) dX11_goOn_141 rfl (i32_c rfl) ?_
    refine j_iload_n 2 dX11_goOn_142 rfl ?_
    obtain ⟨o4, h⟩ := h
    refine j_imul (z := (2 * x1)) dX11_goOn_143 rfl o4 ?_
    refine j_iconst (x := 1) dX11_goOn_144 rfl (i32_c rfl) ?_
    obtain ⟨o5, h⟩ := h
    refine j_iadd (z := ((2 * x1) + 1)) dX11_goOn_145 rfl o5 ?_
    refine j_iload 5 dX11_goOn_146 rfl ?_
    obtain ⟨o6, h⟩ := h
    refine j_isub (z := (((2 * x1) + 1) - x5)) dX11_goOn_148 rfl o6 ?_
    obtain ⟨o7, h⟩ := h
    refine j_imul (z := (61 * (((2 * x1) + 1) - x5))) dX11_goOn_149 rfl o7 ?_
    refine j_iload 0 dX11_goOn_150 rfl ?_
    obtain ⟨o8, h⟩ := h
    refine j_iadd (z := ((61 * (((2 * x1) + 1) - x5)) + (x3 - (M 64 x1)))) dX11_goOn_152 rfl o8 ?_
    obtain ⟨o9, h⟩ := h
    refine j_iald dX11_goOn_153 sh_78 o9.1 o9.2 (fun _ => ?_)
    refine j_if_le (tgt := 184) dX11_goOn_154 (by decide) (fun c10 => ?_) (fun c10 => ?_)
    · replace h := h.1 c10
      exact j_vret dX11_goOn_184 rfl ⟨Nat.le_of_ble_eq_true rfl, Nat.le_of_ble_eq_true rfl⟩ h
    · replace h := h.2 c10
      refine j_aload_n 1 dX11_goOn_157 rfl ?_
      refine j_iload 6 dX11_goOn_158 rfl ?_
      refine j_iload 0 dX11_goOn_160 rfl ?_
      refine j_calliS (Yc := Y_X11_at) (as := [aI x6, aI (x3 - (M 64 x1))]) (rest := [aR 61]) dX11_goOn_162 q_X11_301 ⟨Nat.le_of_ble_eq_true rfl, Nat.le_of_ble_eq_true rfl, Nat.le_of_ble_eq_true rfl, Nat.le_of_ble_eq_true rfl⟩ rfl (Nat.le_of_ble_eq_true rfl) rfl (ti_of (ll := [(0, aI x6), (1, aI (x3 - (M 64 x1)))]) rfl (Nat.le_of_ble_eq_true rfl) rfl (fun _ => ?_))
      refine j_bipush (x := 61) dX11_at_0 rfl (i32_c rfl) ?_
      refine j_iload_n 0 dX11_at_2 rfl ?_
      obtain ⟨o11, h⟩ := h
      refine j_imul (z := (61 * x6)) dX11_at_3 rfl o11 ?_
      refine j_iload_n 1 dX11_at_4 rfl ?_
      obtain ⟨o12, h⟩ := h
      refine j_iadd (z := ((61 * x6) + (x3 - (M 64 x1)))) dX11_at_5 rfl o12 ?_
      refine j_iret dX11_at_6 rfl ⟨Nat.le_of_ble_eq_true rfl, Nat.le_of_ble_eq_true rfl⟩ (fun _ => ?_)
      refine j_iload_n 3 dX11_goOn_165 rfl ?_
      refine j_iload_n 4 dX11_goOn_166 rfl ?_
      refine j_calliS (Yc := Y_X11_at) (as := [aI x2, aI x3]) (rest := [aI ((61 * x6) + (x3 - (M 64 x1))), aR 61]) dX11_goOn_167 q_X11_301 ⟨Nat.le_of_ble_eq_true rfl, Nat.le_of_ble_eq_true rfl, Nat.le_of_ble_eq_true rfl, Nat.le_of_ble_eq_true rfl⟩ rfl (Nat.le_of_ble_eq_true rfl) rfl (ti_of (ll := [(0, aI x2), (1, aI x3)]) rfl (Nat.le_of_ble_eq_true rfl) rfl (fun _ => ?_))
      refine j_bipush (x := 61) dX11_at_0 rfl (i32_c rfl) ?_
      refine j_iload_n 0 dX11_at_2 rfl ?_
      obtain ⟨o13, h⟩ := h
      refine j_imul (z := (61 * x2)) dX11_at_3 rfl o13 ?_
      refine j_iload_n 1 dX11_at_4 rfl ?_
      obtain ⟨o14, h⟩ := h
      refine j_iadd (z := ((61 * x2) + x3)) dX11_at_5 rfl o14 ?_
      refine j_iret dX11_at_6 rfl ⟨Nat.le_of_ble_eq_true rfl, Nat.le_of_ble_eq_true rfl⟩ (fun _ => ?_)
      refine j_bipush (x := 100) dX11_goOn_170 rfl (i32_c rfl) ?_
      refine j_iconst (x := 2) dX11_goOn_172 rfl (i32_c rfl) ?_
      refine j_iload_n 2 dX11_goOn_173 rfl ?_
      refine j_imul (z := (2 * x1)) dX11_goOn_174 rfl o4 ?_
      obtain ⟨o15, h⟩ := h
      refine j_iadd (z := (100 + (2 * x1))) dX11_goOn_175 rfl o15 ?_
      refine j_iconst (x := 1) dX11_goOn_176 rfl (i32_c rfl) ?_
      obtain ⟨o16, h⟩ := h
      refine j_iadd (z := ((100 + (2 * x1)) + 1)) dX11_goOn_177 rfl o16 ?_
      refine j_iload 5 dX11_goOn_178 rfl ?_
      obtain ⟨o17, h⟩ := h
      refine j_isub (z := (((100 + (2 * x1)) + 1) - x5)) dX11_goOn_180 rfl o17 ?_
      refine j_callvV (Yc := Y_X11_come) (as := [aI ((61 * x6) + (x3 - (M 64 x1))), aI ((61 * x2) + x3), aI (((100 + (2 * x1)) + 1) - x5)]) (rest := []) dX11_goOn_181 q_X11_304 ⟨Nat.le_of_ble_eq_true rfl, Nat.le_of_ble_eq_true rfl, Nat.le_of_ble_eq_true rfl, Nat.le_of_ble_eq_true rfl⟩ sh_61 rfl (Nat.le_of_ble_eq_true rfl) rfl (tv_mono h (fun u1 h => ?_))
      exact j_vret dX11_goOn_184 rfl ⟨Nat.le_of_ble_eq_true rfl, Nat.le_of_ble_eq_true rfl⟩ h
set_option maxRecDepth 100000 in
set_option maxHeartbeats 4000000 in
theorem B_X11_menAt_0 {post : Int → ax_M → Prop} {M : ax_M} {x1 : Int} (h : ax_J Y_X11_menAt (ax_Ki Y_X11_menAt SH post) 0 0 4 [(0, aR 61), (1, aI x1), (2, aI 0), (3, aI 0)] [] SH M) : ax_J Y_X11_menAt (ax_Ki Y_X11_menAt SH post) 0 0 0 [(0, aR 61), (1, aI x1)] [] SH M := by
  refine j_iconst (x := 0) dX11_menAt_0 rfl (i32_c rfl) ?_
  refine j_istore_n (ll' := [(2, aI 0), (0, aR 61), (1, aI x1)]) dX11_menAt_1 (Nat.le_of_ble_eq_true rfl) rfl ?_
  refine j_iconst (x := 0) dX11_menAt_2 rfl (i32_c rfl) ?_
  refine j_istore_n (ll' := [(3, aI 0), (2, aI 0), (0, aR 61), (1, aI x1)]) dX11_menAt_3 (Nat.le_of_ble_eq_true rfl) rfl ?_
  refine j_sub [2, 3, 1, 0] rfl ?_
  exact h
theorem E_X11_menAt {post : Int → ax_M → Prop} {M : ax_M} {x1 : Int} (h : ax_mr SH M → ax_J Y_X11_menAt (ax_Ki Y_X11_menAt SH post) 0 0 4 [(0, aR 61), (1, aI x1), (2, aI 0), (3, aI 0)] [] SH M) : ax_Ti Y_X11_menAt [aR 61, aI x1] SH M post :=
  ti_of rfl (Nat.le_of_ble_eq_true rfl) rfl (fun q => B_X11_menAt_0 (h q))
set_option maxRecDepth 100000 in
set_option maxHeartbeats 4000000 in
theorem B_X11_menAt_4 {post : Int → ax_M → Prop} {M : ax_M} {x1 x2 x3 : Int} (h : ((((M 61 25) ≤ x3) → post x2 M) ∧ ((x3 < (M 61 25)) → (0 ≤ x3 ∧ x3 < 8) ∧ (((¬ (M 72 x3) = x1) → (-2147483648 ≤ (x2 + 0) ∧ (x2 + 0) ≤ 2147483647) ∧ (-2147483648 ≤ (x3 + 1) ∧ (x3 + 1) ≤ 2147483647) ∧ ax_J Y_X11_menAt (ax_Ki Y_X11_menAt SH post) 0 0 4 [(0, aR 61), (1, aI x1), (2, aI (x2 + 0)), (3, aI (x3 + 1))] [] SH M) ∧ (((M 72 x3) = x1) → (-2147483648 ≤ (x2 + 1) ∧ (x2 + 1) ≤ 2147483647) ∧ (-2147483648 ≤ (x3 + 1) ∧ (x3 + 1) ≤ 2147483647) ∧ ax_J Y_X11_menAt (ax_Ki Y_X11_menAt SH post) 0 0 4 [(0, aR 61), (1, aI x1), (2, aI (x2 + 1)), (3, aI (x3 + 1))] [] SH M))))) : ax_J Y_X11_menAt (ax_Ki Y_X11_menAt SH post) 0 0 4 [(0, aR 61), (1, aI x1), (2, aI x2), (3, aI x3)] [] SH M := by
  refine j_iload_n 3 dX11_menAt_4 rfl ?_
  refine j_aload_n 0 dX11_menAt_5 rfl ?_
  refine j_geti (i := 25) dX11_menAt_6 f_X11_240 sh_61 rfl rfl (fun _ => ?_)
  refine j_icmp_ge (tgt := 36) dX11_menAt_9 (by decide) (fun c1 => ?_) (fun c1 => ?_)
  · replace h := h.1 c1
    refine j_iload_n 2 dX11_menAt_36 rfl ?_
    exact j_iret dX11_menAt_37 rfl ⟨Nat.le_of_ble_eq_true rfl, Nat.le_of_ble_eq_true rfl⟩ (fun _ => h)
  · replace h := h.2 c1
    refine j_iload_n 2 dX11_menAt_12 rfl ?_
    refine j_aload_n 0 dX11_menAt_13 rfl ?_
    refine j_getc 72 dX11_menAt_14 f_X11_48 sh_61 rfl ?_
    refine j_iload_n 3 dX11_menAt_17 rfl ?_
    obtain ⟨o2, h⟩ := h
    refine j_iald dX11_menAt_18 sh_72 o2.1 o2.2 (fun _ => ?_)
    refine j_iload_n 1 dX11_menAt_19 rfl ?_
    refine j_icmp_ne (tgt := 27) dX11_menAt_20 (by decide) (fun c3 => ?_) (fun c3 => ?_)
    · replace h := h.1 c3
      refine j_iconst (x := 0) dX11_menAt_27 rfl (i32_c rfl) ?_
      obtain ⟨o4, h⟩ := h
      refine j_iadd (z := (x2 + 0)) dX11_menAt_28 rfl o4 ?_
      refine j_istore_n (ll' := [(2, aI (x2 + 0)), (0, aR 61), (1, aI x1), (3, aI x3)]) dX11_menAt_29 (Nat.le_of_ble_eq_true rfl) rfl ?_
      obtain ⟨o5, h⟩ := h
      refine j_iinc (ll' := [(3, aI (x3 + 1)), (2, aI (x2 + 0)), (0, aR 61), (1, aI x1)]) 3 dX11_menAt_30 rfl (Nat.le_of_ble_eq_true rfl) o5 rfl ?_
      refine j_goto (tgt := 4) dX11_menAt_33 (by decide) ?_
      refine j_sub [2, 3, 1, 0] rfl ?_
      exact h
    · replace h := h.2 c3
      refine j_iconst (x := 1) dX11_menAt_23 rfl (i32_c rfl) ?_
      refine j_goto (tgt := 28) dX11_menAt_24 (by decide) ?_
      obtain ⟨o6, h⟩ := h
      refine j_iadd (z := (x2 + 1)) dX11_menAt_28 rfl o6 ?_
      refine j_istore_n (ll' := [(2, aI (x2 + 1)), (0, aR 61), (1, aI x1), (3, aI x3)]) dX11_menAt_29 (Nat.le_of_ble_eq_true rfl) rfl ?_
      obtain ⟨o7, h⟩ := h
      refine j_iinc (ll' := [(3, aI (x3 + 1)), (2, aI (x2 + 1)), (0, aR 61), (1, aI x1)]) 3 dX11_menAt_30 rfl (Nat.le_of_ble_eq_true rfl) o7 rfl ?_
      refine j_goto (tgt := 4) dX11_menAt_33 (by decide) ?_
      refine j_sub [2, 3, 1, 0] rfl ?_
      exact h
set_option maxRecDepth 100000 in
set_option maxHeartbeats 4000000 in
theorem B_X11_toldAt_0 {post : Int → ax_M → Prop} {M : ax_M} {x1 x2 : Int} (h : ax_J Y_X11_toldAt (ax_Ki Y_X11_toldAt SH post) 0 0 5 [(0, aR 61), (1, aI x1), (2, aI x2), (3, aI 0), (4, aI 0)] [] SH M) : ax_J Y_X11_toldAt (ax_Ki Y_X11_toldAt SH post) 0 0 0 [(0, aR 61), (1, aI x1), (2, aI x2)] [] SH M := by
  refine j_iconst (x := 0) dX11_toldAt_0 rfl (i32_c rfl) ?_
  refine j_istore_n (ll' := [(3, aI 0), (0, aR 61), (1, aI x1), (2, aI x2)]) dX11_toldAt_1 (Nat.le_of_ble_eq_true rfl) rfl ?_
  refine j_iconst (x := 0) dX11_toldAt_2 rfl (i32_c rfl) ?_
  refine j_istore (ll' := [(4, aI 0), (3, aI 0), (0, aR 61), (1, aI x1), (2, aI x2)]) dX11_toldAt_3 (Nat.le_of_ble_eq_true rfl) rfl ?_
  refine j_sub [2, 3, 4, 1, 0] rfl ?_
  exact h
theorem E_X11_toldAt {post : Int → ax_M → Prop} {M : ax_M} {x1 x2 : Int} (h : ax_mr SH M → ax_J Y_X11_toldAt (ax_Ki Y_X11_toldAt SH post) 0 0 5 [(0, aR 61), (1, aI x1), (2, aI x2), (3, aI 0), (4, aI 0)] [] SH M) : ax_Ti Y_X11_toldAt [aR 61, aI x1, aI x2] SH M post :=
  ti_of rfl (Nat.le_of_ble_eq_true rfl) rfl (fun q => B_X11_toldAt_0 (h q))
set_option maxRecDepth 100000 in
set_option maxHeartbeats 4000000 in
theorem B_X11_toldAt_5 {post : Int → ax_M → Prop} {M : ax_M} {x1 x2 x3 x4 : Int} (h : ((((M 61 25) ≤ x4) → post x3 M) ∧ ((x4 < (M 61 25)) → (0 ≤ x4 ∧ x4 < 8) ∧ (((¬ (M 72 x4) = x1) → (-2147483648 ≤ (x3 + 0) ∧ (x3 + 0) ≤ 2147483647) ∧ (-2147483648 ≤ (x4 + 1) ∧ (x4 + 1) ≤ 2147483647) ∧ ax_J Y_X11_toldAt (ax_Ki Y_X11_toldAt SH post) 0 0 5 [(0, aR 61), (1, aI x1), (2, aI x2), (3, aI (x3 + 0)), (4, aI (x4 + 1))] [] SH M) ∧ (((M 72 x4) = x1) → (((¬ (M 73 x4) = 0) → (-2147483648 ≤ (x3 + 0) ∧ (x3 + 0) ≤ 2147483647) ∧ (-2147483648 ≤ (x4 + 1) ∧ (x4 + 1) ≤ 2147483647) ∧ ax_J Y_X11_toldAt (ax_Ki Y_X11_toldAt SH post) 0 0 5 [(0, aR 61), (1, aI x1), (2, aI x2), (3, aI (x3 + 0)), (4, aI (x4 + 1))] [] SH M) ∧ (((M 73 x4) = 0) → (-2147483648 ≤ (2 * x1) ∧ (2 * x1) ≤ 2147483647) ∧ ((((M 74 x4) = 0) → (-2147483648 ≤ ((2 * x1) + 0) ∧ ((2 * x1) + 0) ≤ 2147483647) ∧ (0 ≤ ((2 * x1) + 0) ∧ ((2 * x1) + 0) < 24) ∧ ((((M 87 ((2 * x1) + 0)) < x2) → (-2147483648 ≤ (x3 + 0) ∧ (x3 + 0) ≤ 2147483647) ∧ (-2147483648 ≤ (x4 + 1) ∧ (x4 + 1) ≤ 2147483647) ∧ ax_J Y_X11_toldAt (ax_Ki Y_X11_toldAt SH post) 0 0 5 [(0, aR 61), (1, aI x1), (2, aI x2), (3, aI (x3 + 0)), (4, aI (x4 + 1))] [] SH M) ∧ ((x2 ≤ (M 87 ((2 * x1) + 0))) → (-2147483648 ≤ (x3 + 1) ∧ (x3 + 1) ≤ 2147483647) ∧ (-2147483648 ≤ (x4 + 1) ∧ (x4 + 1) ≤ 2147483647) ∧ ax_J Y_X11_toldAt (ax_Ki Y_X11_toldAt SH post) 0 0 5 [(0, aR 61), (1, aI x1), (2, aI x2), (3, aI (x3 + 1)), (4, aI (x4 + 1))] [] SH M))) ∧ ((¬ (M 74 x4) = 0) → (-2147483648 ≤ ((2 * x1) + 1) ∧ ((2 * x1) + 1) ≤ 2147483647) ∧ (0 ≤ ((2 * x1) + 1) ∧ ((2 * x1) + 1) < 24) ∧ ((((M 87 ((2 * x1) + 1)) < x2) → (-2147483648 ≤ (x3 + 0) ∧ (x3 + 0) ≤ 2147483647) ∧ (-2147483648 ≤ (x4 + 1) ∧ (x4 + 1) ≤ 2147483647) ∧ ax_J Y_X11_toldAt (ax_Ki Y_X11_toldAt SH post) 0 0 5 [(0, aR 61), (1, aI x1), (2, aI x2), (3, aI (x3 + 0)), (4, aI (x4 + 1))] [] SH M) ∧ ((x2 ≤ (M 87 ((2 * x1) + 1))) → (-2147483648 ≤ (x3 + 1) ∧ (x3 + 1) ≤ 2147483647) ∧ (-2147483648 ≤ (x4 + 1) ∧ (x4 + 1) ≤ 2147483647) ∧ ax_J Y_X11_toldAt (ax_Ki Y_X11_toldAt SH post) 0 0 5 [(0, aR 61), (1, aI x1), (2, aI x2), (3, aI (x3 + 1)), (4, aI (x4 + 1))] [] SH M))))))))))) : ax_J Y_X11_toldAt (ax_Ki Y_X11_toldAt SH post) 0 0 5 [(0, aR 61), (1, aI x1), (2, aI x2), (3, aI x3), (4, aI x4)] [] SH M := by
  refine j_iload 4 dX11_toldAt_5 rfl ?_
  refine j_aload_n 0 dX11_toldAt_7 rfl ?_
  refine j_geti (i := 25) dX11_toldAt_8 f_X11_240 sh_61 rfl rfl (fun _ => ?_)
  refine j_icmp_ge (tgt := 89) dX11_toldAt_11 (by decide) (fun c1 => ?_) (fun c1 => ?_)
  · replace h := h.1 c1
    refine j_iload_n 3 dX11_toldAt_89 rfl ?_
    exact j_iret dX11_toldAt_90 rfl ⟨Nat.le_of_ble_eq_true rfl, Nat.le_of_ble_eq_true rfl⟩ (fun _ => h)
  · replace h := h.2 c1
    refine j_aload_n 0 dX11_toldAt_14 rfl ?_
    refine j_getc 72 dX11_toldAt_15 f_X11_48 sh_61 rfl ?_
    refine j_iload 4 dX11_toldAt_18 rfl ?_
    obtain ⟨o2, h⟩ := h
    refine j_iald dX11_toldAt_20 sh_72 o2.1 o2.2 (fun _ => ?_)
    refine j_iload_n 1 dX11_toldAt_21 rfl ?_
    refine j_icmp_ne (tgt := 39) dX11_toldAt_22 (by decide) (fun c3 => ?_) (fun c3 => ?_)
    · replace h := h.1 c3
      refine j_iconst (x := 0) dX11_toldAt_39 rfl (i32_c rfl) ?_
      refine j_istore (ll' := [(5, aI 0), (0, aR 61), (1, aI x1), (2, aI x2), (3, aI x3), (4, aI x4)]) dX11_toldAt_40 (Nat.le_of_ble_eq_true rfl) rfl ?_
      refine j_iload_n 4 dX11_toldAt_42 rfl ?_
      refine j_iload 0 dX11_toldAt_43 rfl ?_
      refine j_if_eq (tgt := 80) dX11_toldAt_45 (by decide) (fun _ => ?_) (fun c => absurd c (by decide))
      refine j_iconst (x := 0) dX11_toldAt_80 rfl (i32_c rfl) ?_
      obtain ⟨o4, h⟩ := h
      refine j_iadd (z := (x3 + 0)) dX11_toldAt_81 rfl o4 ?_
      refine j_istore_n (ll' := [(3, aI (x3 + 0)), (5, aI 0), (0, aR 61), (1, aI x1), (2, aI x2), (4, aI x4)]) dX11_toldAt_82 (Nat.le_of_ble_eq_true rfl) rfl ?_
      obtain ⟨o5, h⟩ := h
      refine j_iinc (ll' := [(4, aI (x4 + 1)), (3, aI (x3 + 0)), (5, aI 0), (0, aR 61), (1, aI x1), (2, aI x2)]) 5 dX11_toldAt_83 rfl (Nat.le_of_ble_eq_true rfl) o5 rfl ?_
      refine j_goto (tgt := 5) dX11_toldAt_86 (by decide) ?_
      refine j_sub [3, 4, 5, 1, 0] rfl ?_
      exact h
    · replace h := h.2 c3
      refine j_aload_n 0 dX11_toldAt_25 rfl ?_
      refine j_getc 73 dX11_toldAt_26 f_X11_51 sh_61 rfl ?_
      refine j_iload 4 dX11_toldAt_29 rfl ?_
      refine j_zald dX11_toldAt_31 sh_73 o2.1 o2.2 (fun _ => ?_)
      refine j_if_ne (tgt := 39) dX11_toldAt_32 (by decide) (fun c6 => ?_) (fun c6 => ?_)
      · replace h := h.1 c6
        refine j_iconst (x := 0) dX11_toldAt_39 rfl (i32_c rfl) ?_
        refine j_istore (ll' := [(5, aI 0), (0, aR 61), (1, aI x1), (2, aI x2), (3, aI x3), (4, aI x4)]) dX11_toldAt_40 (Nat.le_of_ble_eq_true rfl) rfl ?_
        refine j_iload_n 4 dX11_toldAt_42 rfl ?_
        refine j_iload 0 dX11_toldAt_43 rfl ?_
        refine j_if_eq (tgt := 80) dX11_toldAt_45 (by decide) (fun _ => ?_) (fun c => absurd c (by decide))
        refine j_iconst (x := 0) dX11_toldAt_80 rfl (i32_c rfl) ?_
        obtain ⟨o7, h⟩ := h
        refine j_iadd (z := (x3 + 0)) dX11_toldAt_81 rfl o7 ?_
        refine j_istore_n (ll' := [(3, aI (x3 + 0)), (5, aI 0), (0, aR 61), (1, aI x1), (2, aI x2), (4, aI x4)]) dX11_toldAt_82 (Nat.le_of_ble_eq_true rfl) rfl ?_
        obtain ⟨o8, h⟩ := h
        refine j_iinc (ll' := [(4, aI (x4 + 1)), (3, aI (x3 + 0)), (5, aI 0), (0, aR 61), (1, aI x1), (2, aI x2)]) 5 dX11_toldAt_83 rfl (Nat.le_of_ble_eq_true rfl) o8 rfl ?_
        refine j_goto (tgt := 5) dX11_toldAt_86 (by decide) ?_
        refine j_sub [3, 4, 5, 1, 0] rfl ?_
        exact h
      · replace h := h.2 c6
        refine j_iconst (x := 1) dX11_toldAt_35 rfl (i32_c rfl) ?_
        refine j_goto (tgt := 40) dX11_toldAt_36 (by decide) ?_
        refine j_istore (ll' := [(5, aI 1), (0, aR 61), (1, aI x1), (2, aI x2), (3, aI x3), (4, aI x4)]) dX11_toldAt_40 (Nat.le_of_ble_eq_true rfl) rfl ?_
        refine j_iload_n 4 dX11_toldAt_42 rfl ?_
        refine j_iload 0 dX11_toldAt_43 rfl ?_
        refine j_if_eq (tgt := 80) dX11_toldAt_45 (by decide) (fun c => absurd c (by decide)) (fun _ => ?_)
        refine j_aload_n 1 dX11_toldAt_48 rfl ?_
        refine j_getc 87 dX11_toldAt_49 f_X11_96 sh_61 rfl ?_
        refine j_iconst (x := 2) dX11_toldAt_52 rfl (i32_c rfl) ?_
        refine j_iload_n 2 dX11_toldAt_53 rfl ?_
        obtain ⟨o9, h⟩ := h
        refine j_imul (z := (2 * x1)) dX11_toldAt_54 rfl o9 ?_
        refine j_aload_n 1 dX11_toldAt_55 rfl ?_
        refine j_getc 74 dX11_toldAt_56 f_X11_54 sh_61 rfl ?_
        refine j_iload 5 dX11_toldAt_59 rfl ?_
        refine j_zald dX11_toldAt_61 sh_74 o2.1 o2.2 (fun _ => ?_)
        refine j_if_eq (tgt := 69) dX11_toldAt_62 (by decide) (fun c10 => ?_) (fun c10 => ?_)
        · replace h := h.1 c10
          refine j_iconst (x := 0) dX11_toldAt_69 rfl (i32_c rfl) ?_
          obtain ⟨o11, h⟩ := h
          refine j_iadd (z := ((2 * x1) + 0)) dX11_toldAt_70 rfl o11 ?_
          obtain ⟨o12, h⟩ := h
          refine j_iald dX11_toldAt_71 sh_87 o12.1 o12.2 (fun _ => ?_)
          refine j_iload_n 3 dX11_toldAt_72 rfl ?_
          refine j_icmp_lt (tgt := 80) dX11_toldAt_73 (by decide) (fun c13 => ?_) (fun c13 => ?_)
          · replace h := h.1 c13
            refine j_iconst (x := 0) dX11_toldAt_80 rfl (i32_c rfl) ?_
            obtain ⟨o14, h⟩ := h
            refine j_iadd (z := (x3 + 0)) dX11_toldAt_81 rfl o14 ?_
            refine j_istore_n (ll' := [(3, aI (x3 + 0)), (5, aI 1), (0, aR 61), (1, aI x1), (2, aI x2), (4, aI x4)]) dX11_toldAt_82 (Nat.le_of_ble_eq_true rfl) rfl ?_
            obtain ⟨o15, h⟩ := h
            refine j_iinc (ll' := [(4, aI (x4 + 1)), (3, aI (x3 + 0)), (5, aI 1), (0, aR 61), (1, aI x1), (2, aI x2)]) 5 dX11_toldAt_83 rfl (Nat.le_of_ble_eq_true rfl) o15 rfl ?_
            refine j_goto (tgt := 5) dX11_toldAt_86 (by decide) ?_
            refine j_sub [3, 4, 5, 1, 0] rfl ?_
            exact h
          · replace h := h.2 c13
            refine j_iconst (x := 1) dX11_toldAt_76 rfl (i32_c rfl) ?_
            refine j_goto (tgt := 81) dX11_toldAt_77 (by decide) ?_
            obtain ⟨o16, h⟩ := h
            refine j_iadd (z := (x3 + 1)) dX11_toldAt_81 rfl o16 ?_
            refine j_istore_n (ll' := [(3, aI (x3 + 1)), (5, aI 1), (0, aR 61), (1, aI x1), (2, aI x2), (4, aI x4)]) dX11_toldAt_82 (Nat.le_of_ble_eq_true rfl) rfl ?_
            obtain ⟨o17, h⟩ := h
            refine j_iinc (ll' := [(4, aI (x4 + 1)), (3, aI (x3 + 1)), (5, aI 1), (0, aR 61), (1, aI x1), (2, aI x2)]) 5 dX11_toldAt_83 rfl (Nat.le_of_ble_eq_true rfl) o17 rfl ?_
            refine j_goto (tgt := 5) dX11_toldAt_86 (by decide) ?_
            refine j_sub [3, 4, 5, 1, 0] rfl ?_
            exact h
        · replace h := h.2 c10
          refine j_iconst (x := 1) dX11_toldAt_65 rfl (i32_c rfl) ?_
          refine j_goto (tgt := 70) dX11_toldAt_66 (by decide) ?_
          obtain ⟨o18, h⟩ := h
          refine j_iadd (z := ((2 * x1) + 1)) dX11_toldAt_70 rfl o18 ?_
          obtain ⟨o19, h⟩ := h
          refine j_iald dX11_toldAt_71 sh_87 o19.1 o19.2 (fun _ => ?_)
          refine j_iload_n 3 dX11_toldAt_72 rfl ?_
          refine j_icmp_lt (tgt := 80) dX11_toldAt_73 (by decide) (fun c20 => ?_) (fun c20 => ?_)
          · replace h := h.1 c20
            refine j_iconst (x := 0) dX11_toldAt_80 rfl (i32_c rfl) ?_
            obtain ⟨o21, h⟩ := h
            refine j_iadd (z := (x3 + 0)) dX11_toldAt_81 rfl o21 ?_
            refine j_istore_n (ll' := [(3, aI (x3 + 0)), (5, aI 1), (0, aR 61), (1, aI x1), (2, aI x2), (4, aI x4)]) dX11_toldAt_82 (Nat.le_of_ble_eq_true rfl) rfl ?_
            obtain ⟨o22, h⟩ := h
            refine j_iinc (ll' := [(4, aI (x4 + 1)), (3, aI (x3 + 0)), (5, aI 1), (0, aR 61), (1, aI x1), (2, aI x2)]) 5 dX11_toldAt_83 rfl (Nat.le_of_ble_eq_true rfl) o22 rfl ?_
            refine j_goto (tgt := 5) dX11_toldAt_86 (by decide) ?_
            refine j_sub [3, 4, 5, 1, 0] rfl ?_
            exact h
          · replace h := h.2 c20
            refine j_iconst (x := 1) dX11_toldAt_76 rfl (i32_c rfl) ?_
            refine j_goto (tgt := 81) dX11_toldAt_77 (by decide) ?_
            obtain ⟨o23, h⟩ := h
            refine j_iadd (z := (x3 + 1)) dX11_toldAt_81 rfl o23 ?_
            refine j_istore_n (ll' := [(3, aI (x3 + 1)), (5, aI 1), (0, aR 61), (1, aI x1), (2, aI x2), (4, aI x4)]) dX11_toldAt_82 (Nat.le_of_ble_eq_true rfl) rfl ?_
            obtain ⟨o24, h⟩ := h
            refine j_iinc (ll' := [(4, aI (x4 + 1)), (3, aI (x3 + 1)), (5, aI 1), (0, aR 61), (1, aI x1), (2, aI x2)]) 5 dX11_toldAt_83 rfl (Nat.le_of_ble_eq_true rfl) o24 rfl ?_
            refine j_goto (tgt := 5) dX11_toldAt_86 (by decide) ?_
            refine j_sub [3, 4, 5, 1, 0] rfl ?_
            exact h
