set_option maxRecDepth 100000 in
set_option maxHeartbeats 4000000 in
theorem B_X10_feed_0 {post : Int → ax_M → Prop} {M : ax_M} {x1 x2 : Int} (h : (((x1 < 1) → post (-1002) M) ∧ ((1 ≤ x1) → (((8 < x1) → post (-1002) M) ∧ ((x1 ≤ 8) → (-2147483648 ≤ ((M 1 1) + x1) ∧ ((M 1 1) + x1) ≤ 2147483647) ∧ (((((M 1 1) + x1) ≤ 400) → ax_Tv Y_X8_append [aR 1, aI x1, aL x2] SH M (fun u1 => post (u1 1 1) u1)) ∧ ((400 < ((M 1 1) + x1)) → post (-1004) M))))))) : ax_J Y_X10_feed (ax_Ki Y_X10_feed SH post) 0 0 0 [(0, aR 0), (1, aI x1), (2, aL x2)] [] SH M := by
  refine j_iload_n 1 dX10_feed_0 rfl ?_
  refine j_iconst (x := 1) dX10_feed_1 rfl (i32_c rfl) ?_
  refine j_bipush (x := 8) dX10_feed_2 rfl (i32_c rfl) ?_
  refine j_calliS (Yc := Y_X10_within) (as := [aI x1, aI 1, aI 8]) (rest := []) dX10_feed_4 q_X10_99 ⟨Nat.le_of_ble_eq_true rfl, Nat.le_of_ble_eq_true rfl, Nat.le_of_ble_eq_true rfl, Nat.le_of_ble_eq_true rfl⟩ rfl (Nat.le_of_ble_eq_true rfl) rfl (ti_of (ll := [(0, aI x1), (1, aI 1), (2, aI 8)]) rfl (Nat.le_of_ble_eq_true rfl) rfl (fun _ => ?_))
  refine j_iload_n 0 dX10_within_0 rfl ?_
  refine j_iload_n 1 dX10_within_1 rfl ?_
  refine j_icmp_lt (tgt := 14) dX10_within_2 (by decide) (fun c1 => ?_) (fun c1 => ?_)
  · replace h := h.1 c1
    refine j_iconst (x := 0) dX10_within_14 rfl (i32_c rfl) ?_
    refine j_zret dX10_within_15 rfl ⟨Nat.le_of_ble_eq_true rfl, Nat.le_of_ble_eq_true rfl⟩ (by decide) ?_
    refine j_if_ne (tgt := 14) dX10_feed_7 (by decide) (fun c => absurd c (by decide)) (fun _ => ?_)
    refine j_sipush (x := (-1002)) dX10_feed_10 rfl (i32_c rfl) ?_
    exact j_iret dX10_feed_13 rfl ⟨Nat.le_of_ble_eq_true rfl, Nat.le_of_ble_eq_true rfl⟩ (fun _ => h)
  · replace h := h.2 c1
    refine j_iload_n 0 dX10_within_5 rfl ?_
    refine j_iload_n 2 dX10_within_6 rfl ?_
    refine j_icmp_gt (tgt := 14) dX10_within_7 (by decide) (fun c2 => ?_) (fun c2 => ?_)
    · replace h := h.1 c2
      refine j_iconst (x := 0) dX10_within_14 rfl (i32_c rfl) ?_
      refine j_zret dX10_within_15 rfl ⟨Nat.le_of_ble_eq_true rfl, Nat.le_of_ble_eq_true rfl⟩ (by decide) ?_
      refine j_if_ne (tgt := 14) dX10_feed_7 (by decide) (fun c => absurd c (by decide)) (fun _ => ?_)
      refine j_sipush (x := (-1002)) dX10_feed_10 rfl (i32_c rfl) ?_
      exact j_iret dX10_feed_13 rfl ⟨Nat.le_of_ble_eq_true rfl, Nat.le_of_ble_eq_true rfl⟩ (fun _ => h)
    · replace h := h.2 c2
      refine j_iconst (x := 1) dX10_within_10 rfl (i32_c rfl) ?_
      refine j_goto (tgt := 15) dX10_within_11 (by decide) ?_
      refine j_zret dX10_within_15 rfl ⟨Nat.le_of_ble_eq_true rfl, Nat.le_of_ble_eq_true rfl⟩ (by decide) ?_
      refine j_if_ne (tgt := 14) dX10_feed_7 (by decide) (fun _ => ?_) (fun c => absurd c (by decide))
      refine j_aload_n 0 dX10_feed_14 rfl ?_
      refine j_getc 1 dX10_feed_15 f_X10_12 sh_0 rfl ?_
      refine j_geti (i := 1) dX10_feed_18 f_X10_103 sh_1 rfl rfl (fun _ => ?_)
      refine j_iload_n 1 dX10_feed_21 rfl ?_
      obtain ⟨o3, h⟩ := h
      refine j_iadd (z := ((M 1 1) + x1)) dX10_feed_22 rfl o3 ?_
      refine j_sipush (x := 400) dX10_feed_23 rfl (i32_c rfl) ?_
      refine j_icmp_le (tgt := 33) dX10_feed_26 (by decide) (fun c4 => ?_) (fun c4 => ?_)
      · replace h := h.1 c4
        refine j_aload_n 0 dX10_feed_33 rfl ?_
        refine j_getc 1 dX10_feed_34 f_X10_12 sh_0 rfl ?_
        refine j_iload_n 1 dX10_feed_37 rfl ?_
        refine j_lload_n 2 dX10_feed_38 rfl ?_
        refine j_callvV (Yc := Y_X8_append) (as := [aI x1, aL x2]) (rest := []) dX10_feed_39 q_X10_106 ⟨Nat.le_of_ble_eq_true rfl, Nat.le_of_ble_eq_true rfl, Nat.le_of_ble_eq_true rfl, Nat.le_of_ble_eq_true rfl⟩ sh_1 rfl (Nat.le_of_ble_eq_true rfl) rfl (tv_mono h (fun u1 h => ?_))
        refine j_aload_n 0 dX10_feed_42 rfl ?_
        refine j_getc 1 dX10_feed_43 f_X10_12 sh_0 rfl ?_
        refine j_geti (i := 1) dX10_feed_46 f_X10_103 sh_1 rfl rfl (fun _ => ?_)
        exact j_iret dX10_feed_49 rfl ⟨Nat.le_of_ble_eq_true rfl, Nat.le_of_ble_eq_true rfl⟩ (fun _ => h)
      · replace h := h.2 c4
        refine j_sipush (x := (-1004)) dX10_feed_29 rfl (i32_c rfl) ?_
        exact j_iret dX10_feed_32 rfl ⟨Nat.le_of_ble_eq_true rfl, Nat.le_of_ble_eq_true rfl⟩ (fun _ => h)
theorem E_X10_feed {post : Int → ax_M → Prop} {M : ax_M} {x1 x2 : Int} (h : ax_mr SH M → (((x1 < 1) → post (-1002) M) ∧ ((1 ≤ x1) → (((8 < x1) → post (-1002) M) ∧ ((x1 ≤ 8) → (-2147483648 ≤ ((M 1 1) + x1) ∧ ((M 1 1) + x1) ≤ 2147483647) ∧ (((((M 1 1) + x1) ≤ 400) → ax_Tv Y_X8_append [aR 1, aI x1, aL x2] SH M (fun u1 => post (u1 1 1) u1)) ∧ ((400 < ((M 1 1) + x1)) → post (-1004) M))))))) : ax_Ti Y_X10_feed [aR 0, aI x1, aL x2] SH M post :=
  ti_of rfl (Nat.le_of_ble_eq_true rfl) rfl (fun q => B_X10_feed_0 (h q))
set_option maxRecDepth 100000 in
set_option maxHeartbeats 4000000 in
theorem B_X10_pit_0 {post : Int → ax_M → Prop} {M : ax_M} (h : ax_Ti Y_X5_read [aR 3] SH M (fun z2 u1 => (((z2 = 0) → ax_Tv Y_X3_become [aR 6, aR 4] SH (ax_up (ax_up u1 1 1 0) 0 12 (u1 3 5)) (fun u3 => ax_Tv Y_X0_vanish [aR 8] SH u3 (fun u4 => ax_J Y_X10_pit (ax_Ki Y_X10_pit SH post) 0 0 67 [(0, aR 0), (2, aI 0)] [] SH (ax_up u4 31 1 0)))) ∧ ((¬ z2 = 0) → (-2147483648 ≤ ((-10) - z2) ∧ ((-10) - z2) ≤ 2147483647) ∧ post ((-10) - z2) (ax_up (ax_up u1 1 1 0) 0 12 (u1 3 5)))))) : ax_J Y_X10_pit (ax_Ki Y_X10_pit SH post) 0 0 0 [(0, aR 0)] [] SH M := by
  refine j_aload_n 0 dX10_pit_0 rfl ?_
  refine j_getc 3 dX10_pit_1 f_X10_21 sh_0 rfl ?_
  refine j_calliV (Yc := Y_X5_read) (as := []) (rest := []) dX10_pit_4 q_X10_110 ⟨Nat.le_of_ble_eq_true rfl, Nat.le_of_ble_eq_true rfl, Nat.le_of_ble_eq_true rfl, Nat.le_of_ble_eq_true rfl⟩ sh_3 rfl (Nat.le_of_ble_eq_true rfl) rfl (ti_mono h (fun z2 u1 h => ?_))
  refine j_istore_n (ll' := [(1, aI z2), (0, aR 0)]) dX10_pit_7 (Nat.le_of_ble_eq_true rfl) rfl ?_
  refine j_aload_n 1 dX10_pit_8 rfl ?_
  refine j_getc 1 dX10_pit_9 f_X10_12 sh_0 rfl ?_
  refine j_iconst (x := 0) dX10_pit_12 rfl (i32_c rfl) ?_
  refine j_puti (i := 1) dX10_pit_13 p_X10_103 (fun h => by cases h) sh_1 rfl rfl ?_
  refine j_aload_n 1 dX10_pit_16 rfl ?_
  refine j_aload_n 1 dX10_pit_17 rfl ?_
  refine j_getc 3 dX10_pit_18 f_X10_21 sh_0 rfl ?_
  refine j_geti (i := 5) dX10_pit_21 f_X10_114 sh_3 rfl rfl (fun _ => ?_)
  refine j_puti (i := 12) dX10_pit_24 p_X10_95 (fun h => by cases h) sh_0 rfl rfl ?_
  refine j_iload_n 0 dX10_pit_27 rfl ?_
  refine j_if_eq (tgt := 36) dX10_pit_28 (by decide) (fun c1 => ?_) (fun c1 => ?_)
  · replace h := h.1 c1
    refine j_aload_n 1 dX10_pit_36 rfl ?_
    refine j_getc 6 dX10_pit_37 f_X10_28 sh_0 rfl ?_
    refine j_aload_n 1 dX10_pit_40 rfl ?_
    refine j_getc 3 dX10_pit_41 f_X10_21 sh_0 rfl ?_
    refine j_getc 4 dX10_pit_44 f_X10_115 sh_3 rfl ?_
    refine j_callvV (Yc := Y_X3_become) (as := [aR 4]) (rest := []) dX10_pit_47 q_X10_118 ⟨Nat.le_of_ble_eq_true rfl, Nat.le_of_ble_eq_true rfl, Nat.le_of_ble_eq_true rfl, Nat.le_of_ble_eq_true rfl⟩ sh_6 rfl (Nat.le_of_ble_eq_true rfl) rfl (tv_mono h (fun u3 h => ?_))
    refine j_aload_n 1 dX10_pit_50 rfl ?_
    refine j_getc 8 dX10_pit_51 f_X10_35 sh_0 rfl ?_
    refine j_callvV (Yc := Y_X0_vanish) (as := []) (rest := []) dX10_pit_54 q_X10_122 ⟨Nat.le_of_ble_eq_true rfl, Nat.le_of_ble_eq_true rfl, Nat.le_of_ble_eq_true rfl, Nat.le_of_ble_eq_true rfl⟩ sh_8 rfl (Nat.le_of_ble_eq_true rfl) rfl (tv_mono h (fun u4 h => ?_))
    refine j_aload_n 1 dX10_pit_57 rfl ?_
    refine j_getc 31 dX10_pit_58 f_X10_50 sh_0 rfl ?_
    refine j_iconst (x := 0) dX10_pit_61 rfl (i32_c rfl) ?_
    refine j_puti (i := 1) dX10_pit_62 p_X10_125 (fun h => by cases h) sh_31 rfl rfl ?_
    refine j_iconst (x := 0) dX10_pit_65 rfl (i32_c rfl) ?_
    refine j_istore_n (ll' := [(2, aI 0), (1, aI z2), (0, aR 0)]) dX10_pit_66 (Nat.le_of_ble_eq_true rfl) rfl ?_
    refine j_sub [2, 0] rfl ?_
    exact h
  · replace h := h.2 c1
    refine j_bipush (x := (-10)) dX10_pit_31 rfl (i32_c rfl) ?_
    refine j_iload_n 0 dX10_pit_33 rfl ?_
    obtain ⟨o2, h⟩ := h
    refine j_isub (z := ((-10) - z2)) dX10_pit_34 rfl o2 ?_
    exact j_iret dX10_pit_35 rfl ⟨Nat.le_of_ble_eq_true rfl, Nat.le_of_ble_eq_true rfl⟩ (fun _ => h)
theorem E_X10_pit {post : Int → ax_M → Prop} {M : ax_M} (h : ax_mr SH M → ax_Ti Y_X5_read [aR 3] SH M (fun z2 u1 => (((z2 = 0) → ax_Tv Y_X3_become [aR 6, aR 4] SH (ax_up (ax_up u1 1 1 0) 0 12 (u1 3 5)) (fun u3 => ax_Tv Y_X0_vanish [aR 8] SH u3 (fun u4 => ax_J Y_X10_pit (ax_Ki Y_X10_pit SH post) 0 0 67 [(0, aR 0), (2, aI 0)] [] SH (ax_up u4 31 1 0)))) ∧ ((¬ z2 = 0) → (-2147483648 ≤ ((-10) - z2) ∧ ((-10) - z2) ≤ 2147483647) ∧ post ((-10) - z2) (ax_up (ax_up u1 1 1 0) 0 12 (u1 3 5)))))) : ax_Ti Y_X10_pit [aR 0] SH M post :=
  ti_of rfl (Nat.le_of_ble_eq_true rfl) rfl (fun q => B_X10_pit_0 (h q))
set_option maxRecDepth 100000 in
set_option maxHeartbeats 4000000 in
theorem B_X10_pit_67 {post : Int → ax_M → Prop} {M : ax_M} {x2 : Int} (h : (((2 ≤ x2) → post (M 6 1) M) ∧ ((x2 < 2) → (0 ≤ x2 ∧ x2 < 2) ∧ (-2147483648 ≤ (x2 + 1) ∧ (x2 + 1) ≤ 2147483647) ∧ ax_J Y_X10_pit (ax_Ki Y_X10_pit SH post) 0 0 67 [(0, aR 0), (2, aI (x2 + 1))] [] SH (ax_up M 30 x2 0)))) : ax_J Y_X10_pit (ax_Ki Y_X10_pit SH post) 0 0 67 [(0, aR 0), (2, aI x2)] [] SH M := by
  refine j_iload_n 1 dX10_pit_67 rfl ?_
  refine j_iconst (x := 2) dX10_pit_68 rfl (i32_c rfl) ?_
  refine j_icmp_ge (tgt := 85) dX10_pit_69 (by decide) (fun c1 => ?_) (fun c1 => ?_)
  · replace h := h.1 c1
    refine j_aload_n 0 dX10_pit_85 rfl ?_
    refine j_getc 6 dX10_pit_86 f_X10_28 sh_0 rfl ?_
    refine j_geti (i := 1) dX10_pit_89 f_X10_126 sh_6 rfl rfl (fun _ => ?_)
    exact j_iret dX10_pit_92 rfl ⟨Nat.le_of_ble_eq_true rfl, Nat.le_of_ble_eq_true rfl⟩ (fun _ => h)
  · replace h := h.2 c1
    refine j_aload_n 0 dX10_pit_72 rfl ?_
    refine j_getc 30 dX10_pit_73 f_X10_43 sh_0 rfl ?_
    refine j_iload_n 1 dX10_pit_76 rfl ?_
    refine j_iconst (x := 0) dX10_pit_77 rfl (i32_c rfl) ?_
    obtain ⟨o2, h⟩ := h
    refine j_zast dX10_pit_78 sh_30 o2.1 o2.2 (by decide) ?_
    obtain ⟨o3, h⟩ := h
    refine j_iinc (ll' := [(2, aI (x2 + 1)), (0, aR 0)]) 1 dX10_pit_79 rfl (Nat.le_of_ble_eq_true rfl) o3 rfl ?_
    refine j_goto (tgt := 67) dX10_pit_82 (by decide) ?_
    refine j_sub [1, 0] rfl ?_
    exact h
set_option maxRecDepth 100000 in
set_option maxHeartbeats 4000000 in
theorem B_X10_fault_0 {post : Int → ax_M → Prop} {M : ax_M} (h : post (M 0 12) M) : ax_J Y_X10_fault (ax_Ki Y_X10_fault SH post) 0 0 0 [(0, aR 0)] [] SH M := by
  refine j_aload_n 0 dX10_fault_0 rfl ?_
  refine j_geti (i := 12) dX10_fault_1 f_X10_95 sh_0 rfl rfl (fun _ => ?_)
  exact j_iret dX10_fault_4 rfl ⟨Nat.le_of_ble_eq_true rfl, Nat.le_of_ble_eq_true rfl⟩ (fun _ => h)
theorem E_X10_fault {post : Int → ax_M → Prop} {M : ax_M} (h : ax_mr SH M → post (M 0 12) M) : ax_Ti Y_X10_fault [aR 0] SH M post :=
  ti_of rfl (Nat.le_of_ble_eq_true rfl) rfl (fun q => B_X10_fault_0 (h q))
set_option maxRecDepth 100000 in
set_option maxHeartbeats 4000000 in
theorem B_X10_way_0 {post : Int → ax_M → Prop} {M : ax_M} {x1 x2 : Int} (h : (-2147483648 ≤ ((M 6 1) - 1) ∧ ((M 6 1) - 1) ≤ 2147483647) ∧ (((x1 < 0) → post (-1001) M) ∧ ((0 ≤ x1) → (((((M 6 1) - 1) < x1) → post (-1001) M) ∧ ((x1 ≤ ((M 6 1) - 1)) → (((x2 < 0) → post (-1002) M) ∧ ((0 ≤ x2) → (((7 < x2) → post (-1002) M) ∧ ((x2 ≤ 7) → (((¬ x2 = 7) → (-2147483648 ≤ (x1 * 7) ∧ (x1 * 7) ≤ 2147483647) ∧ (-2147483648 ≤ ((x1 * 7) + x2) ∧ ((x1 * 7) + x2) ≤ 2147483647) ∧ (0 ≤ ((x1 * 7) + x2) ∧ ((x1 * 7) + x2) < 168) ∧ post (M 7 ((x1 * 7) + x2)) M) ∧ ((x2 = 7) → (0 ≤ x1 ∧ x1 < 24) ∧ ((((M 14 x1) = 0) → post 0 M) ∧ ((¬ (M 14 x1) = 0) → post 1 M))))))))))))) : ax_J Y_X10_way (ax_Ki Y_X10_way SH post) 0 0 0 [(0, aR 0), (1, aI x1), (2, aI x2)] [] SH M := by
  refine j_aload_n 0 dX10_way_0 rfl ?_
  refine j_iload_n 1 dX10_way_1 rfl ?_
  refine j_calliV (Yc := Y_X10_isWay) (as := [aI x1]) (rest := []) dX10_way_2 q_X10_129 ⟨Nat.le_of_ble_eq_true rfl, Nat.le_of_ble_eq_true rfl, Nat.le_of_ble_eq_true rfl, Nat.le_of_ble_eq_true rfl⟩ sh_0 rfl (Nat.le_of_ble_eq_true rfl) rfl (ti_of (ll := [(0, aR 0), (1, aI x1)]) rfl (Nat.le_of_ble_eq_true rfl) rfl (fun _ => ?_))
  refine j_iload_n 1 dX10_isWay_0 rfl ?_
  refine j_iconst (x := 0) dX10_isWay_1 rfl (i32_c rfl) ?_
  refine j_aload_n 0 dX10_isWay_2 rfl ?_
  refine j_getc 6 dX10_isWay_3 f_X10_28 sh_0 rfl ?_
  refine j_geti (i := 1) dX10_isWay_6 f_X10_126 sh_6 rfl rfl (fun _ => ?_)
  refine j_iconst (x := 1) dX10_isWay_9 rfl (i32_c rfl) ?_
  obtain ⟨o1, h⟩ := h
  refine j_isub (z := ((M 6 1) - 1)) dX10_isWay_10 rfl o1 ?_
  refine j_calliS (Yc := Y_X10_within) (as := [aI x1, aI 0, aI ((M 6 1) - 1)]) (rest := []) dX10_isWay_11 q_X10_99 ⟨Nat.le_of_ble_eq_true rfl, Nat.le_of_ble_eq_true rfl, Nat.le_of_ble_eq_true rfl, Nat.le_of_ble_eq_true rfl⟩ rfl (Nat.le_of_ble_eq_true rfl) rfl (ti_of (ll := [(0, aI x1), (1, aI 0), (2, aI ((M 6 1) - 1))]) rfl (Nat.le_of_ble_eq_true rfl) rfl (fun _ => ?_))
  refine j_iload_n 0 dX10_within_0 rfl ?_
  refine j_iload_n 1 dX10_within_1 rfl ?_
  refine j_icmp_lt (tgt := 14) dX10_within_2 (by decide) (fun c2 => ?_) (fun c2 => ?_)
  · replace h := h.1 c2
    refine j_iconst (x := 0) dX10_within_14 rfl (i32_c rfl) ?_
    refine j_zret dX10_within_15 rfl ⟨Nat.le_of_ble_eq_true rfl, Nat.le_of_ble_eq_true rfl⟩ (by decide) ?_
    refine j_zret dX10_isWay_14 rfl ⟨Nat.le_of_ble_eq_true rfl, Nat.le_of_ble_eq_true rfl⟩ (by decide) ?_
    refine j_if_ne (tgt := 12) dX10_way_5 (by decide) (fun c => absurd c (by decide)) (fun _ => ?_)
    refine j_sipush (x := (-1001)) dX10_way_8 rfl (i32_c rfl) ?_
    exact j_iret dX10_way_11 rfl ⟨Nat.le_of_ble_eq_true rfl, Nat.le_of_ble_eq_true rfl⟩ (fun _ => h)
  · replace h := h.2 c2
    refine j_iload_n 0 dX10_within_5 rfl ?_
    refine j_iload_n 2 dX10_within_6 rfl ?_
    refine j_icmp_gt (tgt := 14) dX10_within_7 (by decide) (fun c3 => ?_) (fun c3 => ?_)
    · replace h := h.1 c3
      refine j_iconst (x := 0) dX10_within_14 rfl (i32_c rfl) ?_
      refine j_zret dX10_within_15 rfl ⟨Nat.le_of_ble_eq_true rfl, Nat.le_of_ble_eq_true rfl⟩ (by decide) ?_
      refine j_zret dX10_isWay_14 rfl ⟨Nat.le_of_ble_eq_true rfl, Nat.le_of_ble_eq_true rfl⟩ (by decide) ?_
      refine j_if_ne (tgt := 12) dX10_way_5 (by decide) (fun c => absurd c (by decide)) (fun _ => ?_)
      refine j_sipush (x := (-1001)) dX10_way_8 rfl (i32_c rfl) ?_
      exact j_iret dX10_way_11 rfl ⟨Nat.le_of_ble_eq_true rfl, Nat.le_of_ble_eq_true rfl⟩ (fun _ => h)
    · replace h := h.2 c3
      refine j_iconst (x := 1) dX10_within_10 rfl (i32_c rfl) ?_
      refine j_goto (tgt := 15) dX10_within_11 (by decide) ?_
      refine j_zret dX10_within_15 rfl ⟨Nat.le_of_ble_eq_true rfl, Nat.le_of_ble_eq_true rfl⟩ (by decide) ?_
      refine j_zret dX10_isWay_14 rfl ⟨Nat.le_of_ble_eq_true rfl, Nat.le_of_ble_eq_true rfl⟩ (by decide) ?_
      refine j_if_ne (tgt := 12) dX10_way_5 (by decide) (fun _ => ?_) (fun c => absurd c (by decide))
      refine j_iload_n 2 dX10_way_12 rfl ?_
      refine j_iconst (x := 0) dX10_way_13 rfl (i32_c rfl) ?_
      refine j_bipush (x := 7) dX10_way_14 rfl (i32_c rfl) ?_
      refine j_calliS (Yc := Y_X10_within) (as := [aI x2, aI 0, aI 7]) (rest := []) dX10_way_16 q_X10_99 ⟨Nat.le_of_ble_eq_true rfl, Nat.le_of_ble_eq_true rfl, Nat.le_of_ble_eq_true rfl, Nat.le_of_ble_eq_true rfl⟩ rfl (Nat.le_of_ble_eq_true rfl) rfl (ti_of (ll := [(0, aI x2), (1, aI 0), (2, aI 7)]) rfl (Nat.le_of_ble_eq_true rfl) rfl (fun _ => ?_))
      refine j_iload_n 0 dX10_within_0 rfl ?_
      refine j_iload_n 1 dX10_within_1 rfl ?_
      refine j_icmp_lt (tgt := 14) dX10_within_2 (by decide) (fun c4 => ?_) (fun c4 => ?_)
      · replace h := h.1 c4
        refine j_iconst (x := 0) dX10_within_14 rfl (i32_c rfl) ?_
        refine j_zret dX10_within_15 rfl ⟨Nat.le_of_ble_eq_true rfl, Nat.le_of_ble_eq_true rfl⟩ (by decide) ?_
        refine j_if_ne (tgt := 26) dX10_way_19 (by decide) (fun c => absurd c (by decide)) (fun _ => ?_)
        refine j_sipush (x := (-1002)) dX10_way_22 rfl (i32_c rfl) ?_
        exact j_iret dX10_way_25 rfl ⟨Nat.le_of_ble_eq_true rfl, Nat.le_of_ble_eq_true rfl⟩ (fun _ => h)
      · replace h := h.2 c4
        refine j_iload_n 0 dX10_within_5 rfl ?_
        refine j_iload_n 2 dX10_within_6 rfl ?_
        refine j_icmp_gt (tgt := 14) dX10_within_7 (by decide) (fun c5 => ?_) (fun c5 => ?_)
        · replace h := h.1 c5
          refine j_iconst (x := 0) dX10_within_14 rfl (i32_c rfl) ?_
          refine j_zret dX10_within_15 rfl ⟨Nat.le_of_ble_eq_true rfl, Nat.le_of_ble_eq_true rfl⟩ (by decide) ?_
          refine j_if_ne (tgt := 26) dX10_way_19 (by decide) (fun c => absurd c (by decide)) (fun _ => ?_)
          refine j_sipush (x := (-1002)) dX10_way_22 rfl (i32_c rfl) ?_
          exact j_iret dX10_way_25 rfl ⟨Nat.le_of_ble_eq_true rfl, Nat.le_of_ble_eq_true rfl⟩ (fun _ => h)
        · replace h := h.2 c5
          refine j_iconst (x := 1) dX10_within_10 rfl (i32_c rfl) ?_
          refine j_goto (tgt := 15) dX10_within_11 (by decide) ?_
          refine j_zret dX10_within_15 rfl ⟨Nat.le_of_ble_eq_true rfl, Nat.le_of_ble_eq_true rfl⟩ (by decide) ?_
          refine j_if_ne (tgt := 26) dX10_way_19 (by decide) (fun _ => ?_) (fun c => absurd c (by decide))
          refine j_iload_n 2 dX10_way_26 rfl ?_
          refine j_bipush (x := 7) dX10_way_27 rfl (i32_c rfl) ?_
          refine j_icmp_ne (tgt := 45) dX10_way_29 (by decide) (fun c6 => ?_) (fun c6 => ?_)
          · replace h := h.1 c6
            refine j_aload_n 0 dX10_way_45 rfl ?_
            refine j_getc 6 dX10_way_46 f_X10_28 sh_0 rfl ?_
            refine j_iload_n 1 dX10_way_49 rfl ?_
            refine j_iload_n 2 dX10_way_50 rfl ?_
            refine j_calliV (Yc := Y_X3_fact) (as := [aI x1, aI x2]) (rest := []) dX10_way_51 q_X10_140 ⟨Nat.le_of_ble_eq_true rfl, Nat.le_of_ble_eq_true rfl, Nat.le_of_ble_eq_true rfl, Nat.le_of_ble_eq_true rfl⟩ sh_6 rfl (Nat.le_of_ble_eq_true rfl) rfl (ti_of (ll := [(0, aR 6), (1, aI x1), (2, aI x2)]) rfl (Nat.le_of_ble_eq_true rfl) rfl (fun _ => ?_))
            refine j_aload_n 0 dX3_fact_0 rfl ?_
            refine j_getc 7 dX3_fact_1 f_X3_15 sh_6 rfl ?_
            refine j_iload_n 1 dX3_fact_4 rfl ?_
            refine j_bipush (x := 7) dX3_fact_5 rfl (i32_c rfl) ?_
            obtain ⟨o7, h⟩ := h
            refine j_imul (z := (x1 * 7)) dX3_fact_7 rfl o7 ?_
            refine j_iload_n 2 dX3_fact_8 rfl ?_
            obtain ⟨o8, h⟩ := h
            refine j_iadd (z := ((x1 * 7) + x2)) dX3_fact_9 rfl o8 ?_
            obtain ⟨o9, h⟩ := h
            refine j_iald dX3_fact_10 sh_7 o9.1 o9.2 (fun _ => ?_)
            refine j_iret dX3_fact_11 rfl ⟨Nat.le_of_ble_eq_true rfl, Nat.le_of_ble_eq_true rfl⟩ (fun _ => ?_)
            exact j_iret dX10_way_54 rfl ⟨Nat.le_of_ble_eq_true rfl, Nat.le_of_ble_eq_true rfl⟩ (fun _ => h)
          · replace h := h.2 c6
            refine j_aload_n 0 dX10_way_32 rfl ?_
            refine j_getc 8 dX10_way_33 f_X10_35 sh_0 rfl ?_
            refine j_getc 14 dX10_way_36 f_X10_133 sh_8 rfl ?_
            refine j_iload_n 1 dX10_way_39 rfl ?_
            obtain ⟨o10, h⟩ := h
            refine j_zald dX10_way_40 sh_14 o10.1 o10.2 (fun _ => ?_)
            refine j_calliS (Yc := Y_X10_bit) (as := [aI (M 14 x1)]) (rest := []) dX10_way_41 q_X10_136 ⟨Nat.le_of_ble_eq_true rfl, Nat.le_of_ble_eq_true rfl, Nat.le_of_ble_eq_true rfl, Nat.le_of_ble_eq_true rfl⟩ rfl (Nat.le_of_ble_eq_true rfl) rfl (ti_of (ll := [(0, aI (M 14 x1))]) rfl (Nat.le_of_ble_eq_true rfl) rfl (fun _ => ?_))
            refine j_iload_n 0 dX10_bit_0 rfl ?_
            refine j_if_eq (tgt := 8) dX10_bit_1 (by decide) (fun c11 => ?_) (fun c11 => ?_)
            · replace h := h.1 c11
              refine j_iconst (x := 0) dX10_bit_8 rfl (i32_c rfl) ?_
              refine j_iret dX10_bit_9 rfl ⟨Nat.le_of_ble_eq_true rfl, Nat.le_of_ble_eq_true rfl⟩ (fun _ => ?_)
              exact j_iret dX10_way_44 rfl ⟨Nat.le_of_ble_eq_true rfl, Nat.le_of_ble_eq_true rfl⟩ (fun _ => h)
            · replace h := h.2 c11
              refine j_iconst (x := 1) dX10_bit_4 rfl (i32_c rfl) ?_
              refine j_goto (tgt := 9) dX10_bit_5 (by decide) ?_
              refine j_iret dX10_bit_9 rfl ⟨Nat.le_of_ble_eq_true rfl, Nat.le_of_ble_eq_true rfl⟩ (fun _ => ?_)
              exact j_iret dX10_way_44 rfl ⟨Nat.le_of_ble_eq_true rfl, Nat.le_of_ble_eq_true rfl⟩ (fun _ => h)
theorem E_X10_way {post : Int → ax_M → Prop} {M : ax_M} {x1 x2 : Int} (h : ax_mr SH M → (-2147483648 ≤ ((M 6 1) - 1) ∧ ((M 6 1) - 1) ≤ 2147483647) ∧ (((x1 < 0) → post (-1001) M) ∧ ((0 ≤ x1) → (((((M 6 1) - 1) < x1) → post (-1001) M) ∧ ((x1 ≤ ((M 6 1) - 1)) → (((x2 < 0) → post (-1002) M) ∧ ((0 ≤ x2) → (((7 < x2) → post (-1002) M) ∧ ((x2 ≤ 7) → (((¬ x2 = 7) → (-2147483648 ≤ (x1 * 7) ∧ (x1 * 7) ≤ 2147483647) ∧ (-2147483648 ≤ ((x1 * 7) + x2) ∧ ((x1 * 7) + x2) ≤ 2147483647) ∧ (0 ≤ ((x1 * 7) + x2) ∧ ((x1 * 7) + x2) < 168) ∧ post (M 7 ((x1 * 7) + x2)) M) ∧ ((x2 = 7) → (0 ≤ x1 ∧ x1 < 24) ∧ ((((M 14 x1) = 0) → post 0 M) ∧ ((¬ (M 14 x1) = 0) → post 1 M))))))))))))) : ax_Ti Y_X10_way [aR 0, aI x1, aI x2] SH M post :=
  ti_of rfl (Nat.le_of_ble_eq_true rfl) rfl (fun q => B_X10_way_0 (h q))
set_option maxRecDepth 100000 in
set_option maxHeartbeats 4000000 in
theorem B_X10_fall_0 {post : Int → ax_M → Prop} {M : ax_M} {x1 x2 : Int} (h : (-2147483648 ≤ ((M 6 1) - 1) ∧ ((M 6 1) - 1) ≤ 2147483647) ∧ (((x1 < 0) → post (-1001) M) ∧ ((0 ≤ x1) → (((((M 6 1) - 1) < x1) → post (-1001) M) ∧ ((x1 ≤ ((M 6 1) - 1)) → (0 ≤ x1 ∧ x1 < 24) ∧ ((((M 14 x1) = 0) → (x2 = 0 ∨ x2 = 1) ∧ post 0 (ax_up M 14 x1 x2)) ∧ ((¬ (M 14 x1) = 0) → (x2 = 0 ∨ x2 = 1) ∧ post 1 (ax_up M 14 x1 x2)))))))) : ax_J Y_X10_fall (ax_Ki Y_X10_fall SH post) 0 0 0 [(0, aR 0), (1, aI x1), (2, aI x2)] [] SH M := by
  refine j_aload_n 0 dX10_fall_0 rfl ?_
  refine j_iload_n 1 dX10_fall_1 rfl ?_
  refine j_calliV (Yc := Y_X10_isWay) (as := [aI x1]) (rest := []) dX10_fall_2 q_X10_129 ⟨Nat.le_of_ble_eq_true rfl, Nat.le_of_ble_eq_true rfl, Nat.le_of_ble_eq_true rfl, Nat.le_of_ble_eq_true rfl⟩ sh_0 rfl (Nat.le_of_ble_eq_true rfl) rfl (ti_of (ll := [(0, aR 0), (1, aI x1)]) rfl (Nat.le_of_ble_eq_true rfl) rfl (fun _ => ?_))
  refine j_iload_n 1 dX10_isWay_0 rfl ?_
  refine j_iconst (x := 0) dX10_isWay_1 rfl (i32_c rfl) ?_
  refine j_aload_n 0 dX10_isWay_2 rfl ?_
  refine j_getc 6 dX10_isWay_3 f_X10_28 sh_0 rfl ?_
  refine j_geti (i := 1) dX10_isWay_6 f_X10_126 sh_6 rfl rfl (fun _ => ?_)
  refine j_iconst (x := 1) dX10_isWay_9 rfl (i32_c rfl) ?_
  obtain ⟨o1, h⟩ := h
  refine j_isub (z := ((M 6 1) - 1)) dX10_isWay_10 rfl o1 ?_
  refine j_calliS (Yc := Y_X10_within) (as := [aI x1, aI 0, aI ((M 6 1) - 1)]) (rest := []) dX10_isWay_11 q_X10_99 ⟨Nat.le_of_ble_eq_true rfl, Nat.le_of_ble_eq_true rfl, Nat.le_of_ble_eq_true rfl, Nat.le_of_ble_eq_true rfl⟩ rfl (Nat.le_of_ble_eq_true rfl) rfl (ti_of (ll := [(0, aI x1), (1, aI 0), (2, aI ((M 6 1) - 1))]) rfl (Nat.le_of_ble_eq_true rfl) rfl (fun _ => ?_))
  refine j_iload_n 0 dX10_within_0 rfl ?_
  refine j_iload_n 1 dX10_within_1 rfl ?_
  refine j_icmp_lt (tgt := 14) dX10_within_2 (by decide) (fun c2 => ?_) (fun c2 => ?_)
  · replace h := h.1 c2
    refine j_iconst (x := 0) dX10_within_14 rfl (i32_c rfl) ?_
    refine j_zret dX10_within_15 rfl ⟨Nat.le_of_ble_eq_true rfl, Nat.le_of_ble_eq_true rfl⟩ (by decide) ?_
    refine j_zret dX10_isWay_14 rfl ⟨Nat.le_of_ble_eq_true rfl, Nat.le_of_ble_eq_true rfl⟩ (by decide) ?_
    refine j_if_ne (tgt := 12) dX10_fall_5 (by decide) (fun c => absurd c (by decide)) (fun _ => ?_)
    refine j_sipush (x := (-1001)) dX10_fall_8 rfl (i32_c rfl) ?_
    exact j_iret dX10_fall_11 rfl ⟨Nat.le_of_ble_eq_true rfl, Nat.le_of_ble_eq_true rfl⟩ (fun _ => h)
  · replace h := h.2 c2
    refine j_iload_n 0 dX10_within_5 rfl ?_
    refine j_iload_n 2 dX10_within_6 rfl ?_
    refine j_icmp_gt (tgt := 14) dX10_within_7 (by decide) (fun c3 => ?_) (fun c3 => ?_)
    · replace h := h.1 c3
      refine j_iconst (x := 0) dX10_within_14 rfl (i32_c rfl) ?_
      refine j_zret dX10_within_15 rfl ⟨Nat.le_of_ble_eq_true rfl, Nat.le_of_ble_eq_true rfl⟩ (by decide) ?_
      refine j_zret dX10_isWay_14 rfl ⟨Nat.le_of_ble_eq_true rfl, Nat.le_of_ble_eq_true rfl⟩ (by decide) ?_
      refine j_if_ne (tgt := 12) dX10_fall_5 (by decide) (fun c => absurd c (by decide)) (fun _ => ?_)
      refine j_sipush (x := (-1001)) dX10_fall_8 rfl (i32_c rfl) ?_
      exact j_iret dX10_fall_11 rfl ⟨Nat.le_of_ble_eq_true rfl, Nat.le_of_ble_eq_true rfl⟩ (fun _ => h)
    · replace h := h.2 c3
      refine j_iconst (x := 1) dX10_within_10 rfl (i32_c rfl) ?_
      refine j_goto (tgt := 15) dX10_within_11 (by decide) ?_
      refine j_zret dX10_within_15 rfl ⟨Nat.le_of_ble_eq_true rfl, Nat.le_of_ble_eq_true rfl⟩ (by decide) ?_
      refine j_zret dX10_isWay_14 rfl ⟨Nat.le_of_ble_eq_true rfl, Nat.le_of_ble_eq_true rfl⟩ (by decide) ?_
      refine j_if_ne (tgt := 12) dX10_fall_5 (by decide) (fun _ => ?_) (fun c => absurd c (by decide))
      refine j_aload_n 0 dX10_fall_12 rfl ?_
      refine j_getc 8 dX10_fall_13 f_X10_35 sh_0 rfl ?_
      refine j_getc 14 dX10_fall_16 f_X10_133 sh_8 rfl ?_
      refine j_iload_n 1 dX10_fall_19 rfl ?_
      obtain ⟨o4, h⟩ := h
      refine j_zald dX10_fall_20 sh_14 o4.1 o4.2 (fun _ => ?_)
      refine j_calliS (Yc := Y_X10_bit) (as := [aI (M 14 x1)]) (rest := []) dX10_fall_21 q_X10_136 ⟨Nat.le_of_ble_eq_true rfl, Nat.le_of_ble_eq_true rfl, Nat.le_of_ble_eq_true rfl, Nat.le_of_ble_eq_true rfl⟩ rfl (Nat.le_of_ble_eq_true rfl) rfl (ti_of (ll := [(0, aI (M 14 x1))]) rfl (Nat.le_of_ble_eq_true rfl) rfl (fun _ => ?_))
      refine j_iload_n 0 dX10_bit_0 rfl ?_
      refine j_if_eq (tgt := 8) dX10_bit_1 (by decide) (fun c5 => ?_) (fun c5 => ?_)
      · replace h := h.1 c5
        refine j_iconst (x := 0) dX10_bit_8 rfl (i32_c rfl) ?_
        refine j_iret dX10_bit_9 rfl ⟨Nat.le_of_ble_eq_true rfl, Nat.le_of_ble_eq_true rfl⟩ (fun _ => ?_)
        refine j_istore_n (ll' := [(3, aI 0), (0, aR 0), (1, aI x1), (2, aI x2)]) dX10_fall_24 (Nat.le_of_ble_eq_true rfl) rfl ?_
        refine j_aload_n 1 dX10_fall_25 rfl ?_
        refine j_getc 8 dX10_fall_26 f_X10_35 sh_0 rfl ?_
        refine j_getc 14 dX10_fall_29 f_X10_133 sh_8 rfl ?_
        refine j_iload_n 2 dX10_fall_32 rfl ?_
        refine j_iload_n 3 dX10_fall_33 rfl ?_
        obtain ⟨o6, h⟩ := h
        refine j_zast dX10_fall_34 sh_14 o4.1 o4.2 o6 ?_
        refine j_iload_n 0 dX10_fall_35 rfl ?_
        exact j_iret dX10_fall_36 rfl ⟨Nat.le_of_ble_eq_true rfl, Nat.le_of_ble_eq_true rfl⟩ (fun _ => h)
      · replace h := h.2 c5
        refine j_iconst (x := 1) dX10_bit_4 rfl (i32_c rfl) ?_
        refine j_goto (tgt := 9) dX10_bit_5 (by decide) ?_
        refine j_iret dX10_bit_9 rfl ⟨Nat.le_of_ble_eq_true rfl, Nat.le_of_ble_eq_true rfl⟩ (fun _ => ?_)
        refine j_istore_n (ll' := [(3, aI 1), (0, aR 0), (1, aI x1), (2, aI x2)]) dX10_fall_24 (Nat.le_of_ble_eq_true rfl) rfl ?_
        refine j_aload_n 1 dX10_fall_25 rfl ?_
        refine j_getc 8 dX10_fall_26 f_X10_35 sh_0 rfl ?_
        refine j_getc 14 dX10_fall_29 f_X10_133 sh_8 rfl ?_
        refine j_iload_n 2 dX10_fall_32 rfl ?_
        refine j_iload_n 3 dX10_fall_33 rfl ?_
        obtain ⟨o7, h⟩ := h
        refine j_zast dX10_fall_34 sh_14 o4.1 o4.2 o7 ?_
        refine j_iload_n 0 dX10_fall_35 rfl ?_
        exact j_iret dX10_fall_36 rfl ⟨Nat.le_of_ble_eq_true rfl, Nat.le_of_ble_eq_true rfl⟩ (fun _ => h)
theorem E_X10_fall {post : Int → ax_M → Prop} {M : ax_M} {x1 x2 : Int} (h : ax_mr SH M → (-2147483648 ≤ ((M 6 1) - 1) ∧ ((M 6 1) - 1) ≤ 2147483647) ∧ (((x1 < 0) → post (-1001) M) ∧ ((0 ≤ x1) → (((((M 6 1) - 1) < x1) → post (-1001) M) ∧ ((x1 ≤ ((M 6 1) - 1)) → (0 ≤ x1 ∧ x1 < 24) ∧ ((((M 14 x1) = 0) → (x2 = 0 ∨ x2 = 1) ∧ post 0 (ax_up M 14 x1 x2)) ∧ ((¬ (M 14 x1) = 0) → (x2 = 0 ∨ x2 = 1) ∧ post 1 (ax_up M 14 x1 x2)))))))) : ax_Ti Y_X10_fall [aR 0, aI x1, aI x2] SH M post :=
  ti_of rfl (Nat.le_of_ble_eq_true rfl) rfl (fun q => B_X10_fall_0 (h q))
set_option maxRecDepth 100000 in
set_option maxHeartbeats 4000000 in
theorem B_X10_count_0 {post : Int → ax_M → Prop} {M : ax_M} {x1 : Int} (h : (((x1 = 0) → post (M 6 0) M) ∧ (((x1 = 1) → post (M 6 1) M) ∧ (((x1 = 2) → post (M 8 0) M) ∧ (((x1 = 3) → post (M 8 1) M) ∧ (((x1 = 4) → post (M 31 1) M) ∧ (((x1 = 5) → post (M 1 1) M) ∧ (((x1 = 6) → post (M 6 2) M) ∧ (((x1 = 7) → post (M 6 3) M) ∧ (((x1 = 8) → ax_Ti Y_X0_knowing [aR 8] SH M (fun z2 u1 => post z2 u1)) ∧ ((x1 < 0 ∨ 8 < x1) → post (-1002) M))))))))))) : ax_J Y_X10_count (ax_Ki Y_X10_count SH post) 0 0 0 [(0, aR 0), (1, aI x1)] [] SH M := by
  refine j_iload_n 1 dX10_count_0 rfl ?_
  rcases (show (x1 = 0) ∨ (x1 = 1) ∨ (x1 = 2) ∨ (x1 = 3) ∨ (x1 = 4) ∨ (x1 = 5) ∨ (x1 = 6) ∨ (x1 = 7) ∨ (x1 = 8) ∨ (x1 < 0 ∨ 8 < x1) by omega) with c | c | c | c | c | c | c | c | c | c
  · replace h := h.1 c
    refine j_tableC (v := 0) (tgt := 52) c dX10_count_1 (by decide) (by decide) rfl (by decide) ?_
    refine j_aload_n 0 dX10_count_52 rfl ?_
    refine j_getc 6 dX10_count_53 f_X10_28 sh_0 rfl ?_
    refine j_geti (i := 0) dX10_count_56 f_X10_144 sh_6 rfl rfl (fun _ => ?_)
    exact j_iret dX10_count_59 rfl ⟨Nat.le_of_ble_eq_true rfl, Nat.le_of_ble_eq_true rfl⟩ (fun _ => h)
  · replace h := h.2.1 c
    refine j_tableC (v := 1) (tgt := 60) c dX10_count_1 (by decide) (by decide) rfl (by decide) ?_
    refine j_aload_n 0 dX10_count_60 rfl ?_
    refine j_getc 6 dX10_count_61 f_X10_28 sh_0 rfl ?_
    refine j_geti (i := 1) dX10_count_64 f_X10_126 sh_6 rfl rfl (fun _ => ?_)
    exact j_iret dX10_count_67 rfl ⟨Nat.le_of_ble_eq_true rfl, Nat.le_of_ble_eq_true rfl⟩ (fun _ => h)
  · replace h := h.2.2.1 c
    refine j_tableC (v := 2) (tgt := 68) c dX10_count_1 (by decide) (by decide) rfl (by decide) ?_
    refine j_aload_n 0 dX10_count_68 rfl ?_
    refine j_getc 8 dX10_count_69 f_X10_35 sh_0 rfl ?_
    refine j_geti (i := 0) dX10_count_72 f_X10_147 sh_8 rfl rfl (fun _ => ?_)
    exact j_iret dX10_count_75 rfl ⟨Nat.le_of_ble_eq_true rfl, Nat.le_of_ble_eq_true rfl⟩ (fun _ => h)
  · replace h := h.2.2.2.1 c
    refine j_tableC (v := 3) (tgt := 76) c dX10_count_1 (by decide) (by decide) rfl (by decide) ?_
    refine j_aload_n 0 dX10_count_76 rfl ?_
    refine j_getc 8 dX10_count_77 f_X10_35 sh_0 rfl ?_
    refine j_geti (i := 1) dX10_count_80 f_X10_150 sh_8 rfl rfl (fun _ => ?_)
    exact j_iret dX10_count_83 rfl ⟨Nat.le_of_ble_eq_true rfl, Nat.le_of_ble_eq_true rfl⟩ (fun _ => h)
  · replace h := h.2.2.2.2.1 c
    refine j_tableC (v := 4) (tgt := 84) c dX10_count_1 (by decide) (by decide) rfl (by decide) ?_
    refine j_aload_n 0 dX10_count_84 rfl ?_
    refine j_getc 31 dX10_count_85 f_X10_50 sh_0 rfl ?_
    refine j_geti (i := 1) dX10_count_88 f_X10_125 sh_31 rfl rfl (fun _ => ?_)
    exact j_iret dX10_count_91 rfl ⟨Nat.le_of_ble_eq_true rfl, Nat.le_of_ble_eq_true rfl⟩ (fun _ => h)
  · replace h := h.2.2.2.2.2.1 c
    refine j_tableC (v := 5) (tgt := 92) c dX10_count_1 (by decide) (by decide) rfl (by decide) ?_
    refine j_aload_n 0 dX10_count_92 rfl ?_
    refine j_getc 1 dX10_count_93 f_X10_12 sh_0 rfl ?_
    refine j_geti (i := 1) dX10_count_96 f_X10_103 sh_1 rfl rfl (fun _ => ?_)
    exact j_iret dX10_count_99 rfl ⟨Nat.le_of_ble_eq_true rfl, Nat.le_of_ble_eq_true rfl⟩ (fun _ => h)
  · replace h := h.2.2.2.2.2.2.1 c
    refine j_tableC (v := 6) (tgt := 100) c dX10_count_1 (by decide) (by decide) rfl (by decide) ?_
    refine j_aload_n 0 dX10_count_100 rfl ?_
    refine j_getc 6 dX10_count_101 f_X10_28 sh_0 rfl ?_
    refine j_geti (i := 2) dX10_count_104 f_X10_153 sh_6 rfl rfl (fun _ => ?_)
    exact j_iret dX10_count_107 rfl ⟨Nat.le_of_ble_eq_true rfl, Nat.le_of_ble_eq_true rfl⟩ (fun _ => h)
  · replace h := h.2.2.2.2.2.2.2.1 c
    refine j_tableC (v := 7) (tgt := 108) c dX10_count_1 (by decide) (by decide) rfl (by decide) ?_
    refine j_aload_n 0 dX10_count_108 rfl ?_
    refine j_getc 6 dX10_count_109 f_X10_28 sh_0 rfl ?_
    refine j_geti (i := 3) dX10_count_112 f_X10_156 sh_6 rfl rfl (fun _ => ?_)
    exact j_iret dX10_count_115 rfl ⟨Nat.le_of_ble_eq_true rfl, Nat.le_of_ble_eq_true rfl⟩ (fun _ => h)
  · replace h := h.2.2.2.2.2.2.2.2.1 c
    refine j_tableC (v := 8) (tgt := 116) c dX10_count_1 (by decide) (by decide) rfl (by decide) ?_
    refine j_aload_n 0 dX10_count_116 rfl ?_
    refine j_getc 8 dX10_count_117 f_X10_35 sh_0 rfl ?_
    refine j_calliV (Yc := Y_X0_knowing) (as := []) (rest := []) dX10_count_120 q_X10_159 ⟨Nat.le_of_ble_eq_true rfl, Nat.le_of_ble_eq_true rfl, Nat.le_of_ble_eq_true rfl, Nat.le_of_ble_eq_true rfl⟩ sh_8 rfl (Nat.le_of_ble_eq_true rfl) rfl (ti_mono h (fun z2 u1 h => ?_))
    exact j_iret dX10_count_123 rfl ⟨Nat.le_of_ble_eq_true rfl, Nat.le_of_ble_eq_true rfl⟩ (fun _ => h)
  · replace h := h.2.2.2.2.2.2.2.2.2 c
    refine j_tableOut (tgt := 124) dX10_count_1 c (by decide) ?_
    refine j_sipush (x := (-1002)) dX10_count_124 rfl (i32_c rfl) ?_
    exact j_iret dX10_count_127 rfl ⟨Nat.le_of_ble_eq_true rfl, Nat.le_of_ble_eq_true rfl⟩ (fun _ => h)
theorem E_X10_count {post : Int → ax_M → Prop} {M : ax_M} {x1 : Int} (h : ax_mr SH M → (((x1 = 0) → post (M 6 0) M) ∧ (((x1 = 1) → post (M 6 1) M) ∧ (((x1 = 2) → post (M 8 0) M) ∧ (((x1 = 3) → post (M 8 1) M) ∧ (((x1 = 4) → post (M 31 1) M) ∧ (((x1 = 5) → post (M 1 1) M) ∧ (((x1 = 6) → post (M 6 2) M) ∧ (((x1 = 7) → post (M 6 3) M) ∧ (((x1 = 8) → ax_Ti Y_X0_knowing [aR 8] SH M (fun z2 u1 => post z2 u1)) ∧ ((x1 < 0 ∨ 8 < x1) → post (-1002) M))))))))))) : ax_Ti Y_X10_count [aR 0, aI x1] SH M post :=
  ti_of rfl (Nat.le_of_ble_eq_true rfl) rfl (fun q => B_X10_count_0 (h q))
set_option maxRecDepth 100000 in
set_option maxHeartbeats 4000000 in
theorem B_X10_man_0 {post : Int → ax_M → Prop} {M : ax_M} {x1 x2 x3 : Int} (h : (-2147483648 ≤ ((M 6 0) - 1) ∧ ((M 6 0) - 1) ≤ 2147483647) ∧ (((x1 < 0) → post (-1001) M) ∧ ((0 ≤ x1) → (((((M 6 0) - 1) < x1) → post (-1001) M) ∧ ((x1 ≤ ((M 6 0) - 1)) → ((((M 8 0) < 8) → (0 ≤ (M 8 0) ∧ (M 8 0) < 8) ∧ (x2 = 0 ∨ x2 = 1) ∧ (x3 = 0 ∨ x3 = 1) ∧ (-2147483648 ≤ ((M 8 0) + 1) ∧ ((M 8 0) + 1) ≤ 2147483647) ∧ post (M 8 0) (ax_up (ax_up (ax_up (ax_up M 9 (M 8 0) x1) 10 (M 8 0) x2) 11 (M 8 0) x3) 8 0 ((M 8 0) + 1))) ∧ ((8 ≤ (M 8 0)) → post (-1004) M))))))) : ax_J Y_X10_man (ax_Ki Y_X10_man SH post) 0 0 0 [(0, aR 0), (1, aI x1), (2, aI x2), (3, aI x3)] [] SH M := by
  refine j_aload_n 0 dX10_man_0 rfl ?_
  refine j_iload_n 1 dX10_man_1 rfl ?_
  refine j_calliV (Yc := Y_X10_isPlace) (as := [aI x1]) (rest := []) dX10_man_2 q_X10_162 ⟨Nat.le_of_ble_eq_true rfl, Nat.le_of_ble_eq_true rfl, Nat.le_of_ble_eq_true rfl, Nat.le_of_ble_eq_true rfl⟩ sh_0 rfl (Nat.le_of_ble_eq_true rfl) rfl (ti_of (ll := [(0, aR 0), (1, aI x1)]) rfl (Nat.le_of_ble_eq_true rfl) rfl (fun _ => ?_))
  refine j_iload_n 1 dX10_isPlace_0 rfl ?_
  refine j_iconst (x := 0) dX10_isPlace_1 rfl (i32_c rfl) ?_
  refine j_aload_n 0 dX10_isPlace_2 rfl ?_
  refine j_getc 6 dX10_isPlace_3 f_X10_28 sh_0 rfl ?_
  refine j_geti (i := 0) dX10_isPlace_6 f_X10_144 sh_6 rfl rfl (fun _ => ?_)
  refine j_iconst (x := 1) dX10_isPlace_9 rfl (i32_c rfl) ?_
  obtain ⟨o1, h⟩ := h
  refine j_isub (z := ((M 6 0) - 1)) dX10_isPlace_10 rfl o1 ?_
  refine j_calliS (Yc := Y_X10_within) (as := [aI x1, aI 0, aI ((M 6 0) - 1)]) (rest := []) dX10_isPlace_11 q_X10_99 ⟨Nat.le_of_ble_eq_true rfl, Nat.le_of_ble_eq_true rfl, Nat.le_of_ble_eq_true rfl, Nat.le_of_ble_eq_true rfl⟩ rfl (Nat.le_of_ble_eq_true rfl) rfl (ti_of (ll := [(0, aI x1), (1, aI 0), (2, aI ((M 6 0) - 1))]) rfl (Nat.le_of_ble_eq_true rfl) rfl (fun _ => ?_))
  refine j_iload_n 0 dX10_within_0 rfl ?_
  refine j_iload_n 1 dX10_within_1 rfl ?_
  refine j_icmp_lt (tgt := 14) dX10_within_2 (by decide) (fun c2 => ?_) (fun c2 => ?_)
  · replace h := h.1 c2
    refine j_iconst (x := 0) dX10_within_14 rfl (i32_c rfl) ?_
    refine j_zret dX10_within_15 rfl ⟨Nat.le_of_ble_eq_true rfl, Nat.le_of_ble_eq_true rfl⟩ (by decide) ?_
    refine j_zret dX10_isPlace_14 rfl ⟨Nat.le_of_ble_eq_true rfl, Nat.le_of_ble_eq_true rfl⟩ (by decide) ?_
    refine j_if_ne (tgt := 12) dX10_man_5 (by decide) (fun c => absurd c (by decide)) (fun _ => ?_)
    refine j_sipush (x := (-1001)) dX10_man_8 rfl (i32_c rfl) ?_
    exact j_iret dX10_man_11 rfl ⟨Nat.le_of_ble_eq_true rfl, Nat.le_of_ble_eq_true rfl⟩ (fun _ => h)
  · replace h := h.2 c2
    refine j_iload_n 0 dX10_within_5 rfl ?_
    refine j_iload_n 2 dX10_within_6 rfl ?_
    refine j_icmp_gt (tgt := 14) dX10_within_7 (by decide) (fun c3 => ?_) (fun c3 => ?_)
    · replace h := h.1 c3
      refine j_iconst (x := 0) dX10_within_14 rfl (i32_c rfl) ?_
      refine j_zret dX10_within_15 rfl ⟨Nat.le_of_ble_eq_true rfl, Nat.le_of_ble_eq_true rfl⟩ (by decide) ?_
      refine j_zret dX10_isPlace_14 rfl ⟨Nat.le_of_ble_eq_true rfl, Nat.le_of_ble_eq_true rfl⟩ (by decide) ?_
      refine j_if_ne (tgt := 12) dX10_man_5 (by decide) (fun c => absurd c (by decide)) (fun _ => ?_)
      refine j_sipush (x := (-1001)) dX10_man_8 rfl (i32_c rfl) ?_
      exact j_iret dX10_man_11 rfl ⟨Nat.le_of_ble_eq_true rfl, Nat.le_of_ble_eq_true rfl⟩ (fun _ => h)
    · replace h := h.2 c3
      refine j_iconst (x := 1) dX10_within_10 rfl (i32_c rfl) ?_
      refine j_goto (tgt := 15) dX10_within_11 (by decide) ?_
      refine j_zret dX10_within_15 rfl ⟨Nat.le_of_ble_eq_true rfl, Nat.le_of_ble_eq_true rfl⟩ (by decide) ?_
      refine j_zret dX10_isPlace_14 rfl ⟨Nat.le_of_ble_eq_true rfl, Nat.le_of_ble_eq_true rfl⟩ (by decide) ?_
      refine j_if_ne (tgt := 12) dX10_man_5 (by decide) (fun _ => ?_) (fun c => absurd c (by decide))
      refine j_aload_n 0 dX10_man_12 rfl ?_
      refine j_getc 8 dX10_man_13 f_X10_35 sh_0 rfl ?_
      refine j_geti (i := 0) dX10_man_16 f_X10_147 sh_8 rfl rfl (fun _ => ?_)
      refine j_bipush (x := 8) dX10_man_19 rfl (i32_c rfl) ?_
      refine j_icmp_lt (tgt := 28) dX10_man_21 (by decide) (fun c4 => ?_) (fun c4 => ?_)
      · replace h := h.1 c4
        refine j_aload_n 0 dX10_man_28 rfl ?_
        refine j_getc 8 dX10_man_29 f_X10_35 sh_0 rfl ?_
        refine j_iload_n 1 dX10_man_32 rfl ?_
        refine j_iload_n 2 dX10_man_33 rfl ?_
        refine j_iload_n 3 dX10_man_34 rfl ?_
        refine j_calliV (Yc := Y_X0_addMan) (as := [aI x1, aI x2, aI x3]) (rest := []) dX10_man_35 q_X10_165 ⟨Nat.le_of_ble_eq_true rfl, Nat.le_of_ble_eq_true rfl, Nat.le_of_ble_eq_true rfl, Nat.le_of_ble_eq_true rfl⟩ sh_8 rfl (Nat.le_of_ble_eq_true rfl) rfl (ti_of (ll := [(0, aR 8), (1, aI x1), (2, aI x2), (3, aI x3)]) rfl (Nat.le_of_ble_eq_true rfl) rfl (fun _ => ?_))
        refine j_aload_n 0 dX0_addMan_0 rfl ?_
        refine j_geti (i := 0) dX0_addMan_1 f_X0_31 sh_8 rfl rfl (fun _ => ?_)
        refine j_istore (ll' := [(4, aI (M 8 0)), (0, aR 8), (1, aI x1), (2, aI x2), (3, aI x3)]) dX0_addMan_4 (Nat.le_of_ble_eq_true rfl) rfl ?_
        refine j_aload_n 1 dX0_addMan_6 rfl ?_
        refine j_getc 9 dX0_addMan_7 f_X0_9 sh_8 rfl ?_
        refine j_iload 0 dX0_addMan_10 rfl ?_
        refine j_iload_n 2 dX0_addMan_12 rfl ?_
        obtain ⟨o5, h⟩ := h
        refine j_iast dX0_addMan_13 sh_9 o5.1 o5.2 ?_
        refine j_aload_n 1 dX0_addMan_14 rfl ?_
        refine j_getc 10 dX0_addMan_15 f_X0_15 sh_8 rfl ?_
        refine j_iload 0 dX0_addMan_18 rfl ?_
        refine j_iload_n 3 dX0_addMan_20 rfl ?_
        obtain ⟨o6, h⟩ := h
        refine j_zast dX0_addMan_21 sh_10 o5.1 o5.2 o6 ?_
        refine j_aload_n 1 dX0_addMan_22 rfl ?_
        refine j_getc 11 dX0_addMan_23 f_X0_19 sh_8 rfl ?_
        refine j_iload 0 dX0_addMan_26 rfl ?_
        refine j_iload_n 4 dX0_addMan_28 rfl ?_
        obtain ⟨o7, h⟩ := h
        refine j_zast dX0_addMan_29 sh_11 o5.1 o5.2 o7 ?_
        refine j_aload_n 1 dX0_addMan_30 rfl ?_
        refine j_dup dX0_addMan_31 rfl ?_
        refine j_geti (i := 0) dX0_addMan_32 f_X0_31 sh_8 rfl rfl (fun _ => ?_)
        refine j_iconst (x := 1) dX0_addMan_35 rfl (i32_c rfl) ?_
        obtain ⟨o8, h⟩ := h
        refine j_iadd (z := ((M 8 0) + 1)) dX0_addMan_36 rfl o8 ?_
        refine j_puti (i := 0) dX0_addMan_37 p_X0_31 (fun h => by cases h) sh_8 rfl rfl ?_
        refine j_iload 0 dX0_addMan_40 rfl ?_
        refine j_iret dX0_addMan_42 rfl ⟨Nat.le_of_ble_eq_true rfl, Nat.le_of_ble_eq_true rfl⟩ (fun _ => ?_)
        exact j_iret dX10_man_38 rfl ⟨Nat.le_of_ble_eq_true rfl, Nat.le_of_ble_eq_true rfl⟩ (fun _ => h)
      · replace h := h.2 c4
        refine j_sipush (x := (-1004)) dX10_man_24 rfl (i32_c rfl) ?_
        exact j_iret dX10_man_27 rfl ⟨Nat.le_of_ble_eq_true rfl, Nat.le_of_ble_eq_true rfl⟩ (fun _ => h)
theorem E_X10_man {post : Int → ax_M → Prop} {M : ax_M} {x1 x2 x3 : Int} (h : ax_mr SH M → (-2147483648 ≤ ((M 6 0) - 1) ∧ ((M 6 0) - 1) ≤ 2147483647) ∧ (((x1 < 0) → post (-1001) M) ∧ ((0 ≤ x1) → (((((M 6 0) - 1) < x1) → post (-1001) M) ∧ ((x1 ≤ ((M 6 0) - 1)) → ((((M 8 0) < 8) → (0 ≤ (M 8 0) ∧ (M 8 0) < 8) ∧ (x2 = 0 ∨ x2 = 1) ∧ (x3 = 0 ∨ x3 = 1) ∧ (-2147483648 ≤ ((M 8 0) + 1) ∧ ((M 8 0) + 1) ≤ 2147483647) ∧ post (M 8 0) (ax_up (ax_up (ax_up (ax_up M 9 (M 8 0) x1) 10 (M 8 0) x2) 11 (M 8 0) x3) 8 0 ((M 8 0) + 1))) ∧ ((8 ≤ (M 8 0)) → post (-1004) M))))))) : ax_Ti Y_X10_man [aR 0, aI x1, aI x2, aI x3] SH M post :=
  ti_of rfl (Nat.le_of_ble_eq_true rfl) rfl (fun q => B_X10_man_0 (h q))
set_option maxRecDepth 100000 in
set_option maxHeartbeats 4000000 in
theorem B_X10_lamp_0 {post : Int → ax_M → Prop} {M : ax_M} {x1 x2 : Int} (h : (-2147483648 ≤ ((M 6 0) - 1) ∧ ((M 6 0) - 1) ≤ 2147483647) ∧ (((x1 < 0) → post (-1001) M) ∧ ((0 ≤ x1) → (((((M 6 0) - 1) < x1) → post (-1001) M) ∧ ((x1 ≤ ((M 6 0) - 1)) → (((x2 < 0) → post (-1002) M) ∧ ((0 ≤ x2) → (((99 < x2) → post (-1002) M) ∧ ((x2 ≤ 99) → ((((M 8 1) < 4) → (0 ≤ (M 8 1) ∧ (M 8 1) < 4) ∧ (-2147483648 ≤ ((M 8 1) + 1) ∧ ((M 8 1) + 1) ≤ 2147483647) ∧ post (M 8 1) (ax_up (ax_up (ax_up M 12 (M 8 1) x1) 13 (M 8 1) x2) 8 1 ((M 8 1) + 1))) ∧ ((4 ≤ (M 8 1)) → post (-1004) M))))))))))) : ax_J Y_X10_lamp (ax_Ki Y_X10_lamp SH post) 0 0 0 [(0, aR 0), (1, aI x1), (2, aI x2)] [] SH M := by
  refine j_aload_n 0 dX10_lamp_0 rfl ?_
  refine j_iload_n 1 dX10_lamp_1 rfl ?_
  refine j_calliV (Yc := Y_X10_isPlace) (as := [aI x1]) (rest := []) dX10_lamp_2 q_X10_162 ⟨Nat.le_of_ble_eq_true rfl, Nat.le_of_ble_eq_true rfl, Nat.le_of_ble_eq_true rfl, Nat.le_of_ble_eq_true rfl⟩ sh_0 rfl (Nat.le_of_ble_eq_true rfl) rfl (ti_of (ll := [(0, aR 0), (1, aI x1)]) rfl (Nat.le_of_ble_eq_true rfl) rfl (fun _ => ?_))
  refine j_iload_n 1 dX10_isPlace_0 rfl ?_
  refine j_iconst (x := 0) dX10_isPlace_1 rfl (i32_c rfl) ?_
  refine j_aload_n 0 dX10_isPlace_2 rfl ?_
  refine j_getc 6 dX10_isPlace_3 f_X10_28 sh_0 rfl ?_
  refine j_geti (i := 0) dX10_isPlace_6 f_X10_144 sh_6 rfl rfl (fun _ => ?_)
  refine j_iconst (x := 1) dX10_isPlace_9 rfl (i32_c rfl) ?_
  obtain ⟨o1, h⟩ := h
  refine j_isub (z := ((M 6 0) - 1)) dX10_isPlace_10 rfl o1 ?_
  refine j_calliS (Yc := Y_X10_within) (as := [aI x1, aI 0, aI ((M 6 0) - 1)]) (rest := []) dX10_isPlace_11 q_X10_99 ⟨Nat.le_of_ble_eq_true rfl, Nat.le_of_ble_eq_true rfl, Nat.le_of_ble_eq_true rfl, Nat.le_of_ble_eq_true rfl⟩ rfl (Nat.le_of_ble_eq_true rfl) rfl (ti_of (ll := [(0, aI x1), (1, aI 0), (2, aI ((M 6 0) - 1))]) rfl (Nat.le_of_ble_eq_true rfl) rfl (fun _ => ?_))
  refine j_iload_n 0 dX10_within_0 rfl ?_
  refine j_iload_n 1 dX10_within_1 rfl ?_
  refine j_icmp_lt (tgt := 14) dX10_within_2 (by decide) (fun c2 => ?_) (fun c2 => ?_)
  · replace h := h.1 c2
    refine j_iconst (x := 0) dX10_within_14 rfl (i32_c rfl) ?_
    refine j_zret dX10_within_15 rfl ⟨Nat.le_of_ble_eq_true rfl, Nat.le_of_ble_eq_true rfl⟩ (by decide) ?_
    refine j_zret dX10_isPlace_14 rfl ⟨Nat.le_of_ble_eq_true rfl, Nat.le_of_ble_eq_true rfl⟩ (by decide) ?_
    refine j_if_ne (tgt := 12) dX10_lamp_5 (by decide) (fun c => absurd c (by decide)) (fun _ => ?_)
    refine j_sipush (x := (-1001)) dX10_lamp_8 rfl (i32_c rfl) ?_
    exact j_iret dX10_lamp_11 rfl ⟨Nat.le_of_ble_eq_true rfl, Nat.le_of_ble_eq_true rfl⟩ (fun _ => h)
  · replace h := h.2 c2
    refine j_iload_n 0 dX10_within_5 rfl ?_
    refine j_iload_n 2 dX10_within_6 rfl ?_
    refine j_icmp_gt (tgt := 14) dX10_within_7 (by decide) (fun c3 => ?_) (fun c3 => ?_)
    · replace h := h.1 c3
      refine j_iconst (x := 0) dX10_within_14 rfl (i32_c rfl) ?_
      refine j_zret dX10_within_15 rfl ⟨Nat.le_of_ble_eq_true rfl, Nat.le_of_ble_eq_true rfl⟩ (by decide) ?_
      refine j_zret dX10_isPlace_14 rfl ⟨Nat.le_of_ble_eq_true rfl, Nat.le_of_ble_eq_true rfl⟩ (by decide) ?_
      refine j_if_ne (tgt := 12) dX10_lamp_5 (by decide) (fun c => absurd c (by decide)) (fun _ => ?_)
      refine j_sipush (x := (-1001)) dX10_lamp_8 rfl (i32_c rfl) ?_
      exact j_iret dX10_lamp_11 rfl ⟨Nat.le_of_ble_eq_true rfl, Nat.le_of_ble_eq_true rfl⟩ (fun _ => h)
    · replace h := h.2 c3
      refine j_iconst (x := 1) dX10_within_10 rfl (i32_c rfl) ?_
      refine j_goto (tgt := 15) dX10_within_11 (by decide) ?_
      refine j_zret dX10_within_15 rfl ⟨Nat.le_of_ble_eq_true rfl, Nat.le_of_ble_eq_true rfl⟩ (by decide) ?_
      refine j_zret dX10_isPlace_14 rfl ⟨Nat.le_of_ble_eq_true rfl, Nat.le_of_ble_eq_true rfl⟩ (by decide) ?_
      refine j_if_ne (tgt := 12) dX10_lamp_5 (by decide) (fun _ => ?_) (fun c => absurd c (by decide))
      refine j_iload_n 2 dX10_lamp_12 rfl ?_
      refine j_calliS (Yc := Y_X10_isMinute) (as := [aI x2]) (rest := []) dX10_lamp_13 q_X10_169 ⟨Nat.le_of_ble_eq_true rfl, Nat.le_of_ble_eq_true rfl, Nat.le_of_ble_eq_true rfl, Nat.le_of_ble_eq_true rfl⟩ rfl (Nat.le_of_ble_eq_true rfl) rfl (ti_of (ll := [(0, aI x2)]) rfl (Nat.le_of_ble_eq_true rfl) rfl (fun _ => ?_))
      refine j_iload_n 0 dX10_isMinute_0 rfl ?_
      refine j_iconst (x := 0) dX10_isMinute_1 rfl (i32_c rfl) ?_
      refine j_bipush (x := 99) dX10_isMinute_2 rfl (i32_c rfl) ?_
      refine j_calliS (Yc := Y_X10_within) (as := [aI x2, aI 0, aI 99]) (rest := []) dX10_isMinute_4 q_X10_99 ⟨Nat.le_of_ble_eq_true rfl, Nat.le_of_ble_eq_true rfl, Nat.le_of_ble_eq_true rfl, Nat.le_of_ble_eq_true rfl⟩ rfl (Nat.le_of_ble_eq_true rfl) rfl (ti_of (ll := [(0, aI x2), (1, aI 0), (2, aI 99)]) rfl (Nat.le_of_ble_eq_true rfl) rfl (fun _ => ?_))
      refine j_iload_n 0 dX10_within_0 rfl ?_
      refine j_iload_n 1 dX10_within_1 rfl ?_
      refine j_icmp_lt (tgt := 14) dX10_within_2 (by decide) (fun c4 => ?_) (fun c4 => ?_)
      · replace h := h.1 c4
        refine j_iconst (x := 0) dX10_within_14 rfl (i32_c rfl) ?_
        refine j_zret dX10_within_15 rfl ⟨Nat.le_of_ble_eq_true rfl, Nat.le_of_ble_eq_true rfl⟩ (by decide) ?_
        refine j_zret dX10_isMinute_7 rfl ⟨Nat.le_of_ble_eq_true rfl, Nat.le_of_ble_eq_true rfl⟩ (by decide) ?_
        refine j_if_ne (tgt := 23) dX10_lamp_16 (by decide) (fun c => absurd c (by decide)) (fun _ => ?_)
        refine j_sipush (x := (-1002)) dX10_lamp_19 rfl (i32_c rfl) ?_
        exact j_iret dX10_lamp_22 rfl ⟨Nat.le_of_ble_eq_true rfl, Nat.le_of_ble_eq_true rfl⟩ (fun _ => h)
      · replace h := h.2 c4
        refine j_iload_n 0 dX10_within_5 rfl ?_
        refine j_iload_n 2 dX10_within_6 rfl ?_
        refine j_icmp_gt (tgt := 14) dX10_within_7 (by decide) (fun c5 => ?_) (fun c5 => ?_)
        · replace h := h.1 c5
          refine j_iconst (x := 0) dX10_within_14 rfl (i32_c rfl) ?_
          refine j_zret dX10_within_15 rfl ⟨Nat.le_of_ble_eq_true rfl, Nat.le_of_ble_eq_true rfl⟩ (by decide) ?_
          refine j_zret dX10_isMinute_7 rfl ⟨Nat.le_of_ble_eq_true rfl, Nat.le_of_ble_eq_true rfl⟩ (by decide) ?_
          refine j_if_ne (tgt := 23) dX10_lamp_16 (by decide) (fun c => absurd c (by decide)) (fun _ => ?_)
          refine j_sipush (x := (-1002)) dX10_lamp_19 rfl (i32_c rfl) ?_
          exact j_iret dX10_lamp_22 rfl ⟨Nat.le_of_ble_eq_true rfl, Nat.le_of_ble_eq_true rfl⟩ (fun _ => h)
        · replace h := h.2 c5
          refine j_iconst (x := 1) dX10_within_10 rfl (i32_c rfl) ?_
          refine j_goto (tgt := 15) dX10_within_11 (by decide) ?_
          refine j_zret dX10_within_15 rfl ⟨Nat.le_of_ble_eq_true rfl, Nat.le_of_ble_eq_true rfl⟩ (by decide) ?_
          refine j_zret dX10_isMinute_7 rfl ⟨Nat.le_of_ble_eq_true rfl, Nat.le_of_ble_eq_true rfl⟩ (by decide) ?_
          refine j_if_ne (tgt := 23) dX10_lamp_16 (by decide) (fun _ => ?_) (fun c => absurd c (by decide))
          refine j_aload_n 0 dX10_lamp_23 rfl ?_
          refine j_getc 8 dX10_lamp_24 f_X10_35 sh_0 rfl ?_
          refine j_geti (i := 1) dX10_lamp_27 f_X10_150 sh_8 rfl rfl (fun _ => ?_)
          refine j_iconst (x := 4) dX10_lamp_30 rfl (i32_c rfl) ?_
          refine j_icmp_lt (tgt := 38) dX10_lamp_31 (by decide) (fun c6 => ?_) (fun c6 => ?_)
          · replace h := h.1 c6
            refine j_aload_n 0 dX10_lamp_38 rfl ?_
            refine j_getc 8 dX10_lamp_39 f_X10_35 sh_0 rfl ?_
            refine j_iload_n 1 dX10_lamp_42 rfl ?_
            refine j_iload_n 2 dX10_lamp_43 rfl ?_
            refine j_calliV (Yc := Y_X0_addLamp) (as := [aI x1, aI x2]) (rest := []) dX10_lamp_44 q_X10_172 ⟨Nat.le_of_ble_eq_true rfl, Nat.le_of_ble_eq_true rfl, Nat.le_of_ble_eq_true rfl, Nat.le_of_ble_eq_true rfl⟩ sh_8 rfl (Nat.le_of_ble_eq_true rfl) rfl (ti_of (ll := [(0, aR 8), (1, aI x1), (2, aI x2)]) rfl (Nat.le_of_ble_eq_true rfl) rfl (fun _ => ?_))
            refine j_aload_n 0 dX0_addLamp_0 rfl ?_
            refine j_geti (i := 1) dX0_addLamp_1 f_X0_35 sh_8 rfl rfl (fun _ => ?_)
            refine j_istore_n (ll' := [(3, aI (M 8 1)), (0, aR 8), (1, aI x1), (2, aI x2)]) dX0_addLamp_4 (Nat.le_of_ble_eq_true rfl) rfl ?_
            refine j_aload_n 1 dX0_addLamp_5 rfl ?_
            refine j_getc 12 dX0_addLamp_6 f_X0_22 sh_8 rfl ?_
            refine j_iload_n 0 dX0_addLamp_9 rfl ?_
            refine j_iload_n 2 dX0_addLamp_10 rfl ?_
            obtain ⟨o7, h⟩ := h
            refine j_iast dX0_addLamp_11 sh_12 o7.1 o7.2 ?_
            refine j_aload_n 1 dX0_addLamp_12 rfl ?_
            refine j_getc 13 dX0_addLamp_13 f_X0_25 sh_8 rfl ?_
            refine j_iload_n 0 dX0_addLamp_16 rfl ?_
            refine j_iload_n 3 dX0_addLamp_17 rfl ?_
            refine j_iast dX0_addLamp_18 sh_13 o7.1 o7.2 ?_
            refine j_aload_n 1 dX0_addLamp_19 rfl ?_
            refine j_dup dX0_addLamp_20 rfl ?_
            refine j_geti (i := 1) dX0_addLamp_21 f_X0_35 sh_8 rfl rfl (fun _ => ?_)
            refine j_iconst (x := 1) dX0_addLamp_24 rfl (i32_c rfl) ?_
            obtain ⟨o8, h⟩ := h
            refine j_iadd (z := ((M 8 1) + 1)) dX0_addLamp_25 rfl o8 ?_
            refine j_puti (i := 1) dX0_addLamp_26 p_X0_35 (fun h => by cases h) sh_8 rfl rfl ?_
            refine j_iload_n 0 dX0_addLamp_29 rfl ?_
            refine j_iret dX0_addLamp_30 rfl ⟨Nat.le_of_ble_eq_true rfl, Nat.le_of_ble_eq_true rfl⟩ (fun _ => ?_)
            exact j_iret dX10_lamp_47 rfl ⟨Nat.le_of_ble_eq_true rfl, Nat.le_of_ble_eq_true rfl⟩ (fun _ => h)
          · replace h := h.2 c6
            refine j_sipush (x := (-1004)) dX10_lamp_34 rfl (i32_c rfl) ?_
            exact j_iret dX10_lamp_37 rfl ⟨Nat.le_of_ble_eq_true rfl, Nat.le_of_ble_eq_true rfl⟩ (fun _ => h)
theorem E_X10_lamp {post : Int → ax_M → Prop} {M : ax_M} {x1 x2 : Int} (h : ax_mr SH M → (-2147483648 ≤ ((M 6 0) - 1) ∧ ((M 6 0) - 1) ≤ 2147483647) ∧ (((x1 < 0) → post (-1001) M) ∧ ((0 ≤ x1) → (((((M 6 0) - 1) < x1) → post (-1001) M) ∧ ((x1 ≤ ((M 6 0) - 1)) → (((x2 < 0) → post (-1002) M) ∧ ((0 ≤ x2) → (((99 < x2) → post (-1002) M) ∧ ((x2 ≤ 99) → ((((M 8 1) < 4) → (0 ≤ (M 8 1) ∧ (M 8 1) < 4) ∧ (-2147483648 ≤ ((M 8 1) + 1) ∧ ((M 8 1) + 1) ≤ 2147483647) ∧ post (M 8 1) (ax_up (ax_up (ax_up M 12 (M 8 1) x1) 13 (M 8 1) x2) 8 1 ((M 8 1) + 1))) ∧ ((4 ≤ (M 8 1)) → post (-1004) M))))))))))) : ax_Ti Y_X10_lamp [aR 0, aI x1, aI x2] SH M post :=
  ti_of rfl (Nat.le_of_ble_eq_true rfl) rfl (fun q => B_X10_lamp_0 (h q))
set_option maxRecDepth 100000 in
set_option maxHeartbeats 4000000 in
theorem B_X10_told_0 {post : Int → ax_M → Prop} {M : ax_M} {x1 x2 : Int} (h : (-2147483648 ≤ ((M 8 0) - 1) ∧ ((M 8 0) - 1) ≤ 2147483647) ∧ (((x1 < 0) → post (-1001) M) ∧ ((0 ≤ x1) → (((((M 8 0) - 1) < x1) → post (-1001) M) ∧ ((x1 ≤ ((M 8 0) - 1)) → (((x2 = 0) → (0 ≤ x1 ∧ x1 < 8) ∧ post (M 9 x1) M) ∧ (((x2 = 1) → (0 ≤ x1 ∧ x1 < 8) ∧ ((((M 10 x1) = 0) → post 0 M) ∧ ((¬ (M 10 x1) = 0) → post 1 M))) ∧ (((x2 = 2) → (0 ≤ x1 ∧ x1 < 8) ∧ ((((M 11 x1) = 0) → post 0 M) ∧ ((¬ (M 11 x1) = 0) → post 1 M))) ∧ ((x2 < 0 ∨ 2 < x2) → post (-1002) M))))))))) : ax_J Y_X10_told (ax_Ki Y_X10_told SH post) 0 0 0 [(0, aR 0), (1, aI x1), (2, aI x2)] [] SH M := by
  refine j_aload_n 0 dX10_told_0 rfl ?_
  refine j_iload_n 1 dX10_told_1 rfl ?_
  refine j_calliV (Yc := Y_X10_isMan) (as := [aI x1]) (rest := []) dX10_told_2 q_X10_175 ⟨Nat.le_of_ble_eq_true rfl, Nat.le_of_ble_eq_true rfl, Nat.le_of_ble_eq_true rfl, Nat.le_of_ble_eq_true rfl⟩ sh_0 rfl (Nat.le_of_ble_eq_true rfl) rfl (ti_of (ll := [(0, aR 0), (1, aI x1)]) rfl (Nat.le_of_ble_eq_true rfl) rfl (fun _ => ?_))
  refine j_iload_n 1 dX10_isMan_0 rfl ?_
  refine j_iconst (x := 0) dX10_isMan_1 rfl (i32_c rfl) ?_
  refine j_aload_n 0 dX10_isMan_2 rfl ?_
  refine j_getc 8 dX10_isMan_3 f_X10_35 sh_0 rfl ?_
  refine j_geti (i := 0) dX10_isMan_6 f_X10_147 sh_8 rfl rfl (fun _ => ?_)
  refine j_iconst (x := 1) dX10_isMan_9 rfl (i32_c rfl) ?_
  obtain ⟨o1, h⟩ := h
  refine j_isub (z := ((M 8 0) - 1)) dX10_isMan_10 rfl o1 ?_
  refine j_calliS (Yc := Y_X10_within) (as := [aI x1, aI 0, aI ((M 8 0) - 1)]) (rest := []) dX10_isMan_11 q_X10_99 ⟨Nat.le_of_ble_eq_true rfl, Nat.le_of_ble_eq_true rfl, Nat.le_of_ble_eq_true rfl, Nat.le_of_ble_eq_true rfl⟩ rfl (Nat.le_of_ble_eq_true rfl) rfl (ti_of (ll := [(0, aI x1), (1, aI 0), (2, aI ((M 8 0) - 1))]) rfl (Nat.le_of_ble_eq_true rfl) rfl (fun _ => ?_))
  refine j_iload_n 0 dX10_within_0 rfl ?_
  refine j_iload_n 1 dX10_within_1 rfl ?_
  refine j_icmp_lt (tgt := 14) dX10_within_2 (by decide) (fun c2 => ?_) (fun c2 => ?_)
  · replace h := h.1 c2
    refine j_iconst (x := 0) dX10_within_14 rfl (i32_c rfl) ?_
    refine j_zret dX10_within_15 rfl ⟨Nat.le_of_ble_eq_true rfl, Nat.le_of_ble_eq_true rfl⟩ (by decide) ?_
    refine j_zret dX10_isMan_14 rfl ⟨Nat.le_of_ble_eq_true rfl, Nat.le_of_ble_eq_true rfl⟩ (by decide) ?_
    refine j_if_ne (tgt := 12) dX10_told_5 (by decide) (fun c => absurd c (by decide)) (fun _ => ?_)
    refine j_sipush (x := (-1001)) dX10_told_8 rfl (i32_c rfl) ?_
    exact j_iret dX10_told_11 rfl ⟨Nat.le_of_ble_eq_true rfl, Nat.le_of_ble_eq_true rfl⟩ (fun _ => h)
  · replace h := h.2 c2
    refine j_iload_n 0 dX10_within_5 rfl ?_
    refine j_iload_n 2 dX10_within_6 rfl ?_
    refine j_icmp_gt (tgt := 14) dX10_within_7 (by decide) (fun c3 => ?_) (fun c3 => ?_)
    · replace h := h.1 c3
      refine j_iconst (x := 0) dX10_within_14 rfl (i32_c rfl) ?_
      refine j_zret dX10_within_15 rfl ⟨Nat.le_of_ble_eq_true rfl, Nat.le_of_ble_eq_true rfl⟩ (by decide) ?_
      refine j_zret dX10_isMan_14 rfl ⟨Nat.le_of_ble_eq_true rfl, Nat.le_of_ble_eq_true rfl⟩ (by decide) ?_
      refine j_if_ne (tgt := 12) dX10_told_5 (by decide) (fun c => absurd c (by decide)) (fun _ => ?_)
      refine j_sipush (x := (-1001)) dX10_told_8 rfl (i32_c rfl) ?_
      exact j_iret dX10_told_11 rfl ⟨Nat.le_of_ble_eq_true rfl, Nat.le_of_ble_eq_true rfl⟩ (fun _ => h)
    · replace h := h.2 c3
      refine j_iconst (x := 1) dX10_within_10 rfl (i32_c rfl) ?_
      refine j_goto (tgt := 15) dX10_within_11 (by decide) ?_
      refine j_zret dX10_within_15 rfl ⟨Nat.le_of_ble_eq_true rfl, Nat.le_of_ble_eq_true rfl⟩ (by decide) ?_
      refine j_zret dX10_isMan_14 rfl ⟨Nat.le_of_ble_eq_true rfl, Nat.le_of_ble_eq_true rfl⟩ (by decide) ?_
      refine j_if_ne (tgt := 12) dX10_told_5 (by decide) (fun _ => ?_) (fun c => absurd c (by decide))
      refine j_iload_n 2 dX10_told_12 rfl ?_
      rcases (show (x2 = 0) ∨ (x2 = 1) ∨ (x2 = 2) ∨ (x2 < 0 ∨ 2 < x2) by omega) with c | c | c | c
      · replace h := h.1 c
        refine j_tableC (v := 0) (tgt := 40) c dX10_told_13 (by decide) (by decide) rfl (by decide) ?_
        refine j_aload_n 0 dX10_told_40 rfl ?_
        refine j_getc 8 dX10_told_41 f_X10_35 sh_0 rfl ?_
        refine j_getc 9 dX10_told_44 f_X10_178 sh_8 rfl ?_
        refine j_iload_n 1 dX10_told_47 rfl ?_
        obtain ⟨o4, h⟩ := h
        refine j_iald dX10_told_48 sh_9 o4.1 o4.2 (fun _ => ?_)
        exact j_iret dX10_told_49 rfl ⟨Nat.le_of_ble_eq_true rfl, Nat.le_of_ble_eq_true rfl⟩ (fun _ => h)
      · replace h := h.2.1 c
        refine j_tableC (v := 1) (tgt := 50) c dX10_told_13 (by decide) (by decide) rfl (by decide) ?_
        refine j_aload_n 0 dX10_told_50 rfl ?_
        refine j_getc 8 dX10_told_51 f_X10_35 sh_0 rfl ?_
        refine j_getc 10 dX10_told_54 f_X10_182 sh_8 rfl ?_
        refine j_iload_n 1 dX10_told_57 rfl ?_
        obtain ⟨o5, h⟩ := h
        refine j_zald dX10_told_58 sh_10 o5.1 o5.2 (fun _ => ?_)
        refine j_calliS (Yc := Y_X10_bit) (as := [aI (M 10 x1)]) (rest := []) dX10_told_59 q_X10_136 ⟨Nat.le_of_ble_eq_true rfl, Nat.le_of_ble_eq_true rfl, Nat.le_of_ble_eq_true rfl, Nat.le_of_ble_eq_true rfl⟩ rfl (Nat.le_of_ble_eq_true rfl) rfl (ti_of (ll := [(0, aI (M 10 x1))]) rfl (Nat.le_of_ble_eq_true rfl) rfl (fun _ => ?_))
        refine j_iload_n 0 dX10_bit_0 rfl ?_
        refine j_if_eq (tgt := 8) dX10_bit_1 (by decide) (fun c6 => ?_) (fun c6 => ?_)
        · replace h := h.1 c6
          refine j_iconst (x := 0) dX10_bit_8 rfl (i32_c rfl) ?_
          refine j_iret dX10_bit_9 rfl ⟨Nat.le_of_ble_eq_true rfl, Nat.le_of_ble_eq_true rfl⟩ (fun _ => ?_)
          exact j_iret dX10_told_62 rfl ⟨Nat.le_of_ble_eq_true rfl, Nat.le_of_ble_eq_true rfl⟩ (fun _ => h)
        · replace h := h.2 c6
          refine j_iconst (x := 1) dX10_bit_4 rfl (i32_c rfl) ?_
          refine j_goto (tgt := 9) dX10_bit_5 (by decide) ?_
          refine j_iret dX10_bit_9 rfl ⟨Nat.le_of_ble_eq_true rfl, Nat.le_of_ble_eq_true rfl⟩ (fun _ => ?_)
          exact j_iret dX10_told_62 rfl ⟨Nat.le_of_ble_eq_true rfl, Nat.le_of_ble_eq_true rfl⟩ (fun _ => h)
      · replace h := h.2.2.1 c
        refine j_tableC (v := 2) (tgt := 63) c dX10_told_13 (by decide) (by decide) rfl (by decide) ?_
        refine j_aload_n 0 dX10_told_63 rfl ?_
        refine j_getc 8 dX10_told_64 f_X10_35 sh_0 rfl ?_
        refine j_getc 11 dX10_told_67 f_X10_185 sh_8 rfl ?_
        refine j_iload_n 1 dX10_told_70 rfl ?_
        obtain ⟨o7, h⟩ := h
        refine j_zald dX10_told_71 sh_11 o7.1 o7.2 (fun _ => ?_)
        refine j_calliS (Yc := Y_X10_bit) (as := [aI (M 11 x1)]) (rest := []) dX10_told_72 q_X10_136 ⟨Nat.le_of_ble_eq_true rfl, Nat.le_of_ble_eq_true rfl, Nat.le_of_ble_eq_true rfl, Nat.le_of_ble_eq_true rfl⟩ rfl (Nat.le_of_ble_eq_true rfl) rfl (ti_of (ll := [(0, aI (M 11 x1))]) rfl (Nat.le_of_ble_eq_true rfl) rfl (fun _ => ?_))
        refine j_iload_n 0 dX10_bit_0 rfl ?_
        refine j_if_eq (tgt := 8) dX10_bit_1 (by decide) (fun c8 => ?_) (fun c8 => ?_)
        · replace h := h.1 c8
          refine j_iconst (x := 0) dX10_bit_8 rfl (i32_c rfl) ?_
          refine j_iret dX10_bit_9 rfl ⟨Nat.le_of_ble_eq_true rfl, Nat.le_of_ble_eq_true rfl⟩ (fun _ => ?_)
          exact j_iret dX10_told_75 rfl ⟨Nat.le_of_ble_eq_true rfl, Nat.le_of_ble_eq_true rfl⟩ (fun _ => h)
        · replace h := h.2 c8
          refine j_iconst (x := 1) dX10_bit_4 rfl (i32_c rfl) ?_
          refine j_goto (tgt := 9) dX10_bit_5 (by decide) ?_
          refine j_iret dX10_bit_9 rfl ⟨Nat.le_of_ble_eq_true rfl, Nat.le_of_ble_eq_true rfl⟩ (fun _ => ?_)
          exact j_iret dX10_told_75 rfl ⟨Nat.le_of_ble_eq_true rfl, Nat.le_of_ble_eq_true rfl⟩ (fun _ => h)
      · replace h := h.2.2.2 c
        refine j_tableOut (tgt := 76) dX10_told_13 c (by decide) ?_
        refine j_sipush (x := (-1002)) dX10_told_76 rfl (i32_c rfl) ?_
        exact j_iret dX10_told_79 rfl ⟨Nat.le_of_ble_eq_true rfl, Nat.le_of_ble_eq_true rfl⟩ (fun _ => h)
theorem E_X10_told {post : Int → ax_M → Prop} {M : ax_M} {x1 x2 : Int} (h : ax_mr SH M → (-2147483648 ≤ ((M 8 0) - 1) ∧ ((M 8 0) - 1) ≤ 2147483647) ∧ (((x1 < 0) → post (-1001) M) ∧ ((0 ≤ x1) → (((((M 8 0) - 1) < x1) → post (-1001) M) ∧ ((x1 ≤ ((M 8 0) - 1)) → (((x2 = 0) → (0 ≤ x1 ∧ x1 < 8) ∧ post (M 9 x1) M) ∧ (((x2 = 1) → (0 ≤ x1 ∧ x1 < 8) ∧ ((((M 10 x1) = 0) → post 0 M) ∧ ((¬ (M 10 x1) = 0) → post 1 M))) ∧ (((x2 = 2) → (0 ≤ x1 ∧ x1 < 8) ∧ ((((M 11 x1) = 0) → post 0 M) ∧ ((¬ (M 11 x1) = 0) → post 1 M))) ∧ ((x2 < 0 ∨ 2 < x2) → post (-1002) M))))))))) : ax_Ti Y_X10_told [aR 0, aI x1, aI x2] SH M post :=
  ti_of rfl (Nat.le_of_ble_eq_true rfl) rfl (fun q => B_X10_told_0 (h q))
set_option maxRecDepth 100000 in
set_option maxHeartbeats 4000000 in
theorem B_X10_light_0 {post : Int → ax_M → Prop} {M : ax_M} {x1 x2 : Int} (h : (-2147483648 ≤ ((M 8 1) - 1) ∧ ((M 8 1) - 1) ≤ 2147483647) ∧ (((x1 < 0) → post (-1001) M) ∧ ((0 ≤ x1) → (((((M 8 1) - 1) < x1) → post (-1001) M) ∧ ((x1 ≤ ((M 8 1) - 1)) → (((x2 = 0) → (0 ≤ x1 ∧ x1 < 4) ∧ post (M 12 x1) M) ∧ (((x2 = 1) → (0 ≤ x1 ∧ x1 < 4) ∧ post (M 13 x1) M) ∧ ((¬ x2 = 0 ∧ ¬ x2 = 1) → post (-1002) M)))))))) : ax_J Y_X10_light (ax_Ki Y_X10_light SH post) 0 0 0 [(0, aR 0), (1, aI x1), (2, aI x2)] [] SH M := by
  refine j_aload_n 0 dX10_light_0 rfl ?_
  refine j_iload_n 1 dX10_light_1 rfl ?_
  refine j_calliV (Yc := Y_X10_isLamp) (as := [aI x1]) (rest := []) dX10_light_2 q_X10_188 ⟨Nat.le_of_ble_eq_true rfl, Nat.le_of_ble_eq_true rfl, Nat.le_of_ble_eq_true rfl, Nat.le_of_ble_eq_true rfl⟩ sh_0 rfl (Nat.le_of_ble_eq_true rfl) rfl (ti_of (ll := [(0, aR 0), (1, aI x1)]) rfl (Nat.le_of_ble_eq_true rfl) rfl (fun _ => ?_))
  refine j_iload_n 1 dX10_isLamp_0 rfl ?_
  refine j_iconst (x := 0) dX10_isLamp_1 rfl (i32_c rfl) ?_
  refine j_aload_n 0 dX10_isLamp_2 rfl ?_
  refine j_getc 8 dX10_isLamp_3 f_X10_35 sh_0 rfl ?_
  refine j_geti (i := 1) dX10_isLamp_6 f_X10_150 sh_8 rfl rfl (fun _ => ?_)
  refine j_iconst (x := 1) dX10_isLamp_9 rfl (i32_c rfl) ?_
  obtain ⟨o1, h⟩ := h
  refine j_isub (z := ((M 8 1) - 1)) dX10_isLamp_10 rfl o1 ?_
  refine j_calliS (Yc := Y_X10_within) (as := [aI x1, aI 0, aI ((M 8 1) - 1)]) (rest := []) dX10_isLamp_11 q_X10_99 ⟨Nat.le_of_ble_eq_true rfl, Nat.le_of_ble_eq_true rfl, Nat.le_of_ble_eq_true rfl, Nat.le_of_ble_eq_true rfl⟩ rfl (Nat.le_of_ble_eq_true rfl) rfl (ti_of (ll := [(0, aI x1), (1, aI 0), (2, aI ((M 8 1) - 1))]) rfl (Nat.le_of_ble_eq_true rfl) rfl (fun _ => ?_))
  refine j_iload_n 0 dX10_within_0 rfl ?_
  refine j_iload_n 1 dX10_within_1 rfl ?_
  refine j_icmp_lt (tgt := 14) dX10_within_2 (by decide) (fun c2 => ?_) (fun c2 => ?_)
  · replace h := h.1 c2
    refine j_iconst (x := 0) dX10_within_14 rfl (i32_c rfl) ?_
    refine j_zret dX10_within_15 rfl ⟨Nat.le_of_ble_eq_true rfl, Nat.le_of_ble_eq_true rfl⟩ (by decide) ?_
    refine j_zret dX10_isLamp_14 rfl ⟨Nat.le_of_ble_eq_true rfl, Nat.le_of_ble_eq_true rfl⟩ (by decide) ?_
    refine j_if_ne (tgt := 12) dX10_light_5 (by decide) (fun c => absurd c (by decide)) (fun _ => ?_)
    refine j_sipush (x := (-1001)) dX10_light_8 rfl (i32_c rfl) ?_
    exact j_iret dX10_light_11 rfl ⟨Nat.le_of_ble_eq_true rfl, Nat.le_of_ble_eq_true rfl⟩ (fun _ => h)
  · replace h := h.2 c2
    refine j_iload_n 0 dX10_within_5 rfl ?_
    refine j_iload_n 2 dX10_within_6 rfl ?_
    refine j_icmp_gt (tgt := 14) dX10_within_7 (by decide) (fun c3 => ?_) (fun c3 => ?_)
    · replace h := h.1 c3
      refine j_iconst (x := 0) dX10_within_14 rfl (i32_c rfl) ?_
      refine j_zret dX10_within_15 rfl ⟨Nat.le_of_ble_eq_true rfl, Nat.le_of_ble_eq_true rfl⟩ (by decide) ?_
      refine j_zret dX10_isLamp_14 rfl ⟨Nat.le_of_ble_eq_true rfl, Nat.le_of_ble_eq_true rfl⟩ (by decide) ?_
      refine j_if_ne (tgt := 12) dX10_light_5 (by decide) (fun c => absurd c (by decide)) (fun _ => ?_)
      refine j_sipush (x := (-1001)) dX10_light_8 rfl (i32_c rfl) ?_
      exact j_iret dX10_light_11 rfl ⟨Nat.le_of_ble_eq_true rfl, Nat.le_of_ble_eq_true rfl⟩ (fun _ => h)
    · replace h := h.2 c3
      refine j_iconst (x := 1) dX10_within_10 rfl (i32_c rfl) ?_
      refine j_goto (tgt := 15) dX10_within_11 (by decide) ?_
      refine j_zret dX10_within_15 rfl ⟨Nat.le_of_ble_eq_true rfl, Nat.le_of_ble_eq_true rfl⟩ (by decide) ?_
      refine j_zret dX10_isLamp_14 rfl ⟨Nat.le_of_ble_eq_true rfl, Nat.le_of_ble_eq_true rfl⟩ (by decide) ?_
      refine j_if_ne (tgt := 12) dX10_light_5 (by decide) (fun _ => ?_) (fun c => absurd c (by decide))
      refine j_iload_n 2 dX10_light_12 rfl ?_
      rcases (show (x2 = 0) ∨ (x2 = 1) ∨ (¬ x2 = 0 ∧ ¬ x2 = 1) by omega) with c | c | c
      · replace h := h.1 c
        refine j_lookupC (v := 0) (tgt := 40) c dX10_light_13 (by decide) rfl (by decide) ?_
        refine j_aload_n 0 dX10_light_40 rfl ?_
        refine j_getc 8 dX10_light_41 f_X10_35 sh_0 rfl ?_
        refine j_getc 12 dX10_light_44 f_X10_191 sh_8 rfl ?_
        refine j_iload_n 1 dX10_light_47 rfl ?_
        obtain ⟨o4, h⟩ := h
        refine j_iald dX10_light_48 sh_12 o4.1 o4.2 (fun _ => ?_)
        exact j_iret dX10_light_49 rfl ⟨Nat.le_of_ble_eq_true rfl, Nat.le_of_ble_eq_true rfl⟩ (fun _ => h)
      · replace h := h.2.1 c
        refine j_lookupC (v := 1) (tgt := 50) c dX10_light_13 (by decide) rfl (by decide) ?_
        refine j_aload_n 0 dX10_light_50 rfl ?_
        refine j_getc 8 dX10_light_51 f_X10_35 sh_0 rfl ?_
        refine j_getc 13 dX10_light_54 f_X10_194 sh_8 rfl ?_
        refine j_iload_n 1 dX10_light_57 rfl ?_
        obtain ⟨o5, h⟩ := h
        refine j_iald dX10_light_58 sh_13 o5.1 o5.2 (fun _ => ?_)
        exact j_iret dX10_light_59 rfl ⟨Nat.le_of_ble_eq_true rfl, Nat.le_of_ble_eq_true rfl⟩ (fun _ => h)
      · replace h := h.2.2 c
        refine j_lookupD (tgt := 60) (off := 47) dX10_light_13 (by decide) (by simp only [Op.lookupswitch.offset]; omega) (by decide) ?_
        refine j_sipush (x := (-1002)) dX10_light_60 rfl (i32_c rfl) ?_
        exact j_iret dX10_light_63 rfl ⟨Nat.le_of_ble_eq_true rfl, Nat.le_of_ble_eq_true rfl⟩ (fun _ => h)
theorem E_X10_light {post : Int → ax_M → Prop} {M : ax_M} {x1 x2 : Int} (h : ax_mr SH M → (-2147483648 ≤ ((M 8 1) - 1) ∧ ((M 8 1) - 1) ≤ 2147483647) ∧ (((x1 < 0) → post (-1001) M) ∧ ((0 ≤ x1) → (((((M 8 1) - 1) < x1) → post (-1001) M) ∧ ((x1 ≤ ((M 8 1) - 1)) → (((x2 = 0) → (0 ≤ x1 ∧ x1 < 4) ∧ post (M 12 x1) M) ∧ (((x2 = 1) → (0 ≤ x1 ∧ x1 < 4) ∧ post (M 13 x1) M) ∧ ((¬ x2 = 0 ∧ ¬ x2 = 1) → post (-1002) M)))))))) : ax_Ti Y_X10_light [aR 0, aI x1, aI x2] SH M post :=
  ti_of rfl (Nat.le_of_ble_eq_true rfl) rfl (fun q => B_X10_light_0 (h q))
set_option maxRecDepth 100000 in
set_option maxHeartbeats 4000000 in
theorem B_X10_moves_0 {post : Int → ax_M → Prop} {M : ax_M} {x1 x2 x3 : Int} (h : (-2147483648 ≤ ((M 8 0) - 1) ∧ ((M 8 0) - 1) ≤ 2147483647) ∧ (((x1 < 0) → post (-1001) M) ∧ ((0 ≤ x1) → (((((M 8 0) - 1) < x1) → post (-1001) M) ∧ ((x1 ≤ ((M 8 0) - 1)) → (-2147483648 ≤ ((M 6 0) - 1) ∧ ((M 6 0) - 1) ≤ 2147483647) ∧ (((x2 < 0) → post (-1001) M) ∧ ((0 ≤ x2) → (((((M 6 0) - 1) < x2) → post (-1001) M) ∧ ((x2 ≤ ((M 6 0) - 1)) → (0 ≤ x1 ∧ x1 < 8) ∧ (x3 = 0 ∨ x3 = 1) ∧ post (M 9 x1) (ax_up (ax_up M 9 x1 x2) 10 x1 x3)))))))))) : ax_J Y_X10_moves (ax_Ki Y_X10_moves SH post) 0 0 0 [(0, aR 0), (1, aI x1), (2, aI x2), (3, aI x3)] [] SH M := by
  refine j_aload_n 0 dX10_moves_0 rfl ?_
  refine j_iload_n 1 dX10_moves_1 rfl ?_
  refine j_calliV (Yc := Y_X10_isMan) (as := [aI x1]) (rest := []) dX10_moves_2 q_X10_175 ⟨Nat.le_of_ble_eq_true rfl, Nat.le_of_ble_eq_true rfl, Nat.le_of_ble_eq_true rfl, Nat.le_of_ble_eq_true rfl⟩ sh_0 rfl (Nat.le_of_ble_eq_true rfl) rfl (ti_of (ll := [(0, aR 0), (1, aI x1)]) rfl (Nat.le_of_ble_eq_true rfl) rfl (fun _ => ?_))
  refine j_iload_n 1 dX10_isMan_0 rfl ?_
  refine j_iconst (x := 0) dX10_isMan_1 rfl (i32_c rfl) ?_
  refine j_aload_n 0 dX10_isMan_2 rfl ?_
  refine j_getc 8 dX10_isMan_3 f_X10_35 sh_0 rfl ?_
  refine j_geti (i := 0) dX10_isMan_6 f_X10_147 sh_8 rfl rfl (fun _ => ?_)
  refine j_iconst (x := 1) dX10_isMan_9 rfl (i32_c rfl) ?_
  obtain ⟨o1, h⟩ := h
  refine j_isub (z := ((M 8 0) - 1)) dX10_isMan_10 rfl o1 ?_
  refine j_calliS (Yc := Y_X10_within) (as := [aI x1, aI 0, aI ((M 8 0) - 1)]) (rest := []) dX10_isMan_11 q_X10_99 ⟨Nat.le_of_ble_eq_true rfl, Nat.le_of_ble_eq_true rfl, Nat.le_of_ble_eq_true rfl, Nat.le_of_ble_eq_true rfl⟩ rfl (Nat.le_of_ble_eq_true rfl) rfl (ti_of (ll := [(0, aI x1), (1, aI 0), (2, aI ((M 8 0) - 1))]) rfl (Nat.le_of_ble_eq_true rfl) rfl (fun _ => ?_))
  refine j_iload_n 0 dX10_within_0 rfl ?_
  refine j_iload_n 1 dX10_within_1 rfl ?_
  refine j_icmp_lt (tgt := 14) dX10_within_2 (by decide) (fun c2 => ?_) (fun c2 => ?_)
  · replace h := h.1 c2
    refine j_iconst (x := 0) dX10_within_14 rfl (i32_c rfl) ?_
    refine j_zret dX10_within_15 rfl ⟨Nat.le_of_ble_eq_true rfl, Nat.le_of_ble_eq_true rfl⟩ (by decide) ?_
    refine j_zret dX10_isMan_14 rfl ⟨Nat.le_of_ble_eq_true rfl, Nat.le_of_ble_eq_true rfl⟩ (by decide) ?_
    refine j_if_eq (tgt := 16) dX10_moves_5 (by decide) (fun _ => ?_) (fun c => absurd c (by decide))
    refine j_sipush (x := (-1001)) dX10_moves_16 rfl (i32_c rfl) ?_
    exact j_iret dX10_moves_19 rfl ⟨Nat.le_of_ble_eq_true rfl, Nat.le_of_ble_eq_true rfl⟩ (fun _ => h)
  · replace h := h.2 c2
    refine j_iload_n 0 dX10_within_5 rfl ?_
    refine j_iload_n 2 dX10_within_6 rfl ?_
    refine j_icmp_gt (tgt := 14) dX10_within_7 (by decide) (fun c3 => ?_) (fun c3 => ?_)
    · replace h := h.1 c3
      refine j_iconst (x := 0) dX10_within_14 rfl (i32_c rfl) ?_
      refine j_zret dX10_within_15 rfl ⟨Nat.le_of_ble_eq_true rfl, Nat.le_of_ble_eq_true rfl⟩ (by decide) ?_
      refine j_zret dX10_isMan_14 rfl ⟨Nat.le_of_ble_eq_true rfl, Nat.le_of_ble_eq_true rfl⟩ (by decide) ?_
      refine j_if_eq (tgt := 16) dX10_moves_5 (by decide) (fun _ => ?_) (fun c => absurd c (by decide))
      refine j_sipush (x := (-1001)) dX10_moves_16 rfl (i32_c rfl) ?_
      exact j_iret dX10_moves_19 rfl ⟨Nat.le_of_ble_eq_true rfl, Nat.le_of_ble_eq_true rfl⟩ (fun _ => h)
    · replace h := h.2 c3
      refine j_iconst (x := 1) dX10_within_10 rfl (i32_c rfl) ?_
      refine j_goto (tgt := 15) dX10_within_11 (by decide) ?_
      refine j_zret dX10_within_15 rfl ⟨Nat.le_of_ble_eq_true rfl, Nat.le_of_ble_eq_true rfl⟩ (by decide) ?_
      refine j_zret dX10_isMan_14 rfl ⟨Nat.le_of_ble_eq_true rfl, Nat.le_of_ble_eq_true rfl⟩ (by decide) ?_
      refine j_if_eq (tgt := 16) dX10_moves_5 (by decide) (fun c => absurd c (by decide)) (fun _ => ?_)
      refine j_aload_n 0 dX10_moves_8 rfl ?_
      refine j_iload_n 2 dX10_moves_9 rfl ?_
      refine j_calliV (Yc := Y_X10_isPlace) (as := [aI x2]) (rest := []) dX10_moves_10 q_X10_162 ⟨Nat.le_of_ble_eq_true rfl, Nat.le_of_ble_eq_true rfl, Nat.le_of_ble_eq_true rfl, Nat.le_of_ble_eq_true rfl⟩ sh_0 rfl (Nat.le_of_ble_eq_true rfl) rfl (ti_of (ll := [(0, aR 0), (1, aI x2)]) rfl (Nat.le_of_ble_eq_true rfl) rfl (fun _ => ?_))
      refine j_iload_n 1 dX10_isPlace_0 rfl ?_
      refine j_iconst (x := 0) dX10_isPlace_1 rfl (i32_c rfl) ?_
      refine j_aload_n 0 dX10_isPlace_2 rfl ?_
      refine j_getc 6 dX10_isPlace_3 f_X10_28 sh_0 rfl ?_
      refine j_geti (i := 0) dX10_isPlace_6 f_X10_144 sh_6 rfl rfl (fun _ => ?_)
      refine j_iconst (x := 1) dX10_isPlace_9 rfl (i32_c rfl) ?_
      obtain ⟨o4, h⟩ := h
      refine j_isub (z := ((M 6 0) - 1)) dX10_isPlace_10 rfl o4 ?_
      refine j_calliS (Yc := Y_X10_within) (as := [aI x2, aI 0, aI ((M 6 0) - 1)]) (rest := []) dX10_isPlace_11 q_X10_99 ⟨Nat.le_of_ble_eq_true rfl, Nat.le_of_ble_eq_true rfl, Nat.le_of_ble_eq_true rfl, Nat.le_of_ble_eq_true rfl⟩ rfl (Nat.le_of_ble_eq_true rfl) rfl (ti_of (ll := [(0, aI x2), (1, aI 0), (2, aI ((M 6 0) - 1))]) rfl (Nat.le_of_ble_eq_true rfl) rfl (fun _ => ?_))
      refine j_iload_n 0 dX10_within_0 rfl ?_
      refine j_iload_n 1 dX10_within_1 rfl ?_
      refine j_icmp_lt (tgt := 14) dX10_within_2 (by decide) (fun c5 => ?_) (fun c5 => ?_)
      · replace h := h.1 c5
        refine j_iconst (x := 0) dX10_within_14 rfl (i32_c rfl) ?_
        refine j_zret dX10_within_15 rfl ⟨Nat.le_of_ble_eq_true rfl, Nat.le_of_ble_eq_true rfl⟩ (by decide) ?_
        refine j_zret dX10_isPlace_14 rfl ⟨Nat.le_of_ble_eq_true rfl, Nat.le_of_ble_eq_true rfl⟩ (by decide) ?_
        refine j_if_ne (tgt := 20) dX10_moves_13 (by decide) (fun c => absurd c (by decide)) (fun _ => ?_)
        refine j_sipush (x := (-1001)) dX10_moves_16 rfl (i32_c rfl) ?_
        exact j_iret dX10_moves_19 rfl ⟨Nat.le_of_ble_eq_true rfl, Nat.le_of_ble_eq_true rfl⟩ (fun _ => h)
      · replace h := h.2 c5
        refine j_iload_n 0 dX10_within_5 rfl ?_
        refine j_iload_n 2 dX10_within_6 rfl ?_
        refine j_icmp_gt (tgt := 14) dX10_within_7 (by decide) (fun c6 => ?_) (fun c6 => ?_)
        · replace h := h.1 c6
          refine j_iconst (x := 0) dX10_within_14 rfl (i32_c rfl) ?_
          refine j_zret dX10_within_15 rfl ⟨Nat.le_of_ble_eq_true rfl, Nat.le_of_ble_eq_true rfl⟩ (by decide) ?_
          refine j_zret dX10_isPlace_14 rfl ⟨Nat.le_of_ble_eq_true rfl, Nat.le_of_ble_eq_true rfl⟩ (by decide) ?_
          refine j_if_ne (tgt := 20) dX10_moves_13 (by decide) (fun c => absurd c (by decide)) (fun _ => ?_)
          refine j_sipush (x := (-1001)) dX10_moves_16 rfl (i32_c rfl) ?_
          exact j_iret dX10_moves_19 rfl ⟨Nat.le_of_ble_eq_true rfl, Nat.le_of_ble_eq_true rfl⟩ (fun _ => h)
        · replace h := h.2 c6
          refine j_iconst (x := 1) dX10_within_10 rfl (i32_c rfl) ?_
          refine j_goto (tgt := 15) dX10_within_11 (by decide) ?_
          refine j_zret dX10_within_15 rfl ⟨Nat.le_of_ble_eq_true rfl, Nat.le_of_ble_eq_true rfl⟩ (by decide) ?_
          refine j_zret dX10_isPlace_14 rfl ⟨Nat.le_of_ble_eq_true rfl, Nat.le_of_ble_eq_true rfl⟩ (by decide) ?_
          refine j_if_ne (tgt := 20) dX10_moves_13 (by decide) (fun _ => ?_) (fun c => absurd c (by decide))
          refine j_aload_n 0 dX10_moves_20 rfl ?_
          refine j_getc 8 dX10_moves_21 f_X10_35 sh_0 rfl ?_
          refine j_getc 9 dX10_moves_24 f_X10_178 sh_8 rfl ?_
          refine j_iload_n 1 dX10_moves_27 rfl ?_
          obtain ⟨o7, h⟩ := h
          refine j_iald dX10_moves_28 sh_9 o7.1 o7.2 (fun _ => ?_)
          refine j_istore (ll' := [(4, aI (M 9 x1)), (0, aR 0), (1, aI x1), (2, aI x2), (3, aI x3)]) dX10_moves_29 (Nat.le_of_ble_eq_true rfl) rfl ?_
          refine j_aload_n 1 dX10_moves_31 rfl ?_
          refine j_getc 8 dX10_moves_32 f_X10_35 sh_0 rfl ?_
          refine j_getc 9 dX10_moves_35 f_X10_178 sh_8 rfl ?_
          refine j_iload_n 2 dX10_moves_38 rfl ?_
          refine j_iload_n 3 dX10_moves_39 rfl ?_
          refine j_iast dX10_moves_40 sh_9 o7.1 o7.2 ?_
          refine j_aload_n 1 dX10_moves_41 rfl ?_
          refine j_getc 8 dX10_moves_42 f_X10_35 sh_0 rfl ?_
          refine j_getc 10 dX10_moves_45 f_X10_182 sh_8 rfl ?_
          refine j_iload_n 2 dX10_moves_48 rfl ?_
          refine j_iload_n 4 dX10_moves_49 rfl ?_
          obtain ⟨o8, h⟩ := h
          refine j_zast dX10_moves_50 sh_10 o7.1 o7.2 o8 ?_
          refine j_iload 0 dX10_moves_51 rfl ?_
          exact j_iret dX10_moves_53 rfl ⟨Nat.le_of_ble_eq_true rfl, Nat.le_of_ble_eq_true rfl⟩ (fun _ => h)
theorem E_X10_moves {post : Int → ax_M → Prop} {M : ax_M} {x1 x2 x3 : Int} (h : ax_mr SH M → (-2147483648 ≤ ((M 8 0) - 1) ∧ ((M 8 0) - 1) ≤ 2147483647) ∧ (((x1 < 0) → post (-1001) M) ∧ ((0 ≤ x1) → (((((M 8 0) - 1) < x1) → post (-1001) M) ∧ ((x1 ≤ ((M 8 0) - 1)) → (-2147483648 ≤ ((M 6 0) - 1) ∧ ((M 6 0) - 1) ≤ 2147483647) ∧ (((x2 < 0) → post (-1001) M) ∧ ((0 ≤ x2) → (((((M 6 0) - 1) < x2) → post (-1001) M) ∧ ((x2 ≤ ((M 6 0) - 1)) → (0 ≤ x1 ∧ x1 < 8) ∧ (x3 = 0 ∨ x3 = 1) ∧ post (M 9 x1) (ax_up (ax_up M 9 x1 x2) 10 x1 x3)))))))))) : ax_Ti Y_X10_moves [aR 0, aI x1, aI x2, aI x3] SH M post :=
  ti_of rfl (Nat.le_of_ble_eq_true rfl) rfl (fun q => B_X10_moves_0 (h q))
set_option maxRecDepth 100000 in
set_option maxHeartbeats 4000000 in
theorem B_X10_soonest_0 {post : Int → ax_M → Prop} {M : ax_M} {x1 x2 x3 x4 x5 : Int} (h : (-2147483648 ≤ ((M 6 0) - 1) ∧ ((M 6 0) - 1) ≤ 2147483647) ∧ (((x1 < 0) → post (-1001) M) ∧ ((0 ≤ x1) → (((((M 6 0) - 1) < x1) → post (-1001) M) ∧ ((x1 ≤ ((M 6 0) - 1)) → (((x2 < 0) → post (-1001) M) ∧ ((0 ≤ x2) → (((((M 6 0) - 1) < x2) → post (-1001) M) ∧ ((x2 ≤ ((M 6 0) - 1)) → (((x3 < 0) → post (-1002) M) ∧ ((0 ≤ x3) → (((99 < x3) → post (-1002) M) ∧ ((x3 ≤ 99) → (((x4 < (-1)) → post (-1002) M) ∧ (((-1) ≤ x4) → (((99 < x4) → post (-1002) M) ∧ ((x4 ≤ 99) → ax_Tv Y_X9_prepareMarked [aR 33, aI x4, aI x5, aI (-1), aI (-1)] SH M (fun u1 => ax_Tv Y_X9_spread [aR 33, aI x1, aI x3] SH u1 (fun u2 => (0 ≤ x2 ∧ x2 < 12) ∧ post (u2 38 x2) u2))))))))))))))))))) : ax_J Y_X10_soonest (ax_Ki Y_X10_soonest SH post) 0 0 0 [(0, aR 0), (1, aI x1), (2, aI x2), (3, aI x3), (4, aI x4), (5, aI x5)] [] SH M := by
  refine j_aload_n 0 dX10_soonest_0 rfl ?_
  refine j_iload_n 1 dX10_soonest_1 rfl ?_
  refine j_calliV (Yc := Y_X10_isPlace) (as := [aI x1]) (rest := []) dX10_soonest_2 q_X10_162 ⟨Nat.le_of_ble_eq_true rfl, Nat.le_of_ble_eq_true rfl, Nat.le_of_ble_eq_true rfl, Nat.le_of_ble_eq_true rfl⟩ sh_0 rfl (Nat.le_of_ble_eq_true rfl) rfl (ti_of (ll := [(0, aR 0), (1, aI x1)]) rfl (Nat.le_of_ble_eq_true rfl) rfl (fun _ => ?_))
  refine j_iload_n 1 dX10_isPlace_0 rfl ?_
  refine j_iconst (x := 0) dX10_isPlace_1 rfl (i32_c rfl) ?_
  refine j_aload_n 0 dX10_isPlace_2 rfl ?_
  refine j_getc 6 dX10_isPlace_3 f_X10_28 sh_0 rfl ?_
  refine j_geti (i := 0) dX10_isPlace_6 f_X10_144 sh_6 rfl rfl (fun _ => ?_)
  refine j_iconst (x := 1) dX10_isPlace_9 rfl (i32_c rfl) ?_
  obtain ⟨o1, h⟩ := h
  refine j_isub (z := ((M 6 0) - 1)) dX10_isPlace_10 rfl o1 ?_
  refine j_calliS (Yc := Y_X10_within) (as := [aI x1, aI 0, aI ((M 6 0) - 1)]) (rest := []) dX10_isPlace_11 q_X10_99 ⟨Nat.le_of_ble_eq_true rfl, Nat.le_of_ble_eq_true rfl, Nat.le_of_ble_eq_true rfl, Nat.le_of_ble_eq_true rfl⟩ rfl (Nat.le_of_ble_eq_true rfl) rfl (ti_of (ll := [(0, aI x1), (1, aI 0), (2, aI ((M 6 0) - 1))]) rfl (Nat.le_of_ble_eq_true rfl) rfl (fun _ => ?_))
  refine j_iload_n 0 dX10_within_0 rfl ?_
  refine j_iload_n 1 dX10_within_1 rfl ?_
  refine j_icmp_lt (tgt := 14) dX10_within_2 (by decide) (fun c2 => ?_) (fun c2 => ?_)
  · replace h := h.1 c2
    refine j_iconst (x := 0) dX10_within_14 rfl (i32_c rfl) ?_
    refine j_zret dX10_within_15 rfl ⟨Nat.le_of_ble_eq_true rfl, Nat.le_of_ble_eq_true rfl⟩ (by decide) ?_
    refine j_zret dX10_isPlace_14 rfl ⟨Nat.le_of_ble_eq_true rfl, Nat.le_of_ble_eq_true rfl⟩ (by decide) ?_
    refine j_if_eq (tgt := 16) dX10_soonest_5 (by decide) (fun _ => ?_) (fun c => absurd c (by decide))
    refine j_sipush (x := (-1001)) dX10_soonest_16 rfl (i32_c rfl) ?_
    exact j_iret dX10_soonest_19 rfl ⟨Nat.le_of_ble_eq_true rfl, Nat.le_of_ble_eq_true rfl⟩ (fun _ => h)
  · replace h := h.2 c2
    refine j_iload_n 0 dX10_within_5 rfl ?_
    refine j_iload_n 2 dX10_within_6 rfl ?_
    refine j_icmp_gt (tgt := 14) dX10_within_7 (by decide) (fun c3 => ?_) (fun c3 => ?_)
    · replace h := h.1 c3
      refine j_iconst (x := 0) dX10_within_14 rfl (i32_c rfl) ?_
      refine j_zret dX10_within_15 rfl ⟨Nat.le_of_ble_eq_true rfl, Nat.le_of_ble_eq_true rfl⟩ (by decide) ?_
      refine j_zret dX10_isPlace_14 rfl ⟨Nat.le_of_ble_eq_true rfl, Nat.le_of_ble_eq_true rfl⟩ (by decide) ?_
      refine j_if_eq (tgt := 16) dX10_soonest_5 (by decide) (fun _ => ?_) (fun c => absurd c (by decide))
      refine j_sipush (x := (-1001)) dX10_soonest_16 rfl (i32_c rfl) ?_
      exact j_iret dX10_soonest_19 rfl ⟨Nat.le_of_ble_eq_true rfl, Nat.le_of_ble_eq_true rfl⟩ (fun _ => h)
    · replace h := h.2 c3
      refine j_iconst (x := 1) dX10_within_10 rfl (i32_c rfl) ?_
      refine j_goto (tgt := 15) dX10_within_11 (by decide) ?_
      refine j_zret dX10_within_15 rfl ⟨Nat.le_of_ble_eq_true rfl, Nat.le_of_ble_eq_true rfl⟩ (by decide) ?_
      refine j_zret dX10_isPlace_14 rfl ⟨Nat.le_of_ble_eq_true rfl, Nat.le_of_ble_eq_true rfl⟩ (by decide) ?_
      refine j_if_eq (tgt := 16) dX10_soonest_5 (by decide) (fun c => absurd c (by decide)) (fun _ => ?_)
      refine j_aload_n 0 dX10_soonest_8 rfl ?_
      refine j_iload_n 2 dX10_soonest_9 rfl ?_
      refine j_calliV (Yc := Y_X10_isPlace) (as := [aI x2]) (rest := []) dX10_soonest_10 q_X10_162 ⟨Nat.le_of_ble_eq_true rfl, Nat.le_of_ble_eq_true rfl, Nat.le_of_ble_eq_true rfl, Nat.le_of_ble_eq_true rfl⟩ sh_0 rfl (Nat.le_of_ble_eq_true rfl) rfl (ti_of (ll := [(0, aR 0), (1, aI x2)]) rfl (Nat.le_of_ble_eq_true rfl) rfl (fun _ => ?_))
      refine j_iload_n 1 dX10_isPlace_0 rfl ?_
      refine j_iconst (x := 0) dX10_isPlace_1 rfl (i32_c rfl) ?_
      refine j_aload_n 0 dX10_isPlace_2 rfl ?_
      refine j_getc 6 dX10_isPlace_3 f_X10_28 sh_0 rfl ?_
      refine j_geti (i := 0) dX10_isPlace_6 f_X10_144 sh_6 rfl rfl (fun _ => ?_)
      refine j_iconst (x := 1) dX10_isPlace_9 rfl (i32_c rfl) ?_
      refine j_isub (z := ((M 6 0) - 1)) dX10_isPlace_10 rfl o1 ?_
      refine j_calliS (Yc := Y_X10_within) (as := [aI x2, aI 0, aI ((M 6 0) - 1)]) (rest := []) dX10_isPlace_11 q_X10_99 ⟨Nat.le_of_ble_eq_true rfl, Nat.le_of_ble_eq_true rfl, Nat.le_of_ble_eq_true rfl, Nat.le_of_ble_eq_true rfl⟩ rfl (Nat.le_of_ble_eq_true rfl) rfl (ti_of (ll := [(0, aI x2), (1, aI 0), (2, aI ((M 6 0) - 1))]) rfl (Nat.le_of_ble_eq_true rfl) rfl (fun _ => ?_))
      refine j_iload_n 0 dX10_within_0 rfl ?_
      refine j_iload_n 1 dX10_within_1 rfl ?_
      refine j_icmp_lt (tgt := 14) dX10_within_2 (by decide) (fun c4 => ?_) (fun c4 => ?_)
      · replace h := h.1 c4
        refine j_iconst (x := 0) dX10_within_14 rfl (i32_c rfl) ?_
        refine j_zret dX10_within_15 rfl ⟨Nat.le_of_ble_eq_true rfl, Nat.le_of_ble_eq_true rfl⟩ (by decide) ?_
        refine j_zret dX10_isPlace_14 rfl ⟨Nat.le_of_ble_eq_true rfl, Nat.le_of_ble_eq_true rfl⟩ (by decide) ?_
        refine j_if_ne (tgt := 20) dX10_soonest_13 (by decide) (fun c => absurd c (by decide)) (fun _ => ?_)
        refine j_sipush (x := (-1001)) dX10_soonest_16 rfl (i32_c rfl) ?_
        exact j_iret dX10_soonest_19 rfl ⟨Nat.le_of_ble_eq_true rfl, Nat.le_of_ble_eq_true rfl⟩ (fun _ => h)
      · replace h := h.2 c4
        refine j_iload_n 0 dX10_within_5 rfl ?_
        refine j_iload_n 2 dX10_within_6 rfl ?_
        refine j_icmp_gt (tgt := 14) dX10_within_7 (by decide) (fun c5 => ?_) (fun c5 => ?_)
        · replace h := h.1 c5
          refine j_iconst (x := 0) dX10_within_14 rfl (i32_c rfl) ?_
          refine j_zret dX10_within_15 rfl ⟨Nat.le_of_ble_eq_true rfl, Nat.le_of_ble_eq_true rfl⟩ (by decide) ?_
          refine j_zret dX10_isPlace_14 rfl ⟨Nat.le_of_ble_eq_true rfl, Nat.le_of_ble_eq_true rfl⟩ (by decide) ?_
          refine j_if_ne (tgt := 20) dX10_soonest_13 (by decide) (fun c => absurd c (by decide)) (fun _ => ?_)
          refine j_sipush (x := (-1001)) dX10_soonest_16 rfl (i32_c rfl) ?_
          exact j_iret dX10_soonest_19 rfl ⟨Nat.le_of_ble_eq_true rfl, Nat.le_of_ble_eq_true rfl⟩ (fun _ => h)
        · replace h := h.2 c5
          refine j_iconst (x := 1) dX10_within_10 rfl (i32_c rfl) ?_
          refine j_goto (tgt := 15) dX10_within_11 (by decide) ?_
          refine j_zret dX10_within_15 rfl ⟨Nat.le_of_ble_eq_true rfl, Nat.le_of_ble_eq_true rfl⟩ (by decide) ?_
          refine j_zret dX10_isPlace_14 rfl ⟨Nat.le_of_ble_eq_true rfl, Nat.le_of_ble_eq_true rfl⟩ (by decide) ?_
          refine j_if_ne (tgt := 20) dX10_soonest_13 (by decide) (fun _ => ?_) (fun c => absurd c (by decide))
          refine j_iload_n 3 dX10_soonest_20 rfl ?_
          refine j_calliS (Yc := Y_X10_isMinute) (as := [aI x3]) (rest := []) dX10_soonest_21 q_X10_169 ⟨Nat.le_of_ble_eq_true rfl, Nat.le_of_ble_eq_true rfl, Nat.le_of_ble_eq_true rfl, Nat.le_of_ble_eq_true rfl⟩ rfl (Nat.le_of_ble_eq_true rfl) rfl (ti_of (ll := [(0, aI x3)]) rfl (Nat.le_of_ble_eq_true rfl) rfl (fun _ => ?_))
          refine j_iload_n 0 dX10_isMinute_0 rfl ?_
          refine j_iconst (x := 0) dX10_isMinute_1 rfl (i32_c rfl) ?_
          refine j_bipush (x := 99) dX10_isMinute_2 rfl (i32_c rfl) ?_
          refine j_calliS (Yc := Y_X10_within) (as := [aI x3, aI 0, aI 99]) (rest := []) dX10_isMinute_4 q_X10_99 ⟨Nat.le_of_ble_eq_true rfl, Nat.le_of_ble_eq_true rfl, Nat.le_of_ble_eq_true rfl, Nat.le_of_ble_eq_true rfl⟩ rfl (Nat.le_of_ble_eq_true rfl) rfl (ti_of (ll := [(0, aI x3), (1, aI 0), (2, aI 99)]) rfl (Nat.le_of_ble_eq_true rfl) rfl (fun _ => ?_))
          refine j_iload_n 0 dX10_within_0 rfl ?_
          refine j_iload_n 1 dX10_within_1 rfl ?_
          refine j_icmp_lt (tgt := 14) dX10_within_2 (by decide) (fun c6 => ?_) (fun c6 => ?_)
          · replace h := h.1 c6
            refine j_iconst (x := 0) dX10_within_14 rfl (i32_c rfl) ?_
            refine j_zret dX10_within_15 rfl ⟨Nat.le_of_ble_eq_true rfl, Nat.le_of_ble_eq_true rfl⟩ (by decide) ?_
            refine j_zret dX10_isMinute_7 rfl ⟨Nat.le_of_ble_eq_true rfl, Nat.le_of_ble_eq_true rfl⟩ (by decide) ?_
            refine j_if_eq (tgt := 35) dX10_soonest_24 (by decide) (fun _ => ?_) (fun c => absurd c (by decide))
            refine j_sipush (x := (-1002)) dX10_soonest_35 rfl (i32_c rfl) ?_
            exact j_iret dX10_soonest_38 rfl ⟨Nat.le_of_ble_eq_true rfl, Nat.le_of_ble_eq_true rfl⟩ (fun _ => h)
          · replace h := h.2 c6
            refine j_iload_n 0 dX10_within_5 rfl ?_
            refine j_iload_n 2 dX10_within_6 rfl ?_
            refine j_icmp_gt (tgt := 14) dX10_within_7 (by decide) (fun c7 => ?_) (fun c7 => ?_)
            · replace h := h.1 c7
              refine j_iconst (x := 0) dX10_within_14 rfl (i32_c rfl) ?_
              refine j_zret dX10_within_15 rfl ⟨Nat.le_of_ble_eq_true rfl, Nat.le_of_ble_eq_true rfl⟩ (by decide) ?_
              refine j_zret dX10_isMinute_7 rfl ⟨Nat.le_of_ble_eq_true rfl, Nat.le_of_ble_eq_true rfl⟩ (by decide) ?_
              refine j_if_eq (tgt := 35) dX10_soonest_24 (by decide) (fun _ => ?_) (fun c => absurd c (by decide))
              refine j_sipush (x := (-1002)) dX10_soonest_35 rfl (i32_c rfl) ?_
              exact j_iret dX10_soonest_38 rfl ⟨Nat.le_of_ble_eq_true rfl, Nat.le_of_ble_eq_true rfl⟩ (fun _ => h)
            · replace h := h.2 c7
              refine j_iconst (x := 1) dX10_within_10 rfl (i32_c rfl) ?_
              refine j_goto (tgt := 15) dX10_within_11 (by decide) ?_
              refine j_zret dX10_within_15 rfl ⟨Nat.le_of_ble_eq_true rfl, Nat.le_of_ble_eq_true rfl⟩ (by decide) ?_
              refine j_zret dX10_isMinute_7 rfl ⟨Nat.le_of_ble_eq_true rfl, Nat.le_of_ble_eq_true rfl⟩ (by decide) ?_
              refine j_if_eq (tgt := 35) dX10_soonest_24 (by decide) (fun c => absurd c (by decide)) (fun _ => ?_)
              refine j_iload 4 dX10_soonest_27 rfl ?_
              refine j_calliS (Yc := Y_X10_isLight) (as := [aI x4]) (rest := []) dX10_soonest_29 q_X10_197 ⟨Nat.le_of_ble_eq_true rfl, Nat.le_of_ble_eq_true rfl, Nat.le_of_ble_eq_true rfl, Nat.le_of_ble_eq_true rfl⟩ rfl (Nat.le_of_ble_eq_true rfl) rfl (ti_of (ll := [(0, aI x4)]) rfl (Nat.le_of_ble_eq_true rfl) rfl (fun _ => ?_))
              refine j_iload_n 0 dX10_isLight_0 rfl ?_
              refine j_iconst (x := (-1)) dX10_isLight_1 rfl (i32_c rfl) ?_
              refine j_bipush (x := 99) dX10_isLight_2 rfl (i32_c rfl) ?_
              refine j_calliS (Yc := Y_X10_within) (as := [aI x4, aI (-1), aI 99]) (rest := []) dX10_isLight_4 q_X10_99 ⟨Nat.le_of_ble_eq_true rfl, Nat.le_of_ble_eq_true rfl, Nat.le_of_ble_eq_true rfl, Nat.le_of_ble_eq_true rfl⟩ rfl (Nat.le_of_ble_eq_true rfl) rfl (ti_of (ll := [(0, aI x4), (1, aI (-1)), (2, aI 99)]) rfl (Nat.le_of_ble_eq_true rfl) rfl (fun _ => ?_))
              refine j_iload_n 0 dX10_within_0 rfl ?_
              refine j_iload_n 1 dX10_within_1 rfl ?_
              refine j_icmp_lt (tgt := 14) dX10_within_2 (by decide) (fun c8 => ?_) (fun c8 => ?_)
              · replace h := h.1 c8
                refine j_iconst (x := 0) dX10_within_14 rfl (i32_c rfl) ?_
                refine j_zret dX10_within_15 rfl ⟨Nat.le_of_ble_eq_true rfl, Nat.le_of_ble_eq_true rfl⟩ (by decide) ?_
                refine j_zret dX10_isLight_7 rfl ⟨Nat.le_of_ble_eq_true rfl, Nat.le_of_ble_eq_true rfl⟩ (by decide) ?_
                refine j_if_ne (tgt := 39) dX10_soonest_32 (by decide) (fun c => absurd c (by decide)) (fun _ => ?_)
                refine j_sipush (x := (-1002)) dX10_soonest_35 rfl (i32_c rfl) ?_
                exact j_iret dX10_soonest_38 rfl ⟨Nat.le_of_ble_eq_true rfl, Nat.le_of_ble_eq_true rfl⟩ (fun _ => h)
              · replace h := h.2 c8
                refine j_iload_n 0 dX10_within_5 rfl ?_
                refine j_iload_n 2 dX10_within_6 rfl ?_
                refine j_icmp_gt (tgt := 14) dX10_within_7 (by decide) (fun c9 => ?_) (fun c9 => ?_)
                · replace h := h.1 c9
                  refine j_iconst (x := 0) dX10_within_14 rfl (i32_c rfl) ?_
                  refine j_zret dX10_within_15 rfl ⟨Nat.le_of_ble_eq_true rfl, Nat.le_of_ble_eq_true rfl⟩ (by decide) ?_
                  refine j_zret dX10_isLight_7 rfl ⟨Nat.le_of_ble_eq_true rfl, Nat.le_of_ble_eq_true rfl⟩ (by decide) ?_
                  refine j_if_ne (tgt := 39) dX10_soonest_32 (by decide) (fun c => absurd c (by decide)) (fun _ => ?_)
                  refine j_sipush (x := (-1002)) dX10_soonest_35 rfl (i32_c rfl) ?_
                  exact j_iret dX10_soonest_38 rfl ⟨Nat.le_of_ble_eq_true rfl, Nat.le_of_ble_eq_true rfl⟩ (fun _ => h)
                · replace h := h.2 c9
                  refine j_iconst (x := 1) dX10_within_10 rfl (i32_c rfl) ?_
                  refine j_goto (tgt := 15) dX10_within_11 (by decide) ?_
                  refine j_zret dX10_within_15 rfl ⟨Nat.le_of_ble_eq_true rfl, Nat.le_of_ble_eq_true rfl⟩ (by decide) ?_
                  refine j_zret dX10_isLight_7 rfl ⟨Nat.le_of_ble_eq_true rfl, Nat.le_of_ble_eq_true rfl⟩ (by decide) ?_
                  refine j_if_ne (tgt := 39) dX10_soonest_32 (by decide) (fun _ => ?_) (fun c => absurd c (by decide))
                  refine j_aload_n 0 dX10_soonest_39 rfl ?_
                  refine j_getc 33 dX10_soonest_40 f_X10_59 sh_0 rfl ?_
                  refine j_iload 4 dX10_soonest_43 rfl ?_
                  refine j_iload 5 dX10_soonest_45 rfl ?_
                  refine j_callvV (Yc := Y_X9_prepare) (as := [aI x4, aI x5]) (rest := []) dX10_soonest_47 q_X10_200 ⟨Nat.le_of_ble_eq_true rfl, Nat.le_of_ble_eq_true rfl, Nat.le_of_ble_eq_true rfl, Nat.le_of_ble_eq_true rfl⟩ sh_33 rfl (Nat.le_of_ble_eq_true rfl) rfl (tv_of (ll := [(0, aR 33), (1, aI x4), (2, aI x5)]) rfl (Nat.le_of_ble_eq_true rfl) rfl (fun _ => ?_))
                  refine j_aload_n 0 dX9_prepare_0 rfl ?_
                  refine j_iload_n 1 dX9_prepare_1 rfl ?_
                  refine j_iload_n 2 dX9_prepare_2 rfl ?_
                  refine j_iconst (x := (-1)) dX9_prepare_3 rfl (i32_c rfl) ?_
                  refine j_iconst (x := (-1)) dX9_prepare_4 rfl (i32_c rfl) ?_
                  refine j_callvV (Yc := Y_X9_prepareMarked) (as := [aI x4, aI x5, aI (-1), aI (-1)]) (rest := []) dX9_prepare_5 q_X9_38 ⟨Nat.le_of_ble_eq_true rfl, Nat.le_of_ble_eq_true rfl, Nat.le_of_ble_eq_true rfl, Nat.le_of_ble_eq_true rfl⟩ sh_33 rfl (Nat.le_of_ble_eq_true rfl) rfl (tv_mono h (fun u1 h => ?_))
                  refine j_vret dX9_prepare_8 rfl ⟨Nat.le_of_ble_eq_true rfl, Nat.le_of_ble_eq_true rfl⟩ ?_
                  refine j_aload_n 0 dX10_soonest_50 rfl ?_
                  refine j_getc 33 dX10_soonest_51 f_X10_59 sh_0 rfl ?_
                  refine j_iload_n 1 dX10_soonest_54 rfl ?_
                  refine j_iload_n 3 dX10_soonest_55 rfl ?_
                  refine j_callvV (Yc := Y_X9_spread) (as := [aI x1, aI x3]) (rest := []) dX10_soonest_56 q_X10_204 ⟨Nat.le_of_ble_eq_true rfl, Nat.le_of_ble_eq_true rfl, Nat.le_of_ble_eq_true rfl, Nat.le_of_ble_eq_true rfl⟩ sh_33 rfl (Nat.le_of_ble_eq_true rfl) rfl (tv_mono h (fun u2 h => ?_))
                  refine j_aload_n 0 dX10_soonest_59 rfl ?_
                  refine j_getc 33 dX10_soonest_60 f_X10_59 sh_0 rfl ?_
                  refine j_getc 38 dX10_soonest_63 f_X10_208 sh_33 rfl ?_
                  refine j_iload_n 2 dX10_soonest_66 rfl ?_
                  obtain ⟨o10, h⟩ := h
                  refine j_iald dX10_soonest_67 sh_38 o10.1 o10.2 (fun _ => ?_)
                  exact j_iret dX10_soonest_68 rfl ⟨Nat.le_of_ble_eq_true rfl, Nat.le_of_ble_eq_true rfl⟩ (fun _ => h)
theorem E_X10_soonest {post : Int → ax_M → Prop} {M : ax_M} {x1 x2 x3 x4 x5 : Int} (h : ax_mr SH M → (-2147483648 ≤ ((M 6 0) - 1) ∧ ((M 6 0) - 1) ≤ 2147483647) ∧ (((x1 < 0) → post (-1001) M) ∧ ((0 ≤ x1) → (((((M 6 0) - 1) < x1) → post (-1001) M) ∧ ((x1 ≤ ((M 6 0) - 1)) → (((x2 < 0) → post (-1001) M) ∧ ((0 ≤ x2) → (((((M 6 0) - 1) < x2) → post (-1001) M) ∧ ((x2 ≤ ((M 6 0) - 1)) → (((x3 < 0) → post (-1002) M) ∧ ((0 ≤ x3) → (((99 < x3) → post (-1002) M) ∧ ((x3 ≤ 99) → (((x4 < (-1)) → post (-1002) M) ∧ (((-1) ≤ x4) → (((99 < x4) → post (-1002) M) ∧ ((x4 ≤ 99) → ax_Tv Y_X9_prepareMarked [aR 33, aI x4, aI x5, aI (-1), aI (-1)] SH M (fun u1 => ax_Tv Y_X9_spread [aR 33, aI x1, aI x3] SH u1 (fun u2 => (0 ≤ x2 ∧ x2 < 12) ∧ post (u2 38 x2) u2))))))))))))))))))) : ax_Ti Y_X10_soonest [aR 0, aI x1, aI x2, aI x3, aI x4, aI x5] SH M post :=
  ti_of rfl (Nat.le_of_ble_eq_true rfl) rfl (fun q => B_X10_soonest_0 (h q))
set_option maxRecDepth 100000 in
set_option maxHeartbeats 4000000 in
theorem B_X10_last_0 {post : Int → ax_M → Prop} {M : ax_M} {x1 x2 x3 : Int} (h : (-2147483648 ≤ ((M 6 0) - 1) ∧ ((M 6 0) - 1) ≤ 2147483647) ∧ (((x1 < 0) → post (-1001) M) ∧ ((0 ≤ x1) → (((((M 6 0) - 1) < x1) → post (-1001) M) ∧ ((x1 ≤ ((M 6 0) - 1)) → (((x2 < (-1)) → post (-1002) M) ∧ (((-1) ≤ x2) → (((99 < x2) → post (-1002) M) ∧ ((x2 ≤ 99) → ax_Tv Y_X9_prepareMarked [aR 33, aI x2, aI x3, aI (-1), aI (-1)] SH M (fun u1 => ax_Tv Y_X9_gather [aR 33, aI (u1 6 2), aI 99] SH u1 (fun u2 => (0 ≤ x1 ∧ x1 < 12) ∧ post (u2 39 x1) u2))))))))))) : ax_J Y_X10_last (ax_Ki Y_X10_last SH post) 0 0 0 [(0, aR 0), (1, aI x1), (2, aI x2), (3, aI x3)] [] SH M := by
  refine j_aload_n 0 dX10_last_0 rfl ?_
  refine j_iload_n 1 dX10_last_1 rfl ?_
  refine j_calliV (Yc := Y_X10_isPlace) (as := [aI x1]) (rest := []) dX10_last_2 q_X10_162 ⟨Nat.le_of_ble_eq_true rfl, Nat.le_of_ble_eq_true rfl, Nat.le_of_ble_eq_true rfl, Nat.le_of_ble_eq_true rfl⟩ sh_0 rfl (Nat.le_of_ble_eq_true rfl) rfl (ti_of (ll := [(0, aR 0), (1, aI x1)]) rfl (Nat.le_of_ble_eq_true rfl) rfl (fun _ => ?_))
  refine j_iload_n 1 dX10_isPlace_0 rfl ?_
  refine j_iconst (x := 0) dX10_isPlace_1 rfl (i32_c rfl) ?_
  refine j_aload_n 0 dX10_isPlace_2 rfl ?_
  refine j_getc 6 dX10_isPlace_3 f_X10_28 sh_0 rfl ?_
  refine j_geti (i := 0) dX10_isPlace_6 f_X10_144 sh_6 rfl rfl (fun _ => ?_)
  refine j_iconst (x := 1) dX10_isPlace_9 rfl (i32_c rfl) ?_
  obtain ⟨o1, h⟩ := h
  refine j_isub (z := ((M 6 0) - 1)) dX10_isPlace_10 rfl o1 ?_
  refine j_calliS (Yc := Y_X10_within) (as := [aI x1, aI 0, aI ((M 6 0) - 1)]) (rest := []) dX10_isPlace_11 q_X10_99 ⟨Nat.le_of_ble_eq_true rfl, Nat.le_of_ble_eq_true rfl, Nat.le_of_ble_eq_true rfl, Nat.le_of_ble_eq_true rfl⟩ rfl (Nat.le_of_ble_eq_true rfl) rfl (ti_of (ll := [(0, aI x1), (1, aI 0), (2, aI ((M 6 0) - 1))]) rfl (Nat.le_of_ble_eq_true rfl) rfl (fun _ => ?_))
  refine j_iload_n 0 dX10_within_0 rfl ?_
  refine j_iload_n 1 dX10_within_1 rfl ?_
  refine j_icmp_lt (tgt := 14) dX10_within_2 (by decide) (fun c2 => ?_) (fun c2 => ?_)
  · replace h := h.1 c2
    refine j_iconst (x := 0) dX10_within_14 rfl (i32_c rfl) ?_
    refine j_zret dX10_within_15 rfl ⟨Nat.le_of_ble_eq_true rfl, Nat.le_of_ble_eq_true rfl⟩ (by decide) ?_
    refine j_zret dX10_isPlace_14 rfl ⟨Nat.le_of_ble_eq_true rfl, Nat.le_of_ble_eq_true rfl⟩ (by decide) ?_
    refine j_if_ne (tgt := 12) dX10_last_5 (by decide) (fun c => absurd c (by decide)) (fun _ => ?_)
    refine j_sipush (x := (-1001)) dX10_last_8 rfl (i32_c rfl) ?_
    exact j_iret dX10_last_11 rfl ⟨Nat.le_of_ble_eq_true rfl, Nat.le_of_ble_eq_true rfl⟩ (fun _ => h)
  · replace h := h.2 c2
    refine j_iload_n 0 dX10_within_5 rfl ?_
    refine j_iload_n 2 dX10_within_6 rfl ?_
    refine j_icmp_gt (tgt := 14) dX10_within_7 (by decide) (fun c3 => ?_) (fun c3 => ?_)
    · replace h := h.1 c3
      refine j_iconst (x := 0) dX10_within_14 rfl (i32_c rfl) ?_
      refine j_zret dX10_within_15 rfl ⟨Nat.le_of_ble_eq_true rfl, Nat.le_of_ble_eq_true rfl⟩ (by decide) ?_
      refine j_zret dX10_isPlace_14 rfl ⟨Nat.le_of_ble_eq_true rfl, Nat.le_of_ble_eq_true rfl⟩ (by decide) ?_
      refine j_if_ne (tgt := 12) dX10_last_5 (by decide) (fun c => absurd c (by decide)) (fun _ => ?_)
      refine j_sipush (x := (-1001)) dX10_last_8 rfl (i32_c rfl) ?_
      exact j_iret dX10_last_11 rfl ⟨Nat.le_of_ble_eq_true rfl, Nat.le_of_ble_eq_true rfl⟩ (fun _ => h)
    · replace h := h.2 c3
      refine j_iconst (x := 1) dX10_within_10 rfl (i32_c rfl) ?_
      refine j_goto (tgt := 15) dX10_within_11 (by decide) ?_
      refine j_zret dX10_within_15 rfl ⟨Nat.le_of_ble_eq_true rfl, Nat.le_of_ble_eq_true rfl⟩ (by decide) ?_
      refine j_zret dX10_isPlace_14 rfl ⟨Nat.le_of_ble_eq_true rfl, Nat.le_of_ble_eq_true rfl⟩ (by decide) ?_
      refine j_if_ne (tgt := 12) dX10_last_5 (by decide) (fun _ => ?_) (fun c => absurd c (by decide))
      refine j_iload_n 2 dX10_last_12 rfl ?_
      refine j_calliS (Yc := Y_X10_isLight) (as := [aI x2]) (rest := []) dX10_last_13 q_X10_197 ⟨Nat.le_of_ble_eq_true rfl, Nat.le_of_ble_eq_true rfl, Nat.le_of_ble_eq_true rfl, Nat.le_of_ble_eq_true rfl⟩ rfl (Nat.le_of_ble_eq_true rfl) rfl (ti_of (ll := [(0, aI x2)]) rfl (Nat.le_of_ble_eq_true rfl) rfl (fun _ => ?_))
      refine j_iload_n 0 dX10_isLight_0 rfl ?_
      refine j_iconst (x := (-1)) dX10_isLight_1 rfl (i32_c rfl) ?_
      refine j_bipush (x := 99) dX10_isLight_2 rfl (i32_c rfl) ?_
      refine j_calliS (Yc := Y_X10_within) (as := [aI x2, aI (-1), aI 99]) (rest := []) dX10_isLight_4 q_X10_99 ⟨Nat.le_of_ble_eq_true rfl, Nat.le_of_ble_eq_true rfl, Nat.le_of_ble_eq_true rfl, Nat.le_of_ble_eq_true rfl⟩ rfl (Nat.le_of_ble_eq_true rfl) rfl (ti_of (ll := [(0, aI x2), (1, aI (-1)), (2, aI 99)]) rfl (Nat.le_of_ble_eq_true rfl) rfl (fun _ => ?_))
      refine j_iload_n 0 dX10_within_0 rfl ?_
      refine j_iload_n 1 dX10_within_1 rfl ?_
      refine j_icmp_lt (tgt := 14) dX10_within_2 (by decide) (fun c4 => ?_) (fun c4 => ?_)
      · replace h := h.1 c4
        refine j_iconst (x := 0) dX10_within_14 rfl (i32_c rfl) ?_
        refine j_zret dX10_within_15 rfl ⟨Nat.le_of_ble_eq_true rfl, Nat.le_of_ble_eq_true rfl⟩ (by decide) ?_
        refine j_zret dX10_isLight_7 rfl ⟨Nat.le_of_ble_eq_true rfl, Nat.le_of_ble_eq_true rfl⟩ (by decide) ?_
        refine j_if_ne (tgt := 23) dX10_last_16 (by decide) (fun c => absurd c (by decide)) (fun _ => ?_)
        refine j_sipush (x := (-1002)) dX10_last_19 rfl (i32_c rfl) ?_
        exact j_iret dX10_last_22 rfl ⟨Nat.le_of_ble_eq_true rfl, Nat.le_of_ble_eq_true rfl⟩ (fun _ => h)
      · replace h := h.2 c4
        refine j_iload_n 0 dX10_within_5 rfl ?_
        refine j_iload_n 2 dX10_within_6 rfl ?_
        refine j_icmp_gt (tgt := 14) dX10_within_7 (by decide) (fun c5 => ?_) (fun c5 => ?_)
        · replace h := h.1 c5
          refine j_iconst (x := 0) dX10_within_14 rfl (i32_c rfl) ?_
          refine j_zret dX10_within_15 rfl ⟨Nat.le_of_ble_eq_true rfl, Nat.le_of_ble_eq_true rfl⟩ (by decide) ?_
          refine j_zret dX10_isLight_7 rfl ⟨Nat.le_of_ble_eq_true rfl, Nat.le_of_ble_eq_true rfl⟩ (by decide) ?_
          refine j_if_ne (tgt := 23) dX10_last_16 (by decide) (fun c => absurd c (by decide)) (fun _ => ?_)
          refine j_sipush (x := (-1002)) dX10_last_19 rfl (i32_c rfl) ?_
          exact j_iret dX10_last_22 rfl ⟨Nat.le_of_ble_eq_true rfl, Nat.le_of_ble_eq_true rfl⟩ (fun _ => h)
        · replace h := h.2 c5
          refine j_iconst (x := 1) dX10_within_10 rfl (i32_c rfl) ?_
          refine j_goto (tgt := 15) dX10_within_11 (by decide) ?_
          refine j_zret dX10_within_15 rfl ⟨Nat.le_of_ble_eq_true rfl, Nat.le_of_ble_eq_true rfl⟩ (by decide) ?_
          refine j_zret dX10_isLight_7 rfl ⟨Nat.le_of_ble_eq_true rfl, Nat.le_of_ble_eq_true rfl⟩ (by decide) ?_
          refine j_if_ne (tgt := 23) dX10_last_16 (by decide) (fun _ => ?_) (fun c => absurd c (by decide))
          refine j_aload_n 0 dX10_last_23 rfl ?_
          refine j_getc 33 dX10_last_24 f_X10_59 sh_0 rfl ?_
          refine j_iload_n 2 dX10_last_27 rfl ?_
          refine j_iload_n 3 dX10_last_28 rfl ?_
          refine j_callvV (Yc := Y_X9_prepare) (as := [aI x2, aI x3]) (rest := []) dX10_last_29 q_X10_200 ⟨Nat.le_of_ble_eq_true rfl, Nat.le_of_ble_eq_true rfl, Nat.le_of_ble_eq_true rfl, Nat.le_of_ble_eq_true rfl⟩ sh_33 rfl (Nat.le_of_ble_eq_true rfl) rfl (tv_of (ll := [(0, aR 33), (1, aI x2), (2, aI x3)]) rfl (Nat.le_of_ble_eq_true rfl) rfl (fun _ => ?_))
          refine j_aload_n 0 dX9_prepare_0 rfl ?_
          refine j_iload_n 1 dX9_prepare_1 rfl ?_
          refine j_iload_n 2 dX9_prepare_2 rfl ?_
          refine j_iconst (x := (-1)) dX9_prepare_3 rfl (i32_c rfl) ?_
          refine j_iconst (x := (-1)) dX9_prepare_4 rfl (i32_c rfl) ?_
          refine j_callvV (Yc := Y_X9_prepareMarked) (as := [aI x2, aI x3, aI (-1), aI (-1)]) (rest := []) dX9_prepare_5 q_X9_38 ⟨Nat.le_of_ble_eq_true rfl, Nat.le_of_ble_eq_true rfl, Nat.le_of_ble_eq_true rfl, Nat.le_of_ble_eq_true rfl⟩ sh_33 rfl (Nat.le_of_ble_eq_true rfl) rfl (tv_mono h (fun u1 h => ?_))
          refine j_vret dX9_prepare_8 rfl ⟨Nat.le_of_ble_eq_true rfl, Nat.le_of_ble_eq_true rfl⟩ ?_
          refine j_aload_n 0 dX10_last_32 rfl ?_
          refine j_getc 33 dX10_last_33 f_X10_59 sh_0 rfl ?_
          refine j_aload_n 0 dX10_last_36 rfl ?_
          refine j_getc 6 dX10_last_37 f_X10_28 sh_0 rfl ?_
          refine j_geti (i := 2) dX10_last_40 f_X10_153 sh_6 rfl rfl (fun _ => ?_)
          refine j_bipush (x := 99) dX10_last_43 rfl (i32_c rfl) ?_
          refine j_callvV (Yc := Y_X9_gather) (as := [aI (u1 6 2), aI 99]) (rest := []) dX10_last_45 q_X10_211 ⟨Nat.le_of_ble_eq_true rfl, Nat.le_of_ble_eq_true rfl, Nat.le_of_ble_eq_true rfl, Nat.le_of_ble_eq_true rfl⟩ sh_33 rfl (Nat.le_of_ble_eq_true rfl) rfl (tv_mono h (fun u2 h => ?_))
          refine j_aload_n 0 dX10_last_48 rfl ?_
          refine j_getc 33 dX10_last_49 f_X10_59 sh_0 rfl ?_
          refine j_getc 39 dX10_last_52 f_X10_214 sh_33 rfl ?_
          refine j_iload_n 1 dX10_last_55 rfl ?_
          obtain ⟨o6, h⟩ := h
          refine j_iald dX10_last_56 sh_39 o6.1 o6.2 (fun _ => ?_)
          exact j_iret dX10_last_57 rfl ⟨Nat.le_of_ble_eq_true rfl, Nat.le_of_ble_eq_true rfl⟩ (fun _ => h)
theorem E_X10_last {post : Int → ax_M → Prop} {M : ax_M} {x1 x2 x3 : Int} (h : ax_mr SH M → (-2147483648 ≤ ((M 6 0) - 1) ∧ ((M 6 0) - 1) ≤ 2147483647) ∧ (((x1 < 0) → post (-1001) M) ∧ ((0 ≤ x1) → (((((M 6 0) - 1) < x1) → post (-1001) M) ∧ ((x1 ≤ ((M 6 0) - 1)) → (((x2 < (-1)) → post (-1002) M) ∧ (((-1) ≤ x2) → (((99 < x2) → post (-1002) M) ∧ ((x2 ≤ 99) → ax_Tv Y_X9_prepareMarked [aR 33, aI x2, aI x3, aI (-1), aI (-1)] SH M (fun u1 => ax_Tv Y_X9_gather [aR 33, aI (u1 6 2), aI 99] SH u1 (fun u2 => (0 ≤ x1 ∧ x1 < 12) ∧ post (u2 39 x1) u2))))))))))) : ax_Ti Y_X10_last [aR 0, aI x1, aI x2, aI x3] SH M post :=
  ti_of rfl (Nat.le_of_ble_eq_true rfl) rfl (fun q => B_X10_last_0 (h q))
set_option maxRecDepth 100000 in
set_option maxHeartbeats 4000000 in
theorem B_X10_open_0 {post : Int → ax_M → Prop} {M : ax_M} {x1 x2 x3 : Int} (h : (((x1 < 0) → post (-1002) M) ∧ ((0 ≤ x1) → (((99 < x1) → post (-1002) M) ∧ ((x1 ≤ 99) → (((x2 < (-1)) → post (-1002) M) ∧ (((-1) ≤ x2) → (((99 < x2) → post (-1002) M) ∧ ((x2 ≤ 99) → ax_Tv Y_X9_prepareMarked [aR 33, aI x2, aI x3, aI (-1), aI (-1)] SH M (fun u1 => ax_Tv Y_X9_gather [aR 33, aI (u1 6 2), aI 99] SH u1 (fun u2 => ax_J Y_X10_open (ax_Ki Y_X10_open SH post) 0 0 49 [(0, aR 0), (1, aI x1), (4, aI 0), (5, aI 0)] [] SH u2))))))))))) : ax_J Y_X10_open (ax_Ki Y_X10_open SH post) 0 0 0 [(0, aR 0), (1, aI x1), (2, aI x2), (3, aI x3)] [] SH M := by
  refine j_iload_n 1 dX10_open_0 rfl ?_
  refine j_calliS (Yc := Y_X10_isMinute) (as := [aI x1]) (rest := []) dX10_open_1 q_X10_169 ⟨Nat.le_of_ble_eq_true rfl, Nat.le_of_ble_eq_true rfl, Nat.le_of_ble_eq_true rfl, Nat.le_of_ble_eq_true rfl⟩ rfl (Nat.le_of_ble_eq_true rfl) rfl (ti_of (ll := [(0, aI x1)]) rfl (Nat.le_of_ble_eq_true rfl) rfl (fun _ => ?_))
  refine j_iload_n 0 dX10_isMinute_0 rfl ?_
  refine j_iconst (x := 0) dX10_isMinute_1 rfl (i32_c rfl) ?_
  refine j_bipush (x := 99) dX10_isMinute_2 rfl (i32_c rfl) ?_
  refine j_calliS (Yc := Y_X10_within) (as := [aI x1, aI 0, aI 99]) (rest := []) dX10_isMinute_4 q_X10_99 ⟨Nat.le_of_ble_eq_true rfl, Nat.le_of_ble_eq_true rfl, Nat.le_of_ble_eq_true rfl, Nat.le_of_ble_eq_true rfl⟩ rfl (Nat.le_of_ble_eq_true rfl) rfl (ti_of (ll := [(0, aI x1), (1, aI 0), (2, aI 99)]) rfl (Nat.le_of_ble_eq_true rfl) rfl (fun _ => ?_))
  refine j_iload_n 0 dX10_within_0 rfl ?_
  refine j_iload_n 1 dX10_within_1 rfl ?_
  refine j_icmp_lt (tgt := 14) dX10_within_2 (by decide) (fun c1 => ?_) (fun c1 => ?_)
  · replace h := h.1 c1
    refine j_iconst (x := 0) dX10_within_14 rfl (i32_c rfl) ?_
    refine j_zret dX10_within_15 rfl ⟨Nat.le_of_ble_eq_true rfl, Nat.le_of_ble_eq_true rfl⟩ (by decide) ?_
    refine j_zret dX10_isMinute_7 rfl ⟨Nat.le_of_ble_eq_true rfl, Nat.le_of_ble_eq_true rfl⟩ (by decide) ?_
    refine j_if_eq (tgt := 14) dX10_open_4 (by decide) (fun _ => ?_) (fun c => absurd c (by decide))
    refine j_sipush (x := (-1002)) dX10_open_14 rfl (i32_c rfl) ?_
    exact j_iret dX10_open_17 rfl ⟨Nat.le_of_ble_eq_true rfl, Nat.le_of_ble_eq_true rfl⟩ (fun _ => h)
  · replace h := h.2 c1
    refine j_iload_n 0 dX10_within_5 rfl ?_
    refine j_iload_n 2 dX10_within_6 rfl ?_
    refine j_icmp_gt (tgt := 14) dX10_within_7 (by decide) (fun c2 => ?_) (fun c2 => ?_)
    · replace h := h.1 c2
      refine j_iconst (x := 0) dX10_within_14 rfl (i32_c rfl) ?_
      refine j_zret dX10_within_15 rfl ⟨Nat.le_of_ble_eq_true rfl, Nat.le_of_ble_eq_true rfl⟩ (by decide) ?_
      refine j_zret dX10_isMinute_7 rfl ⟨Nat.le_of_ble_eq_true rfl, Nat.le_of_ble_eq_true rfl⟩ (by decide) ?_
      refine j_if_eq (tgt := 14) dX10_open_4 (by decide) (fun _ => ?_) (fun c => absurd c (by decide))
      refine j_sipush (x := (-1002)) dX10_open_14 rfl (i32_c rfl) ?_
      exact j_iret dX10_open_17 rfl ⟨Nat.le_of_ble_eq_true rfl, Nat.le_of_ble_eq_true rfl⟩ (fun _ => h)
    · replace h := h.2 c2
      refine j_iconst (x := 1) dX10_within_10 rfl (i32_c rfl) ?_
      refine j_goto (tgt := 15) dX10_within_11 (by decide) ?_
      refine j_zret dX10_within_15 rfl ⟨Nat.le_of_ble_eq_true rfl, Nat.le_of_ble_eq_true rfl⟩ (by decide) ?_
      refine j_zret dX10_isMinute_7 rfl ⟨Nat.le_of_ble_eq_true rfl, Nat.le_of_ble_eq_true rfl⟩ (by decide) ?_
      refine j_if_eq (tgt := 14) dX10_open_4 (by decide) (fun c => absurd c (by decide)) (fun _ => ?_)
      refine j_iload_n 2 dX10_open_7 rfl ?_
      refine j_calliS (Yc := Y_X10_isLight) (as := [aI x2]) (rest := []) dX10_open_8 q_X10_197 ⟨Nat.le_of_ble_eq_true rfl, Nat.le_of_ble_eq_true rfl, Nat.le_of_ble_eq_true rfl, Nat.le_of_ble_eq_true rfl⟩ rfl (Nat.le_of_ble_eq_true rfl) rfl (ti_of (ll := [(0, aI x2)]) rfl (Nat.le_of_ble_eq_true rfl) rfl (fun _ => ?_))
      refine j_iload_n 0 dX10_isLight_0 rfl ?_
      refine j_iconst (x := (-1)) dX10_isLight_1 rfl (i32_c rfl) ?_
      refine j_bipush (x := 99) dX10_isLight_2 rfl (i32_c rfl) ?_
      refine j_calliS (Yc := Y_X10_within) (as := [aI x2, aI (-1), aI 99]) (rest := []) dX10_isLight_4 q_X10_99 ⟨Nat.le_of_ble_eq_true rfl, Nat.le_of_ble_eq_true rfl, Nat.le_of_ble_eq_true rfl, Nat.le_of_ble_eq_true rfl⟩ rfl (Nat.le_of_ble_eq_true rfl) rfl (ti_of (ll := [(0, aI x2), (1, aI (-1)), (2, aI 99)]) rfl (Nat.le_of_ble_eq_true rfl) rfl (fun _ => ?_))
      refine j_iload_n 0 dX10_within_0 rfl ?_
      refine j_iload_n 1 dX10_within_1 rfl ?_
      refine j_icmp_lt (tgt := 14) dX10_within_2 (by decide) (fun c3 => ?_) (fun c3 => ?_)
      · replace h := h.1 c3
        refine j_iconst (x := 0) dX10_within_14 rfl (i32_c rfl) ?_
        refine j_zret dX10_within_15 rfl ⟨Nat.le_of_ble_eq_true rfl, Nat.le_of_ble_eq_true rfl⟩ (by decide) ?_
        refine j_zret dX10_isLight_7 rfl ⟨Nat.le_of_ble_eq_true rfl, Nat.le_of_ble_eq_true rfl⟩ (by decide) ?_
        refine j_if_ne (tgt := 18) dX10_open_11 (by decide) (fun c => absurd c (by decide)) (fun _ => ?_)
        refine j_sipush (x := (-1002)) dX10_open_14 rfl (i32_c rfl) ?_
        exact j_iret dX10_open_17 rfl ⟨Nat.le_of_ble_eq_true rfl, Nat.le_of_ble_eq_true rfl⟩ (fun _ => h)
      · replace h := h.2 c3
        refine j_iload_n 0 dX10_within_5 rfl ?_
        refine j_iload_n 2 dX10_within_6 rfl ?_
        refine j_icmp_gt (tgt := 14) dX10_within_7 (by decide) (fun c4 => ?_) (fun c4 => ?_)
        · replace h := h.1 c4
          refine j_iconst (x := 0) dX10_within_14 rfl (i32_c rfl) ?_
          refine j_zret dX10_within_15 rfl ⟨Nat.le_of_ble_eq_true rfl, Nat.le_of_ble_eq_true rfl⟩ (by decide) ?_
          refine j_zret dX10_isLight_7 rfl ⟨Nat.le_of_ble_eq_true rfl, Nat.le_of_ble_eq_true rfl⟩ (by decide) ?_
          refine j_if_ne (tgt := 18) dX10_open_11 (by decide) (fun c => absurd c (by decide)) (fun _ => ?_)
          refine j_sipush (x := (-1002)) dX10_open_14 rfl (i32_c rfl) ?_
          exact j_iret dX10_open_17 rfl ⟨Nat.le_of_ble_eq_true rfl, Nat.le_of_ble_eq_true rfl⟩ (fun _ => h)
        · replace h := h.2 c4
          refine j_iconst (x := 1) dX10_within_10 rfl (i32_c rfl) ?_
          refine j_goto (tgt := 15) dX10_within_11 (by decide) ?_
          refine j_zret dX10_within_15 rfl ⟨Nat.le_of_ble_eq_true rfl, Nat.le_of_ble_eq_true rfl⟩ (by decide) ?_
          refine j_zret dX10_isLight_7 rfl ⟨Nat.le_of_ble_eq_true rfl, Nat.le_of_ble_eq_true rfl⟩ (by decide) ?_
          refine j_if_ne (tgt := 18) dX10_open_11 (by decide) (fun _ => ?_) (fun c => absurd c (by decide))
          refine j_aload_n 0 dX10_open_18 rfl ?_
          refine j_getc 33 dX10_open_19 f_X10_59 sh_0 rfl ?_
          refine j_iload_n 2 dX10_open_22 rfl ?_
          refine j_iload_n 3 dX10_open_23 rfl ?_
          refine j_callvV (Yc := Y_X9_prepare) (as := [aI x2, aI x3]) (rest := []) dX10_open_24 q_X10_200 ⟨Nat.le_of_ble_eq_true rfl, Nat.le_of_ble_eq_true rfl, Nat.le_of_ble_eq_true rfl, Nat.le_of_ble_eq_true rfl⟩ sh_33 rfl (Nat.le_of_ble_eq_true rfl) rfl (tv_of (ll := [(0, aR 33), (1, aI x2), (2, aI x3)]) rfl (Nat.le_of_ble_eq_true rfl) rfl (fun _ => ?_))
          refine j_aload_n 0 dX9_prepare_0 rfl ?_
          refine j_iload_n 1 dX9_prepare_1 rfl ?_
          refine j_iload_n 2 dX9_prepare_2 rfl ?_
          refine j_iconst (x := (-1)) dX9_prepare_3 rfl (i32_c rfl) ?_
          refine j_iconst (x := (-1)) dX9_prepare_4 rfl (i32_c rfl) ?_
          refine j_callvV (Yc := Y_X9_prepareMarked) (as := [aI x2, aI x3, aI (-1), aI (-1)]) (rest := []) dX9_prepare_5 q_X9_38 ⟨Nat.le_of_ble_eq_true rfl, Nat.le_of_ble_eq_true rfl, Nat.le_of_ble_eq_true rfl, Nat.le_of_ble_eq_true rfl⟩ sh_33 rfl (Nat.le_of_ble_eq_true rfl) rfl (tv_mono h (fun u1 h => ?_))
          refine j_vret dX9_prepare_8 rfl ⟨Nat.le_of_ble_eq_true rfl, Nat.le_of_ble_eq_true rfl⟩ ?_
          refine j_aload_n 0 dX10_open_27 rfl ?_
          refine j_getc 33 dX10_open_28 f_X10_59 sh_0 rfl ?_
          refine j_aload_n 0 dX10_open_31 rfl ?_
          refine j_getc 6 dX10_open_32 f_X10_28 sh_0 rfl ?_
          refine j_geti (i := 2) dX10_open_35 f_X10_153 sh_6 rfl rfl (fun _ => ?_)
          refine j_bipush (x := 99) dX10_open_38 rfl (i32_c rfl) ?_
          refine j_callvV (Yc := Y_X9_gather) (as := [aI (u1 6 2), aI 99]) (rest := []) dX10_open_40 q_X10_211 ⟨Nat.le_of_ble_eq_true rfl, Nat.le_of_ble_eq_true rfl, Nat.le_of_ble_eq_true rfl, Nat.le_of_ble_eq_true rfl⟩ sh_33 rfl (Nat.le_of_ble_eq_true rfl) rfl (tv_mono h (fun u2 h => ?_))
          refine j_iconst (x := 0) dX10_open_43 rfl (i32_c rfl) ?_
          refine j_istore (ll' := [(4, aI 0), (0, aR 0), (1, aI x1), (2, aI x2), (3, aI x3)]) dX10_open_44 (Nat.le_of_ble_eq_true rfl) rfl ?_
          refine j_iconst (x := 0) dX10_open_46 rfl (i32_c rfl) ?_
          refine j_istore (ll' := [(5, aI 0), (4, aI 0), (0, aR 0), (1, aI x1), (2, aI x2), (3, aI x3)]) dX10_open_47 (Nat.le_of_ble_eq_true rfl) rfl ?_
          refine j_sub [2, 3, 1, 0] rfl ?_
          exact h
theorem E_X10_open {post : Int → ax_M → Prop} {M : ax_M} {x1 x2 x3 : Int} (h : ax_mr SH M → (((x1 < 0) → post (-1002) M) ∧ ((0 ≤ x1) → (((99 < x1) → post (-1002) M) ∧ ((x1 ≤ 99) → (((x2 < (-1)) → post (-1002) M) ∧ (((-1) ≤ x2) → (((99 < x2) → post (-1002) M) ∧ ((x2 ≤ 99) → ax_Tv Y_X9_prepareMarked [aR 33, aI x2, aI x3, aI (-1), aI (-1)] SH M (fun u1 => ax_Tv Y_X9_gather [aR 33, aI (u1 6 2), aI 99] SH u1 (fun u2 => ax_J Y_X10_open (ax_Ki Y_X10_open SH post) 0 0 49 [(0, aR 0), (1, aI x1), (4, aI 0), (5, aI 0)] [] SH u2))))))))))) : ax_Ti Y_X10_open [aR 0, aI x1, aI x2, aI x3] SH M post :=
  ti_of rfl (Nat.le_of_ble_eq_true rfl) rfl (fun q => B_X10_open_0 (h q))
set_option maxRecDepth 100000 in
set_option maxHeartbeats 4000000 in
theorem B_X10_open_49 {post : Int → ax_M → Prop} {M : ax_M} {x1 x4 x5 : Int} (h : ((((M 6 0) ≤ x5) → post x4 M) ∧ ((x5 < (M 6 0)) → (0 ≤ x5 ∧ x5 < 12) ∧ ((((M 39 x5) < x1) → (-2147483648 ≤ (x5 + 1) ∧ (x5 + 1) ≤ 2147483647) ∧ ax_J Y_X10_open (ax_Ki Y_X10_open SH post) 0 0 49 [(0, aR 0), (1, aI x1), (4, aI x4), (5, aI (x5 + 1))] [] SH M) ∧ ((x1 ≤ (M 39 x5)) → (-2147483648 ≤ (x5 + 1) ∧ (x5 + 1) ≤ 2147483647) ∧ ax_J Y_X10_open (ax_Ki Y_X10_open SH post) 0 0 49 [(0, aR 0), (1, aI x1), (4, aI (bo_or x4 (bo_shl 1 x5))), (5, aI (x5 + 1))] [] SH M))))) : ax_J Y_X10_open (ax_Ki Y_X10_open SH post) 0 0 49 [(0, aR 0), (1, aI x1), (4, aI x4), (5, aI x5)] [] SH M := by
  refine j_iload 3 dX10_open_49 rfl ?_
  refine j_aload_n 0 dX10_open_51 rfl ?_
  refine j_getc 6 dX10_open_52 f_X10_28 sh_0 rfl ?_
  refine j_geti (i := 0) dX10_open_55 f_X10_144 sh_6 rfl rfl (fun _ => ?_)
  refine j_icmp_ge (tgt := 90) dX10_open_58 (by decide) (fun c1 => ?_) (fun c1 => ?_)
  · replace h := h.1 c1
    refine j_iload 2 dX10_open_90 rfl ?_
    exact j_iret dX10_open_92 rfl ⟨Nat.le_of_ble_eq_true rfl, Nat.le_of_ble_eq_true rfl⟩ (fun _ => h)
  · replace h := h.2 c1
    refine j_aload_n 0 dX10_open_61 rfl ?_
    refine j_getc 33 dX10_open_62 f_X10_59 sh_0 rfl ?_
    refine j_getc 39 dX10_open_65 f_X10_214 sh_33 rfl ?_
    refine j_iload 3 dX10_open_68 rfl ?_
    obtain ⟨o2, h⟩ := h
    refine j_iald dX10_open_70 sh_39 o2.1 o2.2 (fun _ => ?_)
    refine j_iload_n 1 dX10_open_71 rfl ?_
    refine j_icmp_lt (tgt := 84) dX10_open_72 (by decide) (fun c3 => ?_) (fun c3 => ?_)
    · replace h := h.1 c3
      obtain ⟨o4, h⟩ := h
      refine j_iinc (ll' := [(5, aI (x5 + 1)), (0, aR 0), (1, aI x1), (4, aI x4)]) 3 dX10_open_84 rfl (Nat.le_of_ble_eq_true rfl) o4 rfl ?_
      refine j_goto (tgt := 49) dX10_open_87 (by decide) ?_
      refine j_sub [1, 2, 3, 0] rfl ?_
      exact h
    · replace h := h.2 c3
      refine j_iload 2 dX10_open_75 rfl ?_
      refine j_iconst (x := 1) dX10_open_77 rfl (i32_c rfl) ?_
      refine j_iload 3 dX10_open_78 rfl ?_
      refine j_ishl (z := (bo_shl 1 x5)) dX10_open_80 rfl ?_
      refine j_ior (z := (bo_or x4 (bo_shl 1 x5))) dX10_open_81 rfl ?_
      refine j_istore (ll' := [(4, aI (bo_or x4 (bo_shl 1 x5))), (0, aR 0), (1, aI x1), (5, aI x5)]) dX10_open_82 (Nat.le_of_ble_eq_true rfl) rfl ?_
      obtain ⟨o5, h⟩ := h
      refine j_iinc (ll' := [(5, aI (x5 + 1)), (4, aI (bo_or x4 (bo_shl 1 x5))), (0, aR 0), (1, aI x1)]) 3 dX10_open_84 rfl (Nat.le_of_ble_eq_true rfl) o5 rfl ?_
      refine j_goto (tgt := 49) dX10_open_87 (by decide) ?_
      refine j_sub [2, 3, 1, 0] rfl ?_
      exact h
set_option maxRecDepth 100000 in
set_option maxHeartbeats 4000000 in
theorem B_X10_most_0 {post : Int → ax_M → Prop} {M : ax_M} {x1 : Int} (h : (((x1 < 0) → post (-1002) M) ∧ ((0 ≤ x1) → (((60 < x1) → post (-1002) M) ∧ ((x1 ≤ 60) → (((¬ (M 6 2) = (-1)) → ax_Ti Y_X2_lift [aR 40, aI x1] SH M (fun z2 u1 => post z2 u1)) ∧ (((M 6 2) = (-1)) → post (-1003) M))))))) : ax_J Y_X10_most (ax_Ki Y_X10_most SH post) 0 0 0 [(0, aR 0), (1, aI x1)] [] SH M := by
  refine j_iload_n 1 dX10_most_0 rfl ?_
  refine j_iconst (x := 0) dX10_most_1 rfl (i32_c rfl) ?_
  refine j_bipush (x := 60) dX10_most_2 rfl (i32_c rfl) ?_
  refine j_calliS (Yc := Y_X10_within) (as := [aI x1, aI 0, aI 60]) (rest := []) dX10_most_4 q_X10_99 ⟨Nat.le_of_ble_eq_true rfl, Nat.le_of_ble_eq_true rfl, Nat.le_of_ble_eq_true rfl, Nat.le_of_ble_eq_true rfl⟩ rfl (Nat.le_of_ble_eq_true rfl) rfl (ti_of (ll := [(0, aI x1), (1, aI 0), (2, aI 60)]) rfl (Nat.le_of_ble_eq_true rfl) rfl (fun _ => ?_))
  refine j_iload_n 0 dX10_within_0 rfl ?_
  refine j_iload_n 1 dX10_within_1 rfl ?_
  refine j_icmp_lt (tgt := 14) dX10_within_2 (by decide) (fun c1 => ?_) (fun c1 => ?_)
  · replace h := h.1 c1
    refine j_iconst (x := 0) dX10_within_14 rfl (i32_c rfl) ?_
    refine j_zret dX10_within_15 rfl ⟨Nat.le_of_ble_eq_true rfl, Nat.le_of_ble_eq_true rfl⟩ (by decide) ?_
    refine j_if_ne (tgt := 14) dX10_most_7 (by decide) (fun c => absurd c (by decide)) (fun _ => ?_)
    refine j_sipush (x := (-1002)) dX10_most_10 rfl (i32_c rfl) ?_
    exact j_iret dX10_most_13 rfl ⟨Nat.le_of_ble_eq_true rfl, Nat.le_of_ble_eq_true rfl⟩ (fun _ => h)
  · replace h := h.2 c1
    refine j_iload_n 0 dX10_within_5 rfl ?_
    refine j_iload_n 2 dX10_within_6 rfl ?_
    refine j_icmp_gt (tgt := 14) dX10_within_7 (by decide) (fun c2 => ?_) (fun c2 => ?_)
    · replace h := h.1 c2
      refine j_iconst (x := 0) dX10_within_14 rfl (i32_c rfl) ?_
      refine j_zret dX10_within_15 rfl ⟨Nat.le_of_ble_eq_true rfl, Nat.le_of_ble_eq_true rfl⟩ (by decide) ?_
      refine j_if_ne (tgt := 14) dX10_most_7 (by decide) (fun c => absurd c (by decide)) (fun _ => ?_)
      refine j_sipush (x := (-1002)) dX10_most_10 rfl (i32_c rfl) ?_
      exact j_iret dX10_most_13 rfl ⟨Nat.le_of_ble_eq_true rfl, Nat.le_of_ble_eq_true rfl⟩ (fun _ => h)
    · replace h := h.2 c2
      refine j_iconst (x := 1) dX10_within_10 rfl (i32_c rfl) ?_
      refine j_goto (tgt := 15) dX10_within_11 (by decide) ?_
      refine j_zret dX10_within_15 rfl ⟨Nat.le_of_ble_eq_true rfl, Nat.le_of_ble_eq_true rfl⟩ (by decide) ?_
      refine j_if_ne (tgt := 14) dX10_most_7 (by decide) (fun _ => ?_) (fun c => absurd c (by decide))
      refine j_aload_n 0 dX10_most_14 rfl ?_
      refine j_calliV (Yc := Y_X10_noPit) (as := []) (rest := []) dX10_most_15 q_X10_217 ⟨Nat.le_of_ble_eq_true rfl, Nat.le_of_ble_eq_true rfl, Nat.le_of_ble_eq_true rfl, Nat.le_of_ble_eq_true rfl⟩ sh_0 rfl (Nat.le_of_ble_eq_true rfl) rfl (ti_of (ll := [(0, aR 0)]) rfl (Nat.le_of_ble_eq_true rfl) rfl (fun _ => ?_))
      refine j_aload_n 0 dX10_noPit_0 rfl ?_
      refine j_getc 6 dX10_noPit_1 f_X10_28 sh_0 rfl ?_
      refine j_geti (i := 2) dX10_noPit_4 f_X10_153 sh_6 rfl rfl (fun _ => ?_)
      refine j_iconst (x := (-1)) dX10_noPit_7 rfl (i32_c rfl) ?_
      refine j_icmp_ne (tgt := 15) dX10_noPit_8 (by decide) (fun c3 => ?_) (fun c3 => ?_)
      · replace h := h.1 c3
        refine j_iconst (x := 0) dX10_noPit_15 rfl (i32_c rfl) ?_
        refine j_zret dX10_noPit_16 rfl ⟨Nat.le_of_ble_eq_true rfl, Nat.le_of_ble_eq_true rfl⟩ (by decide) ?_
        refine j_if_eq (tgt := 25) dX10_most_18 (by decide) (fun _ => ?_) (fun c => absurd c (by decide))
        refine j_aload_n 0 dX10_most_25 rfl ?_
        refine j_getc 40 dX10_most_26 f_X10_66 sh_0 rfl ?_
        refine j_iload_n 1 dX10_most_29 rfl ?_
        refine j_calliV (Yc := Y_X2_lift) (as := [aI x1]) (rest := []) dX10_most_30 q_X10_221 ⟨Nat.le_of_ble_eq_true rfl, Nat.le_of_ble_eq_true rfl, Nat.le_of_ble_eq_true rfl, Nat.le_of_ble_eq_true rfl⟩ sh_40 rfl (Nat.le_of_ble_eq_true rfl) rfl (ti_mono h (fun z2 u1 h => ?_))
        exact j_iret dX10_most_33 rfl ⟨Nat.le_of_ble_eq_true rfl, Nat.le_of_ble_eq_true rfl⟩ (fun _ => h)
      · replace h := h.2 c3
        refine j_iconst (x := 1) dX10_noPit_11 rfl (i32_c rfl) ?_
        refine j_goto (tgt := 16) dX10_noPit_12 (by decide) ?_
        refine j_zret dX10_noPit_16 rfl ⟨Nat.le_of_ble_eq_true rfl, Nat.le_of_ble_eq_true rfl⟩ (by decide) ?_
        refine j_if_eq (tgt := 25) dX10_most_18 (by decide) (fun c => absurd c (by decide)) (fun _ => ?_)
        refine j_sipush (x := (-1003)) dX10_most_21 rfl (i32_c rfl) ?_
        exact j_iret dX10_most_24 rfl ⟨Nat.le_of_ble_eq_true rfl, Nat.le_of_ble_eq_true rfl⟩ (fun _ => h)
theorem E_X10_most {post : Int → ax_M → Prop} {M : ax_M} {x1 : Int} (h : ax_mr SH M → (((x1 < 0) → post (-1002) M) ∧ ((0 ≤ x1) → (((60 < x1) → post (-1002) M) ∧ ((x1 ≤ 60) → (((¬ (M 6 2) = (-1)) → ax_Ti Y_X2_lift [aR 40, aI x1] SH M (fun z2 u1 => post z2 u1)) ∧ (((M 6 2) = (-1)) → post (-1003) M))))))) : ax_Ti Y_X10_most [aR 0, aI x1] SH M post :=
  ti_of rfl (Nat.le_of_ble_eq_true rfl) rfl (fun q => B_X10_most_0 (h q))
set_option maxRecDepth 100000 in
set_option maxHeartbeats 4000000 in
theorem B_X10_cut_0 {post : Int → ax_M → Prop} {M : ax_M} {x1 : Int} (h : (((x1 < 0) → post (-1002) M) ∧ ((0 ≤ x1) → (((60 < x1) → post (-1002) M) ∧ ((x1 ≤ 60) → (((¬ (M 6 2) = (-1)) → ax_Ti Y_X2_lift [aR 40, aI x1] SH M (fun z2 u1 => (((¬ z2 = (u1 8 0)) → ax_Ti Y_X2_seenPlaces [aR 40] SH u1 (fun z4 u3 => post z4 u3)) ∧ ((z2 = (u1 8 0)) → post 0 u1)))) ∧ (((M 6 2) = (-1)) → post (-1003) M))))))) : ax_J Y_X10_cut (ax_Ki Y_X10_cut SH post) 0 0 0 [(0, aR 0), (1, aI x1)] [] SH M := by
  refine j_iload_n 1 dX10_cut_0 rfl ?_
  refine j_iconst (x := 0) dX10_cut_1 rfl (i32_c rfl) ?_
  refine j_bipush (x := 60) dX10_cut_2 rfl (i32_c rfl) ?_
  refine j_calliS (Yc := Y_X10_within) (as := [aI x1, aI 0, aI 60]) (rest := []) dX10_cut_4 q_X10_99 ⟨Nat.le_of_ble_eq_true rfl, Nat.le_of_ble_eq_true rfl, Nat.le_of_ble_eq_true rfl, Nat.le_of_ble_eq_true rfl⟩ rfl (Nat.le_of_ble_eq_true rfl) rfl (ti_of (ll := [(0, aI x1), (1, aI 0), (2, aI 60)]) rfl (Nat.le_of_ble_eq_true rfl) rfl (fun _ => ?_))
  refine j_iload_n 0 dX10_within_0 rfl ?_
  refine j_iload_n 1 dX10_within_1 rfl ?_
  refine j_icmp_lt (tgt := 14) dX10_within_2 (by decide) (fun c1 => ?_) (fun c1 => ?_)
  · replace h := h.1 c1
    refine j_iconst (x := 0) dX10_within_14 rfl (i32_c rfl) ?_
    refine j_zret dX10_within_15 rfl ⟨Nat.le_of_ble_eq_true rfl, Nat.le_of_ble_eq_true rfl⟩ (by decide) ?_
    refine j_if_ne (tgt := 14) dX10_cut_7 (by decide) (fun c => absurd c (by decide)) (fun _ => ?_)
    refine j_sipush (x := (-1002)) dX10_cut_10 rfl (i32_c rfl) ?_
    exact j_iret dX10_cut_13 rfl ⟨Nat.le_of_ble_eq_true rfl, Nat.le_of_ble_eq_true rfl⟩ (fun _ => h)
  · replace h := h.2 c1
    refine j_iload_n 0 dX10_within_5 rfl ?_
    refine j_iload_n 2 dX10_within_6 rfl ?_
    refine j_icmp_gt (tgt := 14) dX10_within_7 (by decide) (fun c2 => ?_) (fun c2 => ?_)
    · replace h := h.1 c2
      refine j_iconst (x := 0) dX10_within_14 rfl (i32_c rfl) ?_
      refine j_zret dX10_within_15 rfl ⟨Nat.le_of_ble_eq_true rfl, Nat.le_of_ble_eq_true rfl⟩ (by decide) ?_
      refine j_if_ne (tgt := 14) dX10_cut_7 (by decide) (fun c => absurd c (by decide)) (fun _ => ?_)
      refine j_sipush (x := (-1002)) dX10_cut_10 rfl (i32_c rfl) ?_
      exact j_iret dX10_cut_13 rfl ⟨Nat.le_of_ble_eq_true rfl, Nat.le_of_ble_eq_true rfl⟩ (fun _ => h)
    · replace h := h.2 c2
      refine j_iconst (x := 1) dX10_within_10 rfl (i32_c rfl) ?_
      refine j_goto (tgt := 15) dX10_within_11 (by decide) ?_
      refine j_zret dX10_within_15 rfl ⟨Nat.le_of_ble_eq_true rfl, Nat.le_of_ble_eq_true rfl⟩ (by decide) ?_
      refine j_if_ne (tgt := 14) dX10_cut_7 (by decide) (fun _ => ?_) (fun c => absurd c (by decide))
      refine j_aload_n 0 dX10_cut_14 rfl ?_
      refine j_calliV (Yc := Y_X10_noPit) (as := []) (rest := []) dX10_cut_15 q_X10_217 ⟨Nat.le_of_ble_eq_true rfl, Nat.le_of_ble_eq_true rfl, Nat.le_of_ble_eq_true rfl, Nat.le_of_ble_eq_true rfl⟩ sh_0 rfl (Nat.le_of_ble_eq_true rfl) rfl (ti_of (ll := [(0, aR 0)]) rfl (Nat.le_of_ble_eq_true rfl) rfl (fun _ => ?_))
      refine j_aload_n 0 dX10_noPit_0 rfl ?_
      refine j_getc 6 dX10_noPit_1 f_X10_28 sh_0 rfl ?_
      refine j_geti (i := 2) dX10_noPit_4 f_X10_153 sh_6 rfl rfl (fun _ => ?_)
      refine j_iconst (x := (-1)) dX10_noPit_7 rfl (i32_c rfl) ?_
      refine j_icmp_ne (tgt := 15) dX10_noPit_8 (by decide) (fun c3 => ?_) (fun c3 => ?_)
      · replace h := h.1 c3
        refine j_iconst (x := 0) dX10_noPit_15 rfl (i32_c rfl) ?_
        refine j_zret dX10_noPit_16 rfl ⟨Nat.le_of_ble_eq_true rfl, Nat.le_of_ble_eq_true rfl⟩ (by decide) ?_
        refine j_if_eq (tgt := 25) dX10_cut_18 (by decide) (fun _ => ?_) (fun c => absurd c (by decide))
        refine j_aload_n 0 dX10_cut_25 rfl ?_
        refine j_getc 40 dX10_cut_26 f_X10_66 sh_0 rfl ?_
        refine j_iload_n 1 dX10_cut_29 rfl ?_
        refine j_calliV (Yc := Y_X2_lift) (as := [aI x1]) (rest := []) dX10_cut_30 q_X10_221 ⟨Nat.le_of_ble_eq_true rfl, Nat.le_of_ble_eq_true rfl, Nat.le_of_ble_eq_true rfl, Nat.le_of_ble_eq_true rfl⟩ sh_40 rfl (Nat.le_of_ble_eq_true rfl) rfl (ti_mono h (fun z2 u1 h => ?_))
        refine j_istore_n (ll' := [(2, aI z2), (0, aR 0), (1, aI x1)]) dX10_cut_33 (Nat.le_of_ble_eq_true rfl) rfl ?_
        refine j_iload_n 0 dX10_cut_34 rfl ?_
        refine j_aload_n 1 dX10_cut_35 rfl ?_
        refine j_getc 8 dX10_cut_36 f_X10_35 sh_0 rfl ?_
        refine j_geti (i := 0) dX10_cut_39 f_X10_147 sh_8 rfl rfl (fun _ => ?_)
        refine j_icmp_ne (tgt := 49) dX10_cut_42 (by decide) (fun c4 => ?_) (fun c4 => ?_)
        · replace h := h.1 c4
          refine j_aload_n 1 dX10_cut_49 rfl ?_
          refine j_getc 40 dX10_cut_50 f_X10_66 sh_0 rfl ?_
          refine j_calliV (Yc := Y_X2_seenPlaces) (as := []) (rest := []) dX10_cut_53 q_X10_225 ⟨Nat.le_of_ble_eq_true rfl, Nat.le_of_ble_eq_true rfl, Nat.le_of_ble_eq_true rfl, Nat.le_of_ble_eq_true rfl⟩ sh_40 rfl (Nat.le_of_ble_eq_true rfl) rfl (ti_mono h (fun z4 u3 h => ?_))
          exact j_iret dX10_cut_56 rfl ⟨Nat.le_of_ble_eq_true rfl, Nat.le_of_ble_eq_true rfl⟩ (fun _ => h)
        · replace h := h.2 c4
          refine j_iconst (x := 0) dX10_cut_45 rfl (i32_c rfl) ?_
          refine j_goto (tgt := 56) dX10_cut_46 (by decide) ?_
          exact j_iret dX10_cut_56 rfl ⟨Nat.le_of_ble_eq_true rfl, Nat.le_of_ble_eq_true rfl⟩ (fun _ => h)
      · replace h := h.2 c3
        refine j_iconst (x := 1) dX10_noPit_11 rfl (i32_c rfl) ?_
        refine j_goto (tgt := 16) dX10_noPit_12 (by decide) ?_
        refine j_zret dX10_noPit_16 rfl ⟨Nat.le_of_ble_eq_true rfl, Nat.le_of_ble_eq_true rfl⟩ (by decide) ?_
        refine j_if_eq (tgt := 25) dX10_cut_18 (by decide) (fun c => absurd c (by decide)) (fun _ => ?_)
        refine j_sipush (x := (-1003)) dX10_cut_21 rfl (i32_c rfl) ?_
        exact j_iret dX10_cut_24 rfl ⟨Nat.le_of_ble_eq_true rfl, Nat.le_of_ble_eq_true rfl⟩ (fun _ => h)
theorem E_X10_cut {post : Int → ax_M → Prop} {M : ax_M} {x1 : Int} (h : ax_mr SH M → (((x1 < 0) → post (-1002) M) ∧ ((0 ≤ x1) → (((60 < x1) → post (-1002) M) ∧ ((x1 ≤ 60) → (((¬ (M 6 2) = (-1)) → ax_Ti Y_X2_lift [aR 40, aI x1] SH M (fun z2 u1 => (((¬ z2 = (u1 8 0)) → ax_Ti Y_X2_seenPlaces [aR 40] SH u1 (fun z4 u3 => post z4 u3)) ∧ ((z2 = (u1 8 0)) → post 0 u1)))) ∧ (((M 6 2) = (-1)) → post (-1003) M))))))) : ax_Ti Y_X10_cut [aR 0, aI x1] SH M post :=
  ti_of rfl (Nat.le_of_ble_eq_true rfl) rfl (fun q => B_X10_cut_0 (h q))
set_option maxRecDepth 100000 in
set_option maxHeartbeats 4000000 in
theorem B_X10_up_0 {post : Int → ax_M → Prop} {M : ax_M} {x1 x2 : Int} (h : (((x2 = (-1)) → (((x1 < 0) → post (-1002) M) ∧ ((0 ≤ x1) → (((7 < x1) → post (-1002) M) ∧ ((x1 ≤ 7) → (((¬ (M 6 2) = (-1)) → ax_Ti Y_X1_upFromAll [aR 49, aI x1] SH (ax_up (ax_up (ax_up M 49 5 (-1)) 49 6 (-1)) 49 7 (-1)) (fun z2 u1 => post z2 u1)) ∧ (((M 6 2) = (-1)) → post (-1003) M))))))) ∧ ((¬ x2 = (-1)) → (-2147483648 ≤ ((M 6 0) - 1) ∧ ((M 6 0) - 1) ≤ 2147483647) ∧ (((x2 < 0) → post (-1001) M) ∧ ((0 ≤ x2) → (((((M 6 0) - 1) < x2) → post (-1001) M) ∧ ((x2 ≤ ((M 6 0) - 1)) → (((x1 < 0) → post (-1002) M) ∧ ((0 ≤ x1) → (((7 < x1) → post (-1002) M) ∧ ((x1 ≤ 7) → (((¬ (M 6 2) = (-1)) → ax_Ti Y_X1_upFrom [aR 49, aI x2, aI x1] SH (ax_up (ax_up (ax_up M 49 5 (-1)) 49 6 (-1)) 49 7 (-1)) (fun z4 u3 => post z4 u3)) ∧ (((M 6 2) = (-1)) → post (-1003) M))))))))))))) : ax_J Y_X10_up (ax_Ki Y_X10_up SH post) 0 0 0 [(0, aR 0), (1, aI x1), (2, aI x2)] [] SH M := by
  refine j_iload_n 2 dX10_up_0 rfl ?_
  refine j_iconst (x := (-1)) dX10_up_1 rfl (i32_c rfl) ?_
  refine j_icmp_eq (tgt := 17) dX10_up_2 (by decide) (fun c1 => ?_) (fun c1 => ?_)
  · replace h := h.1 c1
    refine j_iload_n 1 dX10_up_17 rfl ?_
    refine j_iconst (x := 0) dX10_up_18 rfl (i32_c rfl) ?_
    refine j_bipush (x := 7) dX10_up_19 rfl (i32_c rfl) ?_
    refine j_calliS (Yc := Y_X10_within) (as := [aI x1, aI 0, aI 7]) (rest := []) dX10_up_21 q_X10_99 ⟨Nat.le_of_ble_eq_true rfl, Nat.le_of_ble_eq_true rfl, Nat.le_of_ble_eq_true rfl, Nat.le_of_ble_eq_true rfl⟩ rfl (Nat.le_of_ble_eq_true rfl) rfl (ti_of (ll := [(0, aI x1), (1, aI 0), (2, aI 7)]) rfl (Nat.le_of_ble_eq_true rfl) rfl (fun _ => ?_))
    refine j_iload_n 0 dX10_within_0 rfl ?_
    refine j_iload_n 1 dX10_within_1 rfl ?_
    refine j_icmp_lt (tgt := 14) dX10_within_2 (by decide) (fun c2 => ?_) (fun c2 => ?_)
    · replace h := h.1 c2
      refine j_iconst (x := 0) dX10_within_14 rfl (i32_c rfl) ?_
      refine j_zret dX10_within_15 rfl ⟨Nat.le_of_ble_eq_true rfl, Nat.le_of_ble_eq_true rfl⟩ (by decide) ?_
      refine j_if_ne (tgt := 31) dX10_up_24 (by decide) (fun c => absurd c (by decide)) (fun _ => ?_)
      refine j_sipush (x := (-1002)) dX10_up_27 rfl (i32_c rfl) ?_
      exact j_iret dX10_up_30 rfl ⟨Nat.le_of_ble_eq_true rfl, Nat.le_of_ble_eq_true rfl⟩ (fun _ => h)
    · replace h := h.2 c2
      refine j_iload_n 0 dX10_within_5 rfl ?_
      refine j_iload_n 2 dX10_within_6 rfl ?_
      refine j_icmp_gt (tgt := 14) dX10_within_7 (by decide) (fun c3 => ?_) (fun c3 => ?_)
      · replace h := h.1 c3
        refine j_iconst (x := 0) dX10_within_14 rfl (i32_c rfl) ?_
        refine j_zret dX10_within_15 rfl ⟨Nat.le_of_ble_eq_true rfl, Nat.le_of_ble_eq_true rfl⟩ (by decide) ?_
        refine j_if_ne (tgt := 31) dX10_up_24 (by decide) (fun c => absurd c (by decide)) (fun _ => ?_)
        refine j_sipush (x := (-1002)) dX10_up_27 rfl (i32_c rfl) ?_
        exact j_iret dX10_up_30 rfl ⟨Nat.le_of_ble_eq_true rfl, Nat.le_of_ble_eq_true rfl⟩ (fun _ => h)
      · replace h := h.2 c3
        refine j_iconst (x := 1) dX10_within_10 rfl (i32_c rfl) ?_
        refine j_goto (tgt := 15) dX10_within_11 (by decide) ?_
        refine j_zret dX10_within_15 rfl ⟨Nat.le_of_ble_eq_true rfl, Nat.le_of_ble_eq_true rfl⟩ (by decide) ?_
        refine j_if_ne (tgt := 31) dX10_up_24 (by decide) (fun _ => ?_) (fun c => absurd c (by decide))
        refine j_aload_n 0 dX10_up_31 rfl ?_
        refine j_calliV (Yc := Y_X10_noPit) (as := []) (rest := []) dX10_up_32 q_X10_217 ⟨Nat.le_of_ble_eq_true rfl, Nat.le_of_ble_eq_true rfl, Nat.le_of_ble_eq_true rfl, Nat.le_of_ble_eq_true rfl⟩ sh_0 rfl (Nat.le_of_ble_eq_true rfl) rfl (ti_of (ll := [(0, aR 0)]) rfl (Nat.le_of_ble_eq_true rfl) rfl (fun _ => ?_))
        refine j_aload_n 0 dX10_noPit_0 rfl ?_
        refine j_getc 6 dX10_noPit_1 f_X10_28 sh_0 rfl ?_
        refine j_geti (i := 2) dX10_noPit_4 f_X10_153 sh_6 rfl rfl (fun _ => ?_)
        refine j_iconst (x := (-1)) dX10_noPit_7 rfl (i32_c rfl) ?_
        refine j_icmp_ne (tgt := 15) dX10_noPit_8 (by decide) (fun c4 => ?_) (fun c4 => ?_)
        · replace h := h.1 c4
          refine j_iconst (x := 0) dX10_noPit_15 rfl (i32_c rfl) ?_
          refine j_zret dX10_noPit_16 rfl ⟨Nat.le_of_ble_eq_true rfl, Nat.le_of_ble_eq_true rfl⟩ (by decide) ?_
          refine j_if_eq (tgt := 42) dX10_up_35 (by decide) (fun _ => ?_) (fun c => absurd c (by decide))
          refine j_aload_n 0 dX10_up_42 rfl ?_
          refine j_getc 49 dX10_up_43 f_X10_75 sh_0 rfl ?_
          refine j_callvV (Yc := Y_X1_noMark) (as := []) (rest := []) dX10_up_46 q_X10_228 ⟨Nat.le_of_ble_eq_true rfl, Nat.le_of_ble_eq_true rfl, Nat.le_of_ble_eq_true rfl, Nat.le_of_ble_eq_true rfl⟩ sh_49 rfl (Nat.le_of_ble_eq_true rfl) rfl (tv_of (ll := [(0, aR 49)]) rfl (Nat.le_of_ble_eq_true rfl) rfl (fun _ => ?_))
          refine j_aload_n 0 dX1_noMark_0 rfl ?_
          refine j_iconst (x := (-1)) dX1_noMark_1 rfl (i32_c rfl) ?_
          refine j_puti (i := 5) dX1_noMark_2 p_X1_15 (fun h => by cases h) sh_49 rfl rfl ?_
          refine j_aload_n 0 dX1_noMark_5 rfl ?_
          refine j_iconst (x := (-1)) dX1_noMark_6 rfl (i32_c rfl) ?_
          refine j_puti (i := 6) dX1_noMark_7 p_X1_19 (fun h => by cases h) sh_49 rfl rfl ?_
          refine j_aload_n 0 dX1_noMark_10 rfl ?_
          refine j_iconst (x := (-1)) dX1_noMark_11 rfl (i32_c rfl) ?_
          refine j_puti (i := 7) dX1_noMark_12 p_X1_22 (fun h => by cases h) sh_49 rfl rfl ?_
          refine j_vret dX1_noMark_15 rfl ⟨Nat.le_of_ble_eq_true rfl, Nat.le_of_ble_eq_true rfl⟩ ?_
          refine j_iload_n 2 dX10_up_49 rfl ?_
          refine j_iconst (x := (-1)) dX10_up_50 rfl (i32_c rfl) ?_
          refine j_icmp_ne (tgt := 65) dX10_up_51 (by decide) (fun c => by have := c1; omega) (fun _ => ?_)
          refine j_aload_n 0 dX10_up_54 rfl ?_
          refine j_getc 49 dX10_up_55 f_X10_75 sh_0 rfl ?_
          refine j_iload_n 1 dX10_up_58 rfl ?_
          refine j_calliV (Yc := Y_X1_upFromAll) (as := [aI x1]) (rest := []) dX10_up_59 q_X10_231 ⟨Nat.le_of_ble_eq_true rfl, Nat.le_of_ble_eq_true rfl, Nat.le_of_ble_eq_true rfl, Nat.le_of_ble_eq_true rfl⟩ sh_49 rfl (Nat.le_of_ble_eq_true rfl) rfl (ti_mono h (fun z2 u1 h => ?_))
          refine j_goto (tgt := 74) dX10_up_62 (by decide) ?_
          exact j_iret dX10_up_74 rfl ⟨Nat.le_of_ble_eq_true rfl, Nat.le_of_ble_eq_true rfl⟩ (fun _ => h)
        · replace h := h.2 c4
          refine j_iconst (x := 1) dX10_noPit_11 rfl (i32_c rfl) ?_
          refine j_goto (tgt := 16) dX10_noPit_12 (by decide) ?_
          refine j_zret dX10_noPit_16 rfl ⟨Nat.le_of_ble_eq_true rfl, Nat.le_of_ble_eq_true rfl⟩ (by decide) ?_
          refine j_if_eq (tgt := 42) dX10_up_35 (by decide) (fun c => absurd c (by decide)) (fun _ => ?_)
          refine j_sipush (x := (-1003)) dX10_up_38 rfl (i32_c rfl) ?_
          exact j_iret dX10_up_41 rfl ⟨Nat.le_of_ble_eq_true rfl, Nat.le_of_ble_eq_true rfl⟩ (fun _ => h)
  · replace h := h.2 c1
    refine j_aload_n 0 dX10_up_5 rfl ?_
    refine j_iload_n 2 dX10_up_6 rfl ?_
    refine j_calliV (Yc := Y_X10_isPlace) (as := [aI x2]) (rest := []) dX10_up_7 q_X10_162 ⟨Nat.le_of_ble_eq_true rfl, Nat.le_of_ble_eq_true rfl, Nat.le_of_ble_eq_true rfl, Nat.le_of_ble_eq_true rfl⟩ sh_0 rfl (Nat.le_of_ble_eq_true rfl) rfl (ti_of (ll := [(0, aR 0), (1, aI x2)]) rfl (Nat.le_of_ble_eq_true rfl) rfl (fun _ => ?_))
    refine j_iload_n 1 dX10_isPlace_0 rfl ?_
    refine j_iconst (x := 0) dX10_isPlace_1 rfl (i32_c rfl) ?_
    refine j_aload_n 0 dX10_isPlace_2 rfl ?_
    refine j_getc 6 dX10_isPlace_3 f_X10_28 sh_0 rfl ?_
    refine j_geti (i := 0) dX10_isPlace_6 f_X10_144 sh_6 rfl rfl (fun _ => ?_)
    refine j_iconst (x := 1) dX10_isPlace_9 rfl (i32_c rfl) ?_
    obtain ⟨o5, h⟩ := h
    refine j_isub (z := ((M 6 0) - 1)) dX10_isPlace_10 rfl o5 ?_
    refine j_calliS (Yc := Y_X10_within) (as := [aI x2, aI 0, aI ((M 6 0) - 1)]) (rest := []) dX10_isPlace_11 q_X10_99 ⟨Nat.le_of_ble_eq_true rfl, Nat.le_of_ble_eq_true rfl, Nat.le_of_ble_eq_true rfl, Nat.le_of_ble_eq_true rfl⟩ rfl (Nat.le_of_ble_eq_true rfl) rfl (ti_of (ll := [(0, aI x2), (1, aI 0), (2, aI ((M 6 0) - 1))]) rfl (Nat.le_of_ble_eq_true rfl) rfl (fun _ => ?_))
    refine j_iload_n 0 dX10_within_0 rfl ?_
    refine j_iload_n 1 dX10_within_1 rfl ?_
    refine j_icmp_lt (tgt := 14) dX10_within_2 (by decide) (fun c6 => ?_) (fun c6 => ?_)
    · replace h := h.1 c6
      refine j_iconst (x := 0) dX10_within_14 rfl (i32_c rfl) ?_
      refine j_zret dX10_within_15 rfl ⟨Nat.le_of_ble_eq_true rfl, Nat.le_of_ble_eq_true rfl⟩ (by decide) ?_
      refine j_zret dX10_isPlace_14 rfl ⟨Nat.le_of_ble_eq_true rfl, Nat.le_of_ble_eq_true rfl⟩ (by decide) ?_
      refine j_if_ne (tgt := 17) dX10_up_10 (by decide) (fun c => absurd c (by decide)) (fun _ => ?_)
      refine j_sipush (x := (-1001)) dX10_up_13 rfl (i32_c rfl) ?_
      exact j_iret dX10_up_16 rfl ⟨Nat.le_of_ble_eq_true rfl, Nat.le_of_ble_eq_true rfl⟩ (fun _ => h)
    · replace h := h.2 c6
      refine j_iload_n 0 dX10_within_5 rfl ?_
      refine j_iload_n 2 dX10_within_6 rfl ?_
      refine j_icmp_gt (tgt := 14) dX10_within_7 (by decide) (fun c7 => ?_) (fun c7 => ?_)
      · replace h := h.1 c7
        refine j_iconst (x := 0) dX10_within_14 rfl (i32_c rfl) ?_
        refine j_zret dX10_within_15 rfl ⟨Nat.le_of_ble_eq_true rfl, Nat.le_of_ble_eq_true rfl⟩ (by decide) ?_
        refine j_zret dX10_isPlace_14 rfl ⟨Nat.le_of_ble_eq_true rfl, Nat.le_of_ble_eq_true rfl⟩ (by decide) ?_
        refine j_if_ne (tgt := 17) dX10_up_10 (by decide) (fun c => absurd c (by decide)) (fun _ => ?_)
        refine j_sipush (x := (-1001)) dX10_up_13 rfl (i32_c rfl) ?_
        exact j_iret dX10_up_16 rfl ⟨Nat.le_of_ble_eq_true rfl, Nat.le_of_ble_eq_true rfl⟩ (fun _ => h)
      · replace h := h.2 c7
        refine j_iconst (x := 1) dX10_within_10 rfl (i32_c rfl) ?_
        refine j_goto (tgt := 15) dX10_within_11 (by decide) ?_
        refine j_zret dX10_within_15 rfl ⟨Nat.le_of_ble_eq_true rfl, Nat.le_of_ble_eq_true rfl⟩ (by decide) ?_
        refine j_zret dX10_isPlace_14 rfl ⟨Nat.le_of_ble_eq_true rfl, Nat.le_of_ble_eq_true rfl⟩ (by decide) ?_
        refine j_if_ne (tgt := 17) dX10_up_10 (by decide) (fun _ => ?_) (fun c => absurd c (by decide))
        refine j_iload_n 1 dX10_up_17 rfl ?_
        refine j_iconst (x := 0) dX10_up_18 rfl (i32_c rfl) ?_
        refine j_bipush (x := 7) dX10_up_19 rfl (i32_c rfl) ?_
        refine j_calliS (Yc := Y_X10_within) (as := [aI x1, aI 0, aI 7]) (rest := []) dX10_up_21 q_X10_99 ⟨Nat.le_of_ble_eq_true rfl, Nat.le_of_ble_eq_true rfl, Nat.le_of_ble_eq_true rfl, Nat.le_of_ble_eq_true rfl⟩ rfl (Nat.le_of_ble_eq_true rfl) rfl (ti_of (ll := [(0, aI x1), (1, aI 0), (2, aI 7)]) rfl (Nat.le_of_ble_eq_true rfl) rfl (fun _ => ?_))
        refine j_iload_n 0 dX10_within_0 rfl ?_
        refine j_iload_n 1 dX10_within_1 rfl ?_
        refine j_icmp_lt (tgt := 14) dX10_within_2 (by decide) (fun c8 => ?_) (fun c8 => ?_)
        · replace h := h.1 c8
          refine j_iconst (x := 0) dX10_within_14 rfl (i32_c rfl) ?_
          refine j_zret dX10_within_15 rfl ⟨Nat.le_of_ble_eq_true rfl, Nat.le_of_ble_eq_true rfl⟩ (by decide) ?_
          refine j_if_ne (tgt := 31) dX10_up_24 (by decide) (fun c => absurd c (by decide)) (fun _ => ?_)
          refine j_sipush (x := (-1002)) dX10_up_27 rfl (i32_c rfl) ?_
          exact j_iret dX10_up_30 rfl ⟨Nat.le_of_ble_eq_true rfl, Nat.le_of_ble_eq_true rfl⟩ (fun _ => h)
        · replace h := h.2 c8
          refine j_iload_n 0 dX10_within_5 rfl ?_
          refine j_iload_n 2 dX10_within_6 rfl ?_
          refine j_icmp_gt (tgt := 14) dX10_within_7 (by decide) (fun c9 => ?_) (fun c9 => ?_)
          · replace h := h.1 c9
            refine j_iconst (x := 0) dX10_within_14 rfl (i32_c rfl) ?_
            refine j_zret dX10_within_15 rfl ⟨Nat.le_of_ble_eq_true rfl, Nat.le_of_ble_eq_true rfl⟩ (by decide) ?_
            refine j_if_ne (tgt := 31) dX10_up_24 (by decide) (fun c => absurd c (by decide)) (fun _ => ?_)
            refine j_sipush (x := (-1002)) dX10_up_27 rfl (i32_c rfl) ?_
            exact j_iret dX10_up_30 rfl ⟨Nat.le_of_ble_eq_true rfl, Nat.le_of_ble_eq_true rfl⟩ (fun _ => h)
          · replace h := h.2 c9
            refine j_iconst (x := 1) dX10_within_10 rfl (i32_c rfl) ?_
            refine j_goto (tgt := 15) dX10_within_11 (by decide) ?_
            refine j_zret dX10_within_15 rfl ⟨Nat.le_of_ble_eq_true rfl, Nat.le_of_ble_eq_true rfl⟩ (by decide) ?_
            refine j_if_ne (tgt := 31) dX10_up_24 (by decide) (fun _ => ?_) (fun c => absurd c (by decide))
            refine j_aload_n 0 dX10_up_31 rfl ?_
            refine j_calliV (Yc := Y_X10_noPit) (as := []) (rest := []) dX10_up_32 q_X10_217 ⟨Nat.le_of_ble_eq_true rfl, Nat.le_of_ble_eq_true rfl, Nat.le_of_ble_eq_true rfl, Nat.le_of_ble_eq_true rfl⟩ sh_0 rfl (Nat.le_of_ble_eq_true rfl) rfl (ti_of (ll := [(0, aR 0)]) rfl (Nat.le_of_ble_eq_true rfl) rfl (fun _ => ?_))
            refine j_aload_n 0 dX10_noPit_0 rfl ?_
            refine j_getc 6 dX10_noPit_1 f_X10_28 sh_0 rfl ?_
            refine j_geti (i := 2) dX10_noPit_4 f_X10_153 sh_6 rfl rfl (fun _ => ?_)
            refine j_iconst (x := (-1)) dX10_noPit_7 rfl (i32_c rfl) ?_
            refine j_icmp_ne (tgt := 15) dX10_noPit_8 (by decide) (fun c10 => ?_) (fun c10 => ?_)
            · replace h := h.1 c10
              refine j_iconst (x := 0) dX10_noPit_15 rfl (i32_c rfl) ?_
              refine j_zret dX10_noPit_16 rfl ⟨Nat.le_of_ble_eq_true rfl, Nat.le_of_ble_eq_true rfl⟩ (by decide) ?_
              refine j_if_eq (tgt := 42) dX10_up_35 (by decide) (fun _ => ?_) (fun c => absurd c (by decide))
              refine j_aload_n 0 dX10_up_42 rfl ?_
              refine j_getc 49 dX10_up_43 f_X10_75 sh_0 rfl ?_
              refine j_callvV (Yc := Y_X1_noMark) (as := []) (rest := []) dX10_up_46 q_X10_228 ⟨Nat.le_of_ble_eq_true rfl, Nat.le_of_ble_eq_true rfl, Nat.le_of_ble_eq_true rfl, Nat.le_of_ble_eq_true rfl⟩ sh_49 rfl (Nat.le_of_ble_eq_true rfl) rfl (tv_of (ll := [(0, aR 49)]) rfl (Nat.le_of_ble_eq_true rfl) rfl (fun _ => ?_))
              refine j_aload_n 0 dX1_noMark_0 rfl ?_
              refine j_iconst (x := (-1)) dX1_noMark_1 rfl (i32_c rfl) ?_
              refine j_puti (i := 5) dX1_noMark_2 p_X1_15 (fun h => by cases h) sh_49 rfl rfl ?_
              refine j_aload_n 0 dX1_noMark_5 rfl ?_
              refine j_iconst (x := (-1)) dX1_noMark_6 rfl (i32_c rfl) ?_
              refine j_puti (i := 6) dX1_noMark_7 p_X1_19 (fun h => by cases h) sh_49 rfl rfl ?_
              refine j_aload_n 0 dX1_noMark_10 rfl ?_
              refine j_iconst (x := (-1)) dX1_noMark_11 rfl (i32_c rfl) ?_
              refine j_puti (i := 7) dX1_noMark_12 p_X1_22 (fun h => by cases h) sh_49 rfl rfl ?_
              refine j_vret dX1_noMark_15 rfl ⟨Nat.le_of_ble_eq_true rfl, Nat.le_of_ble_eq_true rfl⟩ ?_
              refine j_iload_n 2 dX10_up_49 rfl ?_
              refine j_iconst (x := (-1)) dX10_up_50 rfl (i32_c rfl) ?_
              refine j_icmp_ne (tgt := 65) dX10_up_51 (by decide) (fun _ => ?_) (fun c => by have := c1; omega)
              refine j_aload_n 0 dX10_up_65 rfl ?_
              refine j_getc 49 dX10_up_66 f_X10_75 sh_0 rfl ?_
              refine j_iload_n 2 dX10_up_69 rfl ?_
              refine j_iload_n 1 dX10_up_70 rfl ?_
              refine j_calliV (Yc := Y_X1_upFrom) (as := [aI x2, aI x1]) (rest := []) dX10_up_71 q_X10_234 ⟨Nat.le_of_ble_eq_true rfl, Nat.le_of_ble_eq_true rfl, Nat.le_of_ble_eq_true rfl, Nat.le_of_ble_eq_true rfl⟩ sh_49 rfl (Nat.le_of_ble_eq_true rfl) rfl (ti_mono h (fun z4 u3 h => ?_))
              exact j_iret dX10_up_74 rfl ⟨Nat.le_of_ble_eq_true rfl, Nat.le_of_ble_eq_true rfl⟩ (fun _ => h)
            · replace h := h.2 c10
              refine j_iconst (x := 1) dX10_noPit_11 rfl (i32_c rfl) ?_
              refine j_goto (tgt := 16) dX10_noPit_12 (by decide) ?_
              refine j_zret dX10_noPit_16 rfl ⟨Nat.le_of_ble_eq_true rfl, Nat.le_of_ble_eq_true rfl⟩ (by decide) ?_
              refine j_if_eq (tgt := 42) dX10_up_35 (by decide) (fun c => absurd c (by decide)) (fun _ => ?_)
              refine j_sipush (x := (-1003)) dX10_up_38 rfl (i32_c rfl) ?_
              exact j_iret dX10_up_41 rfl ⟨Nat.le_of_ble_eq_true rfl, Nat.le_of_ble_eq_true rfl⟩ (fun _ => h)
theorem E_X10_up {post : Int → ax_M → Prop} {M : ax_M} {x1 x2 : Int} (h : ax_mr SH M → (((x2 = (-1)) → (((x1 < 0) → post (-1002) M) ∧ ((0 ≤ x1) → (((7 < x1) → post (-1002) M) ∧ ((x1 ≤ 7) → (((¬ (M 6 2) = (-1)) → ax_Ti Y_X1_upFromAll [aR 49, aI x1] SH (ax_up (ax_up (ax_up M 49 5 (-1)) 49 6 (-1)) 49 7 (-1)) (fun z2 u1 => post z2 u1)) ∧ (((M 6 2) = (-1)) → post (-1003) M))))))) ∧ ((¬ x2 = (-1)) → (-2147483648 ≤ ((M 6 0) - 1) ∧ ((M 6 0) - 1) ≤ 2147483647) ∧ (((x2 < 0) → post (-1001) M) ∧ ((0 ≤ x2) → (((((M 6 0) - 1) < x2) → post (-1001) M) ∧ ((x2 ≤ ((M 6 0) - 1)) → (((x1 < 0) → post (-1002) M) ∧ ((0 ≤ x1) → (((7 < x1) → post (-1002) M) ∧ ((x1 ≤ 7) → (((¬ (M 6 2) = (-1)) → ax_Ti Y_X1_upFrom [aR 49, aI x2, aI x1] SH (ax_up (ax_up (ax_up M 49 5 (-1)) 49 6 (-1)) 49 7 (-1)) (fun z4 u3 => post z4 u3)) ∧ (((M 6 2) = (-1)) → post (-1003) M))))))))))))) : ax_Ti Y_X10_up [aR 0, aI x1, aI x2] SH M post :=
  ti_of rfl (Nat.le_of_ble_eq_true rfl) rfl (fun q => B_X10_up_0 (h q))
set_option maxRecDepth 100000 in
set_option maxHeartbeats 4000000 in
theorem B_X10_lent_0 {post : Int → ax_M → Prop} {M : ax_M} {x1 x2 : Int} (h : (-2147483648 ≤ ((M 8 1) - 1) ∧ ((M 8 1) - 1) ≤ 2147483647) ∧ (((x1 < 0) → post (-1001) M) ∧ ((0 ≤ x1) → (((((M 8 1) - 1) < x1) → post (-1001) M) ∧ ((x1 ≤ ((M 8 1) - 1)) → (-2147483648 ≤ ((M 6 0) - 1) ∧ ((M 6 0) - 1) ≤ 2147483647) ∧ (((x2 < 0) → post (-1001) M) ∧ ((0 ≤ x2) → (((((M 6 0) - 1) < x2) → post (-1001) M) ∧ ((x2 ≤ ((M 6 0) - 1)) → ax_Ti Y_X1_lend [aR 49, aI x1, aI x2] SH M (fun z2 u1 => post z2 u1)))))))))) : ax_J Y_X10_lent (ax_Ki Y_X10_lent SH post) 0 0 0 [(0, aR 0), (1, aI x1), (2, aI x2)] [] SH M := by
  refine j_aload_n 0 dX10_lent_0 rfl ?_
  refine j_iload_n 1 dX10_lent_1 rfl ?_
  refine j_calliV (Yc := Y_X10_isLamp) (as := [aI x1]) (rest := []) dX10_lent_2 q_X10_188 ⟨Nat.le_of_ble_eq_true rfl, Nat.le_of_ble_eq_true rfl, Nat.le_of_ble_eq_true rfl, Nat.le_of_ble_eq_true rfl⟩ sh_0 rfl (Nat.le_of_ble_eq_true rfl) rfl (ti_of (ll := [(0, aR 0), (1, aI x1)]) rfl (Nat.le_of_ble_eq_true rfl) rfl (fun _ => ?_))
  refine j_iload_n 1 dX10_isLamp_0 rfl ?_
  refine j_iconst (x := 0) dX10_isLamp_1 rfl (i32_c rfl) ?_
  refine j_aload_n 0 dX10_isLamp_2 rfl ?_
  refine j_getc 8 dX10_isLamp_3 f_X10_35 sh_0 rfl ?_
  refine j_geti (i := 1) dX10_isLamp_6 f_X10_150 sh_8 rfl rfl (fun _ => ?_)
  refine j_iconst (x := 1) dX10_isLamp_9 rfl (i32_c rfl) ?_
  obtain ⟨o1, h⟩ := h
  refine j_isub (z := ((M 8 1) - 1)) dX10_isLamp_10 rfl o1 ?_
  refine j_calliS (Yc := Y_X10_within) (as := [aI x1, aI 0, aI ((M 8 1) - 1)]) (rest := []) dX10_isLamp_11 q_X10_99 ⟨Nat.le_of_ble_eq_true rfl, Nat.le_of_ble_eq_true rfl, Nat.le_of_ble_eq_true rfl, Nat.le_of_ble_eq_true rfl⟩ rfl (Nat.le_of_ble_eq_true rfl) rfl (ti_of (ll := [(0, aI x1), (1, aI 0), (2, aI ((M 8 1) - 1))]) rfl (Nat.le_of_ble_eq_true rfl) rfl (fun _ => ?_))
  refine j_iload_n 0 dX10_within_0 rfl ?_
  refine j_iload_n 1 dX10_within_1 rfl ?_
  refine j_icmp_lt (tgt := 14) dX10_within_2 (by decide) (fun c2 => ?_) (fun c2 => ?_)
  · replace h := h.1 c2
    refine j_iconst (x := 0) dX10_within_14 rfl (i32_c rfl) ?_
    refine j_zret dX10_within_15 rfl ⟨Nat.le_of_ble_eq_true rfl, Nat.le_of_ble_eq_true rfl⟩ (by decide) ?_
    refine j_zret dX10_isLamp_14 rfl ⟨Nat.le_of_ble_eq_true rfl, Nat.le_of_ble_eq_true rfl⟩ (by decide) ?_
    refine j_if_eq (tgt := 16) dX10_lent_5 (by decide) (fun _ => ?_) (fun c => absurd c (by decide))
    refine j_sipush (x := (-1001)) dX10_lent_16 rfl (i32_c rfl) ?_
    exact j_iret dX10_lent_19 rfl ⟨Nat.le_of_ble_eq_true rfl, Nat.le_of_ble_eq_true rfl⟩ (fun _ => h)
  · replace h := h.2 c2
    refine j_iload_n 0 dX10_within_5 rfl ?_
    refine j_iload_n 2 dX10_within_6 rfl ?_
    refine j_icmp_gt (tgt := 14) dX10_within_7 (by decide) (fun c3 => ?_) (fun c3 => ?_)
    · replace h := h.1 c3
      refine j_iconst (x := 0) dX10_within_14 rfl (i32_c rfl) ?_
      refine j_zret dX10_within_15 rfl ⟨Nat.le_of_ble_eq_true rfl, Nat.le_of_ble_eq_true rfl⟩ (by decide) ?_
      refine j_zret dX10_isLamp_14 rfl ⟨Nat.le_of_ble_eq_true rfl, Nat.le_of_ble_eq_true rfl⟩ (by decide) ?_
      refine j_if_eq (tgt := 16) dX10_lent_5 (by decide) (fun _ => ?_) (fun c => absurd c (by decide))
      refine j_sipush (x := (-1001)) dX10_lent_16 rfl (i32_c rfl) ?_
      exact j_iret dX10_lent_19 rfl ⟨Nat.le_of_ble_eq_true rfl, Nat.le_of_ble_eq_true rfl⟩ (fun _ => h)
    · replace h := h.2 c3
      refine j_iconst (x := 1) dX10_within_10 rfl (i32_c rfl) ?_
      refine j_goto (tgt := 15) dX10_within_11 (by decide) ?_
      refine j_zret dX10_within_15 rfl ⟨Nat.le_of_ble_eq_true rfl, Nat.le_of_ble_eq_true rfl⟩ (by decide) ?_
      refine j_zret dX10_isLamp_14 rfl ⟨Nat.le_of_ble_eq_true rfl, Nat.le_of_ble_eq_true rfl⟩ (by decide) ?_
      refine j_if_eq (tgt := 16) dX10_lent_5 (by decide) (fun c => absurd c (by decide)) (fun _ => ?_)
      refine j_aload_n 0 dX10_lent_8 rfl ?_
      refine j_iload_n 2 dX10_lent_9 rfl ?_
      refine j_calliV (Yc := Y_X10_isPlace) (as := [aI x2]) (rest := []) dX10_lent_10 q_X10_162 ⟨Nat.le_of_ble_eq_true rfl, Nat.le_of_ble_eq_true rfl, Nat.le_of_ble_eq_true rfl, Nat.le_of_ble_eq_true rfl⟩ sh_0 rfl (Nat.le_of_ble_eq_true rfl) rfl (ti_of (ll := [(0, aR 0), (1, aI x2)]) rfl (Nat.le_of_ble_eq_true rfl) rfl (fun _ => ?_))
      refine j_iload_n 1 dX10_isPlace_0 rfl ?_
      refine j_iconst (x := 0) dX10_isPlace_1 rfl (i32_c rfl) ?_
      refine j_aload_n 0 dX10_isPlace_2 rfl ?_
      refine j_getc 6 dX10_isPlace_3 f_X10_28 sh_0 rfl ?_
      refine j_geti (i := 0) dX10_isPlace_6 f_X10_144 sh_6 rfl rfl (fun _ => ?_)
      refine j_iconst (x := 1) dX10_isPlace_9 rfl (i32_c rfl) ?_
      obtain ⟨o4, h⟩ := h
      refine j_isub (z := ((M 6 0) - 1)) dX10_isPlace_10 rfl o4 ?_
      refine j_calliS (Yc := Y_X10_within) (as := [aI x2, aI 0, aI ((M 6 0) - 1)]) (rest := []) dX10_isPlace_11 q_X10_99 ⟨Nat.le_of_ble_eq_true rfl, Nat.le_of_ble_eq_true rfl, Nat.le_of_ble_eq_true rfl, Nat.le_of_ble_eq_true rfl⟩ rfl (Nat.le_of_ble_eq_true rfl) rfl (ti_of (ll := [(0, aI x2), (1, aI 0), (2, aI ((M 6 0) - 1))]) rfl (Nat.le_of_ble_eq_true rfl) rfl (fun _ => ?_))
      refine j_iload_n 0 dX10_within_0 rfl ?_
      refine j_iload_n 1 dX10_within_1 rfl ?_
      refine j_icmp_lt (tgt := 14) dX10_within_2 (by decide) (fun c5 => ?_) (fun c5 => ?_)
      · replace h := h.1 c5
        refine j_iconst (x := 0) dX10_within_14 rfl (i32_c rfl) ?_
        refine j_zret dX10_within_15 rfl ⟨Nat.le_of_ble_eq_true rfl, Nat.le_of_ble_eq_true rfl⟩ (by decide) ?_
        refine j_zret dX10_isPlace_14 rfl ⟨Nat.le_of_ble_eq_true rfl, Nat.le_of_ble_eq_true rfl⟩ (by decide) ?_
        refine j_if_ne (tgt := 20) dX10_lent_13 (by decide) (fun c => absurd c (by decide)) (fun _ => ?_)
        refine j_sipush (x := (-1001)) dX10_lent_16 rfl (i32_c rfl) ?_
        exact j_iret dX10_lent_19 rfl ⟨Nat.le_of_ble_eq_true rfl, Nat.le_of_ble_eq_true rfl⟩ (fun _ => h)
      · replace h := h.2 c5
        refine j_iload_n 0 dX10_within_5 rfl ?_
        refine j_iload_n 2 dX10_within_6 rfl ?_
        refine j_icmp_gt (tgt := 14) dX10_within_7 (by decide) (fun c6 => ?_) (fun c6 => ?_)
        · replace h := h.1 c6
          refine j_iconst (x := 0) dX10_within_14 rfl (i32_c rfl) ?_
          refine j_zret dX10_within_15 rfl ⟨Nat.le_of_ble_eq_true rfl, Nat.le_of_ble_eq_true rfl⟩ (by decide) ?_
          refine j_zret dX10_isPlace_14 rfl ⟨Nat.le_of_ble_eq_true rfl, Nat.le_of_ble_eq_true rfl⟩ (by decide) ?_
          refine j_if_ne (tgt := 20) dX10_lent_13 (by decide) (fun c => absurd c (by decide)) (fun _ => ?_)
          refine j_sipush (x := (-1001)) dX10_lent_16 rfl (i32_c rfl) ?_
          exact j_iret dX10_lent_19 rfl ⟨Nat.le_of_ble_eq_true rfl, Nat.le_of_ble_eq_true rfl⟩ (fun _ => h)
        · replace h := h.2 c6
          refine j_iconst (x := 1) dX10_within_10 rfl (i32_c rfl) ?_
          refine j_goto (tgt := 15) dX10_within_11 (by decide) ?_
          refine j_zret dX10_within_15 rfl ⟨Nat.le_of_ble_eq_true rfl, Nat.le_of_ble_eq_true rfl⟩ (by decide) ?_
          refine j_zret dX10_isPlace_14 rfl ⟨Nat.le_of_ble_eq_true rfl, Nat.le_of_ble_eq_true rfl⟩ (by decide) ?_
          refine j_if_ne (tgt := 20) dX10_lent_13 (by decide) (fun _ => ?_) (fun c => absurd c (by decide))
          refine j_aload_n 0 dX10_lent_20 rfl ?_
          refine j_getc 49 dX10_lent_21 f_X10_75 sh_0 rfl ?_
          refine j_iload_n 1 dX10_lent_24 rfl ?_
          refine j_iload_n 2 dX10_lent_25 rfl ?_
          refine j_calliV (Yc := Y_X1_lend) (as := [aI x1, aI x2]) (rest := []) dX10_lent_26 q_X10_237 ⟨Nat.le_of_ble_eq_true rfl, Nat.le_of_ble_eq_true rfl, Nat.le_of_ble_eq_true rfl, Nat.le_of_ble_eq_true rfl⟩ sh_49 rfl (Nat.le_of_ble_eq_true rfl) rfl (ti_mono h (fun z2 u1 h => ?_))
          exact j_iret dX10_lent_29 rfl ⟨Nat.le_of_ble_eq_true rfl, Nat.le_of_ble_eq_true rfl⟩ (fun _ => h)
theorem E_X10_lent {post : Int → ax_M → Prop} {M : ax_M} {x1 x2 : Int} (h : ax_mr SH M → (-2147483648 ≤ ((M 8 1) - 1) ∧ ((M 8 1) - 1) ≤ 2147483647) ∧ (((x1 < 0) → post (-1001) M) ∧ ((0 ≤ x1) → (((((M 8 1) - 1) < x1) → post (-1001) M) ∧ ((x1 ≤ ((M 8 1) - 1)) → (-2147483648 ≤ ((M 6 0) - 1) ∧ ((M 6 0) - 1) ≤ 2147483647) ∧ (((x2 < 0) → post (-1001) M) ∧ ((0 ≤ x2) → (((((M 6 0) - 1) < x2) → post (-1001) M) ∧ ((x2 ≤ ((M 6 0) - 1)) → ax_Ti Y_X1_lend [aR 49, aI x1, aI x2] SH M (fun z2 u1 => post z2 u1)))))))))) : ax_Ti Y_X10_lent [aR 0, aI x1, aI x2] SH M post :=
  ti_of rfl (Nat.le_of_ble_eq_true rfl) rfl (fun q => B_X10_lent_0 (h q))
set_option maxRecDepth 100000 in
set_option maxHeartbeats 4000000 in
theorem B_X10_mark_0 {post : Int → ax_M → Prop} {M : ax_M} {x1 x2 x3 : Int} (h : (-2147483648 ≤ ((M 8 1) - 1) ∧ ((M 8 1) - 1) ≤ 2147483647) ∧ (((x1 < 0) → post (-1001) M) ∧ ((0 ≤ x1) → (((((M 8 1) - 1) < x1) → post (-1001) M) ∧ ((x1 ≤ ((M 8 1) - 1)) → (-2147483648 ≤ ((M 6 0) - 1) ∧ ((M 6 0) - 1) ≤ 2147483647) ∧ (((x2 < 0) → post (-1001) M) ∧ ((0 ≤ x2) → (((((M 6 0) - 1) < x2) → post (-1001) M) ∧ ((x2 ≤ ((M 6 0) - 1)) → (((x3 < 0) → post (-1002) M) ∧ ((0 ≤ x3) → (((7 < x3) → post (-1002) M) ∧ ((x3 ≤ 7) → ax_Ti Y_X1_upFromAll [aR 49, aI x3] SH (ax_up (ax_up (ax_up M 49 5 (-1)) 49 6 (-1)) 49 7 (-1)) (fun z2 u1 => (0 ≤ x1 ∧ x1 < 4) ∧ ax_Ti Y_X1_upFromAll [aR 49, aI x3] SH (ax_up (ax_up (ax_up u1 49 5 x1) 49 6 x2) 49 7 (u1 13 x1)) (fun z4 u3 => (-2147483648 ≤ (100 + z4) ∧ (100 + z4) ≤ 2147483647) ∧ (-2147483648 ≤ ((100 + z4) - z2) ∧ ((100 + z4) - z2) ≤ 2147483647) ∧ post ((100 + z4) - z2) u3))))))))))))))) : ax_J Y_X10_mark (ax_Ki Y_X10_mark SH post) 0 0 0 [(0, aR 0), (1, aI x1), (2, aI x2), (3, aI x3)] [] SH M := by
  refine j_aload_n 0 dX10_mark_0 rfl ?_
  refine j_iload_n 1 dX10_mark_1 rfl ?_
  refine j_calliV (Yc := Y_X10_isLamp) (as := [aI x1]) (rest := []) dX10_mark_2 q_X10_188 ⟨Nat.le_of_ble_eq_true rfl, Nat.le_of_ble_eq_true rfl, Nat.le_of_ble_eq_true rfl, Nat.le_of_ble_eq_true rfl⟩ sh_0 rfl (Nat.le_of_ble_eq_true rfl) rfl (ti_of (ll := [(0, aR 0), (1, aI x1)]) rfl (Nat.le_of_ble_eq_true rfl) rfl (fun _ => ?_))
  refine j_iload_n 1 dX10_isLamp_0 rfl ?_
  refine j_iconst (x := 0) dX10_isLamp_1 rfl (i32_c rfl) ?_
  refine j_aload_n 0 dX10_isLamp_2 rfl ?_
  refine j_getc 8 dX10_isLamp_3 f_X10_35 sh_0 rfl ?_
  refine j_geti (i := 1) dX10_isLamp_6 f_X10_150 sh_8 rfl rfl (fun _ => ?_)
  refine j_iconst (x := 1) dX10_isLamp_9 rfl (i32_c rfl) ?_
  obtain ⟨o1, h⟩ := h
  refine j_isub (z := ((M 8 1) - 1)) dX10_isLamp_10 rfl o1 ?_
  refine j_calliS (Yc := Y_X10_within) (as := [aI x1, aI 0, aI ((M 8 1) - 1)]) (rest := []) dX10_isLamp_11 q_X10_99 ⟨Nat.le_of_ble_eq_true rfl, Nat.le_of_ble_eq_true rfl, Nat.le_of_ble_eq_true rfl, Nat.le_of_ble_eq_true rfl⟩ rfl (Nat.le_of_ble_eq_true rfl) rfl (ti_of (ll := [(0, aI x1), (1, aI 0), (2, aI ((M 8 1) - 1))]) rfl (Nat.le_of_ble_eq_true rfl) rfl (fun _ => ?_))
  refine j_iload_n 0 dX10_within_0 rfl ?_
  refine j_iload_n 1 dX10_within_1 rfl ?_
  refine j_icmp_lt (tgt := 14) dX10_within_2 (by decide) (fun c2 => ?_) (fun c2 => ?_)
  · replace h := h.1 c2
    refine j_iconst (x := 0) dX10_within_14 rfl (i32_c rfl) ?_
    refine j_zret dX10_within_15 rfl ⟨Nat.le_of_ble_eq_true rfl, Nat.le_of_ble_eq_true rfl⟩ (by decide) ?_
    refine j_zret dX10_isLamp_14 rfl ⟨Nat.le_of_ble_eq_true rfl, Nat.le_of_ble_eq_true rfl⟩ (by decide) ?_
    refine j_if_eq (tgt := 16) dX10_mark_5 (by decide) (fun _ => ?_) (fun c => absurd c (by decide))
    refine j_sipush (x := (-1001)) dX10_mark_16 rfl (i32_c rfl) ?_
    exact j_iret dX10_mark_19 rfl ⟨Nat.le_of_ble_eq_true rfl, Nat.le_of_ble_eq_true rfl⟩ (fun _ => h)
  · replace h := h.2 c2
    refine j_iload_n 0 dX10_within_5 rfl ?_
    refine j_iload_n 2 dX10_within_6 rfl ?_
    refine j_icmp_gt (tgt := 14) dX10_within_7 (by decide) (fun c3 => ?_) (fun c3 => ?_)
    · replace h := h.1 c3
      refine j_iconst (x := 0) dX10_within_14 rfl (i32_c rfl) ?_
      refine j_zret dX10_within_15 rfl ⟨Nat.le_of_ble_eq_true rfl, Nat.le_of_ble_eq_true rfl⟩ (by decide) ?_
      refine j_zret dX10_isLamp_14 rfl ⟨Nat.le_of_ble_eq_true rfl, Nat.le_of_ble_eq_true rfl⟩ (by decide) ?_
      refine j_if_eq (tgt := 16) dX10_mark_5 (by decide) (fun _ => ?_) (fun c => absurd c (by decide))
      refine j_sipush (x := (-1001)) dX10_mark_16 rfl (i32_c rfl) ?_
      exact j_iret dX10_mark_19 rfl ⟨Nat.le_of_ble_eq_true rfl, Nat.le_of_ble_eq_true rfl⟩ (fun _ => h)
    · replace h := h.2 c3
      refine j_iconst (x := 1) dX10_within_10 rfl (i32_c rfl) ?_
      refine j_goto (tgt := 15) dX10_within_11 (by decide) ?_
      refine j_zret dX10_within_15 rfl ⟨Nat.le_of_ble_eq_true rfl, Nat.le_of_ble_eq_true rfl⟩ (by decide) ?_
      refine j_zret dX10_isLamp_14 rfl ⟨Nat.le_of_ble_eq_true rfl, Nat.le_of_ble_eq_true rfl⟩ (by decide) ?_
      refine j_if_eq (tgt := 16) dX10_mark_5 (by decide) (fun c => absurd c (by decide)) (fun _ => ?_)
      refine j_aload_n 0 dX10_mark_8 rfl ?_
      refine j_iload_n 2 dX10_mark_9 rfl ?_
      refine j_calliV (Yc := Y_X10_isPlace) (as := [aI x2]) (rest := []) dX10_mark_10 q_X10_162 ⟨Nat.le_of_ble_eq_true rfl, Nat.le_of_ble_eq_true rfl, Nat.le_of_ble_eq_true rfl, Nat.le_of_ble_eq_true rfl⟩ sh_0 rfl (Nat.le_of_ble_eq_true rfl) rfl (ti_of (ll := [(0, aR 0), (1, aI x2)]) rfl (Nat.le_of_ble_eq_true rfl) rfl (fun _ => ?_))
      refine j_iload_n 1 dX10_isPlace_0 rfl ?_
      refine j_iconst (x := 0) dX10_isPlace_1 rfl (i32_c rfl) ?_
      refine j_aload_n 0 dX10_isPlace_2 rfl ?_
      refine j_getc 6 dX10_isPlace_3 f_X10_28 sh_0 rfl ?_
      refine j_geti (i := 0) dX10_isPlace_6 f_X10_144 sh_6 rfl rfl (fun _ => ?_)
      refine j_iconst (x := 1) dX10_isPlace_9 rfl (i32_c rfl) ?_
      obtain ⟨o4, h⟩ := h
      refine j_isub (z := ((M 6 0) - 1)) dX10_isPlace_10 rfl o4 ?_
      refine j_calliS (Yc := Y_X10_within) (as := [aI x2, aI 0, aI ((M 6 0) - 1)]) (rest := []) dX10_isPlace_11 q_X10_99 ⟨Nat.le_of_ble_eq_true rfl, Nat.le_of_ble_eq_true rfl, Nat.le_of_ble_eq_true rfl, Nat.le_of_ble_eq_true rfl⟩ rfl (Nat.le_of_ble_eq_true rfl) rfl (ti_of (ll := [(0, aI x2), (1, aI 0), (2, aI ((M 6 0) - 1))]) rfl (Nat.le_of_ble_eq_true rfl) rfl (fun _ => ?_))
      refine j_iload_n 0 dX10_within_0 rfl ?_
      refine j_iload_n 1 dX10_within_1 rfl ?_
      refine j_icmp_lt (tgt := 14) dX10_within_2 (by decide) (fun c5 => ?_) (fun c5 => ?_)
      · replace h := h.1 c5
        refine j_iconst (x := 0) dX10_within_14 rfl (i32_c rfl) ?_
        refine j_zret dX10_within_15 rfl ⟨Nat.le_of_ble_eq_true rfl, Nat.le_of_ble_eq_true rfl⟩ (by decide) ?_
        refine j_zret dX10_isPlace_14 rfl ⟨Nat.le_of_ble_eq_true rfl, Nat.le_of_ble_eq_true rfl⟩ (by decide) ?_
        refine j_if_ne (tgt := 20) dX10_mark_13 (by decide) (fun c => absurd c (by decide)) (fun _ => ?_)
        refine j_sipush (x := (-1001)) dX10_mark_16 rfl (i32_c rfl) ?_
        exact j_iret dX10_mark_19 rfl ⟨Nat.le_of_ble_eq_true rfl, Nat.le_of_ble_eq_true rfl⟩ (fun _ => h)
      · replace h := h.2 c5
        refine j_iload_n 0 dX10_within_5 rfl ?_
        refine j_iload_n 2 dX10_within_6 rfl ?_
        refine j_icmp_gt (tgt := 14) dX10_within_7 (by decide) (fun c6 => ?_) (fun c6 => ?_)
        · replace h := h.1 c6
          refine j_iconst (x := 0) dX10_within_14 rfl (i32_c rfl) ?_
          refine j_zret dX10_within_15 rfl ⟨Nat.le_of_ble_eq_true rfl, Nat.le_of_ble_eq_true rfl⟩ (by decide) ?_
          refine j_zret dX10_isPlace_14 rfl ⟨Nat.le_of_ble_eq_true rfl, Nat.le_of_ble_eq_true rfl⟩ (by decide) ?_
          refine j_if_ne (tgt := 20) dX10_mark_13 (by decide) (fun c => absurd c (by decide)) (fun _ => ?_)
          refine j_sipush (x := (-1001)) dX10_mark_16 rfl (i32_c rfl) ?_
          exact j_iret dX10_mark_19 rfl ⟨Nat.le_of_ble_eq_true rfl, Nat.le_of_ble_eq_true rfl⟩ (fun _ => h)
        · replace h := h.2 c6
          refine j_iconst (x := 1) dX10_within_10 rfl (i32_c rfl) ?_
          refine j_goto (tgt := 15) dX10_within_11 (by decide) ?_
          refine j_zret dX10_within_15 rfl ⟨Nat.le_of_ble_eq_true rfl, Nat.le_of_ble_eq_true rfl⟩ (by decide) ?_
          refine j_zret dX10_isPlace_14 rfl ⟨Nat.le_of_ble_eq_true rfl, Nat.le_of_ble_eq_true rfl⟩ (by decide) ?_
          refine j_if_ne (tgt := 20) dX10_mark_13 (by decide) (fun _ => ?_) (fun c => absurd c (by decide))
          refine j_iload_n 3 dX10_mark_20 rfl ?_
          refine j_iconst (x := 0) dX10_mark_21 rfl (i32_c rfl) ?_
          refine j_bipush (x := 7) dX10_mark_22 rfl (i32_c rfl) ?_
          refine j_calliS (Yc := Y_X10_within) (as := [aI x3, aI 0, aI 7]) (rest := []) dX10_mark_24 q_X10_99 ⟨Nat.le_of_ble_eq_true rfl, Nat.le_of_ble_eq_true rfl, Nat.le_of_ble_eq_true rfl, Nat.le_of_ble_eq_true rfl⟩ rfl (Nat.le_of_ble_eq_true rfl) rfl (ti_of (ll := [(0, aI x3), (1, aI 0), (2, aI 7)]) rfl (Nat.le_of_ble_eq_true rfl) rfl (fun _ => ?_))
          refine j_iload_n 0 dX10_within_0 rfl ?_
          refine j_iload_n 1 dX10_within_1 rfl ?_
          refine j_icmp_lt (tgt := 14) dX10_within_2 (by decide) (fun c7 => ?_) (fun c7 => ?_)
          · replace h := h.1 c7
            refine j_iconst (x := 0) dX10_within_14 rfl (i32_c rfl) ?_
            refine j_zret dX10_within_15 rfl ⟨Nat.le_of_ble_eq_true rfl, Nat.le_of_ble_eq_true rfl⟩ (by decide) ?_
            refine j_if_ne (tgt := 34) dX10_mark_27 (by decide) (fun c => absurd c (by decide)) (fun _ => ?_)
            refine j_sipush (x := (-1002)) dX10_mark_30 rfl (i32_c rfl) ?_
            exact j_iret dX10_mark_33 rfl ⟨Nat.le_of_ble_eq_true rfl, Nat.le_of_ble_eq_true rfl⟩ (fun _ => h)
          · replace h := h.2 c7
            refine j_iload_n 0 dX10_within_5 rfl ?_
            refine j_iload_n 2 dX10_within_6 rfl ?_
            refine j_icmp_gt (tgt := 14) dX10_within_7 (by decide) (fun c8 => ?_) (fun c8 => ?_)
            · replace h := h.1 c8
              refine j_iconst (x := 0) dX10_within_14 rfl (i32_c rfl) ?_
              refine j_zret dX10_within_15 rfl ⟨Nat.le_of_ble_eq_true rfl, Nat.le_of_ble_eq_true rfl⟩ (by decide) ?_
              refine j_if_ne (tgt := 34) dX10_mark_27 (by decide) (fun c => absurd c (by decide)) (fun _ => ?_)
              refine j_sipush (x := (-1002)) dX10_mark_30 rfl (i32_c rfl) ?_
              exact j_iret dX10_mark_33 rfl ⟨Nat.le_of_ble_eq_true rfl, Nat.le_of_ble_eq_true rfl⟩ (fun _ => h)
            · replace h := h.2 c8
              refine j_iconst (x := 1) dX10_within_10 rfl (i32_c rfl) ?_
              refine j_goto (tgt := 15) dX10_within_11 (by decide) ?_
              refine j_zret dX10_within_15 rfl ⟨Nat.le_of_ble_eq_true rfl, Nat.le_of_ble_eq_true rfl⟩ (by decide) ?_
              refine j_if_ne (tgt := 34) dX10_mark_27 (by decide) (fun _ => ?_) (fun c => absurd c (by decide))
              refine j_aload_n 0 dX10_mark_34 rfl ?_
              refine j_getc 49 dX10_mark_35 f_X10_75 sh_0 rfl ?_
              refine j_callvV (Yc := Y_X1_noMark) (as := []) (rest := []) dX10_mark_38 q_X10_228 ⟨Nat.le_of_ble_eq_true rfl, Nat.le_of_ble_eq_true rfl, Nat.le_of_ble_eq_true rfl, Nat.le_of_ble_eq_true rfl⟩ sh_49 rfl (Nat.le_of_ble_eq_true rfl) rfl (tv_of (ll := [(0, aR 49)]) rfl (Nat.le_of_ble_eq_true rfl) rfl (fun _ => ?_))
              refine j_aload_n 0 dX1_noMark_0 rfl ?_
              refine j_iconst (x := (-1)) dX1_noMark_1 rfl (i32_c rfl) ?_
              refine j_puti (i := 5) dX1_noMark_2 p_X1_15 (fun h => by cases h) sh_49 rfl rfl ?_
              refine j_aload_n 0 dX1_noMark_5 rfl ?_
              refine j_iconst (x := (-1)) dX1_noMark_6 rfl (i32_c rfl) ?_
              refine j_puti (i := 6) dX1_noMark_7 p_X1_19 (fun h => by cases h) sh_49 rfl rfl ?_
              refine j_aload_n 0 dX1_noMark_10 rfl ?_
              refine j_iconst (x := (-1)) dX1_noMark_11 rfl (i32_c rfl) ?_
              refine j_puti (i := 7) dX1_noMark_12 p_X1_22 (fun h => by cases h) sh_49 rfl rfl ?_
              refine j_vret dX1_noMark_15 rfl ⟨Nat.le_of_ble_eq_true rfl, Nat.le_of_ble_eq_true rfl⟩ ?_
              refine j_aload_n 0 dX10_mark_41 rfl ?_
              refine j_getc 49 dX10_mark_42 f_X10_75 sh_0 rfl ?_
              refine j_iload_n 3 dX10_mark_45 rfl ?_
              refine j_calliV (Yc := Y_X1_upFromAll) (as := [aI x3]) (rest := []) dX10_mark_46 q_X10_231 ⟨Nat.le_of_ble_eq_true rfl, Nat.le_of_ble_eq_true rfl, Nat.le_of_ble_eq_true rfl, Nat.le_of_ble_eq_true rfl⟩ sh_49 rfl (Nat.le_of_ble_eq_true rfl) rfl (ti_mono h (fun z2 u1 h => ?_))
              refine j_istore (ll' := [(4, aI z2), (0, aR 0), (1, aI x1), (2, aI x2), (3, aI x3)]) dX10_mark_49 (Nat.le_of_ble_eq_true rfl) rfl ?_
              refine j_aload_n 1 dX10_mark_51 rfl ?_
              refine j_getc 49 dX10_mark_52 f_X10_75 sh_0 rfl ?_
              refine j_iload_n 2 dX10_mark_55 rfl ?_
              refine j_iload_n 3 dX10_mark_56 rfl ?_
              refine j_callvV (Yc := Y_X1_leaveMark) (as := [aI x1, aI x2]) (rest := []) dX10_mark_57 q_X10_240 ⟨Nat.le_of_ble_eq_true rfl, Nat.le_of_ble_eq_true rfl, Nat.le_of_ble_eq_true rfl, Nat.le_of_ble_eq_true rfl⟩ sh_49 rfl (Nat.le_of_ble_eq_true rfl) rfl (tv_of (ll := [(0, aR 49), (1, aI x1), (2, aI x2)]) rfl (Nat.le_of_ble_eq_true rfl) rfl (fun _ => ?_))
              refine j_aload_n 0 dX1_leaveMark_0 rfl ?_
              refine j_iload_n 1 dX1_leaveMark_1 rfl ?_
              refine j_puti (i := 5) dX1_leaveMark_2 p_X1_15 (fun h => by cases h) sh_49 rfl rfl ?_
              refine j_aload_n 0 dX1_leaveMark_5 rfl ?_
              refine j_iload_n 2 dX1_leaveMark_6 rfl ?_
              refine j_puti (i := 6) dX1_leaveMark_7 p_X1_19 (fun h => by cases h) sh_49 rfl rfl ?_
              refine j_aload_n 0 dX1_leaveMark_10 rfl ?_
              refine j_aload_n 0 dX1_leaveMark_11 rfl ?_
              refine j_getc 8 dX1_leaveMark_12 f_X1_29 sh_49 rfl ?_
              refine j_getc 13 dX1_leaveMark_15 f_X1_37 sh_8 rfl ?_
              refine j_iload_n 1 dX1_leaveMark_18 rfl ?_
              obtain ⟨o9, h⟩ := h
              refine j_iald dX1_leaveMark_19 sh_13 o9.1 o9.2 (fun _ => ?_)
              refine j_puti (i := 7) dX1_leaveMark_20 p_X1_22 (fun h => by cases h) sh_49 rfl rfl ?_
              refine j_vret dX1_leaveMark_23 rfl ⟨Nat.le_of_ble_eq_true rfl, Nat.le_of_ble_eq_true rfl⟩ ?_
              refine j_bipush (x := 100) dX10_mark_60 rfl (i32_c rfl) ?_
              refine j_aload_n 1 dX10_mark_62 rfl ?_
              refine j_getc 49 dX10_mark_63 f_X10_75 sh_0 rfl ?_
              refine j_iload_n 4 dX10_mark_66 rfl ?_
              refine j_calliV (Yc := Y_X1_upFromAll) (as := [aI x3]) (rest := [aI 100]) dX10_mark_67 q_X10_231 ⟨Nat.le_of_ble_eq_true rfl, Nat.le_of_ble_eq_true rfl, Nat.le_of_ble_eq_true rfl, Nat.le_of_ble_eq_true rfl⟩ sh_49 rfl (Nat.le_of_ble_eq_true rfl) rfl (ti_mono h (fun z4 u3 h => ?_))
              obtain ⟨o10, h⟩ := h
              refine j_iadd (z := (100 + z4)) dX10_mark_70 rfl o10 ?_
              refine j_iload 0 dX10_mark_71 rfl ?_
              obtain ⟨o11, h⟩ := h
              refine j_isub (z := ((100 + z4) - z2)) dX10_mark_73 rfl o11 ?_
              exact j_iret dX10_mark_74 rfl ⟨Nat.le_of_ble_eq_true rfl, Nat.le_of_ble_eq_true rfl⟩ (fun _ => h)
theorem E_X10_mark {post : Int → ax_M → Prop} {M : ax_M} {x1 x2 x3 : Int} (h : ax_mr SH M → (-2147483648 ≤ ((M 8 1) - 1) ∧ ((M 8 1) - 1) ≤ 2147483647) ∧ (((x1 < 0) → post (-1001) M) ∧ ((0 ≤ x1) → (((((M 8 1) - 1) < x1) → post (-1001) M) ∧ ((x1 ≤ ((M 8 1) - 1)) → (-2147483648 ≤ ((M 6 0) - 1) ∧ ((M 6 0) - 1) ≤ 2147483647) ∧ (((x2 < 0) → post (-1001) M) ∧ ((0 ≤ x2) → (((((M 6 0) - 1) < x2) → post (-1001) M) ∧ ((x2 ≤ ((M 6 0) - 1)) → (((x3 < 0) → post (-1002) M) ∧ ((0 ≤ x3) → (((7 < x3) → post (-1002) M) ∧ ((x3 ≤ 7) → ax_Ti Y_X1_upFromAll [aR 49, aI x3] SH (ax_up (ax_up (ax_up M 49 5 (-1)) 49 6 (-1)) 49 7 (-1)) (fun z2 u1 => (0 ≤ x1 ∧ x1 < 4) ∧ ax_Ti Y_X1_upFromAll [aR 49, aI x3] SH (ax_up (ax_up (ax_up u1 49 5 x1) 49 6 x2) 49 7 (u1 13 x1)) (fun z4 u3 => (-2147483648 ≤ (100 + z4) ∧ (100 + z4) ≤ 2147483647) ∧ (-2147483648 ≤ ((100 + z4) - z2) ∧ ((100 + z4) - z2) ≤ 2147483647) ∧ post ((100 + z4) - z2) u3))))))))))))))) : ax_Ti Y_X10_mark [aR 0, aI x1, aI x2, aI x3] SH M post :=
  ti_of rfl (Nat.le_of_ble_eq_true rfl) rfl (fun q => B_X10_mark_0 (h q))
set_option maxRecDepth 100000 in
set_option maxHeartbeats 4000000 in
theorem B_X10_tells_0 {post : Int → ax_M → Prop} {M : ax_M} {x1 x2 x3 x4 : Int} (h : (-2147483648 ≤ ((M 8 0) - 1) ∧ ((M 8 0) - 1) ≤ 2147483647) ∧ (((x1 < 0) → post (-1001) M) ∧ ((0 ≤ x1) → (((((M 8 0) - 1) < x1) → post (-1001) M) ∧ ((x1 ≤ ((M 8 0) - 1)) → ax_Ti Y_X0_untoldPlaces [aR 8] SH M (fun z2 u1 => ((((bo_and x4 (bo_xor z2 (-1))) = 0) → (((x3 < 0) → post (-1002) u1) ∧ ((0 ≤ x3) → (((99 < x3) → post (-1002) u1) ∧ ((x3 ≤ 99) → (((x2 < (-1)) → post (-1002) u1) ∧ (((-1) ≤ x2) → (((99 < x2) → post (-1002) u1) ∧ ((x2 ≤ 99) → ax_Ti Y_X10_canTell [aR 0, aI x1] SH u1 (fun z4 u3 => (((¬ z4 = 0) → ax_Tv Y_X7_findStops [aR 51] SH u3 (fun u5 => ax_Ti Y_X7_stopsOf [aR 51, aI x4] SH u5 (fun z7 u6 => ax_Tv Y_X7_weigh [aR 51, aR 56, aI x1, aI x2, aI x3, aI z7] SH u6 (fun u8 => (0 ≤ z7 ∧ z7 < 64) ∧ post (u8 56 z7) u8)))) ∧ ((z4 = 0) → post (-1003) u3)))))))))))) ∧ ((¬ (bo_and x4 (bo_xor z2 (-1))) = 0) → post (-1001) u1)))))))) : ax_J Y_X10_tells (ax_Ki Y_X10_tells SH post) 0 0 0 [(0, aR 0), (1, aI x1), (2, aI x2), (3, aI x3), (4, aI x4)] [] SH M := by
  refine j_aload_n 0 dX10_tells_0 rfl ?_
  refine j_iload_n 1 dX10_tells_1 rfl ?_
  refine j_calliV (Yc := Y_X10_isMan) (as := [aI x1]) (rest := []) dX10_tells_2 q_X10_175 ⟨Nat.le_of_ble_eq_true rfl, Nat.le_of_ble_eq_true rfl, Nat.le_of_ble_eq_true rfl, Nat.le_of_ble_eq_true rfl⟩ sh_0 rfl (Nat.le_of_ble_eq_true rfl) rfl (ti_of (ll := [(0, aR 0), (1, aI x1)]) rfl (Nat.le_of_ble_eq_true rfl) rfl (fun _ => ?_))
  refine j_iload_n 1 dX10_isMan_0 rfl ?_
  refine j_iconst (x := 0) dX10_isMan_1 rfl (i32_c rfl) ?_
  refine j_aload_n 0 dX10_isMan_2 rfl ?_
  refine j_getc 8 dX10_isMan_3 f_X10_35 sh_0 rfl ?_
  refine j_geti (i := 0) dX10_isMan_6 f_X10_147 sh_8 rfl rfl (fun _ => ?_)
  refine j_iconst (x := 1) dX10_isMan_9 rfl (i32_c rfl) ?_
  obtain ⟨o1, h⟩ := h
  refine j_isub (z := ((M 8 0) - 1)) dX10_isMan_10 rfl o1 ?_
  refine j_calliS (Yc := Y_X10_within) (as := [aI x1, aI 0, aI ((M 8 0) - 1)]) (rest := []) dX10_isMan_11 q_X10_99 ⟨Nat.le_of_ble_eq_true rfl, Nat.le_of_ble_eq_true rfl, Nat.le_of_ble_eq_true rfl, Nat.le_of_ble_eq_true rfl⟩ rfl (Nat.le_of_ble_eq_true rfl) rfl (ti_of (ll := [(0, aI x1), (1, aI 0), (2, aI ((M 8 0) - 1))]) rfl (Nat.le_of_ble_eq_true rfl) rfl (fun _ => ?_))
  refine j_iload_n 0 dX10_within_0 rfl ?_
  refine j_iload_n 1 dX10_within_1 rfl ?_
  refine j_icmp_lt (tgt := 14) dX10_within_2 (by decide) (fun c2 => ?_) (fun c2 => ?_)
  · replace h := h.1 c2
    refine j_iconst (x := 0) dX10_within_14 rfl (i32_c rfl) ?_
    refine j_zret dX10_within_15 rfl ⟨Nat.le_of_ble_eq_true rfl, Nat.le_of_ble_eq_true rfl⟩ (by decide) ?_
    refine j_zret dX10_isMan_14 rfl ⟨Nat.le_of_ble_eq_true rfl, Nat.le_of_ble_eq_true rfl⟩ (by decide) ?_
    refine j_if_eq (tgt := 23) dX10_tells_5 (by decide) (fun _ => ?_) (fun c => absurd c (by decide))
    refine j_sipush (x := (-1001)) dX10_tells_23 rfl (i32_c rfl) ?_
    exact j_iret dX10_tells_26 rfl ⟨Nat.le_of_ble_eq_true rfl, Nat.le_of_ble_eq_true rfl⟩ (fun _ => h)
  · replace h := h.2 c2
    refine j_iload_n 0 dX10_within_5 rfl ?_
    refine j_iload_n 2 dX10_within_6 rfl ?_
    refine j_icmp_gt (tgt := 14) dX10_within_7 (by decide) (fun c3 => ?_) (fun c3 => ?_)
    · replace h := h.1 c3
      refine j_iconst (x := 0) dX10_within_14 rfl (i32_c rfl) ?_
      refine j_zret dX10_within_15 rfl ⟨Nat.le_of_ble_eq_true rfl, Nat.le_of_ble_eq_true rfl⟩ (by decide) ?_
      refine j_zret dX10_isMan_14 rfl ⟨Nat.le_of_ble_eq_true rfl, Nat.le_of_ble_eq_true rfl⟩ (by decide) ?_
      refine j_if_eq (tgt := 23) dX10_tells_5 (by decide) (fun _ => ?_) (fun c => absurd c (by decide))
      refine j_sipush (x := (-1001)) dX10_tells_23 rfl (i32_c rfl) ?_
      exact j_iret dX10_tells_26 rfl ⟨Nat.le_of_ble_eq_true rfl, Nat.le_of_ble_eq_true rfl⟩ (fun _ => h)
    · replace h := h.2 c3
      refine j_iconst (x := 1) dX10_within_10 rfl (i32_c rfl) ?_
      refine j_goto (tgt := 15) dX10_within_11 (by decide) ?_
      refine j_zret dX10_within_15 rfl ⟨Nat.le_of_ble_eq_true rfl, Nat.le_of_ble_eq_true rfl⟩ (by decide) ?_
      refine j_zret dX10_isMan_14 rfl ⟨Nat.le_of_ble_eq_true rfl, Nat.le_of_ble_eq_true rfl⟩ (by decide) ?_
      refine j_if_eq (tgt := 23) dX10_tells_5 (by decide) (fun c => absurd c (by decide)) (fun _ => ?_)
      refine j_iload 4 dX10_tells_8 rfl ?_
      refine j_aload_n 0 dX10_tells_10 rfl ?_
      refine j_getc 8 dX10_tells_11 f_X10_35 sh_0 rfl ?_
      refine j_calliV (Yc := Y_X0_untoldPlaces) (as := []) (rest := [aI x4]) dX10_tells_14 q_X10_243 ⟨Nat.le_of_ble_eq_true rfl, Nat.le_of_ble_eq_true rfl, Nat.le_of_ble_eq_true rfl, Nat.le_of_ble_eq_true rfl⟩ sh_8 rfl (Nat.le_of_ble_eq_true rfl) rfl (ti_mono h (fun z2 u1 h => ?_))
      refine j_iconst (x := (-1)) dX10_tells_17 rfl (i32_c rfl) ?_
      refine j_ixor (z := (bo_xor z2 (-1))) dX10_tells_18 rfl ?_
      refine j_iand (z := (bo_and x4 (bo_xor z2 (-1)))) dX10_tells_19 rfl ?_
      refine j_if_eq (tgt := 27) dX10_tells_20 (by decide) (fun c4 => ?_) (fun c4 => ?_)
      · replace h := h.1 c4
        refine j_iload_n 3 dX10_tells_27 rfl ?_
        refine j_calliS (Yc := Y_X10_isMinute) (as := [aI x3]) (rest := []) dX10_tells_28 q_X10_169 ⟨Nat.le_of_ble_eq_true rfl, Nat.le_of_ble_eq_true rfl, Nat.le_of_ble_eq_true rfl, Nat.le_of_ble_eq_true rfl⟩ rfl (Nat.le_of_ble_eq_true rfl) rfl (ti_of (ll := [(0, aI x3)]) rfl (Nat.le_of_ble_eq_true rfl) rfl (fun _ => ?_))
        refine j_iload_n 0 dX10_isMinute_0 rfl ?_
        refine j_iconst (x := 0) dX10_isMinute_1 rfl (i32_c rfl) ?_
        refine j_bipush (x := 99) dX10_isMinute_2 rfl (i32_c rfl) ?_
        refine j_calliS (Yc := Y_X10_within) (as := [aI x3, aI 0, aI 99]) (rest := []) dX10_isMinute_4 q_X10_99 ⟨Nat.le_of_ble_eq_true rfl, Nat.le_of_ble_eq_true rfl, Nat.le_of_ble_eq_true rfl, Nat.le_of_ble_eq_true rfl⟩ rfl (Nat.le_of_ble_eq_true rfl) rfl (ti_of (ll := [(0, aI x3), (1, aI 0), (2, aI 99)]) rfl (Nat.le_of_ble_eq_true rfl) rfl (fun _ => ?_))
        refine j_iload_n 0 dX10_within_0 rfl ?_
        refine j_iload_n 1 dX10_within_1 rfl ?_
        refine j_icmp_lt (tgt := 14) dX10_within_2 (by decide) (fun c5 => ?_) (fun c5 => ?_)
        · replace h := h.1 c5
          refine j_iconst (x := 0) dX10_within_14 rfl (i32_c rfl) ?_
          refine j_zret dX10_within_15 rfl ⟨Nat.le_of_ble_eq_true rfl, Nat.le_of_ble_eq_true rfl⟩ (by decide) ?_
          refine j_zret dX10_isMinute_7 rfl ⟨Nat.le_of_ble_eq_true rfl, Nat.le_of_ble_eq_true rfl⟩ (by decide) ?_
          refine j_if_eq (tgt := 41) dX10_tells_31 (by decide) (fun _ => ?_) (fun c => absurd c (by decide))
          refine j_sipush (x := (-1002)) dX10_tells_41 rfl (i32_c rfl) ?_
          exact j_iret dX10_tells_44 rfl ⟨Nat.le_of_ble_eq_true rfl, Nat.le_of_ble_eq_true rfl⟩ (fun _ => h)
        · replace h := h.2 c5
          refine j_iload_n 0 dX10_within_5 rfl ?_
          refine j_iload_n 2 dX10_within_6 rfl ?_
          refine j_icmp_gt (tgt := 14) dX10_within_7 (by decide) (fun c6 => ?_) (fun c6 => ?_)
          · replace h := h.1 c6
            refine j_iconst (x := 0) dX10_within_14 rfl (i32_c rfl) ?_
            refine j_zret dX10_within_15 rfl ⟨Nat.le_of_ble_eq_true rfl, Nat.le_of_ble_eq_true rfl⟩ (by decide) ?_
            refine j_zret dX10_isMinute_7 rfl ⟨Nat.le_of_ble_eq_true rfl, Nat.le_of_ble_eq_true rfl⟩ (by decide) ?_
            refine j_if_eq (tgt := 41) dX10_tells_31 (by decide) (fun _ => ?_) (fun c => absurd c (by decide))
            refine j_sipush (x := (-1002)) dX10_tells_41 rfl (i32_c rfl) ?_
            exact j_iret dX10_tells_44 rfl ⟨Nat.le_of_ble_eq_true rfl, Nat.le_of_ble_eq_true rfl⟩ (fun _ => h)
          · replace h := h.2 c6
            refine j_iconst (x := 1) dX10_within_10 rfl (i32_c rfl) ?_
            refine j_goto (tgt := 15) dX10_within_11 (by decide) ?_
            refine j_zret dX10_within_15 rfl ⟨Nat.le_of_ble_eq_true rfl, Nat.le_of_ble_eq_true rfl⟩ (by decide) ?_
            refine j_zret dX10_isMinute_7 rfl ⟨Nat.le_of_ble_eq_true rfl, Nat.le_of_ble_eq_true rfl⟩ (by decide) ?_
            refine j_if_eq (tgt := 41) dX10_tells_31 (by decide) (fun c => absurd c (by decide)) (fun _ => ?_)
            refine j_iload_n 2 dX10_tells_34 rfl ?_
            refine j_calliS (Yc := Y_X10_isLight) (as := [aI x2]) (rest := []) dX10_tells_35 q_X10_197 ⟨Nat.le_of_ble_eq_true rfl, Nat.le_of_ble_eq_true rfl, Nat.le_of_ble_eq_true rfl, Nat.le_of_ble_eq_true rfl⟩ rfl (Nat.le_of_ble_eq_true rfl) rfl (ti_of (ll := [(0, aI x2)]) rfl (Nat.le_of_ble_eq_true rfl) rfl (fun _ => ?_))
            refine j_iload_n 0 dX10_isLight_0 rfl ?_
            refine j_iconst (x := (-1)) dX10_isLight_1 rfl (i32_c rfl) ?_
            refine j_bipush (x := 99) dX10_isLight_2 rfl (i32_c rfl) ?_
            refine j_calliS (Yc := Y_X10_within) (as := [aI x2, aI (-1), aI 99]) (rest := []) dX10_isLight_4 q_X10_99 ⟨Nat.le_of_ble_eq_true rfl, Nat.le_of_ble_eq_true rfl, Nat.le_of_ble_eq_true rfl, Nat.le_of_ble_eq_true rfl⟩ rfl (Nat.le_of_ble_eq_true rfl) rfl (ti_of (ll := [(0, aI x2), (1, aI (-1)), (2, aI 99)]) rfl (Nat.le_of_ble_eq_true rfl) rfl (fun _ => ?_))
            refine j_iload_n 0 dX10_within_0 rfl ?_
            refine j_iload_n 1 dX10_within_1 rfl ?_
            refine j_icmp_lt (tgt := 14) dX10_within_2 (by decide) (fun c7 => ?_) (fun c7 => ?_)
            · replace h := h.1 c7
              refine j_iconst (x := 0) dX10_within_14 rfl (i32_c rfl) ?_
              refine j_zret dX10_within_15 rfl ⟨Nat.le_of_ble_eq_true rfl, Nat.le_of_ble_eq_true rfl⟩ (by decide) ?_
              refine j_zret dX10_isLight_7 rfl ⟨Nat.le_of_ble_eq_true rfl, Nat.le_of_ble_eq_true rfl⟩ (by decide) ?_
              refine j_if_ne (tgt := 45) dX10_tells_38 (by decide) (fun c => absurd c (by decide)) (fun _ => ?_)
              refine j_sipush (x := (-1002)) dX10_tells_41 rfl (i32_c rfl) ?_
              exact j_iret dX10_tells_44 rfl ⟨Nat.le_of_ble_eq_true rfl, Nat.le_of_ble_eq_true rfl⟩ (fun _ => h)
            · replace h := h.2 c7
              refine j_iload_n 0 dX10_within_5 rfl ?_
              refine j_iload_n 2 dX10_within_6 rfl ?_
              refine j_icmp_gt (tgt := 14) dX10_within_7 (by decide) (fun c8 => ?_) (fun c8 => ?_)
              · replace h := h.1 c8
                refine j_iconst (x := 0) dX10_within_14 rfl (i32_c rfl) ?_
                refine j_zret dX10_within_15 rfl ⟨Nat.le_of_ble_eq_true rfl, Nat.le_of_ble_eq_true rfl⟩ (by decide) ?_
                refine j_zret dX10_isLight_7 rfl ⟨Nat.le_of_ble_eq_true rfl, Nat.le_of_ble_eq_true rfl⟩ (by decide) ?_
                refine j_if_ne (tgt := 45) dX10_tells_38 (by decide) (fun c => absurd c (by decide)) (fun _ => ?_)
                refine j_sipush (x := (-1002)) dX10_tells_41 rfl (i32_c rfl) ?_
                exact j_iret dX10_tells_44 rfl ⟨Nat.le_of_ble_eq_true rfl, Nat.le_of_ble_eq_true rfl⟩ (fun _ => h)
              · replace h := h.2 c8
                refine j_iconst (x := 1) dX10_within_10 rfl (i32_c rfl) ?_
                refine j_goto (tgt := 15) dX10_within_11 (by decide) ?_
                refine j_zret dX10_within_15 rfl ⟨Nat.le_of_ble_eq_true rfl, Nat.le_of_ble_eq_true rfl⟩ (by decide) ?_
                refine j_zret dX10_isLight_7 rfl ⟨Nat.le_of_ble_eq_true rfl, Nat.le_of_ble_eq_true rfl⟩ (by decide) ?_
                refine j_if_ne (tgt := 45) dX10_tells_38 (by decide) (fun _ => ?_) (fun c => absurd c (by decide))
                refine j_aload_n 0 dX10_tells_45 rfl ?_
                refine j_iload_n 1 dX10_tells_46 rfl ?_
                refine j_calliV (Yc := Y_X10_canTell) (as := [aI x1]) (rest := []) dX10_tells_47 q_X10_246 ⟨Nat.le_of_ble_eq_true rfl, Nat.le_of_ble_eq_true rfl, Nat.le_of_ble_eq_true rfl, Nat.le_of_ble_eq_true rfl⟩ sh_0 rfl (Nat.le_of_ble_eq_true rfl) rfl (ti_mono h (fun z4 u3 h => ?_))
                refine j_if_ne (tgt := 57) dX10_tells_50 (by decide) (fun c9 => ?_) (fun c9 => ?_)
                · replace h := h.1 c9
                  refine j_aload_n 0 dX10_tells_57 rfl ?_
                  refine j_getc 51 dX10_tells_58 f_X10_82 sh_0 rfl ?_
                  refine j_callvV (Yc := Y_X7_findStops) (as := []) (rest := []) dX10_tells_61 q_X10_249 ⟨Nat.le_of_ble_eq_true rfl, Nat.le_of_ble_eq_true rfl, Nat.le_of_ble_eq_true rfl, Nat.le_of_ble_eq_true rfl⟩ sh_51 rfl (Nat.le_of_ble_eq_true rfl) rfl (tv_mono h (fun u5 h => ?_))
                  refine j_aload_n 0 dX10_tells_64 rfl ?_
                  refine j_getc 51 dX10_tells_65 f_X10_82 sh_0 rfl ?_
                  refine j_iload 4 dX10_tells_68 rfl ?_
                  refine j_calliV (Yc := Y_X7_stopsOf) (as := [aI x4]) (rest := []) dX10_tells_70 q_X10_252 ⟨Nat.le_of_ble_eq_true rfl, Nat.le_of_ble_eq_true rfl, Nat.le_of_ble_eq_true rfl, Nat.le_of_ble_eq_true rfl⟩ sh_51 rfl (Nat.le_of_ble_eq_true rfl) rfl (ti_mono h (fun z7 u6 h => ?_))
                  refine j_istore (ll' := [(5, aI z7), (0, aR 0), (1, aI x1), (2, aI x2), (3, aI x3), (4, aI x4)]) dX10_tells_73 (Nat.le_of_ble_eq_true rfl) rfl ?_
                  refine j_aload_n 1 dX10_tells_75 rfl ?_
                  refine j_getc 51 dX10_tells_76 f_X10_82 sh_0 rfl ?_
                  refine j_aload_n 1 dX10_tells_79 rfl ?_
                  refine j_getc 51 dX10_tells_80 f_X10_82 sh_0 rfl ?_
                  refine j_getc 56 dX10_tells_83 f_X10_255 sh_51 rfl ?_
                  refine j_iload_n 2 dX10_tells_86 rfl ?_
                  refine j_iload_n 3 dX10_tells_87 rfl ?_
                  refine j_iload_n 4 dX10_tells_88 rfl ?_
                  refine j_iload 0 dX10_tells_89 rfl ?_
                  refine j_callvV (Yc := Y_X7_weigh) (as := [aR 56, aI x1, aI x2, aI x3, aI z7]) (rest := []) dX10_tells_91 q_X10_258 ⟨Nat.le_of_ble_eq_true rfl, Nat.le_of_ble_eq_true rfl, Nat.le_of_ble_eq_true rfl, Nat.le_of_ble_eq_true rfl⟩ sh_51 rfl (Nat.le_of_ble_eq_true rfl) rfl (tv_mono h (fun u8 h => ?_))
                  refine j_aload_n 1 dX10_tells_94 rfl ?_
                  refine j_getc 51 dX10_tells_95 f_X10_82 sh_0 rfl ?_
                  refine j_getc 56 dX10_tells_98 f_X10_255 sh_51 rfl ?_
                  refine j_iload 0 dX10_tells_101 rfl ?_
                  obtain ⟨o10, h⟩ := h
                  refine j_iald dX10_tells_103 sh_56 o10.1 o10.2 (fun _ => ?_)
                  exact j_iret dX10_tells_104 rfl ⟨Nat.le_of_ble_eq_true rfl, Nat.le_of_ble_eq_true rfl⟩ (fun _ => h)
                · replace h := h.2 c9
                  refine j_sipush (x := (-1003)) dX10_tells_53 rfl (i32_c rfl) ?_
                  exact j_iret dX10_tells_56 rfl ⟨Nat.le_of_ble_eq_true rfl, Nat.le_of_ble_eq_true rfl⟩ (fun _ => h)
      · replace h := h.2 c4
        refine j_sipush (x := (-1001)) dX10_tells_23 rfl (i32_c rfl) ?_
        exact j_iret dX10_tells_26 rfl ⟨Nat.le_of_ble_eq_true rfl, Nat.le_of_ble_eq_true rfl⟩ (fun _ => h)
theorem E_X10_tells {post : Int → ax_M → Prop} {M : ax_M} {x1 x2 x3 x4 : Int} (h : ax_mr SH M → (-2147483648 ≤ ((M 8 0) - 1) ∧ ((M 8 0) - 1) ≤ 2147483647) ∧ (((x1 < 0) → post (-1001) M) ∧ ((0 ≤ x1) → (((((M 8 0) - 1) < x1) → post (-1001) M) ∧ ((x1 ≤ ((M 8 0) - 1)) → ax_Ti Y_X0_untoldPlaces [aR 8] SH M (fun z2 u1 => ((((bo_and x4 (bo_xor z2 (-1))) = 0) → (((x3 < 0) → post (-1002) u1) ∧ ((0 ≤ x3) → (((99 < x3) → post (-1002) u1) ∧ ((x3 ≤ 99) → (((x2 < (-1)) → post (-1002) u1) ∧ (((-1) ≤ x2) → (((99 < x2) → post (-1002) u1) ∧ ((x2 ≤ 99) → ax_Ti Y_X10_canTell [aR 0, aI x1] SH u1 (fun z4 u3 => (((¬ z4 = 0) → ax_Tv Y_X7_findStops [aR 51] SH u3 (fun u5 => ax_Ti Y_X7_stopsOf [aR 51, aI x4] SH u5 (fun z7 u6 => ax_Tv Y_X7_weigh [aR 51, aR 56, aI x1, aI x2, aI x3, aI z7] SH u6 (fun u8 => (0 ≤ z7 ∧ z7 < 64) ∧ post (u8 56 z7) u8)))) ∧ ((z4 = 0) → post (-1003) u3)))))))))))) ∧ ((¬ (bo_and x4 (bo_xor z2 (-1))) = 0) → post (-1001) u1)))))))) : ax_Ti Y_X10_tells [aR 0, aI x1, aI x2, aI x3, aI x4] SH M post :=
  ti_of rfl (Nat.le_of_ble_eq_true rfl) rfl (fun q => B_X10_tells_0 (h q))
set_option maxRecDepth 100000 in
set_option maxHeartbeats 4000000 in
theorem B_X10_toldBest_0 {post : Int → ax_M → Prop} {M : ax_M} {x1 x2 x3 x4 : Int} (h : (-2147483648 ≤ ((M 8 0) - 1) ∧ ((M 8 0) - 1) ≤ 2147483647) ∧ (((x1 < 0) → post (-1001) M) ∧ ((0 ≤ x1) → (((((M 8 0) - 1) < x1) → post (-1001) M) ∧ ((x1 ≤ ((M 8 0) - 1)) → (((x3 < 0) → post (-1002) M) ∧ ((0 ≤ x3) → (((99 < x3) → post (-1002) M) ∧ ((x3 ≤ 99) → (((x2 < (-1)) → post (-1002) M) ∧ (((-1) ≤ x2) → (((99 < x2) → post (-1002) M) ∧ ((x2 ≤ 99) → (((x4 < 0) → post (-1002) M) ∧ ((0 ≤ x4) → (((1 < x4) → post (-1002) M) ∧ ((x4 ≤ 1) → ax_Ti Y_X10_canTell [aR 0, aI x1] SH M (fun z2 u1 => (((¬ z2 = 0) → ax_Tv Y_X7_findStops [aR 51] SH u1 (fun u3 => (-2147483648 ≤ ((bo_shl 1 (u3 51 4)) - 1) ∧ ((bo_shl 1 (u3 51 4)) - 1) ≤ 2147483647) ∧ ax_Tv Y_X7_weigh [aR 51, aR 56, aI x1, aI x2, aI x3, aI ((bo_shl 1 (u3 51 4)) - 1)] SH u3 (fun u4 => ax_Ti Y_X7_bestOfOne [aR 51] SH u4 (fun z6 u5 => (((¬ z6 = (-1)) → (((¬ x4 = 0) → (0 ≤ z6 ∧ z6 < 64) ∧ post (u5 56 z6) u5) ∧ ((x4 = 0) → ax_Ti Y_X7_placesOf [aR 51, aI z6] SH u5 (fun z8 u7 => post z8 u7)))) ∧ ((z6 = (-1)) → post (-1) u5)))))) ∧ ((z2 = 0) → post (-1003) u1)))))))))))))))))))) : ax_J Y_X10_toldBest (ax_Ki Y_X10_toldBest SH post) 0 0 0 [(0, aR 0), (1, aI x1), (2, aI x2), (3, aI x3), (4, aI x4)] [] SH M := by
  refine j_aload_n 0 dX10_toldBest_0 rfl ?_
  refine j_iload_n 1 dX10_toldBest_1 rfl ?_
  refine j_calliV (Yc := Y_X10_isMan) (as := [aI x1]) (rest := []) dX10_toldBest_2 q_X10_175 ⟨Nat.le_of_ble_eq_true rfl, Nat.le_of_ble_eq_true rfl, Nat.le_of_ble_eq_true rfl, Nat.le_of_ble_eq_true rfl⟩ sh_0 rfl (Nat.le_of_ble_eq_true rfl) rfl (ti_of (ll := [(0, aR 0), (1, aI x1)]) rfl (Nat.le_of_ble_eq_true rfl) rfl (fun _ => ?_))
  refine j_iload_n 1 dX10_isMan_0 rfl ?_
  refine j_iconst (x := 0) dX10_isMan_1 rfl (i32_c rfl) ?_
  refine j_aload_n 0 dX10_isMan_2 rfl ?_
  refine j_getc 8 dX10_isMan_3 f_X10_35 sh_0 rfl ?_
  refine j_geti (i := 0) dX10_isMan_6 f_X10_147 sh_8 rfl rfl (fun _ => ?_)
  refine j_iconst (x := 1) dX10_isMan_9 rfl (i32_c rfl) ?_
  obtain ⟨o1, h⟩ := h
  refine j_isub (z := ((M 8 0) - 1)) dX10_isMan_10 rfl o1 ?_
  refine j_calliS (Yc := Y_X10_within) (as := [aI x1, aI 0, aI ((M 8 0) - 1)]) (rest := []) dX10_isMan_11 q_X10_99 ⟨Nat.le_of_ble_eq_true rfl, Nat.le_of_ble_eq_true rfl, Nat.le_of_ble_eq_true rfl, Nat.le_of_ble_eq_true rfl⟩ rfl (Nat.le_of_ble_eq_true rfl) rfl (ti_of (ll := [(0, aI x1), (1, aI 0), (2, aI ((M 8 0) - 1))]) rfl (Nat.le_of_ble_eq_true rfl) rfl (fun _ => ?_))
  refine j_iload_n 0 dX10_within_0 rfl ?_
  refine j_iload_n 1 dX10_within_1 rfl ?_
  refine j_icmp_lt (tgt := 14) dX10_within_2 (by decide) (fun c2 => ?_) (fun c2 => ?_)
  · replace h := h.1 c2
    refine j_iconst (x := 0) dX10_within_14 rfl (i32_c rfl) ?_
    refine j_zret dX10_within_15 rfl ⟨Nat.le_of_ble_eq_true rfl, Nat.le_of_ble_eq_true rfl⟩ (by decide) ?_
    refine j_zret dX10_isMan_14 rfl ⟨Nat.le_of_ble_eq_true rfl, Nat.le_of_ble_eq_true rfl⟩ (by decide) ?_
    refine j_if_ne (tgt := 12) dX10_toldBest_5 (by decide) (fun c => absurd c (by decide)) (fun _ => ?_)
    refine j_sipush (x := (-1001)) dX10_toldBest_8 rfl (i32_c rfl) ?_
    exact j_iret dX10_toldBest_11 rfl ⟨Nat.le_of_ble_eq_true rfl, Nat.le_of_ble_eq_true rfl⟩ (fun _ => h)
  · replace h := h.2 c2
    refine j_iload_n 0 dX10_within_5 rfl ?_
    refine j_iload_n 2 dX10_within_6 rfl ?_
    refine j_icmp_gt (tgt := 14) dX10_within_7 (by decide) (fun c3 => ?_) (fun c3 => ?_)
    · replace h := h.1 c3
      refine j_iconst (x := 0) dX10_within_14 rfl (i32_c rfl) ?_
      refine j_zret dX10_within_15 rfl ⟨Nat.le_of_ble_eq_true rfl, Nat.le_of_ble_eq_true rfl⟩ (by decide) ?_
      refine j_zret dX10_isMan_14 rfl ⟨Nat.le_of_ble_eq_true rfl, Nat.le_of_ble_eq_true rfl⟩ (by decide) ?_
      refine j_if_ne (tgt := 12) dX10_toldBest_5 (by decide) (fun c => absurd c (by decide)) (fun _ => ?_)
      refine j_sipush (x := (-1001)) dX10_toldBest_8 rfl (i32_c rfl) ?_
      exact j_iret dX10_toldBest_11 rfl ⟨Nat.le_of_ble_eq_true rfl, Nat.le_of_ble_eq_true rfl⟩ (fun _ => h)
    · replace h := h.2 c3
      refine j_iconst (x := 1) dX10_within_10 rfl (i32_c rfl) ?_
      refine j_goto (tgt := 15) dX10_within_11 (by decide) ?_
      refine j_zret dX10_within_15 rfl ⟨Nat.le_of_ble_eq_true rfl, Nat.le_of_ble_eq_true rfl⟩ (by decide) ?_
      refine j_zret dX10_isMan_14 rfl ⟨Nat.le_of_ble_eq_true rfl, Nat.le_of_ble_eq_true rfl⟩ (by decide) ?_
      refine j_if_ne (tgt := 12) dX10_toldBest_5 (by decide) (fun _ => ?_) (fun c => absurd c (by decide))
      refine j_iload_n 3 dX10_toldBest_12 rfl ?_
      refine j_calliS (Yc := Y_X10_isMinute) (as := [aI x3]) (rest := []) dX10_toldBest_13 q_X10_169 ⟨Nat.le_of_ble_eq_true rfl, Nat.le_of_ble_eq_true rfl, Nat.le_of_ble_eq_true rfl, Nat.le_of_ble_eq_true rfl⟩ rfl (Nat.le_of_ble_eq_true rfl) rfl (ti_of (ll := [(0, aI x3)]) rfl (Nat.le_of_ble_eq_true rfl) rfl (fun _ => ?_))
      refine j_iload_n 0 dX10_isMinute_0 rfl ?_
      refine j_iconst (x := 0) dX10_isMinute_1 rfl (i32_c rfl) ?_
      refine j_bipush (x := 99) dX10_isMinute_2 rfl (i32_c rfl) ?_
      refine j_calliS (Yc := Y_X10_within) (as := [aI x3, aI 0, aI 99]) (rest := []) dX10_isMinute_4 q_X10_99 ⟨Nat.le_of_ble_eq_true rfl, Nat.le_of_ble_eq_true rfl, Nat.le_of_ble_eq_true rfl, Nat.le_of_ble_eq_true rfl⟩ rfl (Nat.le_of_ble_eq_true rfl) rfl (ti_of (ll := [(0, aI x3), (1, aI 0), (2, aI 99)]) rfl (Nat.le_of_ble_eq_true rfl) rfl (fun _ => ?_))
      refine j_iload_n 0 dX10_within_0 rfl ?_
      refine j_iload_n 1 dX10_within_1 rfl ?_
      refine j_icmp_lt (tgt := 14) dX10_within_2 (by decide) (fun c4 => ?_) (fun c4 => ?_)
      · replace h := h.1 c4
        refine j_iconst (x := 0) dX10_within_14 rfl (i32_c rfl) ?_
        refine j_zret dX10_within_15 rfl ⟨Nat.le_of_ble_eq_true rfl, Nat.le_of_ble_eq_true rfl⟩ (by decide) ?_
        refine j_zret dX10_isMinute_7 rfl ⟨Nat.le_of_ble_eq_true rfl, Nat.le_of_ble_eq_true rfl⟩ (by decide) ?_
        refine j_if_eq (tgt := 36) dX10_toldBest_16 (by decide) (fun _ => ?_) (fun c => absurd c (by decide))
        refine j_sipush (x := (-1002)) dX10_toldBest_36 rfl (i32_c rfl) ?_
        exact j_iret dX10_toldBest_39 rfl ⟨Nat.le_of_ble_eq_true rfl, Nat.le_of_ble_eq_true rfl⟩ (fun _ => h)
      · replace h := h.2 c4
        refine j_iload_n 0 dX10_within_5 rfl ?_
        refine j_iload_n 2 dX10_within_6 rfl ?_
        refine j_icmp_gt (tgt := 14) dX10_within_7 (by decide) (fun c5 => ?_) (fun c5 => ?_)
        · replace h := h.1 c5
          refine j_iconst (x := 0) dX10_within_14 rfl (i32_c rfl) ?_
          refine j_zret dX10_within_15 rfl ⟨Nat.le_of_ble_eq_true rfl, Nat.le_of_ble_eq_true rfl⟩ (by decide) ?_
          refine j_zret dX10_isMinute_7 rfl ⟨Nat.le_of_ble_eq_true rfl, Nat.le_of_ble_eq_true rfl⟩ (by decide) ?_
          refine j_if_eq (tgt := 36) dX10_toldBest_16 (by decide) (fun _ => ?_) (fun c => absurd c (by decide))
          refine j_sipush (x := (-1002)) dX10_toldBest_36 rfl (i32_c rfl) ?_
          exact j_iret dX10_toldBest_39 rfl ⟨Nat.le_of_ble_eq_true rfl, Nat.le_of_ble_eq_true rfl⟩ (fun _ => h)
        · replace h := h.2 c5
          refine j_iconst (x := 1) dX10_within_10 rfl (i32_c rfl) ?_
          refine j_goto (tgt := 15) dX10_within_11 (by decide) ?_
          refine j_zret dX10_within_15 rfl ⟨Nat.le_of_ble_eq_true rfl, Nat.le_of_ble_eq_true rfl⟩ (by decide) ?_
          refine j_zret dX10_isMinute_7 rfl ⟨Nat.le_of_ble_eq_true rfl, Nat.le_of_ble_eq_true rfl⟩ (by decide) ?_
          refine j_if_eq (tgt := 36) dX10_toldBest_16 (by decide) (fun c => absurd c (by decide)) (fun _ => ?_)
          refine j_iload_n 2 dX10_toldBest_19 rfl ?_
          refine j_calliS (Yc := Y_X10_isLight) (as := [aI x2]) (rest := []) dX10_toldBest_20 q_X10_197 ⟨Nat.le_of_ble_eq_true rfl, Nat.le_of_ble_eq_true rfl, Nat.le_of_ble_eq_true rfl, Nat.le_of_ble_eq_true rfl⟩ rfl (Nat.le_of_ble_eq_true rfl) rfl (ti_of (ll := [(0, aI x2)]) rfl (Nat.le_of_ble_eq_true rfl) rfl (fun _ => ?_))
          refine j_iload_n 0 dX10_isLight_0 rfl ?_
          refine j_iconst (x := (-1)) dX10_isLight_1 rfl (i32_c rfl) ?_
          refine j_bipush (x := 99) dX10_isLight_2 rfl (i32_c rfl) ?_
          refine j_calliS (Yc := Y_X10_within) (as := [aI x2, aI (-1), aI 99]) (rest := []) dX10_isLight_4 q_X10_99 ⟨Nat.le_of_ble_eq_true rfl, Nat.le_of_ble_eq_true rfl, Nat.le_of_ble_eq_true rfl, Nat.le_of_ble_eq_true rfl⟩ rfl (Nat.le_of_ble_eq_true rfl) rfl (ti_of (ll := [(0, aI x2), (1, aI (-1)), (2, aI 99)]) rfl (Nat.le_of_ble_eq_true rfl) rfl (fun _ => ?_))
          refine j_iload_n 0 dX10_within_0 rfl ?_
          refine j_iload_n 1 dX10_within_1 rfl ?_
          refine j_icmp_lt (tgt := 14) dX10_within_2 (by decide) (fun c6 => ?_) (fun c6 => ?_)
          · replace h := h.1 c6
            refine j_iconst (x := 0) dX10_within_14 rfl (i32_c rfl) ?_
            refine j_zret dX10_within_15 rfl ⟨Nat.le_of_ble_eq_true rfl, Nat.le_of_ble_eq_true rfl⟩ (by decide) ?_
            refine j_zret dX10_isLight_7 rfl ⟨Nat.le_of_ble_eq_true rfl, Nat.le_of_ble_eq_true rfl⟩ (by decide) ?_
            refine j_if_eq (tgt := 36) dX10_toldBest_23 (by decide) (fun _ => ?_) (fun c => absurd c (by decide))
            refine j_sipush (x := (-1002)) dX10_toldBest_36 rfl (i32_c rfl) ?_
            exact j_iret dX10_toldBest_39 rfl ⟨Nat.le_of_ble_eq_true rfl, Nat.le_of_ble_eq_true rfl⟩ (fun _ => h)
          · replace h := h.2 c6
            refine j_iload_n 0 dX10_within_5 rfl ?_
            refine j_iload_n 2 dX10_within_6 rfl ?_
            refine j_icmp_gt (tgt := 14) dX10_within_7 (by decide) (fun c7 => ?_) (fun c7 => ?_)
            · replace h := h.1 c7
              refine j_iconst (x := 0) dX10_within_14 rfl (i32_c rfl) ?_
              refine j_zret dX10_within_15 rfl ⟨Nat.le_of_ble_eq_true rfl, Nat.le_of_ble_eq_true rfl⟩ (by decide) ?_
              refine j_zret dX10_isLight_7 rfl ⟨Nat.le_of_ble_eq_true rfl, Nat.le_of_ble_eq_true rfl⟩ (by decide) ?_
              refine j_if_eq (tgt := 36) dX10_toldBest_23 (by decide) (fun _ => ?_) (fun c => absurd c (by decide))
              refine j_sipush (x := (-1002)) dX10_toldBest_36 rfl (i32_c rfl) ?_
              exact j_iret dX10_toldBest_39 rfl ⟨Nat.le_of_ble_eq_true rfl, Nat.le_of_ble_eq_true rfl⟩ (fun _ => h)
            · replace h := h.2 c7
              refine j_iconst (x := 1) dX10_within_10 rfl (i32_c rfl) ?_
              refine j_goto (tgt := 15) dX10_within_11 (by decide) ?_
              refine j_zret dX10_within_15 rfl ⟨Nat.le_of_ble_eq_true rfl, Nat.le_of_ble_eq_true rfl⟩ (by decide) ?_
              refine j_zret dX10_isLight_7 rfl ⟨Nat.le_of_ble_eq_true rfl, Nat.le_of_ble_eq_true rfl⟩ (by decide) ?_
              refine j_if_eq (tgt := 36) dX10_toldBest_23 (by decide) (fun c => absurd c (by decide)) (fun _ => ?_)
              refine j_iload 4 dX10_toldBest_26 rfl ?_
              refine j_iconst (x := 0) dX10_toldBest_28 rfl (i32_c rfl) ?_
              refine j_iconst (x := 1) dX10_toldBest_29 rfl (i32_c rfl) ?_
              refine j_calliS (Yc := Y_X10_within) (as := [aI x4, aI 0, aI 1]) (rest := []) dX10_toldBest_30 q_X10_99 ⟨Nat.le_of_ble_eq_true rfl, Nat.le_of_ble_eq_true rfl, Nat.le_of_ble_eq_true rfl, Nat.le_of_ble_eq_true rfl⟩ rfl (Nat.le_of_ble_eq_true rfl) rfl (ti_of (ll := [(0, aI x4), (1, aI 0), (2, aI 1)]) rfl (Nat.le_of_ble_eq_true rfl) rfl (fun _ => ?_))
              refine j_iload_n 0 dX10_within_0 rfl ?_
              refine j_iload_n 1 dX10_within_1 rfl ?_
              refine j_icmp_lt (tgt := 14) dX10_within_2 (by decide) (fun c8 => ?_) (fun c8 => ?_)
              · replace h := h.1 c8
                refine j_iconst (x := 0) dX10_within_14 rfl (i32_c rfl) ?_
                refine j_zret dX10_within_15 rfl ⟨Nat.le_of_ble_eq_true rfl, Nat.le_of_ble_eq_true rfl⟩ (by decide) ?_
                refine j_if_ne (tgt := 40) dX10_toldBest_33 (by decide) (fun c => absurd c (by decide)) (fun _ => ?_)
                refine j_sipush (x := (-1002)) dX10_toldBest_36 rfl (i32_c rfl) ?_
                exact j_iret dX10_toldBest_39 rfl ⟨Nat.le_of_ble_eq_true rfl, Nat.le_of_ble_eq_true rfl⟩ (fun _ => h)
              · replace h := h.2 c8
                refine j_iload_n 0 dX10_within_5 rfl ?_
                refine j_iload_n 2 dX10_within_6 rfl ?_
                refine j_icmp_gt (tgt := 14) dX10_within_7 (by decide) (fun c9 => ?_) (fun c9 => ?_)
                · replace h := h.1 c9
                  refine j_iconst (x := 0) dX10_within_14 rfl (i32_c rfl) ?_
                  refine j_zret dX10_within_15 rfl ⟨Nat.le_of_ble_eq_true rfl, Nat.le_of_ble_eq_true rfl⟩ (by decide) ?_
                  refine j_if_ne (tgt := 40) dX10_toldBest_33 (by decide) (fun c => absurd c (by decide)) (fun _ => ?_)
                  refine j_sipush (x := (-1002)) dX10_toldBest_36 rfl (i32_c rfl) ?_
                  exact j_iret dX10_toldBest_39 rfl ⟨Nat.le_of_ble_eq_true rfl, Nat.le_of_ble_eq_true rfl⟩ (fun _ => h)
                · replace h := h.2 c9
                  refine j_iconst (x := 1) dX10_within_10 rfl (i32_c rfl) ?_
                  refine j_goto (tgt := 15) dX10_within_11 (by decide) ?_
                  refine j_zret dX10_within_15 rfl ⟨Nat.le_of_ble_eq_true rfl, Nat.le_of_ble_eq_true rfl⟩ (by decide) ?_
                  refine j_if_ne (tgt := 40) dX10_toldBest_33 (by decide) (fun _ => ?_) (fun c => absurd c (by decide))
                  refine j_aload_n 0 dX10_toldBest_40 rfl ?_
                  refine j_iload_n 1 dX10_toldBest_41 rfl ?_
                  refine j_calliV (Yc := Y_X10_canTell) (as := [aI x1]) (rest := []) dX10_toldBest_42 q_X10_246 ⟨Nat.le_of_ble_eq_true rfl, Nat.le_of_ble_eq_true rfl, Nat.le_of_ble_eq_true rfl, Nat.le_of_ble_eq_true rfl⟩ sh_0 rfl (Nat.le_of_ble_eq_true rfl) rfl (ti_mono h (fun z2 u1 h => ?_))
                  refine j_if_ne (tgt := 52) dX10_toldBest_45 (by decide) (fun c10 => ?_) (fun c10 => ?_)
                  · replace h := h.1 c10
                    refine j_aload_n 0 dX10_toldBest_52 rfl ?_
                    refine j_getc 51 dX10_toldBest_53 f_X10_82 sh_0 rfl ?_
                    refine j_callvV (Yc := Y_X7_findStops) (as := []) (rest := []) dX10_toldBest_56 q_X10_249 ⟨Nat.le_of_ble_eq_true rfl, Nat.le_of_ble_eq_true rfl, Nat.le_of_ble_eq_true rfl, Nat.le_of_ble_eq_true rfl⟩ sh_51 rfl (Nat.le_of_ble_eq_true rfl) rfl (tv_mono h (fun u3 h => ?_))
                    refine j_aload_n 0 dX10_toldBest_59 rfl ?_
                    refine j_getc 51 dX10_toldBest_60 f_X10_82 sh_0 rfl ?_
                    refine j_aload_n 0 dX10_toldBest_63 rfl ?_
                    refine j_getc 51 dX10_toldBest_64 f_X10_82 sh_0 rfl ?_
                    refine j_getc 56 dX10_toldBest_67 f_X10_255 sh_51 rfl ?_
                    refine j_iload_n 1 dX10_toldBest_70 rfl ?_
                    refine j_iload_n 2 dX10_toldBest_71 rfl ?_
                    refine j_iload_n 3 dX10_toldBest_72 rfl ?_
                    refine j_aload_n 0 dX10_toldBest_73 rfl ?_
                    refine j_getc 51 dX10_toldBest_74 f_X10_82 sh_0 rfl ?_
                    refine j_calliV (Yc := Y_X7_allStops) (as := []) (rest := [aI x3, aI x2, aI x1, aR 56, aR 51]) dX10_toldBest_77 q_X10_262 ⟨Nat.le_of_ble_eq_true rfl, Nat.le_of_ble_eq_true rfl, Nat.le_of_ble_eq_true rfl, Nat.le_of_ble_eq_true rfl⟩ sh_51 rfl (Nat.le_of_ble_eq_true rfl) rfl (ti_of (ll := [(0, aR 51)]) rfl (Nat.le_of_ble_eq_true rfl) rfl (fun _ => ?_))
                    refine j_iconst (x := 1) dX7_allStops_0 rfl (i32_c rfl) ?_
                    refine j_aload_n 0 dX7_allStops_1 rfl ?_
                    refine j_geti (i := 4) dX7_allStops_2 f_X7_57 sh_51 rfl rfl (fun _ => ?_)
                    refine j_ishl (z := (bo_shl 1 (u3 51 4))) dX7_allStops_5 rfl ?_
                    refine j_iconst (x := 1) dX7_allStops_6 rfl (i32_c rfl) ?_
                    obtain ⟨o11, h⟩ := h
                    refine j_isub (z := ((bo_shl 1 (u3 51 4)) - 1)) dX7_allStops_7 rfl o11 ?_
                    refine j_iret dX7_allStops_8 rfl ⟨Nat.le_of_ble_eq_true rfl, Nat.le_of_ble_eq_true rfl⟩ (fun _ => ?_)
                    refine j_callvV (Yc := Y_X7_weigh) (as := [aR 56, aI x1, aI x2, aI x3, aI ((bo_shl 1 (u3 51 4)) - 1)]) (rest := []) dX10_toldBest_80 q_X10_258 ⟨Nat.le_of_ble_eq_true rfl, Nat.le_of_ble_eq_true rfl, Nat.le_of_ble_eq_true rfl, Nat.le_of_ble_eq_true rfl⟩ sh_51 rfl (Nat.le_of_ble_eq_true rfl) rfl (tv_mono h (fun u4 h => ?_))
                    refine j_aload_n 0 dX10_toldBest_83 rfl ?_
                    refine j_getc 51 dX10_toldBest_84 f_X10_82 sh_0 rfl ?_
                    refine j_calliV (Yc := Y_X7_bestOfOne) (as := []) (rest := []) dX10_toldBest_87 q_X10_265 ⟨Nat.le_of_ble_eq_true rfl, Nat.le_of_ble_eq_true rfl, Nat.le_of_ble_eq_true rfl, Nat.le_of_ble_eq_true rfl⟩ sh_51 rfl (Nat.le_of_ble_eq_true rfl) rfl (ti_mono h (fun z6 u5 h => ?_))
                    refine j_istore (ll' := [(5, aI z6), (0, aR 0), (1, aI x1), (2, aI x2), (3, aI x3), (4, aI x4)]) dX10_toldBest_90 (Nat.le_of_ble_eq_true rfl) rfl ?_
                    refine j_iload 0 dX10_toldBest_92 rfl ?_
                    refine j_iconst (x := (-1)) dX10_toldBest_94 rfl (i32_c rfl) ?_
                    refine j_icmp_ne (tgt := 100) dX10_toldBest_95 (by decide) (fun c12 => ?_) (fun c12 => ?_)
                    · replace h := h.1 c12
                      refine j_iload 5 dX10_toldBest_100 rfl ?_
                      refine j_if_ne (tgt := 117) dX10_toldBest_102 (by decide) (fun c13 => ?_) (fun c13 => ?_)
                      · replace h := h.1 c13
                        refine j_aload_n 1 dX10_toldBest_117 rfl ?_
                        refine j_getc 51 dX10_toldBest_118 f_X10_82 sh_0 rfl ?_
                        refine j_getc 56 dX10_toldBest_121 f_X10_255 sh_51 rfl ?_
                        refine j_iload 0 dX10_toldBest_124 rfl ?_
                        obtain ⟨o14, h⟩ := h
                        refine j_iald dX10_toldBest_126 sh_56 o14.1 o14.2 (fun _ => ?_)
                        exact j_iret dX10_toldBest_127 rfl ⟨Nat.le_of_ble_eq_true rfl, Nat.le_of_ble_eq_true rfl⟩ (fun _ => h)
                      · replace h := h.2 c13
                        refine j_aload_n 1 dX10_toldBest_105 rfl ?_
                        refine j_getc 51 dX10_toldBest_106 f_X10_82 sh_0 rfl ?_
                        refine j_iload 0 dX10_toldBest_109 rfl ?_
                        refine j_calliV (Yc := Y_X7_placesOf) (as := [aI z6]) (rest := []) dX10_toldBest_111 q_X10_268 ⟨Nat.le_of_ble_eq_true rfl, Nat.le_of_ble_eq_true rfl, Nat.le_of_ble_eq_true rfl, Nat.le_of_ble_eq_true rfl⟩ sh_51 rfl (Nat.le_of_ble_eq_true rfl) rfl (ti_mono h (fun z8 u7 h => ?_))
                        refine j_goto (tgt := 127) dX10_toldBest_114 (by decide) ?_
                        exact j_iret dX10_toldBest_127 rfl ⟨Nat.le_of_ble_eq_true rfl, Nat.le_of_ble_eq_true rfl⟩ (fun _ => h)
                    · replace h := h.2 c12
                      refine j_iconst (x := (-1)) dX10_toldBest_98 rfl (i32_c rfl) ?_
                      exact j_iret dX10_toldBest_99 rfl ⟨Nat.le_of_ble_eq_true rfl, Nat.le_of_ble_eq_true rfl⟩ (fun _ => h)
                  · replace h := h.2 c10
                    refine j_sipush (x := (-1003)) dX10_toldBest_48 rfl (i32_c rfl) ?_
                    exact j_iret dX10_toldBest_51 rfl ⟨Nat.le_of_ble_eq_true rfl, Nat.le_of_ble_eq_true rfl⟩ (fun _ => h)
theorem E_X10_toldBest {post : Int → ax_M → Prop} {M : ax_M} {x1 x2 x3 x4 : Int} (h : ax_mr SH M → (-2147483648 ≤ ((M 8 0) - 1) ∧ ((M 8 0) - 1) ≤ 2147483647) ∧ (((x1 < 0) → post (-1001) M) ∧ ((0 ≤ x1) → (((((M 8 0) - 1) < x1) → post (-1001) M) ∧ ((x1 ≤ ((M 8 0) - 1)) → (((x3 < 0) → post (-1002) M) ∧ ((0 ≤ x3) → (((99 < x3) → post (-1002) M) ∧ ((x3 ≤ 99) → (((x2 < (-1)) → post (-1002) M) ∧ (((-1) ≤ x2) → (((99 < x2) → post (-1002) M) ∧ ((x2 ≤ 99) → (((x4 < 0) → post (-1002) M) ∧ ((0 ≤ x4) → (((1 < x4) → post (-1002) M) ∧ ((x4 ≤ 1) → ax_Ti Y_X10_canTell [aR 0, aI x1] SH M (fun z2 u1 => (((¬ z2 = 0) → ax_Tv Y_X7_findStops [aR 51] SH u1 (fun u3 => (-2147483648 ≤ ((bo_shl 1 (u3 51 4)) - 1) ∧ ((bo_shl 1 (u3 51 4)) - 1) ≤ 2147483647) ∧ ax_Tv Y_X7_weigh [aR 51, aR 56, aI x1, aI x2, aI x3, aI ((bo_shl 1 (u3 51 4)) - 1)] SH u3 (fun u4 => ax_Ti Y_X7_bestOfOne [aR 51] SH u4 (fun z6 u5 => (((¬ z6 = (-1)) → (((¬ x4 = 0) → (0 ≤ z6 ∧ z6 < 64) ∧ post (u5 56 z6) u5) ∧ ((x4 = 0) → ax_Ti Y_X7_placesOf [aR 51, aI z6] SH u5 (fun z8 u7 => post z8 u7)))) ∧ ((z6 = (-1)) → post (-1) u5)))))) ∧ ((z2 = 0) → post (-1003) u1)))))))))))))))))))) : ax_Ti Y_X10_toldBest [aR 0, aI x1, aI x2, aI x3, aI x4] SH M post :=
  ti_of rfl (Nat.le_of_ble_eq_true rfl) rfl (fun q => B_X10_toldBest_0 (h q))
set_option maxRecDepth 100000 in
set_option maxHeartbeats 4000000 in
theorem B_X10_byTwo_0 {post : Int → ax_M → Prop} {M : ax_M} {x1 x2 x3 x4 x5 x6 : Int} (h : (-2147483648 ≤ ((M 8 0) - 1) ∧ ((M 8 0) - 1) ≤ 2147483647) ∧ (((x1 < 0) → ax_J Y_X10_byTwo (ax_Ki Y_X10_byTwo SH post) 0 0 21 [] [] SH M) ∧ ((0 ≤ x1) → (((((M 8 0) - 1) < x1) → ax_J Y_X10_byTwo (ax_Ki Y_X10_byTwo SH post) 0 0 21 [] [] SH M) ∧ ((x1 ≤ ((M 8 0) - 1)) → (((x3 < 0) → ax_J Y_X10_byTwo (ax_Ki Y_X10_byTwo SH post) 0 0 21 [] [] SH M) ∧ ((0 ≤ x3) → (((((M 8 0) - 1) < x3) → ax_J Y_X10_byTwo (ax_Ki Y_X10_byTwo SH post) 0 0 21 [] [] SH M) ∧ ((x3 ≤ ((M 8 0) - 1)) → (((¬ x1 = x3) → (((x5 < 0) → ax_J Y_X10_byTwo (ax_Ki Y_X10_byTwo SH post) 0 0 58 [] [] SH M) ∧ ((0 ≤ x5) → (((99 < x5) → ax_J Y_X10_byTwo (ax_Ki Y_X10_byTwo SH post) 0 0 58 [] [] SH M) ∧ ((x5 ≤ 99) → (((x2 < (-1)) → ax_J Y_X10_byTwo (ax_Ki Y_X10_byTwo SH post) 0 0 58 [] [] SH M) ∧ (((-1) ≤ x2) → (((99 < x2) → ax_J Y_X10_byTwo (ax_Ki Y_X10_byTwo SH post) 0 0 58 [] [] SH M) ∧ ((x2 ≤ 99) → (((x4 < (-1)) → ax_J Y_X10_byTwo (ax_Ki Y_X10_byTwo SH post) 0 0 58 [] [] SH M) ∧ (((-1) ≤ x4) → (((99 < x4) → ax_J Y_X10_byTwo (ax_Ki Y_X10_byTwo SH post) 0 0 58 [] [] SH M) ∧ ((x4 ≤ 99) → (((x6 < 0) → ax_J Y_X10_byTwo (ax_Ki Y_X10_byTwo SH post) 0 0 58 [] [] SH M) ∧ ((0 ≤ x6) → (((2 < x6) → ax_J Y_X10_byTwo (ax_Ki Y_X10_byTwo SH post) 0 0 58 [] [] SH M) ∧ ((x6 ≤ 2) → ax_Ti Y_X10_canTell [aR 0, aI x1] SH M (fun z2 u1 => (((z2 = 0) → ax_J Y_X10_byTwo (ax_Ki Y_X10_byTwo SH post) 0 0 78 [] [] SH u1) ∧ ((¬ z2 = 0) → ax_Ti Y_X10_canTell [aR 0, aI x3] SH u1 (fun z4 u3 => (((¬ z4 = 0) → ax_Tv Y_X7_findStops [aR 51] SH u3 (fun u5 => (-2147483648 ≤ ((bo_shl 1 (u5 51 4)) - 1) ∧ ((bo_shl 1 (u5 51 4)) - 1) ≤ 2147483647) ∧ ax_Tv Y_X7_weigh [aR 51, aR 56, aI x1, aI x2, aI x5, aI ((bo_shl 1 (u5 51 4)) - 1)] SH u5 (fun u6 => (-2147483648 ≤ ((bo_shl 1 (u6 51 4)) - 1) ∧ ((bo_shl 1 (u6 51 4)) - 1) ≤ 2147483647) ∧ ax_Tv Y_X7_weigh [aR 51, aR 57, aI x3, aI x4, aI x5, aI ((bo_shl 1 (u6 51 4)) - 1)] SH u6 (fun u7 => ax_Ti Y_X7_bestOfTwo [aR 51, aI x6] SH u7 (fun z9 u8 => post z9 u8))))) ∧ ((z4 = 0) → ax_J Y_X10_byTwo (ax_Ki Y_X10_byTwo SH post) 0 0 78 [] [] SH u3))))))))))))))))))))))) ∧ ((x1 = x3) → ax_J Y_X10_byTwo (ax_Ki Y_X10_byTwo SH post) 0 0 21 [] [] SH M))))))))))) : ax_J Y_X10_byTwo (ax_Ki Y_X10_byTwo SH post) 0 0 0 [(0, aR 0), (1, aI x1), (2, aI x2), (3, aI x3), (4, aI x4), (5, aI x5), (6, aI x6)] [] SH M := by
  refine j_aload_n 0 dX10_byTwo_0 rfl ?_
  refine j_iload_n 1 dX10_byTwo_1 rfl ?_
  refine j_calliV (Yc := Y_X10_isMan) (as := [aI x1]) (rest := []) dX10_byTwo_2 q_X10_175 ⟨Nat.le_of_ble_eq_true rfl, Nat.le_of_ble_eq_true rfl, Nat.le_of_ble_eq_true rfl, Nat.le_of_ble_eq_true rfl⟩ sh_0 rfl (Nat.le_of_ble_eq_true rfl) rfl (ti_of (ll := [(0, aR 0), (1, aI x1)]) rfl (Nat.le_of_ble_eq_true rfl) rfl (fun _ => ?_))
  refine j_iload_n 1 dX10_isMan_0 rfl ?_
  refine j_iconst (x := 0) dX10_isMan_1 rfl (i32_c rfl) ?_
  refine j_aload_n 0 dX10_isMan_2 rfl ?_
  refine j_getc 8 dX10_isMan_3 f_X10_35 sh_0 rfl ?_
  refine j_geti (i := 0) dX10_isMan_6 f_X10_147 sh_8 rfl rfl (fun _ => ?_)
  refine j_iconst (x := 1) dX10_isMan_9 rfl (i32_c rfl) ?_
  obtain ⟨o1, h⟩ := h
  refine j_isub (z := ((M 8 0) - 1)) dX10_isMan_10 rfl o1 ?_
  refine j_calliS (Yc := Y_X10_within) (as := [aI x1, aI 0, aI ((M 8 0) - 1)]) (rest := []) dX10_isMan_11 q_X10_99 ⟨Nat.le_of_ble_eq_true rfl, Nat.le_of_ble_eq_true rfl, Nat.le_of_ble_eq_true rfl, Nat.le_of_ble_eq_true rfl⟩ rfl (Nat.le_of_ble_eq_true rfl) rfl (ti_of (ll := [(0, aI x1), (1, aI 0), (2, aI ((M 8 0) - 1))]) rfl (Nat.le_of_ble_eq_true rfl) rfl (fun _ => ?_))
  refine j_iload_n 0 dX10_within_0 rfl ?_
  refine j_iload_n 1 dX10_within_1 rfl ?_
  refine j_icmp_lt (tgt := 14) dX10_within_2 (by decide) (fun c2 => ?_) (fun c2 => ?_)
  · replace h := h.1 c2
    refine j_iconst (x := 0) dX10_within_14 rfl (i32_c rfl) ?_
    refine j_zret dX10_within_15 rfl ⟨Nat.le_of_ble_eq_true rfl, Nat.le_of_ble_eq_true rfl⟩ (by decide) ?_
    refine j_zret dX10_isMan_14 rfl ⟨Nat.le_of_ble_eq_true rfl, Nat.le_of_ble_eq_true rfl⟩ (by decide) ?_
    refine j_if_eq (tgt := 21) dX10_byTwo_5 (by decide) (fun _ => ?_) (fun c => absurd c (by decide))
    refine j_sub [] rfl ?_
    exact h
  · replace h := h.2 c2
    refine j_iload_n 0 dX10_within_5 rfl ?_
    refine j_iload_n 2 dX10_within_6 rfl ?_
    refine j_icmp_gt (tgt := 14) dX10_within_7 (by decide) (fun c3 => ?_) (fun c3 => ?_)
    · replace h := h.1 c3
      refine j_iconst (x := 0) dX10_within_14 rfl (i32_c rfl) ?_
      refine j_zret dX10_within_15 rfl ⟨Nat.le_of_ble_eq_true rfl, Nat.le_of_ble_eq_true rfl⟩ (by decide) ?_
      refine j_zret dX10_isMan_14 rfl ⟨Nat.le_of_ble_eq_true rfl, Nat.le_of_ble_eq_true rfl⟩ (by decide) ?_
      refine j_if_eq (tgt := 21) dX10_byTwo_5 (by decide) (fun _ => ?_) (fun c => absurd c (by decide))
      refine j_sub [] rfl ?_
      exact h
    · replace h := h.2 c3
      refine j_iconst (x := 1) dX10_within_10 rfl (i32_c rfl) ?_
      refine j_goto (tgt := 15) dX10_within_11 (by decide) ?_
      refine j_zret dX10_within_15 rfl ⟨Nat.le_of_ble_eq_true rfl, Nat.le_of_ble_eq_true rfl⟩ (by decide) ?_
      refine j_zret dX10_isMan_14 rfl ⟨Nat.le_of_ble_eq_true rfl, Nat.le_of_ble_eq_true rfl⟩ (by decide) ?_
      refine j_if_eq (tgt := 21) dX10_byTwo_5 (by decide) (fun c => absurd c (by decide)) (fun _ => ?_)
      refine j_aload_n 0 dX10_byTwo_8 rfl ?_
      refine j_iload_n 3 dX10_byTwo_9 rfl ?_
      refine j_calliV (Yc := Y_X10_isMan) (as := [aI x3]) (rest := []) dX10_byTwo_10 q_X10_175 ⟨Nat.le_of_ble_eq_true rfl, Nat.le_of_ble_eq_true rfl, Nat.le_of_ble_eq_true rfl, Nat.le_of_ble_eq_true rfl⟩ sh_0 rfl (Nat.le_of_ble_eq_true rfl) rfl (ti_of (ll := [(0, aR 0), (1, aI x3)]) rfl (Nat.le_of_ble_eq_true rfl) rfl (fun _ => ?_))
      refine j_iload_n 1 dX10_isMan_0 rfl ?_
      refine j_iconst (x := 0) dX10_isMan_1 rfl (i32_c rfl) ?_
      refine j_aload_n 0 dX10_isMan_2 rfl ?_
      refine j_getc 8 dX10_isMan_3 f_X10_35 sh_0 rfl ?_
      refine j_geti (i := 0) dX10_isMan_6 f_X10_147 sh_8 rfl rfl (fun _ => ?_)
      refine j_iconst (x := 1) dX10_isMan_9 rfl (i32_c rfl) ?_
      refine j_isub (z := ((M 8 0) - 1)) dX10_isMan_10 rfl o1 ?_
      refine j_calliS (Yc := Y_X10_within) (as := [aI x3, aI 0, aI ((M 8 0) - 1)]) (rest := []) dX10_isMan_11 q_X10_99 ⟨Nat.le_of_ble_eq_true rfl, Nat.le_of_ble_eq_true rfl, Nat.le_of_ble_eq_true rfl, Nat.le_of_ble_eq_true rfl⟩ rfl (Nat.le_of_ble_eq_true rfl) rfl (ti_of (ll := [(0, aI x3), (1, aI 0), (2, aI ((M 8 0) - 1))]) rfl (Nat.le_of_ble_eq_true rfl) rfl (fun _ => ?_))
      refine j_iload_n 0 dX10_within_0 rfl ?_
      refine j_iload_n 1 dX10_within_1 rfl ?_
      refine j_icmp_lt (tgt := 14) dX10_within_2 (by decide) (fun c4 => ?_) (fun c4 => ?_)
      · replace h := h.1 c4
        refine j_iconst (x := 0) dX10_within_14 rfl (i32_c rfl) ?_
        refine j_zret dX10_within_15 rfl ⟨Nat.le_of_ble_eq_true rfl, Nat.le_of_ble_eq_true rfl⟩ (by decide) ?_
        refine j_zret dX10_isMan_14 rfl ⟨Nat.le_of_ble_eq_true rfl, Nat.le_of_ble_eq_true rfl⟩ (by decide) ?_
        refine j_if_eq (tgt := 21) dX10_byTwo_13 (by decide) (fun _ => ?_) (fun c => absurd c (by decide))
        refine j_sub [] rfl ?_
        exact h
      · replace h := h.2 c4
        refine j_iload_n 0 dX10_within_5 rfl ?_
        refine j_iload_n 2 dX10_within_6 rfl ?_
        refine j_icmp_gt (tgt := 14) dX10_within_7 (by decide) (fun c5 => ?_) (fun c5 => ?_)
        · replace h := h.1 c5
          refine j_iconst (x := 0) dX10_within_14 rfl (i32_c rfl) ?_
          refine j_zret dX10_within_15 rfl ⟨Nat.le_of_ble_eq_true rfl, Nat.le_of_ble_eq_true rfl⟩ (by decide) ?_
          refine j_zret dX10_isMan_14 rfl ⟨Nat.le_of_ble_eq_true rfl, Nat.le_of_ble_eq_true rfl⟩ (by decide) ?_
          refine j_if_eq (tgt := 21) dX10_byTwo_13 (by decide) (fun _ => ?_) (fun c => absurd c (by decide))
          refine j_sub [] rfl ?_
          exact h
        · replace h := h.2 c5
          refine j_iconst (x := 1) dX10_within_10 rfl (i32_c rfl) ?_
          refine j_goto (tgt := 15) dX10_within_11 (by decide) ?_
          refine j_zret dX10_within_15 rfl ⟨Nat.le_of_ble_eq_true rfl, Nat.le_of_ble_eq_true rfl⟩ (by decide) ?_
          refine j_zret dX10_isMan_14 rfl ⟨Nat.le_of_ble_eq_true rfl, Nat.le_of_ble_eq_true rfl⟩ (by decide) ?_
          refine j_if_eq (tgt := 21) dX10_byTwo_13 (by decide) (fun c => absurd c (by decide)) (fun _ => ?_)
          refine j_iload_n 1 dX10_byTwo_16 rfl ?_
          refine j_iload_n 3 dX10_byTwo_17 rfl ?_
          refine j_icmp_ne (tgt := 25) dX10_byTwo_18 (by decide) (fun c6 => ?_) (fun c6 => ?_)
          · replace h := h.1 c6
            refine j_iload 5 dX10_byTwo_25 rfl ?_
            refine j_calliS (Yc := Y_X10_isMinute) (as := [aI x5]) (rest := []) dX10_byTwo_27 q_X10_169 ⟨Nat.le_of_ble_eq_true rfl, Nat.le_of_ble_eq_true rfl, Nat.le_of_ble_eq_true rfl, Nat.le_of_ble_eq_true rfl⟩ rfl (Nat.le_of_ble_eq_true rfl) rfl (ti_of (ll := [(0, aI x5)]) rfl (Nat.le_of_ble_eq_true rfl) rfl (fun _ => ?_))
            refine j_iload_n 0 dX10_isMinute_0 rfl ?_
            refine j_iconst (x := 0) dX10_isMinute_1 rfl (i32_c rfl) ?_
            refine j_bipush (x := 99) dX10_isMinute_2 rfl (i32_c rfl) ?_
            refine j_calliS (Yc := Y_X10_within) (as := [aI x5, aI 0, aI 99]) (rest := []) dX10_isMinute_4 q_X10_99 ⟨Nat.le_of_ble_eq_true rfl, Nat.le_of_ble_eq_true rfl, Nat.le_of_ble_eq_true rfl, Nat.le_of_ble_eq_true rfl⟩ rfl (Nat.le_of_ble_eq_true rfl) rfl (ti_of (ll := [(0, aI x5), (1, aI 0), (2, aI 99)]) rfl (Nat.le_of_ble_eq_true rfl) rfl (fun _ => ?_))
            refine j_iload_n 0 dX10_within_0 rfl ?_
            refine j_iload_n 1 dX10_within_1 rfl ?_
            refine j_icmp_lt (tgt := 14) dX10_within_2 (by decide) (fun c7 => ?_) (fun c7 => ?_)
            · replace h := h.1 c7
              refine j_iconst (x := 0) dX10_within_14 rfl (i32_c rfl) ?_
              refine j_zret dX10_within_15 rfl ⟨Nat.le_of_ble_eq_true rfl, Nat.le_of_ble_eq_true rfl⟩ (by decide) ?_
              refine j_zret dX10_isMinute_7 rfl ⟨Nat.le_of_ble_eq_true rfl, Nat.le_of_ble_eq_true rfl⟩ (by decide) ?_
              refine j_if_eq (tgt := 58) dX10_byTwo_30 (by decide) (fun _ => ?_) (fun c => absurd c (by decide))
              refine j_sub [] rfl ?_
              exact h
            · replace h := h.2 c7
              refine j_iload_n 0 dX10_within_5 rfl ?_
              refine j_iload_n 2 dX10_within_6 rfl ?_
              refine j_icmp_gt (tgt := 14) dX10_within_7 (by decide) (fun c8 => ?_) (fun c8 => ?_)
              · replace h := h.1 c8
                refine j_iconst (x := 0) dX10_within_14 rfl (i32_c rfl) ?_
                refine j_zret dX10_within_15 rfl ⟨Nat.le_of_ble_eq_true rfl, Nat.le_of_ble_eq_true rfl⟩ (by decide) ?_
                refine j_zret dX10_isMinute_7 rfl ⟨Nat.le_of_ble_eq_true rfl, Nat.le_of_ble_eq_true rfl⟩ (by decide) ?_
                refine j_if_eq (tgt := 58) dX10_byTwo_30 (by decide) (fun _ => ?_) (fun c => absurd c (by decide))
                refine j_sub [] rfl ?_
                exact h
              · replace h := h.2 c8
                refine j_iconst (x := 1) dX10_within_10 rfl (i32_c rfl) ?_
                refine j_goto (tgt := 15) dX10_within_11 (by decide) ?_
                refine j_zret dX10_within_15 rfl ⟨Nat.le_of_ble_eq_true rfl, Nat.le_of_ble_eq_true rfl⟩ (by decide) ?_
                refine j_zret dX10_isMinute_7 rfl ⟨Nat.le_of_ble_eq_true rfl, Nat.le_of_ble_eq_true rfl⟩ (by decide) ?_
                refine j_if_eq (tgt := 58) dX10_byTwo_30 (by decide) (fun c => absurd c (by decide)) (fun _ => ?_)
                refine j_iload_n 2 dX10_byTwo_33 rfl ?_
                refine j_calliS (Yc := Y_X10_isLight) (as := [aI x2]) (rest := []) dX10_byTwo_34 q_X10_197 ⟨Nat.le_of_ble_eq_true rfl, Nat.le_of_ble_eq_true rfl, Nat.le_of_ble_eq_true rfl, Nat.le_of_ble_eq_true rfl⟩ rfl (Nat.le_of_ble_eq_true rfl) rfl (ti_of (ll := [(0, aI x2)]) rfl (Nat.le_of_ble_eq_true rfl) rfl (fun _ => ?_))
                refine j_iload_n 0 dX10_isLight_0 rfl ?_
                refine j_iconst (x := (-1)) dX10_isLight_1 rfl (i32_c rfl) ?_
                refine j_bipush (x := 99) dX10_isLight_2 rfl (i32_c rfl) ?_
                refine j_calliS (Yc := Y_X10_within) (as := [aI x2, aI (-1), aI 99]) (rest := []) dX10_isLight_4 q_X10_99 ⟨Nat.le_of_ble_eq_true rfl, Nat.le_of_ble_eq_true rfl, Nat.le_of_ble_eq_true rfl, Nat.le_of_ble_eq_true rfl⟩ rfl (Nat.le_of_ble_eq_true rfl) rfl (ti_of (ll := [(0, aI x2), (1, aI (-1)), (2, aI 99)]) rfl (Nat.le_of_ble_eq_true rfl) rfl (fun _ => ?_))
                refine j_iload_n 0 dX10_within_0 rfl ?_
                refine j_iload_n 1 dX10_within_1 rfl ?_
                refine j_icmp_lt (tgt := 14) dX10_within_2 (by decide) (fun c9 => ?_) (fun c9 => ?_)
                · replace h := h.1 c9
                  refine j_iconst (x := 0) dX10_within_14 rfl (i32_c rfl) ?_
                  refine j_zret dX10_within_15 rfl ⟨Nat.le_of_ble_eq_true rfl, Nat.le_of_ble_eq_true rfl⟩ (by decide) ?_
                  refine j_zret dX10_isLight_7 rfl ⟨Nat.le_of_ble_eq_true rfl, Nat.le_of_ble_eq_true rfl⟩ (by decide) ?_
                  refine j_if_eq (tgt := 58) dX10_byTwo_37 (by decide) (fun _ => ?_) (fun c => absurd c (by decide))
                  refine j_sub [] rfl ?_
                  exact h
                · replace h := h.2 c9
                  refine j_iload_n 0 dX10_within_5 rfl ?_
                  refine j_iload_n 2 dX10_within_6 rfl ?_
                  refine j_icmp_gt (tgt := 14) dX10_within_7 (by decide) (fun c10 => ?_) (fun c10 => ?_)
                  · replace h := h.1 c10
                    refine j_iconst (x := 0) dX10_within_14 rfl (i32_c rfl) ?_
                    refine j_zret dX10_within_15 rfl ⟨Nat.le_of_ble_eq_true rfl, Nat.le_of_ble_eq_true rfl⟩ (by decide) ?_
                    refine j_zret dX10_isLight_7 rfl ⟨Nat.le_of_ble_eq_true rfl, Nat.le_of_ble_eq_true rfl⟩ (by decide) ?_
                    refine j_if_eq (tgt := 58) dX10_byTwo_37 (by decide) (fun _ => ?_) (fun c => absurd c (by decide))
                    refine j_sub [] rfl ?_
                    exact h
                  · replace h := h.2 c10
                    refine j_iconst (x := 1) dX10_within_10 rfl (i32_c rfl) ?_
                    refine j_goto (tgt := 15) dX10_within_11 (by decide) ?_
                    refine j_zret dX10_within_15 rfl ⟨Nat.le_of_ble_eq_true rfl, Nat.le_of_ble_eq_true rfl⟩ (by decide) ?_
                    refine j_zret dX10_isLight_7 rfl ⟨Nat.le_of_ble_eq_true rfl, Nat.le_of_ble_eq_true rfl⟩ (by decide) ?_
                    refine j_if_eq (tgt := 58) dX10_byTwo_37 (by decide) (fun c => absurd c (by decide)) (fun _ => ?_)
                    refine j_iload 4 dX10_byTwo_40 rfl ?_
                    refine j_calliS (Yc := Y_X10_isLight) (as := [aI x4]) (rest := []) dX10_byTwo_42 q_X10_197 ⟨Nat.le_of_ble_eq_true rfl, Nat.le_of_ble_eq_true rfl, Nat.le_of_ble_eq_true rfl, Nat.le_of_ble_eq_true rfl⟩ rfl (Nat.le_of_ble_eq_true rfl) rfl (ti_of (ll := [(0, aI x4)]) rfl (Nat.le_of_ble_eq_true rfl) rfl (fun _ => ?_))
                    refine j_iload_n 0 dX10_isLight_0 rfl ?_
                    refine j_iconst (x := (-1)) dX10_isLight_1 rfl (i32_c rfl) ?_
                    refine j_bipush (x := 99) dX10_isLight_2 rfl (i32_c rfl) ?_
                    refine j_calliS (Yc := Y_X10_within) (as := [aI x4, aI (-1), aI 99]) (rest := []) dX10_isLight_4 q_X10_99 ⟨Nat.le_of_ble_eq_true rfl, Nat.le_of_ble_eq_true rfl, Nat.le_of_ble_eq_true rfl, Nat.le_of_ble_eq_true rfl⟩ rfl (Nat.le_of_ble_eq_true rfl) rfl (ti_of (ll := [(0, aI x4), (1, aI (-1)), (2, aI 99)]) rfl (Nat.le_of_ble_eq_true rfl) rfl (fun _ => ?_))
                    refine j_iload_n 0 dX10_within_0 rfl ?_
                    refine j_iload_n 1 dX10_within_1 rfl ?_
                    refine j_icmp_lt (tgt := 14) dX10_within_2 (by decide) (fun c11 => ?_) (fun c11 => ?_)
                    · replace h := h.1 c11
                      refine j_iconst (x := 0) dX10_within_14 rfl (i32_c rfl) ?_
                      refine j_zret dX10_within_15 rfl ⟨Nat.le_of_ble_eq_true rfl, Nat.le_of_ble_eq_true rfl⟩ (by decide) ?_
                      refine j_zret dX10_isLight_7 rfl ⟨Nat.le_of_ble_eq_true rfl, Nat.le_of_ble_eq_true rfl⟩ (by decide) ?_
                      refine j_if_eq (tgt := 58) dX10_byTwo_45 (by decide) (fun _ => ?_) (fun c => absurd c (by decide))
                      refine j_sub [] rfl ?_
                      exact h
                    · replace h := h.2 c11
                      refine j_iload_n 0 dX10_within_5 rfl ?_
                      refine j_iload_n 2 dX10_within_6 rfl ?_
                      refine j_icmp_gt (tgt := 14) dX10_within_7 (by decide) (fun c12 => ?_) (fun c12 => ?_)
                      · replace h := h.1 c12
                        refine j_iconst (x := 0) dX10_within_14 rfl (i32_c rfl) ?_
                        refine j_zret dX10_within_15 rfl ⟨Nat.le_of_ble_eq_true rfl, Nat.le_of_ble_eq_true rfl⟩ (by decide) ?_
                        refine j_zret dX10_isLight_7 rfl ⟨Nat.le_of_ble_eq_true rfl, Nat.le_of_ble_eq_true rfl⟩ (by decide) ?_
                        refine j_if_eq (tgt := 58) dX10_byTwo_45 (by decide) (fun _ => ?_) (fun c => absurd c (by decide))
                        refine j_sub [] rfl ?_
                        exact h
                      · replace h := h.2 c12
                        refine j_iconst (x := 1) dX10_within_10 rfl (i32_c rfl) ?_
                        refine j_goto (tgt := 15) dX10_within_11 (by decide) ?_
                        refine j_zret dX10_within_15 rfl ⟨Nat.le_of_ble_eq_true rfl, Nat.le_of_ble_eq_true rfl⟩ (by decide) ?_
                        refine j_zret dX10_isLight_7 rfl ⟨Nat.le_of_ble_eq_true rfl, Nat.le_of_ble_eq_true rfl⟩ (by decide) ?_
                        refine j_if_eq (tgt := 58) dX10_byTwo_45 (by decide) (fun c => absurd c (by decide)) (fun _ => ?_)
                        refine j_iload 6 dX10_byTwo_48 rfl ?_
                        refine j_iconst (x := 0) dX10_byTwo_50 rfl (i32_c rfl) ?_
                        refine j_iconst (x := 2) dX10_byTwo_51 rfl (i32_c rfl) ?_
                        refine j_calliS (Yc := Y_X10_within) (as := [aI x6, aI 0, aI 2]) (rest := []) dX10_byTwo_52 q_X10_99 ⟨Nat.le_of_ble_eq_true rfl, Nat.le_of_ble_eq_true rfl, Nat.le_of_ble_eq_true rfl, Nat.le_of_ble_eq_true rfl⟩ rfl (Nat.le_of_ble_eq_true rfl) rfl (ti_of (ll := [(0, aI x6), (1, aI 0), (2, aI 2)]) rfl (Nat.le_of_ble_eq_true rfl) rfl (fun _ => ?_))
                        refine j_iload_n 0 dX10_within_0 rfl ?_
                        refine j_iload_n 1 dX10_within_1 rfl ?_
                        refine j_icmp_lt (tgt := 14) dX10_within_2 (by decide) (fun c13 => ?_) (fun c13 => ?_)
                        · replace h := h.1 c13
                          refine j_iconst (x := 0) dX10_within_14 rfl (i32_c rfl) ?_
                          refine j_zret dX10_within_15 rfl ⟨Nat.le_of_ble_eq_true rfl, Nat.le_of_ble_eq_true rfl⟩ (by decide) ?_
                          refine j_if_ne (tgt := 62) dX10_byTwo_55 (by decide) (fun c => absurd c (by decide)) (fun _ => ?_)
                          refine j_sub [] rfl ?_
                          exact h
                        · replace h := h.2 c13
                          refine j_iload_n 0 dX10_within_5 rfl ?_
                          refine j_iload_n 2 dX10_within_6 rfl ?_
                          refine j_icmp_gt (tgt := 14) dX10_within_7 (by decide) (fun c14 => ?_) (fun c14 => ?_)
                          · replace h := h.1 c14
                            refine j_iconst (x := 0) dX10_within_14 rfl (i32_c rfl) ?_
                            refine j_zret dX10_within_15 rfl ⟨Nat.le_of_ble_eq_true rfl, Nat.le_of_ble_eq_true rfl⟩ (by decide) ?_
                            refine j_if_ne (tgt := 62) dX10_byTwo_55 (by decide) (fun c => absurd c (by decide)) (fun _ => ?_)
                            refine j_sub [] rfl ?_
                            exact h
                          · replace h := h.2 c14
                            refine j_iconst (x := 1) dX10_within_10 rfl (i32_c rfl) ?_
                            refine j_goto (tgt := 15) dX10_within_11 (by decide) ?_
                            refine j_zret dX10_within_15 rfl ⟨Nat.le_of_ble_eq_true rfl, Nat.le_of_ble_eq_true rfl⟩ (by decide) ?_
                            refine j_if_ne (tgt := 62) dX10_byTwo_55 (by decide) (fun _ => ?_) (fun c => absurd c (by decide))
                            refine j_aload_n 0 dX10_byTwo_62 rfl ?_
                            refine j_iload_n 1 dX10_byTwo_63 rfl ?_
                            refine j_calliV (Yc := Y_X10_canTell) (as := [aI x1]) (rest := []) dX10_byTwo_64 q_X10_246 ⟨Nat.le_of_ble_eq_true rfl, Nat.le_of_ble_eq_true rfl, Nat.le_of_ble_eq_true rfl, Nat.le_of_ble_eq_true rfl⟩ sh_0 rfl (Nat.le_of_ble_eq_true rfl) rfl (ti_mono h (fun z2 u1 h => ?_))
                            refine j_if_eq (tgt := 78) dX10_byTwo_67 (by decide) (fun c15 => ?_) (fun c15 => ?_)
                            · replace h := h.1 c15
                              refine j_sub [] rfl ?_
                              exact h
                            · replace h := h.2 c15
                              refine j_aload_n 0 dX10_byTwo_70 rfl ?_
                              refine j_iload_n 3 dX10_byTwo_71 rfl ?_
                              refine j_calliV (Yc := Y_X10_canTell) (as := [aI x3]) (rest := []) dX10_byTwo_72 q_X10_246 ⟨Nat.le_of_ble_eq_true rfl, Nat.le_of_ble_eq_true rfl, Nat.le_of_ble_eq_true rfl, Nat.le_of_ble_eq_true rfl⟩ sh_0 rfl (Nat.le_of_ble_eq_true rfl) rfl (ti_mono h (fun z4 u3 h => ?_))
                              refine j_if_ne (tgt := 82) dX10_byTwo_75 (by decide) (fun c16 => ?_) (fun c16 => ?_)
                              · replace h := h.1 c16
                                refine j_aload_n 0 dX10_byTwo_82 rfl ?_
                                refine j_getc 51 dX10_byTwo_83 f_X10_82 sh_0 rfl ?_
                                refine j_callvV (Yc := Y_X7_findStops) (as := []) (rest := []) dX10_byTwo_86 q_X10_249 ⟨Nat.le_of_ble_eq_true rfl, Nat.le_of_ble_eq_true rfl, Nat.le_of_ble_eq_true rfl, Nat.le_of_ble_eq_true rfl⟩ sh_51 rfl (Nat.le_of_ble_eq_true rfl) rfl (tv_mono h (fun u5 h => ?_))
                                refine j_aload_n 0 dX10_byTwo_89 rfl ?_
                                refine j_getc 51 dX10_byTwo_90 f_X10_82 sh_0 rfl ?_
                                refine j_aload_n 0 dX10_byTwo_93 rfl ?_
                                refine j_getc 51 dX10_byTwo_94 f_X10_82 sh_0 rfl ?_
                                refine j_getc 56 dX10_byTwo_97 f_X10_255 sh_51 rfl ?_
                                refine j_iload_n 1 dX10_byTwo_100 rfl ?_
                                refine j_iload_n 2 dX10_byTwo_101 rfl ?_
                                refine j_iload 5 dX10_byTwo_102 rfl ?_
                                refine j_aload_n 0 dX10_byTwo_104 rfl ?_
                                refine j_getc 51 dX10_byTwo_105 f_X10_82 sh_0 rfl ?_
                                refine j_calliV (Yc := Y_X7_allStops) (as := []) (rest := [aI x5, aI x2, aI x1, aR 56, aR 51]) dX10_byTwo_108 q_X10_262 ⟨Nat.le_of_ble_eq_true rfl, Nat.le_of_ble_eq_true rfl, Nat.le_of_ble_eq_true rfl, Nat.le_of_ble_eq_true rfl⟩ sh_51 rfl (Nat.le_of_ble_eq_true rfl) rfl (ti_of (ll := [(0, aR 51)]) rfl (Nat.le_of_ble_eq_true rfl) rfl (fun _ => ?_))
                                refine j_iconst (x := 1) dX7_allStops_0 rfl (i32_c rfl) ?_
                                refine j_aload_n 0 dX7_allStops_1 rfl ?_
                                refine j_geti (i := 4) dX7_allStops_2 f_X7_57 sh_51 rfl rfl (fun _ => ?_)
                                refine j_ishl (z := (bo_shl 1 (u5 51 4))) dX7_allStops_5 rfl ?_
                                refine j_iconst (x := 1) dX7_allStops_6 rfl (i32_c rfl) ?_
                                obtain ⟨o17, h⟩ := h
                                refine j_isub (z := ((bo_shl 1 (u5 51 4)) - 1)) dX7_allStops_7 rfl o17 ?_
                                refine j_iret dX7_allStops_8 rfl ⟨Nat.le_of_ble_eq_true rfl, Nat.le_of_ble_eq_true rfl⟩ (fun _ => ?_)
                                refine j_callvV (Yc := Y_X7_weigh) (as := [aR 56, aI x1, aI x2, aI x5, aI ((bo_shl 1 (u5 51 4)) - 1)]) (rest := []) dX10_byTwo_111 q_X10_258 ⟨Nat.le_of_ble_eq_true rfl, Nat.le_of_ble_eq_true rfl, Nat.le_of_ble_eq_true rfl, Nat.le_of_ble_eq_true rfl⟩ sh_51 rfl (Nat.le_of_ble_eq_true rfl) rfl (tv_mono h (fun u6 h => ?_))
                                refine j_aload_n 0 dX10_byTwo_114 rfl ?_
                                refine j_getc 51 dX10_byTwo_115 f_X10_82 sh_0 rfl ?_
                                refine j_aload_n 0 dX10_byTwo_118 rfl ?_
                                refine j_getc 51 dX10_byTwo_119 f_X10_82 sh_0 rfl ?_
                                refine j_getc 57 dX10_byTwo_122 f_X10_271 sh_51 rfl ?_
                                refine j_iload_n 3 dX10_byTwo_125 rfl ?_
                                refine j_iload 4 dX10_byTwo_126 rfl ?_
                                refine j_iload 5 dX10_byTwo_128 rfl ?_
                                refine j_aload_n 0 dX10_byTwo_130 rfl ?_
                                refine j_getc 51 dX10_byTwo_131 f_X10_82 sh_0 rfl ?_
                                refine j_calliV (Yc := Y_X7_allStops) (as := []) (rest := [aI x5, aI x4, aI x3, aR 57, aR 51]) dX10_byTwo_134 q_X10_262 ⟨Nat.le_of_ble_eq_true rfl, Nat.le_of_ble_eq_true rfl, Nat.le_of_ble_eq_true rfl, Nat.le_of_ble_eq_true rfl⟩ sh_51 rfl (Nat.le_of_ble_eq_true rfl) rfl (ti_of (ll := [(0, aR 51)]) rfl (Nat.le_of_ble_eq_true rfl) rfl (fun _ => ?_))
                                refine j_iconst (x := 1) dX7_allStops_0 rfl (i32_c rfl) ?_
                                refine j_aload_n 0 dX7_allStops_1 rfl ?_
                                refine j_geti (i := 4) dX7_allStops_2 f_X7_57 sh_51 rfl rfl (fun _ => ?_)
                                refine j_ishl (z := (bo_shl 1 (u6 51 4))) dX7_allStops_5 rfl ?_
                                refine j_iconst (x := 1) dX7_allStops_6 rfl (i32_c rfl) ?_
                                obtain ⟨o18, h⟩ := h
                                refine j_isub (z := ((bo_shl 1 (u6 51 4)) - 1)) dX7_allStops_7 rfl o18 ?_
                                refine j_iret dX7_allStops_8 rfl ⟨Nat.le_of_ble_eq_true rfl, Nat.le_of_ble_eq_true rfl⟩ (fun _ => ?_)
                                refine j_callvV (Yc := Y_X7_weigh) (as := [aR 57, aI x3, aI x4, aI x5, aI ((bo_shl 1 (u6 51 4)) - 1)]) (rest := []) dX10_byTwo_137 q_X10_258 ⟨Nat.le_of_ble_eq_true rfl, Nat.le_of_ble_eq_true rfl, Nat.le_of_ble_eq_true rfl, Nat.le_of_ble_eq_true rfl⟩ sh_51 rfl (Nat.le_of_ble_eq_true rfl) rfl (tv_mono h (fun u7 h => ?_))
                                refine j_aload_n 0 dX10_byTwo_140 rfl ?_
                                refine j_getc 51 dX10_byTwo_141 f_X10_82 sh_0 rfl ?_
                                refine j_iload 6 dX10_byTwo_144 rfl ?_
                                refine j_calliV (Yc := Y_X7_bestOfTwo) (as := [aI x6]) (rest := []) dX10_byTwo_146 q_X10_274 ⟨Nat.le_of_ble_eq_true rfl, Nat.le_of_ble_eq_true rfl, Nat.le_of_ble_eq_true rfl, Nat.le_of_ble_eq_true rfl⟩ sh_51 rfl (Nat.le_of_ble_eq_true rfl) rfl (ti_mono h (fun z9 u8 h => ?_))
                                exact j_iret dX10_byTwo_149 rfl ⟨Nat.le_of_ble_eq_true rfl, Nat.le_of_ble_eq_true rfl⟩ (fun _ => h)
                              · replace h := h.2 c16
                                refine j_sub [] rfl ?_
                                exact h
          · replace h := h.2 c6
            refine j_sub [] rfl ?_
            exact h
theorem E_X10_byTwo {post : Int → ax_M → Prop} {M : ax_M} {x1 x2 x3 x4 x5 x6 : Int} (h : ax_mr SH M → (-2147483648 ≤ ((M 8 0) - 1) ∧ ((M 8 0) - 1) ≤ 2147483647) ∧ (((x1 < 0) → ax_J Y_X10_byTwo (ax_Ki Y_X10_byTwo SH post) 0 0 21 [] [] SH M) ∧ ((0 ≤ x1) → (((((M 8 0) - 1) < x1) → ax_J Y_X10_byTwo (ax_Ki Y_X10_byTwo SH post) 0 0 21 [] [] SH M) ∧ ((x1 ≤ ((M 8 0) - 1)) → (((x3 < 0) → ax_J Y_X10_byTwo (ax_Ki Y_X10_byTwo SH post) 0 0 21 [] [] SH M) ∧ ((0 ≤ x3) → (((((M 8 0) - 1) < x3) → ax_J Y_X10_byTwo (ax_Ki Y_X10_byTwo SH post) 0 0 21 [] [] SH M) ∧ ((x3 ≤ ((M 8 0) - 1)) → (((¬ x1 = x3) → (((x5 < 0) → ax_J Y_X10_byTwo (ax_Ki Y_X10_byTwo SH post) 0 0 58 [] [] SH M) ∧ ((0 ≤ x5) → (((99 < x5) → ax_J Y_X10_byTwo (ax_Ki Y_X10_byTwo SH post) 0 0 58 [] [] SH M) ∧ ((x5 ≤ 99) → (((x2 < (-1)) → ax_J Y_X10_byTwo (ax_Ki Y_X10_byTwo SH post) 0 0 58 [] [] SH M) ∧ (((-1) ≤ x2) → (((99 < x2) → ax_J Y_X10_byTwo (ax_Ki Y_X10_byTwo SH post) 0 0 58 [] [] SH M) ∧ ((x2 ≤ 99) → (((x4 < (-1)) → ax_J Y_X10_byTwo (ax_Ki Y_X10_byTwo SH post) 0 0 58 [] [] SH M) ∧ (((-1) ≤ x4) → (((99 < x4) → ax_J Y_X10_byTwo (ax_Ki Y_X10_byTwo SH post) 0 0 58 [] [] SH M) ∧ ((x4 ≤ 99) → (((x6 < 0) → ax_J Y_X10_byTwo (ax_Ki Y_X10_byTwo SH post) 0 0 58 [] [] SH M) ∧ ((0 ≤ x6) → (((2 < x6) → ax_J Y_X10_byTwo (ax_Ki Y_X10_byTwo SH post) 0 0 58 [] [] SH M) ∧ ((x6 ≤ 2) → ax_Ti Y_X10_canTell [aR 0, aI x1] SH M (fun z2 u1 => (((z2 = 0) → ax_J Y_X10_byTwo (ax_Ki Y_X10_byTwo SH post) 0 0 78 [] [] SH u1) ∧ ((¬ z2 = 0) → ax_Ti Y_X10_canTell [aR 0, aI x3] SH u1 (fun z4 u3 => (((¬ z4 = 0) → ax_Tv Y_X7_findStops [aR 51] SH u3 (fun u5 => (-2147483648 ≤ ((bo_shl 1 (u5 51 4)) - 1) ∧ ((bo_shl 1 (u5 51 4)) - 1) ≤ 2147483647) ∧ ax_Tv Y_X7_weigh [aR 51, aR 56, aI x1, aI x2, aI x5, aI ((bo_shl 1 (u5 51 4)) - 1)] SH u5 (fun u6 => (-2147483648 ≤ ((bo_shl 1 (u6 51 4)) - 1) ∧ ((bo_shl 1 (u6 51 4)) - 1) ≤ 2147483647) ∧ ax_Tv Y_X7_weigh [aR 51, aR 57, aI x3, aI x4, aI x5, aI ((bo_shl 1 (u6 51 4)) - 1)] SH u6 (fun u7 => ax_Ti Y_X7_bestOfTwo [aR 51, aI x6] SH u7 (fun z9 u8 => post z9 u8))))) ∧ ((z4 = 0) → ax_J Y_X10_byTwo (ax_Ki Y_X10_byTwo SH post) 0 0 78 [] [] SH u3))))))))))))))))))))))) ∧ ((x1 = x3) → ax_J Y_X10_byTwo (ax_Ki Y_X10_byTwo SH post) 0 0 21 [] [] SH M))))))))))) : ax_Ti Y_X10_byTwo [aR 0, aI x1, aI x2, aI x3, aI x4, aI x5, aI x6] SH M post :=
  ti_of rfl (Nat.le_of_ble_eq_true rfl) rfl (fun q => B_X10_byTwo_0 (h q))
set_option maxRecDepth 100000 in
set_option maxHeartbeats 4000000 in
theorem B_X10_byTwo_21 {post : Int → ax_M → Prop} {M : ax_M} (h : post (-1001) M) : ax_J Y_X10_byTwo (ax_Ki Y_X10_byTwo SH post) 0 0 21 [] [] SH M := by
  refine j_sipush (x := (-1001)) dX10_byTwo_21 rfl (i32_c rfl) ?_
  exact j_iret dX10_byTwo_24 rfl ⟨Nat.le_of_ble_eq_true rfl, Nat.le_of_ble_eq_true rfl⟩ (fun _ => h)
set_option maxRecDepth 100000 in
set_option maxHeartbeats 4000000 in
theorem B_X10_byTwo_58 {post : Int → ax_M → Prop} {M : ax_M} (h : post (-1002) M) : ax_J Y_X10_byTwo (ax_Ki Y_X10_byTwo SH post) 0 0 58 [] [] SH M := by
  refine j_sipush (x := (-1002)) dX10_byTwo_58 rfl (i32_c rfl) ?_
  exact j_iret dX10_byTwo_61 rfl ⟨Nat.le_of_ble_eq_true rfl, Nat.le_of_ble_eq_true rfl⟩ (fun _ => h)
set_option maxRecDepth 100000 in
set_option maxHeartbeats 4000000 in
theorem B_X10_byTwo_78 {post : Int → ax_M → Prop} {M : ax_M} (h : post (-1003) M) : ax_J Y_X10_byTwo (ax_Ki Y_X10_byTwo SH post) 0 0 78 [] [] SH M := by
  refine j_sipush (x := (-1003)) dX10_byTwo_78 rfl (i32_c rfl) ?_
  exact j_iret dX10_byTwo_81 rfl ⟨Nat.le_of_ble_eq_true rfl, Nat.le_of_ble_eq_true rfl⟩ (fun _ => h)
set_option maxRecDepth 100000 in
set_option maxHeartbeats 4000000 in
theorem B_X10_tooLate_0 {post : Int → ax_M → Prop} {M : ax_M} {x1 x2 x3 : Int} (h : (-2147483648 ≤ ((M 8 0) - 1) ∧ ((M 8 0) - 1) ≤ 2147483647) ∧ (((x1 < 0) → post (-1001) M) ∧ ((0 ≤ x1) → (((((M 8 0) - 1) < x1) → post (-1001) M) ∧ ((x1 ≤ ((M 8 0) - 1)) → (-2147483648 ≤ ((M 6 0) - 1) ∧ ((M 6 0) - 1) ≤ 2147483647) ∧ (((x3 < 0) → post (-1001) M) ∧ ((0 ≤ x3) → (((((M 6 0) - 1) < x3) → post (-1001) M) ∧ ((x3 ≤ ((M 6 0) - 1)) → ax_Ti Y_X0_untoldPlaces [aR 8] SH M (fun z2 u1 => (((¬ (bo_and (bo_shr z2 x3) 1) = 0) → (((x2 < (-1)) → post (-1002) u1) ∧ (((-1) ≤ x2) → (((99 < x2) → post (-1002) u1) ∧ ((x2 ≤ 99) → ax_Ti Y_X10_canTell [aR 0, aI x1] SH u1 (fun z4 u3 => (((¬ z4 = 0) → ax_Ti Y_X7_lateFor [aR 51, aI x1, aI x2, aI x3] SH u3 (fun z6 u5 => post z6 u5)) ∧ ((z4 = 0) → post (-1003) u3)))))))) ∧ (((bo_and (bo_shr z2 x3) 1) = 0) → post (-1001) u1)))))))))))) : ax_J Y_X10_tooLate (ax_Ki Y_X10_tooLate SH post) 0 0 0 [(0, aR 0), (1, aI x1), (2, aI x2), (3, aI x3)] [] SH M := by
  refine j_aload_n 0 dX10_tooLate_0 rfl ?_
  refine j_iload_n 1 dX10_tooLate_1 rfl ?_
  refine j_calliV (Yc := Y_X10_isMan) (as := [aI x1]) (rest := []) dX10_tooLate_2 q_X10_175 ⟨Nat.le_of_ble_eq_true rfl, Nat.le_of_ble_eq_true rfl, Nat.le_of_ble_eq_true rfl, Nat.le_of_ble_eq_true rfl⟩ sh_0 rfl (Nat.le_of_ble_eq_true rfl) rfl (ti_of (ll := [(0, aR 0), (1, aI x1)]) rfl (Nat.le_of_ble_eq_true rfl) rfl (fun _ => ?_))
  refine j_iload_n 1 dX10_isMan_0 rfl ?_
  refine j_iconst (x := 0) dX10_isMan_1 rfl (i32_c rfl) ?_
  refine j_aload_n 0 dX10_isMan_2 rfl ?_
  refine j_getc 8 dX10_isMan_3 f_X10_35 sh_0 rfl ?_
  refine j_geti (i := 0) dX10_isMan_6 f_X10_147 sh_8 rfl rfl (fun _ => ?_)
  refine j_iconst (x := 1) dX10_isMan_9 rfl (i32_c rfl) ?_
  obtain ⟨o1, h⟩ := h
  refine j_isub (z := ((M 8 0) - 1)) dX10_isMan_10 rfl o1 ?_
  refine j_calliS (Yc := Y_X10_within) (as := [aI x1, aI 0, aI ((M 8 0) - 1)]) (rest := []) dX10_isMan_11 q_X10_99 ⟨Nat.le_of_ble_eq_true rfl, Nat.le_of_ble_eq_true rfl, Nat.le_of_ble_eq_true rfl, Nat.le_of_ble_eq_true rfl⟩ rfl (Nat.le_of_ble_eq_true rfl) rfl (ti_of (ll := [(0, aI x1), (1, aI 0), (2, aI ((M 8 0) - 1))]) rfl (Nat.le_of_ble_eq_true rfl) rfl (fun _ => ?_))
  refine j_iload_n 0 dX10_within_0 rfl ?_
  refine j_iload_n 1 dX10_within_1 rfl ?_
  refine j_icmp_lt (tgt := 14) dX10_within_2 (by decide) (fun c2 => ?_) (fun c2 => ?_)
  · replace h := h.1 c2
    refine j_iconst (x := 0) dX10_within_14 rfl (i32_c rfl) ?_
    refine j_zret dX10_within_15 rfl ⟨Nat.le_of_ble_eq_true rfl, Nat.le_of_ble_eq_true rfl⟩ (by decide) ?_
    refine j_zret dX10_isMan_14 rfl ⟨Nat.le_of_ble_eq_true rfl, Nat.le_of_ble_eq_true rfl⟩ (by decide) ?_
    refine j_if_eq (tgt := 30) dX10_tooLate_5 (by decide) (fun _ => ?_) (fun c => absurd c (by decide))
    refine j_sipush (x := (-1001)) dX10_tooLate_30 rfl (i32_c rfl) ?_
    exact j_iret dX10_tooLate_33 rfl ⟨Nat.le_of_ble_eq_true rfl, Nat.le_of_ble_eq_true rfl⟩ (fun _ => h)
  · replace h := h.2 c2
    refine j_iload_n 0 dX10_within_5 rfl ?_
    refine j_iload_n 2 dX10_within_6 rfl ?_
    refine j_icmp_gt (tgt := 14) dX10_within_7 (by decide) (fun c3 => ?_) (fun c3 => ?_)
    · replace h := h.1 c3
      refine j_iconst (x := 0) dX10_within_14 rfl (i32_c rfl) ?_
      refine j_zret dX10_within_15 rfl ⟨Nat.le_of_ble_eq_true rfl, Nat.le_of_ble_eq_true rfl⟩ (by decide) ?_
      refine j_zret dX10_isMan_14 rfl ⟨Nat.le_of_ble_eq_true rfl, Nat.le_of_ble_eq_true rfl⟩ (by decide) ?_
      refine j_if_eq (tgt := 30) dX10_tooLate_5 (by decide) (fun _ => ?_) (fun c => absurd c (by decide))
      refine j_sipush (x := (-1001)) dX10_tooLate_30 rfl (i32_c rfl) ?_
      exact j_iret dX10_tooLate_33 rfl ⟨Nat.le_of_ble_eq_true rfl, Nat.le_of_ble_eq_true rfl⟩ (fun _ => h)
    · replace h := h.2 c3
      refine j_iconst (x := 1) dX10_within_10 rfl (i32_c rfl) ?_
      refine j_goto (tgt := 15) dX10_within_11 (by decide) ?_
      refine j_zret dX10_within_15 rfl ⟨Nat.le_of_ble_eq_true rfl, Nat.le_of_ble_eq_true rfl⟩ (by decide) ?_
      refine j_zret dX10_isMan_14 rfl ⟨Nat.le_of_ble_eq_true rfl, Nat.le_of_ble_eq_true rfl⟩ (by decide) ?_
      refine j_if_eq (tgt := 30) dX10_tooLate_5 (by decide) (fun c => absurd c (by decide)) (fun _ => ?_)
      refine j_aload_n 0 dX10_tooLate_8 rfl ?_
      refine j_iload_n 3 dX10_tooLate_9 rfl ?_
      refine j_calliV (Yc := Y_X10_isPlace) (as := [aI x3]) (rest := []) dX10_tooLate_10 q_X10_162 ⟨Nat.le_of_ble_eq_true rfl, Nat.le_of_ble_eq_true rfl, Nat.le_of_ble_eq_true rfl, Nat.le_of_ble_eq_true rfl⟩ sh_0 rfl (Nat.le_of_ble_eq_true rfl) rfl (ti_of (ll := [(0, aR 0), (1, aI x3)]) rfl (Nat.le_of_ble_eq_true rfl) rfl (fun _ => ?_))
      refine j_iload_n 1 dX10_isPlace_0 rfl ?_
      refine j_iconst (x := 0) dX10_isPlace_1 rfl (i32_c rfl) ?_
      refine j_aload_n 0 dX10_isPlace_2 rfl ?_
      refine j_getc 6 dX10_isPlace_3 f_X10_28 sh_0 rfl ?_
      refine j_geti (i := 0) dX10_isPlace_6 f_X10_144 sh_6 rfl rfl (fun _ => ?_)
      refine j_iconst (x := 1) dX10_isPlace_9 rfl (i32_c rfl) ?_
      obtain ⟨o4, h⟩ := h
      refine j_isub (z := ((M 6 0) - 1)) dX10_isPlace_10 rfl o4 ?_
      refine j_calliS (Yc := Y_X10_within) (as := [aI x3, aI 0, aI ((M 6 0) - 1)]) (rest := []) dX10_isPlace_11 q_X10_99 ⟨Nat.le_of_ble_eq_true rfl, Nat.le_of_ble_eq_true rfl, Nat.le_of_ble_eq_true rfl, Nat.le_of_ble_eq_true rfl⟩ rfl (Nat.le_of_ble_eq_true rfl) rfl (ti_of (ll := [(0, aI x3), (1, aI 0), (2, aI ((M 6 0) - 1))]) rfl (Nat.le_of_ble_eq_true rfl) rfl (fun _ => ?_))
      refine j_iload_n 0 dX10_within_0 rfl ?_
      refine j_iload_n 1 dX10_within_1 rfl ?_
      refine j_icmp_lt (tgt := 14) dX10_within_2 (by decide) (fun c5 => ?_) (fun c5 => ?_)
      · replace h := h.1 c5
        refine j_iconst (x := 0) dX10_within_14 rfl (i32_c rfl) ?_
        refine j_zret dX10_within_15 rfl ⟨Nat.le_of_ble_eq_true rfl, Nat.le_of_ble_eq_true rfl⟩ (by decide) ?_
        refine j_zret dX10_isPlace_14 rfl ⟨Nat.le_of_ble_eq_true rfl, Nat.le_of_ble_eq_true rfl⟩ (by decide) ?_
        refine j_if_eq (tgt := 30) dX10_tooLate_13 (by decide) (fun _ => ?_) (fun c => absurd c (by decide))
        refine j_sipush (x := (-1001)) dX10_tooLate_30 rfl (i32_c rfl) ?_
        exact j_iret dX10_tooLate_33 rfl ⟨Nat.le_of_ble_eq_true rfl, Nat.le_of_ble_eq_true rfl⟩ (fun _ => h)
      · replace h := h.2 c5
        refine j_iload_n 0 dX10_within_5 rfl ?_
        refine j_iload_n 2 dX10_within_6 rfl ?_
        refine j_icmp_gt (tgt := 14) dX10_within_7 (by decide) (fun c6 => ?_) (fun c6 => ?_)
        · replace h := h.1 c6
          refine j_iconst (x := 0) dX10_within_14 rfl (i32_c rfl) ?_
          refine j_zret dX10_within_15 rfl ⟨Nat.le_of_ble_eq_true rfl, Nat.le_of_ble_eq_true rfl⟩ (by decide) ?_
          refine j_zret dX10_isPlace_14 rfl ⟨Nat.le_of_ble_eq_true rfl, Nat.le_of_ble_eq_true rfl⟩ (by decide) ?_
          refine j_if_eq (tgt := 30) dX10_tooLate_13 (by decide) (fun _ => ?_) (fun c => absurd c (by decide))
          refine j_sipush (x := (-1001)) dX10_tooLate_30 rfl (i32_c rfl) ?_
          exact j_iret dX10_tooLate_33 rfl ⟨Nat.le_of_ble_eq_true rfl, Nat.le_of_ble_eq_true rfl⟩ (fun _ => h)
        · replace h := h.2 c6
          refine j_iconst (x := 1) dX10_within_10 rfl (i32_c rfl) ?_
          refine j_goto (tgt := 15) dX10_within_11 (by decide) ?_
          refine j_zret dX10_within_15 rfl ⟨Nat.le_of_ble_eq_true rfl, Nat.le_of_ble_eq_true rfl⟩ (by decide) ?_
          refine j_zret dX10_isPlace_14 rfl ⟨Nat.le_of_ble_eq_true rfl, Nat.le_of_ble_eq_true rfl⟩ (by decide) ?_
          refine j_if_eq (tgt := 30) dX10_tooLate_13 (by decide) (fun c => absurd c (by decide)) (fun _ => ?_)
          refine j_aload_n 0 dX10_tooLate_16 rfl ?_
          refine j_getc 8 dX10_tooLate_17 f_X10_35 sh_0 rfl ?_
          refine j_calliV (Yc := Y_X0_untoldPlaces) (as := []) (rest := []) dX10_tooLate_20 q_X10_243 ⟨Nat.le_of_ble_eq_true rfl, Nat.le_of_ble_eq_true rfl, Nat.le_of_ble_eq_true rfl, Nat.le_of_ble_eq_true rfl⟩ sh_8 rfl (Nat.le_of_ble_eq_true rfl) rfl (ti_mono h (fun z2 u1 h => ?_))
          refine j_iload_n 3 dX10_tooLate_23 rfl ?_
          refine j_ishr (z := (bo_shr z2 x3)) dX10_tooLate_24 rfl ?_
          refine j_iconst (x := 1) dX10_tooLate_25 rfl (i32_c rfl) ?_
          refine j_iand (z := (bo_and (bo_shr z2 x3) 1)) dX10_tooLate_26 rfl ?_
          refine j_if_ne (tgt := 34) dX10_tooLate_27 (by decide) (fun c7 => ?_) (fun c7 => ?_)
          · replace h := h.1 c7
            refine j_iload_n 2 dX10_tooLate_34 rfl ?_
            refine j_calliS (Yc := Y_X10_isLight) (as := [aI x2]) (rest := []) dX10_tooLate_35 q_X10_197 ⟨Nat.le_of_ble_eq_true rfl, Nat.le_of_ble_eq_true rfl, Nat.le_of_ble_eq_true rfl, Nat.le_of_ble_eq_true rfl⟩ rfl (Nat.le_of_ble_eq_true rfl) rfl (ti_of (ll := [(0, aI x2)]) rfl (Nat.le_of_ble_eq_true rfl) rfl (fun _ => ?_))
            refine j_iload_n 0 dX10_isLight_0 rfl ?_
            refine j_iconst (x := (-1)) dX10_isLight_1 rfl (i32_c rfl) ?_
            refine j_bipush (x := 99) dX10_isLight_2 rfl (i32_c rfl) ?_
            refine j_calliS (Yc := Y_X10_within) (as := [aI x2, aI (-1), aI 99]) (rest := []) dX10_isLight_4 q_X10_99 ⟨Nat.le_of_ble_eq_true rfl, Nat.le_of_ble_eq_true rfl, Nat.le_of_ble_eq_true rfl, Nat.le_of_ble_eq_true rfl⟩ rfl (Nat.le_of_ble_eq_true rfl) rfl (ti_of (ll := [(0, aI x2), (1, aI (-1)), (2, aI 99)]) rfl (Nat.le_of_ble_eq_true rfl) rfl (fun _ => ?_))
            refine j_iload_n 0 dX10_within_0 rfl ?_
            refine j_iload_n 1 dX10_within_1 rfl ?_
            refine j_icmp_lt (tgt := 14) dX10_within_2 (by decide) (fun c8 => ?_) (fun c8 => ?_)
            · replace h := h.1 c8
              refine j_iconst (x := 0) dX10_within_14 rfl (i32_c rfl) ?_
              refine j_zret dX10_within_15 rfl ⟨Nat.le_of_ble_eq_true rfl, Nat.le_of_ble_eq_true rfl⟩ (by decide) ?_
              refine j_zret dX10_isLight_7 rfl ⟨Nat.le_of_ble_eq_true rfl, Nat.le_of_ble_eq_true rfl⟩ (by decide) ?_
              refine j_if_ne (tgt := 45) dX10_tooLate_38 (by decide) (fun c => absurd c (by decide)) (fun _ => ?_)
              refine j_sipush (x := (-1002)) dX10_tooLate_41 rfl (i32_c rfl) ?_
              exact j_iret dX10_tooLate_44 rfl ⟨Nat.le_of_ble_eq_true rfl, Nat.le_of_ble_eq_true rfl⟩ (fun _ => h)
            · replace h := h.2 c8
              refine j_iload_n 0 dX10_within_5 rfl ?_
              refine j_iload_n 2 dX10_within_6 rfl ?_
              refine j_icmp_gt (tgt := 14) dX10_within_7 (by decide) (fun c9 => ?_) (fun c9 => ?_)
              · replace h := h.1 c9
                refine j_iconst (x := 0) dX10_within_14 rfl (i32_c rfl) ?_
                refine j_zret dX10_within_15 rfl ⟨Nat.le_of_ble_eq_true rfl, Nat.le_of_ble_eq_true rfl⟩ (by decide) ?_
                refine j_zret dX10_isLight_7 rfl ⟨Nat.le_of_ble_eq_true rfl, Nat.le_of_ble_eq_true rfl⟩ (by decide) ?_
                refine j_if_ne (tgt := 45) dX10_tooLate_38 (by decide) (fun c => absurd c (by decide)) (fun _ => ?_)
                refine j_sipush (x := (-1002)) dX10_tooLate_41 rfl (i32_c rfl) ?_
                exact j_iret dX10_tooLate_44 rfl ⟨Nat.le_of_ble_eq_true rfl, Nat.le_of_ble_eq_true rfl⟩ (fun _ => h)
              · replace h := h.2 c9
                refine j_iconst (x := 1) dX10_within_10 rfl (i32_c rfl) ?_
                refine j_goto (tgt := 15) dX10_within_11 (by decide) ?_
                refine j_zret dX10_within_15 rfl ⟨Nat.le_of_ble_eq_true rfl, Nat.le_of_ble_eq_true rfl⟩ (by decide) ?_
                refine j_zret dX10_isLight_7 rfl ⟨Nat.le_of_ble_eq_true rfl, Nat.le_of_ble_eq_true rfl⟩ (by decide) ?_
                refine j_if_ne (tgt := 45) dX10_tooLate_38 (by decide) (fun _ => ?_) (fun c => absurd c (by decide))
                refine j_aload_n 0 dX10_tooLate_45 rfl ?_
                refine j_iload_n 1 dX10_tooLate_46 rfl ?_
                refine j_calliV (Yc := Y_X10_canTell) (as := [aI x1]) (rest := []) dX10_tooLate_47 q_X10_246 ⟨Nat.le_of_ble_eq_true rfl, Nat.le_of_ble_eq_true rfl, Nat.le_of_ble_eq_true rfl, Nat.le_of_ble_eq_true rfl⟩ sh_0 rfl (Nat.le_of_ble_eq_true rfl) rfl (ti_mono h (fun z4 u3 h => ?_))
                refine j_if_ne (tgt := 57) dX10_tooLate_50 (by decide) (fun c10 => ?_) (fun c10 => ?_)
                · replace h := h.1 c10
                  refine j_aload_n 0 dX10_tooLate_57 rfl ?_
                  refine j_getc 51 dX10_tooLate_58 f_X10_82 sh_0 rfl ?_
                  refine j_iload_n 1 dX10_tooLate_61 rfl ?_
                  refine j_iload_n 2 dX10_tooLate_62 rfl ?_
                  refine j_iload_n 3 dX10_tooLate_63 rfl ?_
                  refine j_calliV (Yc := Y_X7_lateFor) (as := [aI x1, aI x2, aI x3]) (rest := []) dX10_tooLate_64 q_X10_277 ⟨Nat.le_of_ble_eq_true rfl, Nat.le_of_ble_eq_true rfl, Nat.le_of_ble_eq_true rfl, Nat.le_of_ble_eq_true rfl⟩ sh_51 rfl (Nat.le_of_ble_eq_true rfl) rfl (ti_mono h (fun z6 u5 h => ?_))
                  exact j_iret dX10_tooLate_67 rfl ⟨Nat.le_of_ble_eq_true rfl, Nat.le_of_ble_eq_true rfl⟩ (fun _ => h)
                · replace h := h.2 c10
                  refine j_sipush (x := (-1003)) dX10_tooLate_53 rfl (i32_c rfl) ?_
                  exact j_iret dX10_tooLate_56 rfl ⟨Nat.le_of_ble_eq_true rfl, Nat.le_of_ble_eq_true rfl⟩ (fun _ => h)
          · replace h := h.2 c7
            refine j_sipush (x := (-1001)) dX10_tooLate_30 rfl (i32_c rfl) ?_
            exact j_iret dX10_tooLate_33 rfl ⟨Nat.le_of_ble_eq_true rfl, Nat.le_of_ble_eq_true rfl⟩ (fun _ => h)
theorem E_X10_tooLate {post : Int → ax_M → Prop} {M : ax_M} {x1 x2 x3 : Int} (h : ax_mr SH M → (-2147483648 ≤ ((M 8 0) - 1) ∧ ((M 8 0) - 1) ≤ 2147483647) ∧ (((x1 < 0) → post (-1001) M) ∧ ((0 ≤ x1) → (((((M 8 0) - 1) < x1) → post (-1001) M) ∧ ((x1 ≤ ((M 8 0) - 1)) → (-2147483648 ≤ ((M 6 0) - 1) ∧ ((M 6 0) - 1) ≤ 2147483647) ∧ (((x3 < 0) → post (-1001) M) ∧ ((0 ≤ x3) → (((((M 6 0) - 1) < x3) → post (-1001) M) ∧ ((x3 ≤ ((M 6 0) - 1)) → ax_Ti Y_X0_untoldPlaces [aR 8] SH M (fun z2 u1 => (((¬ (bo_and (bo_shr z2 x3) 1) = 0) → (((x2 < (-1)) → post (-1002) u1) ∧ (((-1) ≤ x2) → (((99 < x2) → post (-1002) u1) ∧ ((x2 ≤ 99) → ax_Ti Y_X10_canTell [aR 0, aI x1] SH u1 (fun z4 u3 => (((¬ z4 = 0) → ax_Ti Y_X7_lateFor [aR 51, aI x1, aI x2, aI x3] SH u3 (fun z6 u5 => post z6 u5)) ∧ ((z4 = 0) → post (-1003) u3)))))))) ∧ (((bo_and (bo_shr z2 x3) 1) = 0) → post (-1001) u1)))))))))))) : ax_Ti Y_X10_tooLate [aR 0, aI x1, aI x2, aI x3] SH M post :=
  ti_of rfl (Nat.le_of_ble_eq_true rfl) rfl (fun q => B_X10_tooLate_0 (h q))
set_option maxRecDepth 100000 in
set_option maxHeartbeats 4000000 in
theorem B_X10_go_0 {post : Int → ax_M → Prop} {M : ax_M} {x1 : Int} (h : (-2147483648 ≤ ((M 6 0) - 1) ∧ ((M 6 0) - 1) ≤ 2147483647) ∧ (((x1 < 0) → post (-1001) M) ∧ ((0 ≤ x1) → (((((M 6 0) - 1) < x1) → post (-1001) M) ∧ ((x1 ≤ ((M 6 0) - 1)) → ((((M 31 1) < 12) → (0 ≤ (M 31 1) ∧ (M 31 1) < 12) ∧ (-2147483648 ≤ ((M 31 1) + 1) ∧ ((M 31 1) + 1) ≤ 2147483647) ∧ post ((M 31 1) + 1) (ax_up (ax_up M 32 (M 31 1) x1) 31 1 ((M 31 1) + 1))) ∧ ((12 ≤ (M 31 1)) → post (-1004) M))))))) : ax_J Y_X10_go (ax_Ki Y_X10_go SH post) 0 0 0 [(0, aR 0), (1, aI x1)] [] SH M := by
  refine j_aload_n 0 dX10_go_0 rfl ?_
  refine j_iload_n 1 dX10_go_1 rfl ?_
  refine j_calliV (Yc := Y_X10_isPlace) (as := [aI x1]) (rest := []) dX10_go_2 q_X10_162 ⟨Nat.le_of_ble_eq_true rfl, Nat.le_of_ble_eq_true rfl, Nat.le_of_ble_eq_true rfl, Nat.le_of_ble_eq_true rfl⟩ sh_0 rfl (Nat.le_of_ble_eq_true rfl) rfl (ti_of (ll := [(0, aR 0), (1, aI x1)]) rfl (Nat.le_of_ble_eq_true rfl) rfl (fun _ => ?_))
  refine j_iload_n 1 dX10_isPlace_0 rfl ?_
  refine j_iconst (x := 0) dX10_isPlace_1 rfl (i32_c rfl) ?_
  refine j_aload_n 0 dX10_isPlace_2 rfl ?_
  refine j_getc 6 dX10_isPlace_3 f_X10_28 sh_0 rfl ?_
  refine j_geti (i := 0) dX10_isPlace_6 f_X10_144 sh_6 rfl rfl (fun _ => ?_)
  refine j_iconst (x := 1) dX10_isPlace_9 rfl (i32_c rfl) ?_
  obtain ⟨o1, h⟩ := h
  refine j_isub (z := ((M 6 0) - 1)) dX10_isPlace_10 rfl o1 ?_
  refine j_calliS (Yc := Y_X10_within) (as := [aI x1, aI 0, aI ((M 6 0) - 1)]) (rest := []) dX10_isPlace_11 q_X10_99 ⟨Nat.le_of_ble_eq_true rfl, Nat.le_of_ble_eq_true rfl, Nat.le_of_ble_eq_true rfl, Nat.le_of_ble_eq_true rfl⟩ rfl (Nat.le_of_ble_eq_true rfl) rfl (ti_of (ll := [(0, aI x1), (1, aI 0), (2, aI ((M 6 0) - 1))]) rfl (Nat.le_of_ble_eq_true rfl) rfl (fun _ => ?_))
  refine j_iload_n 0 dX10_within_0 rfl ?_
  refine j_iload_n 1 dX10_within_1 rfl ?_
  refine j_icmp_lt (tgt := 14) dX10_within_2 (by decide) (fun c2 => ?_) (fun c2 => ?_)
  · replace h := h.1 c2
    refine j_iconst (x := 0) dX10_within_14 rfl (i32_c rfl) ?_
    refine j_zret dX10_within_15 rfl ⟨Nat.le_of_ble_eq_true rfl, Nat.le_of_ble_eq_true rfl⟩ (by decide) ?_
    refine j_zret dX10_isPlace_14 rfl ⟨Nat.le_of_ble_eq_true rfl, Nat.le_of_ble_eq_true rfl⟩ (by decide) ?_
    refine j_if_ne (tgt := 12) dX10_go_5 (by decide) (fun c => absurd c (by decide)) (fun _ => ?_)
    refine j_sipush (x := (-1001)) dX10_go_8 rfl (i32_c rfl) ?_
    exact j_iret dX10_go_11 rfl ⟨Nat.le_of_ble_eq_true rfl, Nat.le_of_ble_eq_true rfl⟩ (fun _ => h)
  · replace h := h.2 c2
    refine j_iload_n 0 dX10_within_5 rfl ?_
    refine j_iload_n 2 dX10_within_6 rfl ?_
    refine j_icmp_gt (tgt := 14) dX10_within_7 (by decide) (fun c3 => ?_) (fun c3 => ?_)
    · replace h := h.1 c3
      refine j_iconst (x := 0) dX10_within_14 rfl (i32_c rfl) ?_
      refine j_zret dX10_within_15 rfl ⟨Nat.le_of_ble_eq_true rfl, Nat.le_of_ble_eq_true rfl⟩ (by decide) ?_
      refine j_zret dX10_isPlace_14 rfl ⟨Nat.le_of_ble_eq_true rfl, Nat.le_of_ble_eq_true rfl⟩ (by decide) ?_
      refine j_if_ne (tgt := 12) dX10_go_5 (by decide) (fun c => absurd c (by decide)) (fun _ => ?_)
      refine j_sipush (x := (-1001)) dX10_go_8 rfl (i32_c rfl) ?_
      exact j_iret dX10_go_11 rfl ⟨Nat.le_of_ble_eq_true rfl, Nat.le_of_ble_eq_true rfl⟩ (fun _ => h)
    · replace h := h.2 c3
      refine j_iconst (x := 1) dX10_within_10 rfl (i32_c rfl) ?_
      refine j_goto (tgt := 15) dX10_within_11 (by decide) ?_
      refine j_zret dX10_within_15 rfl ⟨Nat.le_of_ble_eq_true rfl, Nat.le_of_ble_eq_true rfl⟩ (by decide) ?_
      refine j_zret dX10_isPlace_14 rfl ⟨Nat.le_of_ble_eq_true rfl, Nat.le_of_ble_eq_true rfl⟩ (by decide) ?_
      refine j_if_ne (tgt := 12) dX10_go_5 (by decide) (fun _ => ?_) (fun c => absurd c (by decide))
      refine j_aload_n 0 dX10_go_12 rfl ?_
      refine j_getc 31 dX10_go_13 f_X10_50 sh_0 rfl ?_
      refine j_geti (i := 1) dX10_go_16 f_X10_125 sh_31 rfl rfl (fun _ => ?_)
      refine j_bipush (x := 12) dX10_go_19 rfl (i32_c rfl) ?_
      refine j_icmp_lt (tgt := 28) dX10_go_21 (by decide) (fun c4 => ?_) (fun c4 => ?_)
      · replace h := h.1 c4
        refine j_aload_n 0 dX10_go_28 rfl ?_
        refine j_getc 31 dX10_go_29 f_X10_50 sh_0 rfl ?_
        refine j_iload_n 1 dX10_go_32 rfl ?_
        refine j_callvV (Yc := Y_X6_append) (as := [aI x1]) (rest := []) dX10_go_33 q_X10_281 ⟨Nat.le_of_ble_eq_true rfl, Nat.le_of_ble_eq_true rfl, Nat.le_of_ble_eq_true rfl, Nat.le_of_ble_eq_true rfl⟩ sh_31 rfl (Nat.le_of_ble_eq_true rfl) rfl (tv_of (ll := [(0, aR 31), (1, aI x1)]) rfl (Nat.le_of_ble_eq_true rfl) rfl (fun _ => ?_))
        refine j_aload_n 0 dX6_append_0 rfl ?_
        refine j_geti (i := 1) dX6_append_1 f_X6_15 sh_31 rfl rfl (fun _ => ?_)
        refine j_bipush (x := 12) dX6_append_4 rfl (i32_c rfl) ?_
        refine j_icmp_ge (tgt := 29) dX6_append_6 (by decide) (fun c => by have := c4; omega) (fun _ => ?_)
        refine j_aload_n 0 dX6_append_9 rfl ?_
        refine j_getc 32 dX6_append_10 f_X6_9 sh_31 rfl ?_
        refine j_aload_n 0 dX6_append_13 rfl ?_
        refine j_geti (i := 1) dX6_append_14 f_X6_15 sh_31 rfl rfl (fun _ => ?_)
        refine j_iload_n 1 dX6_append_17 rfl ?_
        obtain ⟨o5, h⟩ := h
        refine j_iast dX6_append_18 sh_32 o5.1 o5.2 ?_
        refine j_aload_n 0 dX6_append_19 rfl ?_
        refine j_dup dX6_append_20 rfl ?_
        refine j_geti (i := 1) dX6_append_21 f_X6_15 sh_31 rfl rfl (fun _ => ?_)
        refine j_iconst (x := 1) dX6_append_24 rfl (i32_c rfl) ?_
        obtain ⟨o6, h⟩ := h
        refine j_iadd (z := ((M 31 1) + 1)) dX6_append_25 rfl o6 ?_
        refine j_puti (i := 1) dX6_append_26 p_X6_15 (fun h => by cases h) sh_31 rfl rfl ?_
        refine j_vret dX6_append_29 rfl ⟨Nat.le_of_ble_eq_true rfl, Nat.le_of_ble_eq_true rfl⟩ ?_
        refine j_aload_n 0 dX10_go_36 rfl ?_
        refine j_getc 31 dX10_go_37 f_X10_50 sh_0 rfl ?_
        refine j_geti (i := 1) dX10_go_40 f_X10_125 sh_31 rfl rfl (fun _ => ?_)
        exact j_iret dX10_go_43 rfl ⟨Nat.le_of_ble_eq_true rfl, Nat.le_of_ble_eq_true rfl⟩ (fun _ => h)
      · replace h := h.2 c4
        refine j_sipush (x := (-1004)) dX10_go_24 rfl (i32_c rfl) ?_
        exact j_iret dX10_go_27 rfl ⟨Nat.le_of_ble_eq_true rfl, Nat.le_of_ble_eq_true rfl⟩ (fun _ => h)
theorem E_X10_go {post : Int → ax_M → Prop} {M : ax_M} {x1 : Int} (h : ax_mr SH M → (-2147483648 ≤ ((M 6 0) - 1) ∧ ((M 6 0) - 1) ≤ 2147483647) ∧ (((x1 < 0) → post (-1001) M) ∧ ((0 ≤ x1) → (((((M 6 0) - 1) < x1) → post (-1001) M) ∧ ((x1 ≤ ((M 6 0) - 1)) → ((((M 31 1) < 12) → (0 ≤ (M 31 1) ∧ (M 31 1) < 12) ∧ (-2147483648 ≤ ((M 31 1) + 1) ∧ ((M 31 1) + 1) ≤ 2147483647) ∧ post ((M 31 1) + 1) (ax_up (ax_up M 32 (M 31 1) x1) 31 1 ((M 31 1) + 1))) ∧ ((12 ≤ (M 31 1)) → post (-1004) M))))))) : ax_Ti Y_X10_go [aR 0, aI x1] SH M post :=
  ti_of rfl (Nat.le_of_ble_eq_true rfl) rfl (fun q => B_X10_go_0 (h q))
set_option maxRecDepth 100000 in
set_option maxHeartbeats 4000000 in
theorem B_X10_clear_0 {post : Int → ax_M → Prop} {M : ax_M} (h : post (M 31 1) (ax_up M 31 1 0)) : ax_J Y_X10_clear (ax_Ki Y_X10_clear SH post) 0 0 0 [(0, aR 0)] [] SH M := by
  refine j_aload_n 0 dX10_clear_0 rfl ?_
  refine j_getc 31 dX10_clear_1 f_X10_50 sh_0 rfl ?_
  refine j_geti (i := 1) dX10_clear_4 f_X10_125 sh_31 rfl rfl (fun _ => ?_)
  refine j_istore_n (ll' := [(1, aI (M 31 1)), (0, aR 0)]) dX10_clear_7 (Nat.le_of_ble_eq_true rfl) rfl ?_
  refine j_aload_n 1 dX10_clear_8 rfl ?_
  refine j_getc 31 dX10_clear_9 f_X10_50 sh_0 rfl ?_
  refine j_iconst (x := 0) dX10_clear_12 rfl (i32_c rfl) ?_
  refine j_puti (i := 1) dX10_clear_13 p_X10_125 (fun h => by cases h) sh_31 rfl rfl ?_
  refine j_iload_n 0 dX10_clear_16 rfl ?_
  exact j_iret dX10_clear_17 rfl ⟨Nat.le_of_ble_eq_true rfl, Nat.le_of_ble_eq_true rfl⟩ (fun _ => h)
theorem E_X10_clear {post : Int → ax_M → Prop} {M : ax_M} (h : ax_mr SH M → post (M 31 1) (ax_up M 31 1 0)) : ax_Ti Y_X10_clear [aR 0] SH M post :=
  ti_of rfl (Nat.le_of_ble_eq_true rfl) rfl (fun q => B_X10_clear_0 (h q))
set_option maxRecDepth 100000 in
set_option maxHeartbeats 4000000 in
theorem B_X10_judge_0 {post : Int → ax_M → Prop} {M : ax_M} {x1 x2 x3 x4 : Int} (h : (-2147483648 ≤ ((M 8 0) - 1) ∧ ((M 8 0) - 1) ≤ 2147483647) ∧ (((x1 < 0) → post (-1001) M) ∧ ((0 ≤ x1) → (((((M 8 0) - 1) < x1) → post (-1001) M) ∧ ((x1 ≤ ((M 8 0) - 1)) → (((x2 < 0) → ax_J Y_X10_judge (ax_Ki Y_X10_judge SH post) 0 0 36 [] [] SH M) ∧ ((0 ≤ x2) → (((99 < x2) → ax_J Y_X10_judge (ax_Ki Y_X10_judge SH post) 0 0 36 [] [] SH M) ∧ ((x2 ≤ 99) → (((x3 < (-1)) → ax_J Y_X10_judge (ax_Ki Y_X10_judge SH post) 0 0 36 [] [] SH M) ∧ (((-1) ≤ x3) → (((99 < x3) → ax_J Y_X10_judge (ax_Ki Y_X10_judge SH post) 0 0 36 [] [] SH M) ∧ ((x3 ≤ 99) → (((x4 < 0) → ax_J Y_X10_judge (ax_Ki Y_X10_judge SH post) 0 0 36 [] [] SH M) ∧ ((0 ≤ x4) → (((1 < x4) → ax_J Y_X10_judge (ax_Ki Y_X10_judge SH post) 0 0 36 [] [] SH M) ∧ ((x4 ≤ 1) → ((((M 31 1) = 0) → ax_J Y_X10_judge (ax_Ki Y_X10_judge SH post) 0 0 71 [(2, aI x2), (4, aI x4)] [] SH M) ∧ ((¬ (M 31 1) = 0) → (0 ≤ x1 ∧ x1 < 8) ∧ ((((M 32 0) = (M 9 x1)) → ax_Tv Y_X9_prepareMarked [aR 33, aI x3, aI (M 11 x1), aI (-1), aI (-1)] SH M (fun u1 => ax_Tv Y_X4_follow [aR 60, aI x2] SH u1 (fun u2 => (((¬ x4 = 0) → post (u2 60 4) u2) ∧ ((x4 = 0) → post (u2 60 3) u2))))) ∧ ((¬ (M 32 0) = (M 9 x1)) → ax_J Y_X10_judge (ax_Ki Y_X10_judge SH post) 0 0 71 [(2, aI x2), (4, aI x4)] [] SH M))))))))))))))))))))) : ax_J Y_X10_judge (ax_Ki Y_X10_judge SH post) 0 0 0 [(0, aR 0), (1, aI x1), (2, aI x2), (3, aI x3), (4, aI x4)] [] SH M := by
  refine j_aload_n 0 dX10_judge_0 rfl ?_
  refine j_iload_n 1 dX10_judge_1 rfl ?_
  refine j_calliV (Yc := Y_X10_isMan) (as := [aI x1]) (rest := []) dX10_judge_2 q_X10_175 ⟨Nat.le_of_ble_eq_true rfl, Nat.le_of_ble_eq_true rfl, Nat.le_of_ble_eq_true rfl, Nat.le_of_ble_eq_true rfl⟩ sh_0 rfl (Nat.le_of_ble_eq_true rfl) rfl (ti_of (ll := [(0, aR 0), (1, aI x1)]) rfl (Nat.le_of_ble_eq_true rfl) rfl (fun _ => ?_))
  refine j_iload_n 1 dX10_isMan_0 rfl ?_
  refine j_iconst (x := 0) dX10_isMan_1 rfl (i32_c rfl) ?_
  refine j_aload_n 0 dX10_isMan_2 rfl ?_
  refine j_getc 8 dX10_isMan_3 f_X10_35 sh_0 rfl ?_
  refine j_geti (i := 0) dX10_isMan_6 f_X10_147 sh_8 rfl rfl (fun _ => ?_)
  refine j_iconst (x := 1) dX10_isMan_9 rfl (i32_c rfl) ?_
  obtain ⟨o1, h⟩ := h
  refine j_isub (z := ((M 8 0) - 1)) dX10_isMan_10 rfl o1 ?_
  refine j_calliS (Yc := Y_X10_within) (as := [aI x1, aI 0, aI ((M 8 0) - 1)]) (rest := []) dX10_isMan_11 q_X10_99 ⟨Nat.le_of_ble_eq_true rfl, Nat.le_of_ble_eq_true rfl, Nat.le_of_ble_eq_true rfl, Nat.le_of_ble_eq_true rfl⟩ rfl (Nat.le_of_ble_eq_true rfl) rfl (ti_of (ll := [(0, aI x1), (1, aI 0), (2, aI ((M 8 0) - 1))]) rfl (Nat.le_of_ble_eq_true rfl) rfl (fun _ => ?_))
  refine j_iload_n 0 dX10_within_0 rfl ?_
  refine j_iload_n 1 dX10_within_1 rfl ?_
  refine j_icmp_lt (tgt := 14) dX10_within_2 (by decide) (fun c2 => ?_) (fun c2 => ?_)
  · replace h := h.1 c2
    refine j_iconst (x := 0) dX10_within_14 rfl (i32_c rfl) ?_
    refine j_zret dX10_within_15 rfl ⟨Nat.le_of_ble_eq_true rfl, Nat.le_of_ble_eq_true rfl⟩ (by decide) ?_
    refine j_zret dX10_isMan_14 rfl ⟨Nat.le_of_ble_eq_true rfl, Nat.le_of_ble_eq_true rfl⟩ (by decide) ?_
    refine j_if_ne (tgt := 12) dX10_judge_5 (by decide) (fun c => absurd c (by decide)) (fun _ => ?_)
    refine j_sipush (x := (-1001)) dX10_judge_8 rfl (i32_c rfl) ?_
    exact j_iret dX10_judge_11 rfl ⟨Nat.le_of_ble_eq_true rfl, Nat.le_of_ble_eq_true rfl⟩ (fun _ => h)
  · replace h := h.2 c2
    refine j_iload_n 0 dX10_within_5 rfl ?_
    refine j_iload_n 2 dX10_within_6 rfl ?_
    refine j_icmp_gt (tgt := 14) dX10_within_7 (by decide) (fun c3 => ?_) (fun c3 => ?_)
    · replace h := h.1 c3
      refine j_iconst (x := 0) dX10_within_14 rfl (i32_c rfl) ?_
      refine j_zret dX10_within_15 rfl ⟨Nat.le_of_ble_eq_true rfl, Nat.le_of_ble_eq_true rfl⟩ (by decide) ?_
      refine j_zret dX10_isMan_14 rfl ⟨Nat.le_of_ble_eq_true rfl, Nat.le_of_ble_eq_true rfl⟩ (by decide) ?_
      refine j_if_ne (tgt := 12) dX10_judge_5 (by decide) (fun c => absurd c (by decide)) (fun _ => ?_)
      refine j_sipush (x := (-1001)) dX10_judge_8 rfl (i32_c rfl) ?_
      exact j_iret dX10_judge_11 rfl ⟨Nat.le_of_ble_eq_true rfl, Nat.le_of_ble_eq_true rfl⟩ (fun _ => h)
    · replace h := h.2 c3
      refine j_iconst (x := 1) dX10_within_10 rfl (i32_c rfl) ?_
      refine j_goto (tgt := 15) dX10_within_11 (by decide) ?_
      refine j_zret dX10_within_15 rfl ⟨Nat.le_of_ble_eq_true rfl, Nat.le_of_ble_eq_true rfl⟩ (by decide) ?_
      refine j_zret dX10_isMan_14 rfl ⟨Nat.le_of_ble_eq_true rfl, Nat.le_of_ble_eq_true rfl⟩ (by decide) ?_
      refine j_if_ne (tgt := 12) dX10_judge_5 (by decide) (fun _ => ?_) (fun c => absurd c (by decide))
      refine j_iload_n 2 dX10_judge_12 rfl ?_
      refine j_calliS (Yc := Y_X10_isMinute) (as := [aI x2]) (rest := []) dX10_judge_13 q_X10_169 ⟨Nat.le_of_ble_eq_true rfl, Nat.le_of_ble_eq_true rfl, Nat.le_of_ble_eq_true rfl, Nat.le_of_ble_eq_true rfl⟩ rfl (Nat.le_of_ble_eq_true rfl) rfl (ti_of (ll := [(0, aI x2)]) rfl (Nat.le_of_ble_eq_true rfl) rfl (fun _ => ?_))
      refine j_iload_n 0 dX10_isMinute_0 rfl ?_
      refine j_iconst (x := 0) dX10_isMinute_1 rfl (i32_c rfl) ?_
      refine j_bipush (x := 99) dX10_isMinute_2 rfl (i32_c rfl) ?_
      refine j_calliS (Yc := Y_X10_within) (as := [aI x2, aI 0, aI 99]) (rest := []) dX10_isMinute_4 q_X10_99 ⟨Nat.le_of_ble_eq_true rfl, Nat.le_of_ble_eq_true rfl, Nat.le_of_ble_eq_true rfl, Nat.le_of_ble_eq_true rfl⟩ rfl (Nat.le_of_ble_eq_true rfl) rfl (ti_of (ll := [(0, aI x2), (1, aI 0), (2, aI 99)]) rfl (Nat.le_of_ble_eq_true rfl) rfl (fun _ => ?_))
      refine j_iload_n 0 dX10_within_0 rfl ?_
      refine j_iload_n 1 dX10_within_1 rfl ?_
      refine j_icmp_lt (tgt := 14) dX10_within_2 (by decide) (fun c4 => ?_) (fun c4 => ?_)
      · replace h := h.1 c4
        refine j_iconst (x := 0) dX10_within_14 rfl (i32_c rfl) ?_
        refine j_zret dX10_within_15 rfl ⟨Nat.le_of_ble_eq_true rfl, Nat.le_of_ble_eq_true rfl⟩ (by decide) ?_
        refine j_zret dX10_isMinute_7 rfl ⟨Nat.le_of_ble_eq_true rfl, Nat.le_of_ble_eq_true rfl⟩ (by decide) ?_
        refine j_if_eq (tgt := 36) dX10_judge_16 (by decide) (fun _ => ?_) (fun c => absurd c (by decide))
        refine j_sub [] rfl ?_
        exact h
      · replace h := h.2 c4
        refine j_iload_n 0 dX10_within_5 rfl ?_
        refine j_iload_n 2 dX10_within_6 rfl ?_
        refine j_icmp_gt (tgt := 14) dX10_within_7 (by decide) (fun c5 => ?_) (fun c5 => ?_)
        · replace h := h.1 c5
          refine j_iconst (x := 0) dX10_within_14 rfl (i32_c rfl) ?_
          refine j_zret dX10_within_15 rfl ⟨Nat.le_of_ble_eq_true rfl, Nat.le_of_ble_eq_true rfl⟩ (by decide) ?_
          refine j_zret dX10_isMinute_7 rfl ⟨Nat.le_of_ble_eq_true rfl, Nat.le_of_ble_eq_true rfl⟩ (by decide) ?_
          refine j_if_eq (tgt := 36) dX10_judge_16 (by decide) (fun _ => ?_) (fun c => absurd c (by decide))
          refine j_sub [] rfl ?_
          exact h
        · replace h := h.2 c5
          refine j_iconst (x := 1) dX10_within_10 rfl (i32_c rfl) ?_
          refine j_goto (tgt := 15) dX10_within_11 (by decide) ?_
          refine j_zret dX10_within_15 rfl ⟨Nat.le_of_ble_eq_true rfl, Nat.le_of_ble_eq_true rfl⟩ (by decide) ?_
          refine j_zret dX10_isMinute_7 rfl ⟨Nat.le_of_ble_eq_true rfl, Nat.le_of_ble_eq_true rfl⟩ (by decide) ?_
          refine j_if_eq (tgt := 36) dX10_judge_16 (by decide) (fun c => absurd c (by decide)) (fun _ => ?_)
          refine j_iload_n 3 dX10_judge_19 rfl ?_
          refine j_calliS (Yc := Y_X10_isLight) (as := [aI x3]) (rest := []) dX10_judge_20 q_X10_197 ⟨Nat.le_of_ble_eq_true rfl, Nat.le_of_ble_eq_true rfl, Nat.le_of_ble_eq_true rfl, Nat.le_of_ble_eq_true rfl⟩ rfl (Nat.le_of_ble_eq_true rfl) rfl (ti_of (ll := [(0, aI x3)]) rfl (Nat.le_of_ble_eq_true rfl) rfl (fun _ => ?_))
          refine j_iload_n 0 dX10_isLight_0 rfl ?_
          refine j_iconst (x := (-1)) dX10_isLight_1 rfl (i32_c rfl) ?_
          refine j_bipush (x := 99) dX10_isLight_2 rfl (i32_c rfl) ?_
          refine j_calliS (Yc := Y_X10_within) (as := [aI x3, aI (-1), aI 99]) (rest := []) dX10_isLight_4 q_X10_99 ⟨Nat.le_of_ble_eq_true rfl, Nat.le_of_ble_eq_true rfl, Nat.le_of_ble_eq_true rfl, Nat.le_of_ble_eq_true rfl⟩ rfl (Nat.le_of_ble_eq_true rfl) rfl (ti_of (ll := [(0, aI x3), (1, aI (-1)), (2, aI 99)]) rfl (Nat.le_of_ble_eq_true rfl) rfl (fun _ => ?_))
          refine j_iload_n 0 dX10_within_0 rfl ?_
          refine j_iload_n 1 dX10_within_1 rfl ?_
          refine j_icmp_lt (tgt := 14) dX10_within_2 (by decide) (fun c6 => ?_) (fun c6 => ?_)
          · replace h := h.1 c6
            refine j_iconst (x := 0) dX10_within_14 rfl (i32_c rfl) ?_
            refine j_zret dX10_within_15 rfl ⟨Nat.le_of_ble_eq_true rfl, Nat.le_of_ble_eq_true rfl⟩ (by decide) ?_
            refine j_zret dX10_isLight_7 rfl ⟨Nat.le_of_ble_eq_true rfl, Nat.le_of_ble_eq_true rfl⟩ (by decide) ?_
            refine j_if_eq (tgt := 36) dX10_judge_23 (by decide) (fun _ => ?_) (fun c => absurd c (by decide))
            refine j_sub [] rfl ?_
            exact h
          · replace h := h.2 c6
            refine j_iload_n 0 dX10_within_5 rfl ?_
            refine j_iload_n 2 dX10_within_6 rfl ?_
            refine j_icmp_gt (tgt := 14) dX10_within_7 (by decide) (fun c7 => ?_) (fun c7 => ?_)
            · replace h := h.1 c7
              refine j_iconst (x := 0) dX10_within_14 rfl (i32_c rfl) ?_
              refine j_zret dX10_within_15 rfl ⟨Nat.le_of_ble_eq_true rfl, Nat.le_of_ble_eq_true rfl⟩ (by decide) ?_
              refine j_zret dX10_isLight_7 rfl ⟨Nat.le_of_ble_eq_true rfl, Nat.le_of_ble_eq_true rfl⟩ (by decide) ?_
              refine j_if_eq (tgt := 36) dX10_judge_23 (by decide) (fun _ => ?_) (fun c => absurd c (by decide))
              refine j_sub [] rfl ?_
              exact h
            · replace h := h.2 c7
              refine j_iconst (x := 1) dX10_within_10 rfl (i32_c rfl) ?_
              refine j_goto (tgt := 15) dX10_within_11 (by decide) ?_
              refine j_zret dX10_within_15 rfl ⟨Nat.le_of_ble_eq_true rfl, Nat.le_of_ble_eq_true rfl⟩ (by decide) ?_
              refine j_zret dX10_isLight_7 rfl ⟨Nat.le_of_ble_eq_true rfl, Nat.le_of_ble_eq_true rfl⟩ (by decide) ?_
              refine j_if_eq (tgt := 36) dX10_judge_23 (by decide) (fun c => absurd c (by decide)) (fun _ => ?_)
              refine j_iload 4 dX10_judge_26 rfl ?_
              refine j_iconst (x := 0) dX10_judge_28 rfl (i32_c rfl) ?_
              refine j_iconst (x := 1) dX10_judge_29 rfl (i32_c rfl) ?_
              refine j_calliS (Yc := Y_X10_within) (as := [aI x4, aI 0, aI 1]) (rest := []) dX10_judge_30 q_X10_99 ⟨Nat.le_of_ble_eq_true rfl, Nat.le_of_ble_eq_true rfl, Nat.le_of_ble_eq_true rfl, Nat.le_of_ble_eq_true rfl⟩ rfl (Nat.le_of_ble_eq_true rfl) rfl (ti_of (ll := [(0, aI x4), (1, aI 0), (2, aI 1)]) rfl (Nat.le_of_ble_eq_true rfl) rfl (fun _ => ?_))
              refine j_iload_n 0 dX10_within_0 rfl ?_
              refine j_iload_n 1 dX10_within_1 rfl ?_
              refine j_icmp_lt (tgt := 14) dX10_within_2 (by decide) (fun c8 => ?_) (fun c8 => ?_)
              · replace h := h.1 c8
                refine j_iconst (x := 0) dX10_within_14 rfl (i32_c rfl) ?_
                refine j_zret dX10_within_15 rfl ⟨Nat.le_of_ble_eq_true rfl, Nat.le_of_ble_eq_true rfl⟩ (by decide) ?_
                refine j_if_ne (tgt := 40) dX10_judge_33 (by decide) (fun c => absurd c (by decide)) (fun _ => ?_)
                refine j_sub [] rfl ?_
                exact h
              · replace h := h.2 c8
                refine j_iload_n 0 dX10_within_5 rfl ?_
                refine j_iload_n 2 dX10_within_6 rfl ?_
                refine j_icmp_gt (tgt := 14) dX10_within_7 (by decide) (fun c9 => ?_) (fun c9 => ?_)
                · replace h := h.1 c9
                  refine j_iconst (x := 0) dX10_within_14 rfl (i32_c rfl) ?_
                  refine j_zret dX10_within_15 rfl ⟨Nat.le_of_ble_eq_true rfl, Nat.le_of_ble_eq_true rfl⟩ (by decide) ?_
                  refine j_if_ne (tgt := 40) dX10_judge_33 (by decide) (fun c => absurd c (by decide)) (fun _ => ?_)
                  refine j_sub [] rfl ?_
                  exact h
                · replace h := h.2 c9
                  refine j_iconst (x := 1) dX10_within_10 rfl (i32_c rfl) ?_
                  refine j_goto (tgt := 15) dX10_within_11 (by decide) ?_
                  refine j_zret dX10_within_15 rfl ⟨Nat.le_of_ble_eq_true rfl, Nat.le_of_ble_eq_true rfl⟩ (by decide) ?_
                  refine j_if_ne (tgt := 40) dX10_judge_33 (by decide) (fun _ => ?_) (fun c => absurd c (by decide))
                  refine j_aload_n 0 dX10_judge_40 rfl ?_
                  refine j_getc 31 dX10_judge_41 f_X10_50 sh_0 rfl ?_
                  refine j_geti (i := 1) dX10_judge_44 f_X10_125 sh_31 rfl rfl (fun _ => ?_)
                  refine j_if_eq (tgt := 71) dX10_judge_47 (by decide) (fun c10 => ?_) (fun c10 => ?_)
                  · replace h := h.1 c10
                    refine j_sub [2, 4] rfl ?_
                    exact h
                  · replace h := h.2 c10
                    refine j_aload_n 0 dX10_judge_50 rfl ?_
                    refine j_getc 31 dX10_judge_51 f_X10_50 sh_0 rfl ?_
                    refine j_getc 32 dX10_judge_54 f_X10_284 sh_31 rfl ?_
                    refine j_iconst (x := 0) dX10_judge_57 rfl (i32_c rfl) ?_
                    refine j_iald dX10_judge_58 sh_32 (by decide) (by decide) (fun _ => ?_)
                    refine j_aload_n 0 dX10_judge_59 rfl ?_
                    refine j_getc 8 dX10_judge_60 f_X10_35 sh_0 rfl ?_
                    refine j_getc 9 dX10_judge_63 f_X10_178 sh_8 rfl ?_
                    refine j_iload_n 1 dX10_judge_66 rfl ?_
                    obtain ⟨o11, h⟩ := h
                    refine j_iald dX10_judge_67 sh_9 o11.1 o11.2 (fun _ => ?_)
                    refine j_icmp_eq (tgt := 82) dX10_judge_68 (by decide) (fun c12 => ?_) (fun c12 => ?_)
                    · replace h := h.1 c12
                      refine j_aload_n 0 dX10_judge_82 rfl ?_
                      refine j_getc 33 dX10_judge_83 f_X10_59 sh_0 rfl ?_
                      refine j_iload_n 3 dX10_judge_86 rfl ?_
                      refine j_aload_n 0 dX10_judge_87 rfl ?_
                      refine j_getc 8 dX10_judge_88 f_X10_35 sh_0 rfl ?_
                      refine j_getc 11 dX10_judge_91 f_X10_185 sh_8 rfl ?_
                      refine j_iload_n 1 dX10_judge_94 rfl ?_
                      refine j_zald dX10_judge_95 sh_11 o11.1 o11.2 (fun _ => ?_)
                      refine j_callvV (Yc := Y_X9_prepare) (as := [aI x3, aI (M 11 x1)]) (rest := []) dX10_judge_96 q_X10_200 ⟨Nat.le_of_ble_eq_true rfl, Nat.le_of_ble_eq_true rfl, Nat.le_of_ble_eq_true rfl, Nat.le_of_ble_eq_true rfl⟩ sh_33 rfl (Nat.le_of_ble_eq_true rfl) rfl (tv_of (ll := [(0, aR 33), (1, aI x3), (2, aI (M 11 x1))]) rfl (Nat.le_of_ble_eq_true rfl) rfl (fun _ => ?_))
                      refine j_aload_n 0 dX9_prepare_0 rfl ?_
                      refine j_iload_n 1 dX9_prepare_1 rfl ?_
                      refine j_iload_n 2 dX9_prepare_2 rfl ?_
                      refine j_iconst (x := (-1)) dX9_prepare_3 rfl (i32_c rfl) ?_
                      refine j_iconst (x := (-1)) dX9_prepare_4 rfl (i32_c rfl) ?_
                      refine j_callvV (Yc := Y_X9_prepareMarked) (as := [aI x3, aI (M 11 x1), aI (-1), aI (-1)]) (rest := []) dX9_prepare_5 q_X9_38 ⟨Nat.le_of_ble_eq_true rfl, Nat.le_of_ble_eq_true rfl, Nat.le_of_ble_eq_true rfl, Nat.le_of_ble_eq_true rfl⟩ sh_33 rfl (Nat.le_of_ble_eq_true rfl) rfl (tv_mono h (fun u1 h => ?_))
                      refine j_vret dX9_prepare_8 rfl ⟨Nat.le_of_ble_eq_true rfl, Nat.le_of_ble_eq_true rfl⟩ ?_
                      refine j_aload_n 0 dX10_judge_99 rfl ?_
                      refine j_getc 60 dX10_judge_100 f_X10_91 sh_0 rfl ?_
                      refine j_iload_n 2 dX10_judge_103 rfl ?_
                      refine j_callvV (Yc := Y_X4_follow) (as := [aI x2]) (rest := []) dX10_judge_104 q_X10_286 ⟨Nat.le_of_ble_eq_true rfl, Nat.le_of_ble_eq_true rfl, Nat.le_of_ble_eq_true rfl, Nat.le_of_ble_eq_true rfl⟩ sh_60 rfl (Nat.le_of_ble_eq_true rfl) rfl (tv_mono h (fun u2 h => ?_))
                      refine j_iload 4 dX10_judge_107 rfl ?_
                      refine j_if_ne (tgt := 122) dX10_judge_109 (by decide) (fun c13 => ?_) (fun c13 => ?_)
                      · replace h := h.1 c13
                        refine j_aload_n 0 dX10_judge_122 rfl ?_
                        refine j_getc 60 dX10_judge_123 f_X10_91 sh_0 rfl ?_
                        refine j_geti (i := 4) dX10_judge_126 f_X10_292 sh_60 rfl rfl (fun _ => ?_)
                        exact j_iret dX10_judge_129 rfl ⟨Nat.le_of_ble_eq_true rfl, Nat.le_of_ble_eq_true rfl⟩ (fun _ => h)
                      · replace h := h.2 c13
                        refine j_aload_n 0 dX10_judge_112 rfl ?_
                        refine j_getc 60 dX10_judge_113 f_X10_91 sh_0 rfl ?_
                        refine j_geti (i := 3) dX10_judge_116 f_X10_289 sh_60 rfl rfl (fun _ => ?_)
                        refine j_goto (tgt := 129) dX10_judge_119 (by decide) ?_
                        exact j_iret dX10_judge_129 rfl ⟨Nat.le_of_ble_eq_true rfl, Nat.le_of_ble_eq_true rfl⟩ (fun _ => h)
                    · replace h := h.2 c12
                      refine j_sub [2, 4] rfl ?_
                      exact h
theorem E_X10_judge {post : Int → ax_M → Prop} {M : ax_M} {x1 x2 x3 x4 : Int} (h : ax_mr SH M → (-2147483648 ≤ ((M 8 0) - 1) ∧ ((M 8 0) - 1) ≤ 2147483647) ∧ (((x1 < 0) → post (-1001) M) ∧ ((0 ≤ x1) → (((((M 8 0) - 1) < x1) → post (-1001) M) ∧ ((x1 ≤ ((M 8 0) - 1)) → (((x2 < 0) → ax_J Y_X10_judge (ax_Ki Y_X10_judge SH post) 0 0 36 [] [] SH M) ∧ ((0 ≤ x2) → (((99 < x2) → ax_J Y_X10_judge (ax_Ki Y_X10_judge SH post) 0 0 36 [] [] SH M) ∧ ((x2 ≤ 99) → (((x3 < (-1)) → ax_J Y_X10_judge (ax_Ki Y_X10_judge SH post) 0 0 36 [] [] SH M) ∧ (((-1) ≤ x3) → (((99 < x3) → ax_J Y_X10_judge (ax_Ki Y_X10_judge SH post) 0 0 36 [] [] SH M) ∧ ((x3 ≤ 99) → (((x4 < 0) → ax_J Y_X10_judge (ax_Ki Y_X10_judge SH post) 0 0 36 [] [] SH M) ∧ ((0 ≤ x4) → (((1 < x4) → ax_J Y_X10_judge (ax_Ki Y_X10_judge SH post) 0 0 36 [] [] SH M) ∧ ((x4 ≤ 1) → ((((M 31 1) = 0) → ax_J Y_X10_judge (ax_Ki Y_X10_judge SH post) 0 0 71 [(2, aI x2), (4, aI x4)] [] SH M) ∧ ((¬ (M 31 1) = 0) → (0 ≤ x1 ∧ x1 < 8) ∧ ((((M 32 0) = (M 9 x1)) → ax_Tv Y_X9_prepareMarked [aR 33, aI x3, aI (M 11 x1), aI (-1), aI (-1)] SH M (fun u1 => ax_Tv Y_X4_follow [aR 60, aI x2] SH u1 (fun u2 => (((¬ x4 = 0) → post (u2 60 4) u2) ∧ ((x4 = 0) → post (u2 60 3) u2))))) ∧ ((¬ (M 32 0) = (M 9 x1)) → ax_J Y_X10_judge (ax_Ki Y_X10_judge SH post) 0 0 71 [(2, aI x2), (4, aI x4)] [] SH M))))))))))))))))))))) : ax_Ti Y_X10_judge [aR 0, aI x1, aI x2, aI x3, aI x4] SH M post :=
  ti_of rfl (Nat.le_of_ble_eq_true rfl) rfl (fun q => B_X10_judge_0 (h q))
set_option maxRecDepth 100000 in
set_option maxHeartbeats 4000000 in
theorem B_X10_judge_36 {post : Int → ax_M → Prop} {M : ax_M} (h : post (-1002) M) : ax_J Y_X10_judge (ax_Ki Y_X10_judge SH post) 0 0 36 [] [] SH M := by
  refine j_sipush (x := (-1002)) dX10_judge_36 rfl (i32_c rfl) ?_
  exact j_iret dX10_judge_39 rfl ⟨Nat.le_of_ble_eq_true rfl, Nat.le_of_ble_eq_true rfl⟩ (fun _ => h)
set_option maxRecDepth 100000 in
set_option maxHeartbeats 4000000 in
theorem B_X10_judge_71 {post : Int → ax_M → Prop} {M : ax_M} {x2 x4 : Int} (h : (((¬ x4 = 0) → post x2 M) ∧ ((x4 = 0) → post 0 M))) : ax_J Y_X10_judge (ax_Ki Y_X10_judge SH post) 0 0 71 [(2, aI x2), (4, aI x4)] [] SH M := by
  refine j_iload 1 dX10_judge_71 rfl ?_
  refine j_if_ne (tgt := 80) dX10_judge_73 (by decide) (fun c1 => ?_) (fun c1 => ?_)
  · replace h := h.1 c1
    refine j_iload_n 0 dX10_judge_80 rfl ?_
    exact j_iret dX10_judge_81 rfl ⟨Nat.le_of_ble_eq_true rfl, Nat.le_of_ble_eq_true rfl⟩ (fun _ => h)
  · replace h := h.2 c1
    refine j_iconst (x := 0) dX10_judge_76 rfl (i32_c rfl) ?_
    refine j_goto (tgt := 81) dX10_judge_77 (by decide) ?_
    exact j_iret dX10_judge_81 rfl ⟨Nat.le_of_ble_eq_true rfl, Nat.le_of_ble_eq_true rfl⟩ (fun _ => h)
set_option maxRecDepth 100000 in
set_option maxHeartbeats 4000000 in
theorem B_X10_opens_0 {post : Int → ax_M → Prop} {M : ax_M} {x1 x2 : Int} (h : (-2147483648 ≤ ((M 6 1) - 1) ∧ ((M 6 1) - 1) ≤ 2147483647) ∧ (((x1 < 0) → post (-1001) M) ∧ ((0 ≤ x1) → (((((M 6 1) - 1) < x1) → post (-1001) M) ∧ ((x1 ≤ ((M 6 1) - 1)) → (((x2 < 0) → post (-1002) M) ∧ ((0 ≤ x2) → (((99 < x2) → post (-1002) M) ∧ ((x2 ≤ 99) → ax_Ti Y_X3_notBad [aR 6, aI x1, aI x2] SH M (fun z2 u1 => post z2 u1)))))))))) : ax_J Y_X10_opens (ax_Ki Y_X10_opens SH post) 0 0 0 [(0, aR 0), (1, aI x1), (2, aI x2)] [] SH M := by
  refine j_aload_n 0 dX10_opens_0 rfl ?_
  refine j_iload_n 1 dX10_opens_1 rfl ?_
  refine j_calliV (Yc := Y_X10_isWay) (as := [aI x1]) (rest := []) dX10_opens_2 q_X10_129 ⟨Nat.le_of_ble_eq_true rfl, Nat.le_of_ble_eq_true rfl, Nat.le_of_ble_eq_true rfl, Nat.le_of_ble_eq_true rfl⟩ sh_0 rfl (Nat.le_of_ble_eq_true rfl) rfl (ti_of (ll := [(0, aR 0), (1, aI x1)]) rfl (Nat.le_of_ble_eq_true rfl) rfl (fun _ => ?_))
  refine j_iload_n 1 dX10_isWay_0 rfl ?_
  refine j_iconst (x := 0) dX10_isWay_1 rfl (i32_c rfl) ?_
  refine j_aload_n 0 dX10_isWay_2 rfl ?_
  refine j_getc 6 dX10_isWay_3 f_X10_28 sh_0 rfl ?_
  refine j_geti (i := 1) dX10_isWay_6 f_X10_126 sh_6 rfl rfl (fun _ => ?_)
  refine j_iconst (x := 1) dX10_isWay_9 rfl (i32_c rfl) ?_
  obtain ⟨o1, h⟩ := h
  refine j_isub (z := ((M 6 1) - 1)) dX10_isWay_10 rfl o1 ?_
  refine j_calliS (Yc := Y_X10_within) (as := [aI x1, aI 0, aI ((M 6 1) - 1)]) (rest := []) dX10_isWay_11 q_X10_99 ⟨Nat.le_of_ble_eq_true rfl, Nat.le_of_ble_eq_true rfl, Nat.le_of_ble_eq_true rfl, Nat.le_of_ble_eq_true rfl⟩ rfl (Nat.le_of_ble_eq_true rfl) rfl (ti_of (ll := [(0, aI x1), (1, aI 0), (2, aI ((M 6 1) - 1))]) rfl (Nat.le_of_ble_eq_true rfl) rfl (fun _ => ?_))
  refine j_iload_n 0 dX10_within_0 rfl ?_
  refine j_iload_n 1 dX10_within_1 rfl ?_
  refine j_icmp_lt (tgt := 14) dX10_within_2 (by decide) (fun c2 => ?_) (fun c2 => ?_)
  · replace h := h.1 c2
    refine j_iconst (x := 0) dX10_within_14 rfl (i32_c rfl) ?_
    refine j_zret dX10_within_15 rfl ⟨Nat.le_of_ble_eq_true rfl, Nat.le_of_ble_eq_true rfl⟩ (by decide) ?_
    refine j_zret dX10_isWay_14 rfl ⟨Nat.le_of_ble_eq_true rfl, Nat.le_of_ble_eq_true rfl⟩ (by decide) ?_
    refine j_if_ne (tgt := 12) dX10_opens_5 (by decide) (fun c => absurd c (by decide)) (fun _ => ?_)
    refine j_sipush (x := (-1001)) dX10_opens_8 rfl (i32_c rfl) ?_
    exact j_iret dX10_opens_11 rfl ⟨Nat.le_of_ble_eq_true rfl, Nat.le_of_ble_eq_true rfl⟩ (fun _ => h)
  · replace h := h.2 c2
    refine j_iload_n 0 dX10_within_5 rfl ?_
    refine j_iload_n 2 dX10_within_6 rfl ?_
    refine j_icmp_gt (tgt := 14) dX10_within_7 (by decide) (fun c3 => ?_) (fun c3 => ?_)
    · replace h := h.1 c3
      refine j_iconst (x := 0) dX10_within_14 rfl (i32_c rfl) ?_
      refine j_zret dX10_within_15 rfl ⟨Nat.le_of_ble_eq_true rfl, Nat.le_of_ble_eq_true rfl⟩ (by decide) ?_
      refine j_zret dX10_isWay_14 rfl ⟨Nat.le_of_ble_eq_true rfl, Nat.le_of_ble_eq_true rfl⟩ (by decide) ?_
      refine j_if_ne (tgt := 12) dX10_opens_5 (by decide) (fun c => absurd c (by decide)) (fun _ => ?_)
      refine j_sipush (x := (-1001)) dX10_opens_8 rfl (i32_c rfl) ?_
      exact j_iret dX10_opens_11 rfl ⟨Nat.le_of_ble_eq_true rfl, Nat.le_of_ble_eq_true rfl⟩ (fun _ => h)
    · replace h := h.2 c3
      refine j_iconst (x := 1) dX10_within_10 rfl (i32_c rfl) ?_
      refine j_goto (tgt := 15) dX10_within_11 (by decide) ?_
      refine j_zret dX10_within_15 rfl ⟨Nat.le_of_ble_eq_true rfl, Nat.le_of_ble_eq_true rfl⟩ (by decide) ?_
      refine j_zret dX10_isWay_14 rfl ⟨Nat.le_of_ble_eq_true rfl, Nat.le_of_ble_eq_true rfl⟩ (by decide) ?_
      refine j_if_ne (tgt := 12) dX10_opens_5 (by decide) (fun _ => ?_) (fun c => absurd c (by decide))
      refine j_iload_n 2 dX10_opens_12 rfl ?_
      refine j_calliS (Yc := Y_X10_isMinute) (as := [aI x2]) (rest := []) dX10_opens_13 q_X10_169 ⟨Nat.le_of_ble_eq_true rfl, Nat.le_of_ble_eq_true rfl, Nat.le_of_ble_eq_true rfl, Nat.le_of_ble_eq_true rfl⟩ rfl (Nat.le_of_ble_eq_true rfl) rfl (ti_of (ll := [(0, aI x2)]) rfl (Nat.le_of_ble_eq_true rfl) rfl (fun _ => ?_))
      refine j_iload_n 0 dX10_isMinute_0 rfl ?_
      refine j_iconst (x := 0) dX10_isMinute_1 rfl (i32_c rfl) ?_
      refine j_bipush (x := 99) dX10_isMinute_2 rfl (i32_c rfl) ?_
      refine j_calliS (Yc := Y_X10_within) (as := [aI x2, aI 0, aI 99]) (rest := []) dX10_isMinute_4 q_X10_99 ⟨Nat.le_of_ble_eq_true rfl, Nat.le_of_ble_eq_true rfl, Nat.le_of_ble_eq_true rfl, Nat.le_of_ble_eq_true rfl⟩ rfl (Nat.le_of_ble_eq_true rfl) rfl (ti_of (ll := [(0, aI x2), (1, aI 0), (2, aI 99)]) rfl (Nat.le_of_ble_eq_true rfl) rfl (fun _ => ?_))
      refine j_iload_n 0 dX10_within_0 rfl ?_
      refine j_iload_n 1 dX10_within_1 rfl ?_
      refine j_icmp_lt (tgt := 14) dX10_within_2 (by decide) (fun c4 => ?_) (fun c4 => ?_)
      · replace h := h.1 c4
        refine j_iconst (x := 0) dX10_within_14 rfl (i32_c rfl) ?_
        refine j_zret dX10_within_15 rfl ⟨Nat.le_of_ble_eq_true rfl, Nat.le_of_ble_eq_true rfl⟩ (by decide) ?_
        refine j_zret dX10_isMinute_7 rfl ⟨Nat.le_of_ble_eq_true rfl, Nat.le_of_ble_eq_true rfl⟩ (by decide) ?_
        refine j_if_ne (tgt := 23) dX10_opens_16 (by decide) (fun c => absurd c (by decide)) (fun _ => ?_)
        refine j_sipush (x := (-1002)) dX10_opens_19 rfl (i32_c rfl) ?_
        exact j_iret dX10_opens_22 rfl ⟨Nat.le_of_ble_eq_true rfl, Nat.le_of_ble_eq_true rfl⟩ (fun _ => h)
      · replace h := h.2 c4
        refine j_iload_n 0 dX10_within_5 rfl ?_
        refine j_iload_n 2 dX10_within_6 rfl ?_
        refine j_icmp_gt (tgt := 14) dX10_within_7 (by decide) (fun c5 => ?_) (fun c5 => ?_)
        · replace h := h.1 c5
          refine j_iconst (x := 0) dX10_within_14 rfl (i32_c rfl) ?_
          refine j_zret dX10_within_15 rfl ⟨Nat.le_of_ble_eq_true rfl, Nat.le_of_ble_eq_true rfl⟩ (by decide) ?_
          refine j_zret dX10_isMinute_7 rfl ⟨Nat.le_of_ble_eq_true rfl, Nat.le_of_ble_eq_true rfl⟩ (by decide) ?_
          refine j_if_ne (tgt := 23) dX10_opens_16 (by decide) (fun c => absurd c (by decide)) (fun _ => ?_)
          refine j_sipush (x := (-1002)) dX10_opens_19 rfl (i32_c rfl) ?_
          exact j_iret dX10_opens_22 rfl ⟨Nat.le_of_ble_eq_true rfl, Nat.le_of_ble_eq_true rfl⟩ (fun _ => h)
        · replace h := h.2 c5
          refine j_iconst (x := 1) dX10_within_10 rfl (i32_c rfl) ?_
          refine j_goto (tgt := 15) dX10_within_11 (by decide) ?_
          refine j_zret dX10_within_15 rfl ⟨Nat.le_of_ble_eq_true rfl, Nat.le_of_ble_eq_true rfl⟩ (by decide) ?_
          refine j_zret dX10_isMinute_7 rfl ⟨Nat.le_of_ble_eq_true rfl, Nat.le_of_ble_eq_true rfl⟩ (by decide) ?_
          refine j_if_ne (tgt := 23) dX10_opens_16 (by decide) (fun _ => ?_) (fun c => absurd c (by decide))
          refine j_aload_n 0 dX10_opens_23 rfl ?_
          refine j_getc 6 dX10_opens_24 f_X10_28 sh_0 rfl ?_
          refine j_iload_n 1 dX10_opens_27 rfl ?_
          refine j_iload_n 2 dX10_opens_28 rfl ?_
          refine j_calliV (Yc := Y_X3_notBad) (as := [aI x1, aI x2]) (rest := []) dX10_opens_29 q_X10_295 ⟨Nat.le_of_ble_eq_true rfl, Nat.le_of_ble_eq_true rfl, Nat.le_of_ble_eq_true rfl, Nat.le_of_ble_eq_true rfl⟩ sh_6 rfl (Nat.le_of_ble_eq_true rfl) rfl (ti_mono h (fun z2 u1 h => ?_))
          exact j_iret dX10_opens_32 rfl ⟨Nat.le_of_ble_eq_true rfl, Nat.le_of_ble_eq_true rfl⟩ (fun _ => h)
theorem E_X10_opens {post : Int → ax_M → Prop} {M : ax_M} {x1 x2 : Int} (h : ax_mr SH M → (-2147483648 ≤ ((M 6 1) - 1) ∧ ((M 6 1) - 1) ≤ 2147483647) ∧ (((x1 < 0) → post (-1001) M) ∧ ((0 ≤ x1) → (((((M 6 1) - 1) < x1) → post (-1001) M) ∧ ((x1 ≤ ((M 6 1) - 1)) → (((x2 < 0) → post (-1002) M) ∧ ((0 ≤ x2) → (((99 < x2) → post (-1002) M) ∧ ((x2 ≤ 99) → ax_Ti Y_X3_notBad [aR 6, aI x1, aI x2] SH M (fun z2 u1 => post z2 u1)))))))))) : ax_Ti Y_X10_opens [aR 0, aI x1, aI x2] SH M post :=
  ti_of rfl (Nat.le_of_ble_eq_true rfl) rfl (fun q => B_X10_opens_0 (h q))
set_option maxRecDepth 100000 in
set_option maxHeartbeats 4000000 in
theorem B_X10_safe_0 {post : Int → ax_M → Prop} {M : ax_M} {x1 x2 : Int} (h : (((x1 < 0) → post (-1002) M) ∧ ((0 ≤ x1) → (((99 < x1) → post (-1002) M) ∧ ((x1 ≤ 99) → (((x2 < (-1)) → post (-1002) M) ∧ (((-1) ≤ x2) → (((99 < x2) → post (-1002) M) ∧ ((x2 ≤ 99) → (((¬ (M 31 1) = 0) → ax_Tv Y_X9_prepareMarked [aR 33, aI x2, aI 0, aI (-1), aI (-1)] SH M (fun u1 => ax_Tv Y_X4_follow [aR 60, aI x1] SH u1 (fun u2 => (((¬ (u2 60 3) = (-1)) → post (-1003) u2) ∧ (((u2 60 3) = (-1)) → post (u2 60 5) u2))))) ∧ (((M 31 1) = 0) → post (-1003) M))))))))))) : ax_J Y_X10_safe (ax_Ki Y_X10_safe SH post) 0 0 0 [(0, aR 0), (1, aI x1), (2, aI x2)] [] SH M := by
  refine j_iload_n 1 dX10_safe_0 rfl ?_
  refine j_calliS (Yc := Y_X10_isMinute) (as := [aI x1]) (rest := []) dX10_safe_1 q_X10_169 ⟨Nat.le_of_ble_eq_true rfl, Nat.le_of_ble_eq_true rfl, Nat.le_of_ble_eq_true rfl, Nat.le_of_ble_eq_true rfl⟩ rfl (Nat.le_of_ble_eq_true rfl) rfl (ti_of (ll := [(0, aI x1)]) rfl (Nat.le_of_ble_eq_true rfl) rfl (fun _ => ?_))
  refine j_iload_n 0 dX10_isMinute_0 rfl ?_
  refine j_iconst (x := 0) dX10_isMinute_1 rfl (i32_c rfl) ?_
  refine j_bipush (x := 99) dX10_isMinute_2 rfl (i32_c rfl) ?_
  refine j_calliS (Yc := Y_X10_within) (as := [aI x1, aI 0, aI 99]) (rest := []) dX10_isMinute_4 q_X10_99 ⟨Nat.le_of_ble_eq_true rfl, Nat.le_of_ble_eq_true rfl, Nat.le_of_ble_eq_true rfl, Nat.le_of_ble_eq_true rfl⟩ rfl (Nat.le_of_ble_eq_true rfl) rfl (ti_of (ll := [(0, aI x1), (1, aI 0), (2, aI 99)]) rfl (Nat.le_of_ble_eq_true rfl) rfl (fun _ => ?_))
  refine j_iload_n 0 dX10_within_0 rfl ?_
  refine j_iload_n 1 dX10_within_1 rfl ?_
  refine j_icmp_lt (tgt := 14) dX10_within_2 (by decide) (fun c1 => ?_) (fun c1 => ?_)
  · replace h := h.1 c1
    refine j_iconst (x := 0) dX10_within_14 rfl (i32_c rfl) ?_
    refine j_zret dX10_within_15 rfl ⟨Nat.le_of_ble_eq_true rfl, Nat.le_of_ble_eq_true rfl⟩ (by decide) ?_
    refine j_zret dX10_isMinute_7 rfl ⟨Nat.le_of_ble_eq_true rfl, Nat.le_of_ble_eq_true rfl⟩ (by decide) ?_
    refine j_if_eq (tgt := 14) dX10_safe_4 (by decide) (fun _ => ?_) (fun c => absurd c (by decide))
    refine j_sipush (x := (-1002)) dX10_safe_14 rfl (i32_c rfl) ?_
    exact j_iret dX10_safe_17 rfl ⟨Nat.le_of_ble_eq_true rfl, Nat.le_of_ble_eq_true rfl⟩ (fun _ => h)
  · replace h := h.2 c1
    refine j_iload_n 0 dX10_within_5 rfl ?_
    refine j_iload_n 2 dX10_within_6 rfl ?_
    refine j_icmp_gt (tgt := 14) dX10_within_7 (by decide) (fun c2 => ?_) (fun c2 => ?_)
    · replace h := h.1 c2
      refine j_iconst (x := 0) dX10_within_14 rfl (i32_c rfl) ?_
      refine j_zret dX10_within_15 rfl ⟨Nat.le_of_ble_eq_true rfl, Nat.le_of_ble_eq_true rfl⟩ (by decide) ?_
      refine j_zret dX10_isMinute_7 rfl ⟨Nat.le_of_ble_eq_true rfl, Nat.le_of_ble_eq_true rfl⟩ (by decide) ?_
      refine j_if_eq (tgt := 14) dX10_safe_4 (by decide) (fun _ => ?_) (fun c => absurd c (by decide))
      refine j_sipush (x := (-1002)) dX10_safe_14 rfl (i32_c rfl) ?_
      exact j_iret dX10_safe_17 rfl ⟨Nat.le_of_ble_eq_true rfl, Nat.le_of_ble_eq_true rfl⟩ (fun _ => h)
    · replace h := h.2 c2
      refine j_iconst (x := 1) dX10_within_10 rfl (i32_c rfl) ?_
      refine j_goto (tgt := 15) dX10_within_11 (by decide) ?_
      refine j_zret dX10_within_15 rfl ⟨Nat.le_of_ble_eq_true rfl, Nat.le_of_ble_eq_true rfl⟩ (by decide) ?_
      refine j_zret dX10_isMinute_7 rfl ⟨Nat.le_of_ble_eq_true rfl, Nat.le_of_ble_eq_true rfl⟩ (by decide) ?_
      refine j_if_eq (tgt := 14) dX10_safe_4 (by decide) (fun c => absurd c (by decide)) (fun _ => ?_)
      refine j_iload_n 2 dX10_safe_7 rfl ?_
      refine j_calliS (Yc := Y_X10_isLight) (as := [aI x2]) (rest := []) dX10_safe_8 q_X10_197 ⟨Nat.le_of_ble_eq_true rfl, Nat.le_of_ble_eq_true rfl, Nat.le_of_ble_eq_true rfl, Nat.le_of_ble_eq_true rfl⟩ rfl (Nat.le_of_ble_eq_true rfl) rfl (ti_of (ll := [(0, aI x2)]) rfl (Nat.le_of_ble_eq_true rfl) rfl (fun _ => ?_))
      refine j_iload_n 0 dX10_isLight_0 rfl ?_
      refine j_iconst (x := (-1)) dX10_isLight_1 rfl (i32_c rfl) ?_
      refine j_bipush (x := 99) dX10_isLight_2 rfl (i32_c rfl) ?_
      refine j_calliS (Yc := Y_X10_within) (as := [aI x2, aI (-1), aI 99]) (rest := []) dX10_isLight_4 q_X10_99 ⟨Nat.le_of_ble_eq_true rfl, Nat.le_of_ble_eq_true rfl, Nat.le_of_ble_eq_true rfl, Nat.le_of_ble_eq_true rfl⟩ rfl (Nat.le_of_ble_eq_true rfl) rfl (ti_of (ll := [(0, aI x2), (1, aI (-1)), (2, aI 99)]) rfl (Nat.le_of_ble_eq_true rfl) rfl (fun _ => ?_))
      refine j_iload_n 0 dX10_within_0 rfl ?_
      refine j_iload_n 1 dX10_within_1 rfl ?_
      refine j_icmp_lt (tgt := 14) dX10_within_2 (by decide) (fun c3 => ?_) (fun c3 => ?_)
      · replace h := h.1 c3
        refine j_iconst (x := 0) dX10_within_14 rfl (i32_c rfl) ?_
        refine j_zret dX10_within_15 rfl ⟨Nat.le_of_ble_eq_true rfl, Nat.le_of_ble_eq_true rfl⟩ (by decide) ?_
        refine j_zret dX10_isLight_7 rfl ⟨Nat.le_of_ble_eq_true rfl, Nat.le_of_ble_eq_true rfl⟩ (by decide) ?_
        refine j_if_ne (tgt := 18) dX10_safe_11 (by decide) (fun c => absurd c (by decide)) (fun _ => ?_)
        refine j_sipush (x := (-1002)) dX10_safe_14 rfl (i32_c rfl) ?_
        exact j_iret dX10_safe_17 rfl ⟨Nat.le_of_ble_eq_true rfl, Nat.le_of_ble_eq_true rfl⟩ (fun _ => h)
      · replace h := h.2 c3
        refine j_iload_n 0 dX10_within_5 rfl ?_
        refine j_iload_n 2 dX10_within_6 rfl ?_
        refine j_icmp_gt (tgt := 14) dX10_within_7 (by decide) (fun c4 => ?_) (fun c4 => ?_)
        · replace h := h.1 c4
          refine j_iconst (x := 0) dX10_within_14 rfl (i32_c rfl) ?_
          refine j_zret dX10_within_15 rfl ⟨Nat.le_of_ble_eq_true rfl, Nat.le_of_ble_eq_true rfl⟩ (by decide) ?_
          refine j_zret dX10_isLight_7 rfl ⟨Nat.le_of_ble_eq_true rfl, Nat.le_of_ble_eq_true rfl⟩ (by decide) ?_
          refine j_if_ne (tgt := 18) dX10_safe_11 (by decide) (fun c => absurd c (by decide)) (fun _ => ?_)
          refine j_sipush (x := (-1002)) dX10_safe_14 rfl (i32_c rfl) ?_
          exact j_iret dX10_safe_17 rfl ⟨Nat.le_of_ble_eq_true rfl, Nat.le_of_ble_eq_true rfl⟩ (fun _ => h)
        · replace h := h.2 c4
          refine j_iconst (x := 1) dX10_within_10 rfl (i32_c rfl) ?_
          refine j_goto (tgt := 15) dX10_within_11 (by decide) ?_
          refine j_zret dX10_within_15 rfl ⟨Nat.le_of_ble_eq_true rfl, Nat.le_of_ble_eq_true rfl⟩ (by decide) ?_
          refine j_zret dX10_isLight_7 rfl ⟨Nat.le_of_ble_eq_true rfl, Nat.le_of_ble_eq_true rfl⟩ (by decide) ?_
          refine j_if_ne (tgt := 18) dX10_safe_11 (by decide) (fun _ => ?_) (fun c => absurd c (by decide))
          refine j_aload_n 0 dX10_safe_18 rfl ?_
          refine j_getc 31 dX10_safe_19 f_X10_50 sh_0 rfl ?_
          refine j_geti (i := 1) dX10_safe_22 f_X10_125 sh_31 rfl rfl (fun _ => ?_)
          refine j_if_ne (tgt := 32) dX10_safe_25 (by decide) (fun c5 => ?_) (fun c5 => ?_)
          · replace h := h.1 c5
            refine j_aload_n 0 dX10_safe_32 rfl ?_
            refine j_getc 33 dX10_safe_33 f_X10_59 sh_0 rfl ?_
            refine j_iload_n 2 dX10_safe_36 rfl ?_
            refine j_iconst (x := 0) dX10_safe_37 rfl (i32_c rfl) ?_
            refine j_callvV (Yc := Y_X9_prepare) (as := [aI x2, aI 0]) (rest := []) dX10_safe_38 q_X10_200 ⟨Nat.le_of_ble_eq_true rfl, Nat.le_of_ble_eq_true rfl, Nat.le_of_ble_eq_true rfl, Nat.le_of_ble_eq_true rfl⟩ sh_33 rfl (Nat.le_of_ble_eq_true rfl) rfl (tv_of (ll := [(0, aR 33), (1, aI x2), (2, aI 0)]) rfl (Nat.le_of_ble_eq_true rfl) rfl (fun _ => ?_))
            refine j_aload_n 0 dX9_prepare_0 rfl ?_
            refine j_iload_n 1 dX9_prepare_1 rfl ?_
            refine j_iload_n 2 dX9_prepare_2 rfl ?_
            refine j_iconst (x := (-1)) dX9_prepare_3 rfl (i32_c rfl) ?_
            refine j_iconst (x := (-1)) dX9_prepare_4 rfl (i32_c rfl) ?_
            refine j_callvV (Yc := Y_X9_prepareMarked) (as := [aI x2, aI 0, aI (-1), aI (-1)]) (rest := []) dX9_prepare_5 q_X9_38 ⟨Nat.le_of_ble_eq_true rfl, Nat.le_of_ble_eq_true rfl, Nat.le_of_ble_eq_true rfl, Nat.le_of_ble_eq_true rfl⟩ sh_33 rfl (Nat.le_of_ble_eq_true rfl) rfl (tv_mono h (fun u1 h => ?_))
            refine j_vret dX9_prepare_8 rfl ⟨Nat.le_of_ble_eq_true rfl, Nat.le_of_ble_eq_true rfl⟩ ?_
            refine j_aload_n 0 dX10_safe_41 rfl ?_
            refine j_getc 60 dX10_safe_42 f_X10_91 sh_0 rfl ?_
            refine j_iload_n 1 dX10_safe_45 rfl ?_
            refine j_callvV (Yc := Y_X4_follow) (as := [aI x1]) (rest := []) dX10_safe_46 q_X10_286 ⟨Nat.le_of_ble_eq_true rfl, Nat.le_of_ble_eq_true rfl, Nat.le_of_ble_eq_true rfl, Nat.le_of_ble_eq_true rfl⟩ sh_60 rfl (Nat.le_of_ble_eq_true rfl) rfl (tv_mono h (fun u2 h => ?_))
            refine j_aload_n 0 dX10_safe_49 rfl ?_
            refine j_getc 60 dX10_safe_50 f_X10_91 sh_0 rfl ?_
            refine j_geti (i := 3) dX10_safe_53 f_X10_289 sh_60 rfl rfl (fun _ => ?_)
            refine j_iconst (x := (-1)) dX10_safe_56 rfl (i32_c rfl) ?_
            refine j_icmp_ne (tgt := 70) dX10_safe_57 (by decide) (fun c6 => ?_) (fun c6 => ?_)
            · replace h := h.1 c6
              refine j_sipush (x := (-1003)) dX10_safe_70 rfl (i32_c rfl) ?_
              exact j_iret dX10_safe_73 rfl ⟨Nat.le_of_ble_eq_true rfl, Nat.le_of_ble_eq_true rfl⟩ (fun _ => h)
            · replace h := h.2 c6
              refine j_aload_n 0 dX10_safe_60 rfl ?_
              refine j_getc 60 dX10_safe_61 f_X10_91 sh_0 rfl ?_
              refine j_geti (i := 5) dX10_safe_64 f_X10_298 sh_60 rfl rfl (fun _ => ?_)
              refine j_goto (tgt := 73) dX10_safe_67 (by decide) ?_
              exact j_iret dX10_safe_73 rfl ⟨Nat.le_of_ble_eq_true rfl, Nat.le_of_ble_eq_true rfl⟩ (fun _ => h)
          · replace h := h.2 c5
            refine j_sipush (x := (-1003)) dX10_safe_28 rfl (i32_c rfl) ?_
            exact j_iret dX10_safe_31 rfl ⟨Nat.le_of_ble_eq_true rfl, Nat.le_of_ble_eq_true rfl⟩ (fun _ => h)
theorem E_X10_safe {post : Int → ax_M → Prop} {M : ax_M} {x1 x2 : Int} (h : ax_mr SH M → (((x1 < 0) → post (-1002) M) ∧ ((0 ≤ x1) → (((99 < x1) → post (-1002) M) ∧ ((x1 ≤ 99) → (((x2 < (-1)) → post (-1002) M) ∧ (((-1) ≤ x2) → (((99 < x2) → post (-1002) M) ∧ ((x2 ≤ 99) → (((¬ (M 31 1) = 0) → ax_Tv Y_X9_prepareMarked [aR 33, aI x2, aI 0, aI (-1), aI (-1)] SH M (fun u1 => ax_Tv Y_X4_follow [aR 60, aI x1] SH u1 (fun u2 => (((¬ (u2 60 3) = (-1)) → post (-1003) u2) ∧ (((u2 60 3) = (-1)) → post (u2 60 5) u2))))) ∧ (((M 31 1) = 0) → post (-1003) M))))))))))) : ax_Ti Y_X10_safe [aR 0, aI x1, aI x2] SH M post :=
  ti_of rfl (Nat.le_of_ble_eq_true rfl) rfl (fun q => B_X10_safe_0 (h q))
set_option maxRecDepth 100000 in
set_option maxHeartbeats 4000000 in
theorem B_X10_safest_0 {post : Int → ax_M → Prop} {M : ax_M} {x1 x2 x3 : Int} (h : (-2147483648 ≤ ((M 6 0) - 1) ∧ ((M 6 0) - 1) ≤ 2147483647) ∧ (((x1 < 0) → post (-1001) M) ∧ ((0 ≤ x1) → (((((M 6 0) - 1) < x1) → post (-1001) M) ∧ ((x1 ≤ ((M 6 0) - 1)) → (((x2 < 0) → post (-1002) M) ∧ ((0 ≤ x2) → (((99 < x2) → post (-1002) M) ∧ ((x2 ≤ 99) → (((x3 < (-1)) → post (-1002) M) ∧ (((-1) ≤ x3) → (((99 < x3) → post (-1002) M) ∧ ((x3 ≤ 99) → ax_Tv Y_X9_prepareMarked [aR 33, aI x3, aI 0, aI (-1), aI (-1)] SH M (fun u1 => ax_Ti Y_X4_bestChance [aR 60, aI x1, aI x2] SH u1 (fun z3 u2 => post z3 u2))))))))))))))) : ax_J Y_X10_safest (ax_Ki Y_X10_safest SH post) 0 0 0 [(0, aR 0), (1, aI x1), (2, aI x2), (3, aI x3)] [] SH M := by
  refine j_aload_n 0 dX10_safest_0 rfl ?_
  refine j_iload_n 1 dX10_safest_1 rfl ?_
  refine j_calliV (Yc := Y_X10_isPlace) (as := [aI x1]) (rest := []) dX10_safest_2 q_X10_162 ⟨Nat.le_of_ble_eq_true rfl, Nat.le_of_ble_eq_true rfl, Nat.le_of_ble_eq_true rfl, Nat.le_of_ble_eq_true rfl⟩ sh_0 rfl (Nat.le_of_ble_eq_true rfl) rfl (ti_of (ll := [(0, aR 0), (1, aI x1)]) rfl (Nat.le_of_ble_eq_true rfl) rfl (fun _ => ?_))
  refine j_iload_n 1 dX10_isPlace_0 rfl ?_
  refine j_iconst (x := 0) dX10_isPlace_1 rfl (i32_c rfl) ?_
  refine j_aload_n 0 dX10_isPlace_2 rfl ?_
  refine j_getc 6 dX10_isPlace_3 f_X10_28 sh_0 rfl ?_
  refine j_geti (i := 0) dX10_isPlace_6 f_X10_144 sh_6 rfl rfl (fun _ => ?_)
  refine j_iconst (x := 1) dX10_isPlace_9 rfl (i32_c rfl) ?_
  obtain ⟨o1, h⟩ := h
  refine j_isub (z := ((M 6 0) - 1)) dX10_isPlace_10 rfl o1 ?_
  refine j_calliS (Yc := Y_X10_within) (as := [aI x1, aI 0, aI ((M 6 0) - 1)]) (rest := []) dX10_isPlace_11 q_X10_99 ⟨Nat.le_of_ble_eq_true rfl, Nat.le_of_ble_eq_true rfl, Nat.le_of_ble_eq_true rfl, Nat.le_of_ble_eq_true rfl⟩ rfl (Nat.le_of_ble_eq_true rfl) rfl (ti_of (ll := [(0, aI x1), (1, aI 0), (2, aI ((M 6 0) - 1))]) rfl (Nat.le_of_ble_eq_true rfl) rfl (fun _ => ?_))
  refine j_iload_n 0 dX10_within_0 rfl ?_
  refine j_iload_n 1 dX10_within_1 rfl ?_
  refine j_icmp_lt (tgt := 14) dX10_within_2 (by decide) (fun c2 => ?_) (fun c2 => ?_)
  · replace h := h.1 c2
    refine j_iconst (x := 0) dX10_within_14 rfl (i32_c rfl) ?_
    refine j_zret dX10_within_15 rfl ⟨Nat.le_of_ble_eq_true rfl, Nat.le_of_ble_eq_true rfl⟩ (by decide) ?_
    refine j_zret dX10_isPlace_14 rfl ⟨Nat.le_of_ble_eq_true rfl, Nat.le_of_ble_eq_true rfl⟩ (by decide) ?_
    refine j_if_ne (tgt := 12) dX10_safest_5 (by decide) (fun c => absurd c (by decide)) (fun _ => ?_)
    refine j_sipush (x := (-1001)) dX10_safest_8 rfl (i32_c rfl) ?_
    exact j_iret dX10_safest_11 rfl ⟨Nat.le_of_ble_eq_true rfl, Nat.le_of_ble_eq_true rfl⟩ (fun _ => h)
  · replace h := h.2 c2
    refine j_iload_n 0 dX10_within_5 rfl ?_
    refine j_iload_n 2 dX10_within_6 rfl ?_
    refine j_icmp_gt (tgt := 14) dX10_within_7 (by decide) (fun c3 => ?_) (fun c3 => ?_)
    · replace h := h.1 c3
      refine j_iconst (x := 0) dX10_within_14 rfl (i32_c rfl) ?_
      refine j_zret dX10_within_15 rfl ⟨Nat.le_of_ble_eq_true rfl, Nat.le_of_ble_eq_true rfl⟩ (by decide) ?_
      refine j_zret dX10_isPlace_14 rfl ⟨Nat.le_of_ble_eq_true rfl, Nat.le_of_ble_eq_true rfl⟩ (by decide) ?_
      refine j_if_ne (tgt := 12) dX10_safest_5 (by decide) (fun c => absurd c (by decide)) (fun _ => ?_)
      refine j_sipush (x := (-1001)) dX10_safest_8 rfl (i32_c rfl) ?_
      exact j_iret dX10_safest_11 rfl ⟨Nat.le_of_ble_eq_true rfl, Nat.le_of_ble_eq_true rfl⟩ (fun _ => h)
    · replace h := h.2 c3
      refine j_iconst (x := 1) dX10_within_10 rfl (i32_c rfl) ?_
      refine j_goto (tgt := 15) dX10_within_11 (by decide) ?_
      refine j_zret dX10_within_15 rfl ⟨Nat.le_of_ble_eq_true rfl, Nat.le_of_ble_eq_true rfl⟩ (by decide) ?_
      refine j_zret dX10_isPlace_14 rfl ⟨Nat.le_of_ble_eq_true rfl, Nat.le_of_ble_eq_true rfl⟩ (by decide) ?_
      refine j_if_ne (tgt := 12) dX10_safest_5 (by decide) (fun _ => ?_) (fun c => absurd c (by decide))
      refine j_iload_n 2 dX10_safest_12 rfl ?_
      refine j_calliS (Yc := Y_X10_isMinute) (as := [aI x2]) (rest := []) dX10_safest_13 q_X10_169 ⟨Nat.le_of_ble_eq_true rfl, Nat.le_of_ble_eq_true rfl, Nat.le_of_ble_eq_true rfl, Nat.le_of_ble_eq_true rfl⟩ rfl (Nat.le_of_ble_eq_true rfl) rfl (ti_of (ll := [(0, aI x2)]) rfl (Nat.le_of_ble_eq_true rfl) rfl (fun _ => ?_))
      refine j_iload_n 0 dX10_isMinute_0 rfl ?_
      refine j_iconst (x := 0) dX10_isMinute_1 rfl (i32_c rfl) ?_
      refine j_bipush (x := 99) dX10_isMinute_2 rfl (i32_c rfl) ?_
      refine j_calliS (Yc := Y_X10_within) (as := [aI x2, aI 0, aI 99]) (rest := []) dX10_isMinute_4 q_X10_99 ⟨Nat.le_of_ble_eq_true rfl, Nat.le_of_ble_eq_true rfl, Nat.le_of_ble_eq_true rfl, Nat.le_of_ble_eq_true rfl⟩ rfl (Nat.le_of_ble_eq_true rfl) rfl (ti_of (ll := [(0, aI x2), (1, aI 0), (2, aI 99)]) rfl (Nat.le_of_ble_eq_true rfl) rfl (fun _ => ?_))
      refine j_iload_n 0 dX10_within_0 rfl ?_
      refine j_iload_n 1 dX10_within_1 rfl ?_
      refine j_icmp_lt (tgt := 14) dX10_within_2 (by decide) (fun c4 => ?_) (fun c4 => ?_)
      · replace h := h.1 c4
        refine j_iconst (x := 0) dX10_within_14 rfl (i32_c rfl) ?_
        refine j_zret dX10_within_15 rfl ⟨Nat.le_of_ble_eq_true rfl, Nat.le_of_ble_eq_true rfl⟩ (by decide) ?_
        refine j_zret dX10_isMinute_7 rfl ⟨Nat.le_of_ble_eq_true rfl, Nat.le_of_ble_eq_true rfl⟩ (by decide) ?_
        refine j_if_eq (tgt := 26) dX10_safest_16 (by decide) (fun _ => ?_) (fun c => absurd c (by decide))
        refine j_sipush (x := (-1002)) dX10_safest_26 rfl (i32_c rfl) ?_
        exact j_iret dX10_safest_29 rfl ⟨Nat.le_of_ble_eq_true rfl, Nat.le_of_ble_eq_true rfl⟩ (fun _ => h)
      · replace h := h.2 c4
        refine j_iload_n 0 dX10_within_5 rfl ?_
        refine j_iload_n 2 dX10_within_6 rfl ?_
        refine j_icmp_gt (tgt := 14) dX10_within_7 (by decide) (fun c5 => ?_) (fun c5 => ?_)
        · replace h := h.1 c5
          refine j_iconst (x := 0) dX10_within_14 rfl (i32_c rfl) ?_
          refine j_zret dX10_within_15 rfl ⟨Nat.le_of_ble_eq_true rfl, Nat.le_of_ble_eq_true rfl⟩ (by decide) ?_
          refine j_zret dX10_isMinute_7 rfl ⟨Nat.le_of_ble_eq_true rfl, Nat.le_of_ble_eq_true rfl⟩ (by decide) ?_
          refine j_if_eq (tgt := 26) dX10_safest_16 (by decide) (fun _ => ?_) (fun c => absurd c (by decide))
          refine j_sipush (x := (-1002)) dX10_safest_26 rfl (i32_c rfl) ?_
          exact j_iret dX10_safest_29 rfl ⟨Nat.le_of_ble_eq_true rfl, Nat.le_of_ble_eq_true rfl⟩ (fun _ => h)
        · replace h := h.2 c5
          refine j_iconst (x := 1) dX10_within_10 rfl (i32_c rfl) ?_
          refine j_goto (tgt := 15) dX10_within_11 (by decide) ?_
          refine j_zret dX10_within_15 rfl ⟨Nat.le_of_ble_eq_true rfl, Nat.le_of_ble_eq_true rfl⟩ (by decide) ?_
          refine j_zret dX10_isMinute_7 rfl ⟨Nat.le_of_ble_eq_true rfl, Nat.le_of_ble_eq_true rfl⟩ (by decide) ?_
          refine j_if_eq (tgt := 26) dX10_safest_16 (by decide) (fun c => absurd c (by decide)) (fun _ => ?_)
          refine j_iload_n 3 dX10_safest_19 rfl ?_
          refine j_calliS (Yc := Y_X10_isLight) (as := [aI x3]) (rest := []) dX10_safest_20 q_X10_197 ⟨Nat.le_of_ble_eq_true rfl, Nat.le_of_ble_eq_true rfl, Nat.le_of_ble_eq_true rfl, Nat.le_of_ble_eq_true rfl⟩ rfl (Nat.le_of_ble_eq_true rfl) rfl (ti_of (ll := [(0, aI x3)]) rfl (Nat.le_of_ble_eq_true rfl) rfl (fun _ => ?_))
          refine j_iload_n 0 dX10_isLight_0 rfl ?_
          refine j_iconst (x := (-1)) dX10_isLight_1 rfl (i32_c rfl) ?_
          refine j_bipush (x := 99) dX10_isLight_2 rfl (i32_c rfl) ?_
          refine j_calliS (Yc := Y_X10_within) (as := [aI x3, aI (-1), aI 99]) (rest := []) dX10_isLight_4 q_X10_99 ⟨Nat.le_of_ble_eq_true rfl, Nat.le_of_ble_eq_true rfl, Nat.le_of_ble_eq_true rfl, Nat.le_of_ble_eq_true rfl⟩ rfl (Nat.le_of_ble_eq_true rfl) rfl (ti_of (ll := [(0, aI x3), (1, aI (-1)), (2, aI 99)]) rfl (Nat.le_of_ble_eq_true rfl) rfl (fun _ => ?_))
          refine j_iload_n 0 dX10_within_0 rfl ?_
          refine j_iload_n 1 dX10_within_1 rfl ?_
          refine j_icmp_lt (tgt := 14) dX10_within_2 (by decide) (fun c6 => ?_) (fun c6 => ?_)
          · replace h := h.1 c6
            refine j_iconst (x := 0) dX10_within_14 rfl (i32_c rfl) ?_
            refine j_zret dX10_within_15 rfl ⟨Nat.le_of_ble_eq_true rfl, Nat.le_of_ble_eq_true rfl⟩ (by decide) ?_
            refine j_zret dX10_isLight_7 rfl ⟨Nat.le_of_ble_eq_true rfl, Nat.le_of_ble_eq_true rfl⟩ (by decide) ?_
            refine j_if_ne (tgt := 30) dX10_safest_23 (by decide) (fun c => absurd c (by decide)) (fun _ => ?_)
            refine j_sipush (x := (-1002)) dX10_safest_26 rfl (i32_c rfl) ?_
            exact j_iret dX10_safest_29 rfl ⟨Nat.le_of_ble_eq_true rfl, Nat.le_of_ble_eq_true rfl⟩ (fun _ => h)
          · replace h := h.2 c6
            refine j_iload_n 0 dX10_within_5 rfl ?_
            refine j_iload_n 2 dX10_within_6 rfl ?_
            refine j_icmp_gt (tgt := 14) dX10_within_7 (by decide) (fun c7 => ?_) (fun c7 => ?_)
            · replace h := h.1 c7
              refine j_iconst (x := 0) dX10_within_14 rfl (i32_c rfl) ?_
              refine j_zret dX10_within_15 rfl ⟨Nat.le_of_ble_eq_true rfl, Nat.le_of_ble_eq_true rfl⟩ (by decide) ?_
              refine j_zret dX10_isLight_7 rfl ⟨Nat.le_of_ble_eq_true rfl, Nat.le_of_ble_eq_true rfl⟩ (by decide) ?_
              refine j_if_ne (tgt := 30) dX10_safest_23 (by decide) (fun c => absurd c (by decide)) (fun _ => ?_)
              refine j_sipush (x := (-1002)) dX10_safest_26 rfl (i32_c rfl) ?_
              exact j_iret dX10_safest_29 rfl ⟨Nat.le_of_ble_eq_true rfl, Nat.le_of_ble_eq_true rfl⟩ (fun _ => h)
            · replace h := h.2 c7
              refine j_iconst (x := 1) dX10_within_10 rfl (i32_c rfl) ?_
              refine j_goto (tgt := 15) dX10_within_11 (by decide) ?_
              refine j_zret dX10_within_15 rfl ⟨Nat.le_of_ble_eq_true rfl, Nat.le_of_ble_eq_true rfl⟩ (by decide) ?_
              refine j_zret dX10_isLight_7 rfl ⟨Nat.le_of_ble_eq_true rfl, Nat.le_of_ble_eq_true rfl⟩ (by decide) ?_
              refine j_if_ne (tgt := 30) dX10_safest_23 (by decide) (fun _ => ?_) (fun c => absurd c (by decide))
              refine j_aload_n 0 dX10_safest_30 rfl ?_
              refine j_getc 33 dX10_safest_31 f_X10_59 sh_0 rfl ?_
              refine j_iload_n 3 dX10_safest_34 rfl ?_
              refine j_iconst (x := 0) dX10_safest_35 rfl (i32_c rfl) ?_
              refine j_callvV (Yc := Y_X9_prepare) (as := [aI x3, aI 0]) (rest := []) dX10_safest_36 q_X10_200 ⟨Nat.le_of_ble_eq_true rfl, Nat.le_of_ble_eq_true rfl, Nat.le_of_ble_eq_true rfl, Nat.le_of_ble_eq_true rfl⟩ sh_33 rfl (Nat.le_of_ble_eq_true rfl) rfl (tv_of (ll := [(0, aR 33), (1, aI x3), (2, aI 0)]) rfl (Nat.le_of_ble_eq_true rfl) rfl (fun _ => ?_))
              refine j_aload_n 0 dX9_prepare_0 rfl ?_
              refine j_iload_n 1 dX9_prepare_1 rfl ?_
              refine j_iload_n 2 dX9_prepare_2 rfl ?_
              refine j_iconst (x := (-1)) dX9_prepare_3 rfl (i32_c rfl) ?_
              refine j_iconst (x := (-1)) dX9_prepare_4 rfl (i32_c rfl) ?_
              refine j_callvV (Yc := Y_X9_prepareMarked) (as := [aI x3, aI 0, aI (-1), aI (-1)]) (rest := []) dX9_prepare_5 q_X9_38 ⟨Nat.le_of_ble_eq_true rfl, Nat.le_of_ble_eq_true rfl, Nat.le_of_ble_eq_true rfl, Nat.le_of_ble_eq_true rfl⟩ sh_33 rfl (Nat.le_of_ble_eq_true rfl) rfl (tv_mono h (fun u1 h => ?_))
              refine j_vret dX9_prepare_8 rfl ⟨Nat.le_of_ble_eq_true rfl, Nat.le_of_ble_eq_true rfl⟩ ?_
              refine j_aload_n 0 dX10_safest_39 rfl ?_
              refine j_getc 60 dX10_safest_40 f_X10_91 sh_0 rfl ?_
              refine j_iload_n 1 dX10_safest_43 rfl ?_
              refine j_iload_n 2 dX10_safest_44 rfl ?_
              refine j_calliV (Yc := Y_X4_bestChance) (as := [aI x1, aI x2]) (rest := []) dX10_safest_45 q_X10_301 ⟨Nat.le_of_ble_eq_true rfl, Nat.le_of_ble_eq_true rfl, Nat.le_of_ble_eq_true rfl, Nat.le_of_ble_eq_true rfl⟩ sh_60 rfl (Nat.le_of_ble_eq_true rfl) rfl (ti_mono h (fun z3 u2 h => ?_))
              exact j_iret dX10_safest_48 rfl ⟨Nat.le_of_ble_eq_true rfl, Nat.le_of_ble_eq_true rfl⟩ (fun _ => h)
theorem E_X10_safest {post : Int → ax_M → Prop} {M : ax_M} {x1 x2 x3 : Int} (h : ax_mr SH M → (-2147483648 ≤ ((M 6 0) - 1) ∧ ((M 6 0) - 1) ≤ 2147483647) ∧ (((x1 < 0) → post (-1001) M) ∧ ((0 ≤ x1) → (((((M 6 0) - 1) < x1) → post (-1001) M) ∧ ((x1 ≤ ((M 6 0) - 1)) → (((x2 < 0) → post (-1002) M) ∧ ((0 ≤ x2) → (((99 < x2) → post (-1002) M) ∧ ((x2 ≤ 99) → (((x3 < (-1)) → post (-1002) M) ∧ (((-1) ≤ x3) → (((99 < x3) → post (-1002) M) ∧ ((x3 ≤ 99) → ax_Tv Y_X9_prepareMarked [aR 33, aI x3, aI 0, aI (-1), aI (-1)] SH M (fun u1 => ax_Ti Y_X4_bestChance [aR 60, aI x1, aI x2] SH u1 (fun z3 u2 => post z3 u2))))))))))))))) : ax_Ti Y_X10_safest [aR 0, aI x1, aI x2, aI x3] SH M post :=
  ti_of rfl (Nat.le_of_ble_eq_true rfl) rfl (fun q => B_X10_safest_0 (h q))
set_option maxRecDepth 100000 in
set_option maxHeartbeats 4000000 in
theorem B_X10_knock_0 {post : Int → ax_M → Prop} {M : ax_M} {x1 x2 : Int} (h : (-2147483648 ≤ ((M 6 0) - 1) ∧ ((M 6 0) - 1) ≤ 2147483647) ∧ (((x1 < 0) → post (-1001) M) ∧ ((0 ≤ x1) → (((((M 6 0) - 1) < x1) → post (-1001) M) ∧ ((x1 ≤ ((M 6 0) - 1)) → (((x2 < 0) → post (-1002) M) ∧ ((0 ≤ x2) → (((1000 < x2) → post (-1002) M) ∧ ((x2 ≤ 1000) → ax_Tv Y_X9_countWaysFrom [aR 33, aI x1] SH M (fun u1 => ax_Ti Y_X10_hearing [aR 0, aI x2] SH u1 (fun z3 u2 => post z3 u2))))))))))) : ax_J Y_X10_knock (ax_Ki Y_X10_knock SH post) 0 0 0 [(0, aR 0), (1, aI x1), (2, aI x2)] [] SH M := by
  refine j_aload_n 0 dX10_knock_0 rfl ?_
  refine j_iload_n 1 dX10_knock_1 rfl ?_
  refine j_calliV (Yc := Y_X10_isPlace) (as := [aI x1]) (rest := []) dX10_knock_2 q_X10_162 ⟨Nat.le_of_ble_eq_true rfl, Nat.le_of_ble_eq_true rfl, Nat.le_of_ble_eq_true rfl, Nat.le_of_ble_eq_true rfl⟩ sh_0 rfl (Nat.le_of_ble_eq_true rfl) rfl (ti_of (ll := [(0, aR 0), (1, aI x1)]) rfl (Nat.le_of_ble_eq_true rfl) rfl (fun _ => ?_))
  refine j_iload_n 1 dX10_isPlace_0 rfl ?_
  refine j_iconst (x := 0) dX10_isPlace_1 rfl (i32_c rfl) ?_
  refine j_aload_n 0 dX10_isPlace_2 rfl ?_
  refine j_getc 6 dX10_isPlace_3 f_X10_28 sh_0 rfl ?_
  refine j_geti (i := 0) dX10_isPlace_6 f_X10_144 sh_6 rfl rfl (fun _ => ?_)
  refine j_iconst (x := 1) dX10_isPlace_9 rfl (i32_c rfl) ?_
  obtain ⟨o1, h⟩ := h
  refine j_isub (z := ((M 6 0) - 1)) dX10_isPlace_10 rfl o1 ?_
  refine j_calliS (Yc := Y_X10_within) (as := [aI x1, aI 0, aI ((M 6 0) - 1)]) (rest := []) dX10_isPlace_11 q_X10_99 ⟨Nat.le_of_ble_eq_true rfl, Nat.le_of_ble_eq_true rfl, Nat.le_of_ble_eq_true rfl, Nat.le_of_ble_eq_true rfl⟩ rfl (Nat.le_of_ble_eq_true rfl) rfl (ti_of (ll := [(0, aI x1), (1, aI 0), (2, aI ((M 6 0) - 1))]) rfl (Nat.le_of_ble_eq_true rfl) rfl (fun _ => ?_))
  refine j_iload_n 0 dX10_within_0 rfl ?_
  refine j_iload_n 1 dX10_within_1 rfl ?_
  refine j_icmp_lt (tgt := 14) dX10_within_2 (by decide) (fun c2 => ?_) (fun c2 => ?_)
  · replace h := h.1 c2
    refine j_iconst (x := 0) dX10_within_14 rfl (i32_c rfl) ?_
    refine j_zret dX10_within_15 rfl ⟨Nat.le_of_ble_eq_true rfl, Nat.le_of_ble_eq_true rfl⟩ (by decide) ?_
    refine j_zret dX10_isPlace_14 rfl ⟨Nat.le_of_ble_eq_true rfl, Nat.le_of_ble_eq_true rfl⟩ (by decide) ?_
    refine j_if_ne (tgt := 12) dX10_knock_5 (by decide) (fun c => absurd c (by decide)) (fun _ => ?_)
    refine j_sipush (x := (-1001)) dX10_knock_8 rfl (i32_c rfl) ?_
    exact j_iret dX10_knock_11 rfl ⟨Nat.le_of_ble_eq_true rfl, Nat.le_of_ble_eq_true rfl⟩ (fun _ => h)
  · replace h := h.2 c2
    refine j_iload_n 0 dX10_within_5 rfl ?_
    refine j_iload_n 2 dX10_within_6 rfl ?_
    refine j_icmp_gt (tgt := 14) dX10_within_7 (by decide) (fun c3 => ?_) (fun c3 => ?_)
    · replace h := h.1 c3
      refine j_iconst (x := 0) dX10_within_14 rfl (i32_c rfl) ?_
      refine j_zret dX10_within_15 rfl ⟨Nat.le_of_ble_eq_true rfl, Nat.le_of_ble_eq_true rfl⟩ (by decide) ?_
      refine j_zret dX10_isPlace_14 rfl ⟨Nat.le_of_ble_eq_true rfl, Nat.le_of_ble_eq_true rfl⟩ (by decide) ?_
      refine j_if_ne (tgt := 12) dX10_knock_5 (by decide) (fun c => absurd c (by decide)) (fun _ => ?_)
      refine j_sipush (x := (-1001)) dX10_knock_8 rfl (i32_c rfl) ?_
      exact j_iret dX10_knock_11 rfl ⟨Nat.le_of_ble_eq_true rfl, Nat.le_of_ble_eq_true rfl⟩ (fun _ => h)
    · replace h := h.2 c3
      refine j_iconst (x := 1) dX10_within_10 rfl (i32_c rfl) ?_
      refine j_goto (tgt := 15) dX10_within_11 (by decide) ?_
      refine j_zret dX10_within_15 rfl ⟨Nat.le_of_ble_eq_true rfl, Nat.le_of_ble_eq_true rfl⟩ (by decide) ?_
      refine j_zret dX10_isPlace_14 rfl ⟨Nat.le_of_ble_eq_true rfl, Nat.le_of_ble_eq_true rfl⟩ (by decide) ?_
      refine j_if_ne (tgt := 12) dX10_knock_5 (by decide) (fun _ => ?_) (fun c => absurd c (by decide))
      refine j_iload_n 2 dX10_knock_12 rfl ?_
      refine j_iconst (x := 0) dX10_knock_13 rfl (i32_c rfl) ?_
      refine j_sipush (x := 1000) dX10_knock_14 rfl (i32_c rfl) ?_
      refine j_calliS (Yc := Y_X10_within) (as := [aI x2, aI 0, aI 1000]) (rest := []) dX10_knock_17 q_X10_99 ⟨Nat.le_of_ble_eq_true rfl, Nat.le_of_ble_eq_true rfl, Nat.le_of_ble_eq_true rfl, Nat.le_of_ble_eq_true rfl⟩ rfl (Nat.le_of_ble_eq_true rfl) rfl (ti_of (ll := [(0, aI x2), (1, aI 0), (2, aI 1000)]) rfl (Nat.le_of_ble_eq_true rfl) rfl (fun _ => ?_))
      refine j_iload_n 0 dX10_within_0 rfl ?_
      refine j_iload_n 1 dX10_within_1 rfl ?_
      refine j_icmp_lt (tgt := 14) dX10_within_2 (by decide) (fun c4 => ?_) (fun c4 => ?_)
      · replace h := h.1 c4
        refine j_iconst (x := 0) dX10_within_14 rfl (i32_c rfl) ?_
        refine j_zret dX10_within_15 rfl ⟨Nat.le_of_ble_eq_true rfl, Nat.le_of_ble_eq_true rfl⟩ (by decide) ?_
        refine j_if_ne (tgt := 27) dX10_knock_20 (by decide) (fun c => absurd c (by decide)) (fun _ => ?_)
        refine j_sipush (x := (-1002)) dX10_knock_23 rfl (i32_c rfl) ?_
        exact j_iret dX10_knock_26 rfl ⟨Nat.le_of_ble_eq_true rfl, Nat.le_of_ble_eq_true rfl⟩ (fun _ => h)
      · replace h := h.2 c4
        refine j_iload_n 0 dX10_within_5 rfl ?_
        refine j_iload_n 2 dX10_within_6 rfl ?_
        refine j_icmp_gt (tgt := 14) dX10_within_7 (by decide) (fun c5 => ?_) (fun c5 => ?_)
        · replace h := h.1 c5
          refine j_iconst (x := 0) dX10_within_14 rfl (i32_c rfl) ?_
          refine j_zret dX10_within_15 rfl ⟨Nat.le_of_ble_eq_true rfl, Nat.le_of_ble_eq_true rfl⟩ (by decide) ?_
          refine j_if_ne (tgt := 27) dX10_knock_20 (by decide) (fun c => absurd c (by decide)) (fun _ => ?_)
          refine j_sipush (x := (-1002)) dX10_knock_23 rfl (i32_c rfl) ?_
          exact j_iret dX10_knock_26 rfl ⟨Nat.le_of_ble_eq_true rfl, Nat.le_of_ble_eq_true rfl⟩ (fun _ => h)
        · replace h := h.2 c5
          refine j_iconst (x := 1) dX10_within_10 rfl (i32_c rfl) ?_
          refine j_goto (tgt := 15) dX10_within_11 (by decide) ?_
          refine j_zret dX10_within_15 rfl ⟨Nat.le_of_ble_eq_true rfl, Nat.le_of_ble_eq_true rfl⟩ (by decide) ?_
          refine j_if_ne (tgt := 27) dX10_knock_20 (by decide) (fun _ => ?_) (fun c => absurd c (by decide))
          refine j_aload_n 0 dX10_knock_27 rfl ?_
          refine j_getc 33 dX10_knock_28 f_X10_59 sh_0 rfl ?_
          refine j_iload_n 1 dX10_knock_31 rfl ?_
          refine j_callvV (Yc := Y_X9_countWaysFrom) (as := [aI x1]) (rest := []) dX10_knock_32 q_X10_304 ⟨Nat.le_of_ble_eq_true rfl, Nat.le_of_ble_eq_true rfl, Nat.le_of_ble_eq_true rfl, Nat.le_of_ble_eq_true rfl⟩ sh_33 rfl (Nat.le_of_ble_eq_true rfl) rfl (tv_mono h (fun u1 h => ?_))
          refine j_aload_n 0 dX10_knock_35 rfl ?_
          refine j_iload_n 2 dX10_knock_36 rfl ?_
          refine j_calliV (Yc := Y_X10_hearing) (as := [aI x2]) (rest := []) dX10_knock_37 q_X10_307 ⟨Nat.le_of_ble_eq_true rfl, Nat.le_of_ble_eq_true rfl, Nat.le_of_ble_eq_true rfl, Nat.le_of_ble_eq_true rfl⟩ sh_0 rfl (Nat.le_of_ble_eq_true rfl) rfl (ti_mono h (fun z3 u2 h => ?_))
          exact j_iret dX10_knock_40 rfl ⟨Nat.le_of_ble_eq_true rfl, Nat.le_of_ble_eq_true rfl⟩ (fun _ => h)
theorem E_X10_knock {post : Int → ax_M → Prop} {M : ax_M} {x1 x2 : Int} (h : ax_mr SH M → (-2147483648 ≤ ((M 6 0) - 1) ∧ ((M 6 0) - 1) ≤ 2147483647) ∧ (((x1 < 0) → post (-1001) M) ∧ ((0 ≤ x1) → (((((M 6 0) - 1) < x1) → post (-1001) M) ∧ ((x1 ≤ ((M 6 0) - 1)) → (((x2 < 0) → post (-1002) M) ∧ ((0 ≤ x2) → (((1000 < x2) → post (-1002) M) ∧ ((x2 ≤ 1000) → ax_Tv Y_X9_countWaysFrom [aR 33, aI x1] SH M (fun u1 => ax_Ti Y_X10_hearing [aR 0, aI x2] SH u1 (fun z3 u2 => post z3 u2))))))))))) : ax_Ti Y_X10_knock [aR 0, aI x1, aI x2] SH M post :=
  ti_of rfl (Nat.le_of_ble_eq_true rfl) rfl (fun q => B_X10_knock_0 (h q))
set_option maxRecDepth 100000 in
set_option maxHeartbeats 4000000 in
theorem B_X10_keep_16_0 {post : Int → ax_M → Prop} {M : ax_M} {x1 : Int} (h : (((x1 < 0) → post (-1001) M) ∧ ((0 ≤ x1) → (((1 < x1) → post (-1001) M) ∧ ((x1 ≤ 1) → (0 ≤ x1 ∧ x1 < 2) ∧ ((M 15 x1) = 16) ∧ ax_Tv Y_X0_become [aR 16, aR 8] SH M (fun u1 => post 1 (ax_up u1 30 x1 1))))))) : ax_J Y_X10_keep (ax_Ki Y_X10_keep SH post) 0 0 0 [(0, aR 0), (1, aI x1)] [] SH M := by
  refine j_iload_n 1 dX10_keep_0 rfl ?_
  refine j_iconst (x := 0) dX10_keep_1 rfl (i32_c rfl) ?_
  refine j_iconst (x := 1) dX10_keep_2 rfl (i32_c rfl) ?_
  refine j_calliS (Yc := Y_X10_within) (as := [aI x1, aI 0, aI 1]) (rest := []) dX10_keep_3 q_X10_99 ⟨Nat.le_of_ble_eq_true rfl, Nat.le_of_ble_eq_true rfl, Nat.le_of_ble_eq_true rfl, Nat.le_of_ble_eq_true rfl⟩ rfl (Nat.le_of_ble_eq_true rfl) rfl (ti_of (ll := [(0, aI x1), (1, aI 0), (2, aI 1)]) rfl (Nat.le_of_ble_eq_true rfl) rfl (fun _ => ?_))
  refine j_iload_n 0 dX10_within_0 rfl ?_
  refine j_iload_n 1 dX10_within_1 rfl ?_
  refine j_icmp_lt (tgt := 14) dX10_within_2 (by decide) (fun c1 => ?_) (fun c1 => ?_)
  · replace h := h.1 c1
    refine j_iconst (x := 0) dX10_within_14 rfl (i32_c rfl) ?_
    refine j_zret dX10_within_15 rfl ⟨Nat.le_of_ble_eq_true rfl, Nat.le_of_ble_eq_true rfl⟩ (by decide) ?_
    refine j_if_ne (tgt := 13) dX10_keep_6 (by decide) (fun c => absurd c (by decide)) (fun _ => ?_)
    refine j_sipush (x := (-1001)) dX10_keep_9 rfl (i32_c rfl) ?_
    exact j_iret dX10_keep_12 rfl ⟨Nat.le_of_ble_eq_true rfl, Nat.le_of_ble_eq_true rfl⟩ (fun _ => h)
  · replace h := h.2 c1
    refine j_iload_n 0 dX10_within_5 rfl ?_
    refine j_iload_n 2 dX10_within_6 rfl ?_
    refine j_icmp_gt (tgt := 14) dX10_within_7 (by decide) (fun c2 => ?_) (fun c2 => ?_)
    · replace h := h.1 c2
      refine j_iconst (x := 0) dX10_within_14 rfl (i32_c rfl) ?_
      refine j_zret dX10_within_15 rfl ⟨Nat.le_of_ble_eq_true rfl, Nat.le_of_ble_eq_true rfl⟩ (by decide) ?_
      refine j_if_ne (tgt := 13) dX10_keep_6 (by decide) (fun c => absurd c (by decide)) (fun _ => ?_)
      refine j_sipush (x := (-1001)) dX10_keep_9 rfl (i32_c rfl) ?_
      exact j_iret dX10_keep_12 rfl ⟨Nat.le_of_ble_eq_true rfl, Nat.le_of_ble_eq_true rfl⟩ (fun _ => h)
    · replace h := h.2 c2
      refine j_iconst (x := 1) dX10_within_10 rfl (i32_c rfl) ?_
      refine j_goto (tgt := 15) dX10_within_11 (by decide) ?_
      refine j_zret dX10_within_15 rfl ⟨Nat.le_of_ble_eq_true rfl, Nat.le_of_ble_eq_true rfl⟩ (by decide) ?_
      refine j_if_ne (tgt := 13) dX10_keep_6 (by decide) (fun _ => ?_) (fun c => absurd c (by decide))
      refine j_aload_n 0 dX10_keep_13 rfl ?_
      refine j_getc 15 dX10_keep_14 f_X10_39 sh_0 rfl ?_
      refine j_iload_n 1 dX10_keep_17 rfl ?_
      obtain ⟨o3, h⟩ := h
      obtain ⟨o4, h⟩ := h
      refine j_aald 16 dX10_keep_18 sh_15 o3.1 o3.2 o4 ?_
      refine j_aload_n 0 dX10_keep_19 rfl ?_
      refine j_getc 8 dX10_keep_20 f_X10_35 sh_0 rfl ?_
      refine j_callvV (Yc := Y_X0_become) (as := [aR 8]) (rest := []) dX10_keep_23 q_X10_310 ⟨Nat.le_of_ble_eq_true rfl, Nat.le_of_ble_eq_true rfl, Nat.le_of_ble_eq_true rfl, Nat.le_of_ble_eq_true rfl⟩ sh_16 rfl (Nat.le_of_ble_eq_true rfl) rfl (tv_mono h (fun u1 h => ?_))
      refine j_aload_n 0 dX10_keep_26 rfl ?_
      refine j_getc 30 dX10_keep_27 f_X10_43 sh_0 rfl ?_
      refine j_iload_n 1 dX10_keep_30 rfl ?_
      refine j_iconst (x := 1) dX10_keep_31 rfl (i32_c rfl) ?_
      refine j_zast dX10_keep_32 sh_30 o3.1 o3.2 (by decide) ?_
      refine j_iconst (x := 1) dX10_keep_33 rfl (i32_c rfl) ?_
      exact j_iret dX10_keep_34 rfl ⟨Nat.le_of_ble_eq_true rfl, Nat.le_of_ble_eq_true rfl⟩ (fun _ => h)
theorem E_X10_keep_16 {post : Int → ax_M → Prop} {M : ax_M} {x1 : Int} (h : ax_mr SH M → (((x1 < 0) → post (-1001) M) ∧ ((0 ≤ x1) → (((1 < x1) → post (-1001) M) ∧ ((x1 ≤ 1) → (0 ≤ x1 ∧ x1 < 2) ∧ ((M 15 x1) = 16) ∧ ax_Tv Y_X0_become [aR 16, aR 8] SH M (fun u1 => post 1 (ax_up u1 30 x1 1))))))) : ax_Ti Y_X10_keep [aR 0, aI x1] SH M post :=
  ti_of rfl (Nat.le_of_ble_eq_true rfl) rfl (fun q => B_X10_keep_16_0 (h q))
set_option maxRecDepth 100000 in
set_option maxHeartbeats 4000000 in
theorem B_X10_keep_23_0 {post : Int → ax_M → Prop} {M : ax_M} {x1 : Int} (h : (((x1 < 0) → post (-1001) M) ∧ ((0 ≤ x1) → (((1 < x1) → post (-1001) M) ∧ ((x1 ≤ 1) → (0 ≤ x1 ∧ x1 < 2) ∧ ((M 15 x1) = 23) ∧ ax_Tv Y_X0_become [aR 23, aR 8] SH M (fun u1 => post 1 (ax_up u1 30 x1 1))))))) : ax_J Y_X10_keep (ax_Ki Y_X10_keep SH post) 0 0 0 [(0, aR 0), (1, aI x1)] [] SH M := by
  refine j_iload_n 1 dX10_keep_0 rfl ?_
  refine j_iconst (x := 0) dX10_keep_1 rfl (i32_c rfl) ?_
  refine j_iconst (x := 1) dX10_keep_2 rfl (i32_c rfl) ?_
  refine j_calliS (Yc := Y_X10_within) (as := [aI x1, aI 0, aI 1]) (rest := []) dX10_keep_3 q_X10_99 ⟨Nat.le_of_ble_eq_true rfl, Nat.le_of_ble_eq_true rfl, Nat.le_of_ble_eq_true rfl, Nat.le_of_ble_eq_true rfl⟩ rfl (Nat.le_of_ble_eq_true rfl) rfl (ti_of (ll := [(0, aI x1), (1, aI 0), (2, aI 1)]) rfl (Nat.le_of_ble_eq_true rfl) rfl (fun _ => ?_))
  refine j_iload_n 0 dX10_within_0 rfl ?_
  refine j_iload_n 1 dX10_within_1 rfl ?_
  refine j_icmp_lt (tgt := 14) dX10_within_2 (by decide) (fun c1 => ?_) (fun c1 => ?_)
  · replace h := h.1 c1
    refine j_iconst (x := 0) dX10_within_14 rfl (i32_c rfl) ?_
    refine j_zret dX10_within_15 rfl ⟨Nat.le_of_ble_eq_true rfl, Nat.le_of_ble_eq_true rfl⟩ (by decide) ?_
    refine j_if_ne (tgt := 13) dX10_keep_6 (by decide) (fun c => absurd c (by decide)) (fun _ => ?_)
    refine j_sipush (x := (-1001)) dX10_keep_9 rfl (i32_c rfl) ?_
    exact j_iret dX10_keep_12 rfl ⟨Nat.le_of_ble_eq_true rfl, Nat.le_of_ble_eq_true rfl⟩ (fun _ => h)
  · replace h := h.2 c1
    refine j_iload_n 0 dX10_within_5 rfl ?_
    refine j_iload_n 2 dX10_within_6 rfl ?_
    refine j_icmp_gt (tgt := 14) dX10_within_7 (by decide) (fun c2 => ?_) (fun c2 => ?_)
    · replace h := h.1 c2
      refine j_iconst (x := 0) dX10_within_14 rfl (i32_c rfl) ?_
      refine j_zret dX10_within_15 rfl ⟨Nat.le_of_ble_eq_true rfl, Nat.le_of_ble_eq_true rfl⟩ (by decide) ?_
      refine j_if_ne (tgt := 13) dX10_keep_6 (by decide) (fun c => absurd c (by decide)) (fun _ => ?_)
      refine j_sipush (x := (-1001)) dX10_keep_9 rfl (i32_c rfl) ?_
      exact j_iret dX10_keep_12 rfl ⟨Nat.le_of_ble_eq_true rfl, Nat.le_of_ble_eq_true rfl⟩ (fun _ => h)
    · replace h := h.2 c2
      refine j_iconst (x := 1) dX10_within_10 rfl (i32_c rfl) ?_
      refine j_goto (tgt := 15) dX10_within_11 (by decide) ?_
      refine j_zret dX10_within_15 rfl ⟨Nat.le_of_ble_eq_true rfl, Nat.le_of_ble_eq_true rfl⟩ (by decide) ?_
      refine j_if_ne (tgt := 13) dX10_keep_6 (by decide) (fun _ => ?_) (fun c => absurd c (by decide))
      refine j_aload_n 0 dX10_keep_13 rfl ?_
      refine j_getc 15 dX10_keep_14 f_X10_39 sh_0 rfl ?_
      refine j_iload_n 1 dX10_keep_17 rfl ?_
      obtain ⟨o3, h⟩ := h
      obtain ⟨o4, h⟩ := h
      refine j_aald 23 dX10_keep_18 sh_15 o3.1 o3.2 o4 ?_
      refine j_aload_n 0 dX10_keep_19 rfl ?_
      refine j_getc 8 dX10_keep_20 f_X10_35 sh_0 rfl ?_
      refine j_callvV (Yc := Y_X0_become) (as := [aR 8]) (rest := []) dX10_keep_23 q_X10_310 ⟨Nat.le_of_ble_eq_true rfl, Nat.le_of_ble_eq_true rfl, Nat.le_of_ble_eq_true rfl, Nat.le_of_ble_eq_true rfl⟩ sh_23 rfl (Nat.le_of_ble_eq_true rfl) rfl (tv_mono h (fun u1 h => ?_))
      refine j_aload_n 0 dX10_keep_26 rfl ?_
      refine j_getc 30 dX10_keep_27 f_X10_43 sh_0 rfl ?_
      refine j_iload_n 1 dX10_keep_30 rfl ?_
      refine j_iconst (x := 1) dX10_keep_31 rfl (i32_c rfl) ?_
      refine j_zast dX10_keep_32 sh_30 o3.1 o3.2 (by decide) ?_
      refine j_iconst (x := 1) dX10_keep_33 rfl (i32_c rfl) ?_
      exact j_iret dX10_keep_34 rfl ⟨Nat.le_of_ble_eq_true rfl, Nat.le_of_ble_eq_true rfl⟩ (fun _ => h)
theorem E_X10_keep_23 {post : Int → ax_M → Prop} {M : ax_M} {x1 : Int} (h : ax_mr SH M → (((x1 < 0) → post (-1001) M) ∧ ((0 ≤ x1) → (((1 < x1) → post (-1001) M) ∧ ((x1 ≤ 1) → (0 ≤ x1 ∧ x1 < 2) ∧ ((M 15 x1) = 23) ∧ ax_Tv Y_X0_become [aR 23, aR 8] SH M (fun u1 => post 1 (ax_up u1 30 x1 1))))))) : ax_Ti Y_X10_keep [aR 0, aI x1] SH M post :=
  ti_of rfl (Nat.le_of_ble_eq_true rfl) rfl (fun q => B_X10_keep_23_0 (h q))
set_option maxRecDepth 100000 in
set_option maxHeartbeats 4000000 in
theorem B_X10_goBack_16_0 {post : Int → ax_M → Prop} {M : ax_M} {x1 : Int} (h : (((x1 < 0) → post (-1001) M) ∧ ((0 ≤ x1) → (((1 < x1) → post (-1001) M) ∧ ((x1 ≤ 1) → (0 ≤ x1 ∧ x1 < 2) ∧ (((¬ (M 30 x1) = 0) → ((M 15 x1) = 16) ∧ ax_Tv Y_X0_become [aR 8, aR 16] SH M (fun u1 => post 1 u1)) ∧ (((M 30 x1) = 0) → post (-1003) M))))))) : ax_J Y_X10_goBack (ax_Ki Y_X10_goBack SH post) 0 0 0 [(0, aR 0), (1, aI x1)] [] SH M := by
  refine j_iload_n 1 dX10_goBack_0 rfl ?_
  refine j_iconst (x := 0) dX10_goBack_1 rfl (i32_c rfl) ?_
  refine j_iconst (x := 1) dX10_goBack_2 rfl (i32_c rfl) ?_
  refine j_calliS (Yc := Y_X10_within) (as := [aI x1, aI 0, aI 1]) (rest := []) dX10_goBack_3 q_X10_99 ⟨Nat.le_of_ble_eq_true rfl, Nat.le_of_ble_eq_true rfl, Nat.le_of_ble_eq_true rfl, Nat.le_of_ble_eq_true rfl⟩ rfl (Nat.le_of_ble_eq_true rfl) rfl (ti_of (ll := [(0, aI x1), (1, aI 0), (2, aI 1)]) rfl (Nat.le_of_ble_eq_true rfl) rfl (fun _ => ?_))
  refine j_iload_n 0 dX10_within_0 rfl ?_
  refine j_iload_n 1 dX10_within_1 rfl ?_
  refine j_icmp_lt (tgt := 14) dX10_within_2 (by decide) (fun c1 => ?_) (fun c1 => ?_)
  · replace h := h.1 c1
    refine j_iconst (x := 0) dX10_within_14 rfl (i32_c rfl) ?_
    refine j_zret dX10_within_15 rfl ⟨Nat.le_of_ble_eq_true rfl, Nat.le_of_ble_eq_true rfl⟩ (by decide) ?_
    refine j_if_ne (tgt := 13) dX10_goBack_6 (by decide) (fun c => absurd c (by decide)) (fun _ => ?_)
    refine j_sipush (x := (-1001)) dX10_goBack_9 rfl (i32_c rfl) ?_
    exact j_iret dX10_goBack_12 rfl ⟨Nat.le_of_ble_eq_true rfl, Nat.le_of_ble_eq_true rfl⟩ (fun _ => h)
  · replace h := h.2 c1
    refine j_iload_n 0 dX10_within_5 rfl ?_
    refine j_iload_n 2 dX10_within_6 rfl ?_
    refine j_icmp_gt (tgt := 14) dX10_within_7 (by decide) (fun c2 => ?_) (fun c2 => ?_)
    · replace h := h.1 c2
      refine j_iconst (x := 0) dX10_within_14 rfl (i32_c rfl) ?_
      refine j_zret dX10_within_15 rfl ⟨Nat.le_of_ble_eq_true rfl, Nat.le_of_ble_eq_true rfl⟩ (by decide) ?_
      refine j_if_ne (tgt := 13) dX10_goBack_6 (by decide) (fun c => absurd c (by decide)) (fun _ => ?_)
      refine j_sipush (x := (-1001)) dX10_goBack_9 rfl (i32_c rfl) ?_
      exact j_iret dX10_goBack_12 rfl ⟨Nat.le_of_ble_eq_true rfl, Nat.le_of_ble_eq_true rfl⟩ (fun _ => h)
    · replace h := h.2 c2
      refine j_iconst (x := 1) dX10_within_10 rfl (i32_c rfl) ?_
      refine j_goto (tgt := 15) dX10_within_11 (by decide) ?_
      refine j_zret dX10_within_15 rfl ⟨Nat.le_of_ble_eq_true rfl, Nat.le_of_ble_eq_true rfl⟩ (by decide) ?_
      refine j_if_ne (tgt := 13) dX10_goBack_6 (by decide) (fun _ => ?_) (fun c => absurd c (by decide))
      refine j_aload_n 0 dX10_goBack_13 rfl ?_
      refine j_getc 30 dX10_goBack_14 f_X10_43 sh_0 rfl ?_
      refine j_iload_n 1 dX10_goBack_17 rfl ?_
      obtain ⟨o3, h⟩ := h
      refine j_zald dX10_goBack_18 sh_30 o3.1 o3.2 (fun _ => ?_)
      refine j_if_ne (tgt := 26) dX10_goBack_19 (by decide) (fun c4 => ?_) (fun c4 => ?_)
      · replace h := h.1 c4
        refine j_aload_n 0 dX10_goBack_26 rfl ?_
        refine j_getc 8 dX10_goBack_27 f_X10_35 sh_0 rfl ?_
        refine j_aload_n 0 dX10_goBack_30 rfl ?_
        refine j_getc 15 dX10_goBack_31 f_X10_39 sh_0 rfl ?_
        refine j_iload_n 1 dX10_goBack_34 rfl ?_
        obtain ⟨o5, h⟩ := h
        refine j_aald 16 dX10_goBack_35 sh_15 o3.1 o3.2 o5 ?_
        refine j_callvV (Yc := Y_X0_become) (as := [aR 16]) (rest := []) dX10_goBack_36 q_X10_310 ⟨Nat.le_of_ble_eq_true rfl, Nat.le_of_ble_eq_true rfl, Nat.le_of_ble_eq_true rfl, Nat.le_of_ble_eq_true rfl⟩ sh_8 rfl (Nat.le_of_ble_eq_true rfl) rfl (tv_mono h (fun u1 h => ?_))
        refine j_iconst (x := 1) dX10_goBack_39 rfl (i32_c rfl) ?_
        exact j_iret dX10_goBack_40 rfl ⟨Nat.le_of_ble_eq_true rfl, Nat.le_of_ble_eq_true rfl⟩ (fun _ => h)
      · replace h := h.2 c4
        refine j_sipush (x := (-1003)) dX10_goBack_22 rfl (i32_c rfl) ?_
        exact j_iret dX10_goBack_25 rfl ⟨Nat.le_of_ble_eq_true rfl, Nat.le_of_ble_eq_true rfl⟩ (fun _ => h)
theorem E_X10_goBack_16 {post : Int → ax_M → Prop} {M : ax_M} {x1 : Int} (h : ax_mr SH M → (((x1 < 0) → post (-1001) M) ∧ ((0 ≤ x1) → (((1 < x1) → post (-1001) M) ∧ ((x1 ≤ 1) → (0 ≤ x1 ∧ x1 < 2) ∧ (((¬ (M 30 x1) = 0) → ((M 15 x1) = 16) ∧ ax_Tv Y_X0_become [aR 8, aR 16] SH M (fun u1 => post 1 u1)) ∧ (((M 30 x1) = 0) → post (-1003) M))))))) : ax_Ti Y_X10_goBack [aR 0, aI x1] SH M post :=
  ti_of rfl (Nat.le_of_ble_eq_true rfl) rfl (fun q => B_X10_goBack_16_0 (h q))
set_option maxRecDepth 100000 in
set_option maxHeartbeats 4000000 in
theorem B_X10_goBack_23_0 {post : Int → ax_M → Prop} {M : ax_M} {x1 : Int} (h : (((x1 < 0) → post (-1001) M) ∧ ((0 ≤ x1) → (((1 < x1) → post (-1001) M) ∧ ((x1 ≤ 1) → (0 ≤ x1 ∧ x1 < 2) ∧ (((¬ (M 30 x1) = 0) → ((M 15 x1) = 23) ∧ ax_Tv Y_X0_become [aR 8, aR 23] SH M (fun u1 => post 1 u1)) ∧ (((M 30 x1) = 0) → post (-1003) M))))))) : ax_J Y_X10_goBack (ax_Ki Y_X10_goBack SH post) 0 0 0 [(0, aR 0), (1, aI x1)] [] SH M := by
  refine j_iload_n 1 dX10_goBack_0 rfl ?_
  refine j_iconst (x := 0) dX10_goBack_1 rfl (i32_c rfl) ?_
  refine j_iconst (x := 1) dX10_goBack_2 rfl (i32_c rfl) ?_
  refine j_calliS (Yc := Y_X10_within) (as := [aI x1, aI 0, aI 1]) (rest := []) dX10_goBack_3 q_X10_99 ⟨Nat.le_of_ble_eq_true rfl, Nat.le_of_ble_eq_true rfl, Nat.le_of_ble_eq_true rfl, Nat.le_of_ble_eq_true rfl⟩ rfl (Nat.le_of_ble_eq_true rfl) rfl (ti_of (ll := [(0, aI x1), (1, aI 0), (2, aI 1)]) rfl (Nat.le_of_ble_eq_true rfl) rfl (fun _ => ?_))
  refine j_iload_n 0 dX10_within_0 rfl ?_
  refine j_iload_n 1 dX10_within_1 rfl ?_
  refine j_icmp_lt (tgt := 14) dX10_within_2 (by decide) (fun c1 => ?_) (fun c1 => ?_)
  · replace h := h.1 c1
    refine j_iconst (x := 0) dX10_within_14 rfl (i32_c rfl) ?_
    refine j_zret dX10_within_15 rfl ⟨Nat.le_of_ble_eq_true rfl, Nat.le_of_ble_eq_true rfl⟩ (by decide) ?_
    refine j_if_ne (tgt := 13) dX10_goBack_6 (by decide) (fun c => absurd c (by decide)) (fun _ => ?_)
    refine j_sipush (x := (-1001)) dX10_goBack_9 rfl (i32_c rfl) ?_
    exact j_iret dX10_goBack_12 rfl ⟨Nat.le_of_ble_eq_true rfl, Nat.le_of_ble_eq_true rfl⟩ (fun _ => h)
  · replace h := h.2 c1
    refine j_iload_n 0 dX10_within_5 rfl ?_
    refine j_iload_n 2 dX10_within_6 rfl ?_
    refine j_icmp_gt (tgt := 14) dX10_within_7 (by decide) (fun c2 => ?_) (fun c2 => ?_)
    · replace h := h.1 c2
      refine j_iconst (x := 0) dX10_within_14 rfl (i32_c rfl) ?_
      refine j_zret dX10_within_15 rfl ⟨Nat.le_of_ble_eq_true rfl, Nat.le_of_ble_eq_true rfl⟩ (by decide) ?_
      refine j_if_ne (tgt := 13) dX10_goBack_6 (by decide) (fun c => absurd c (by decide)) (fun _ => ?_)
      refine j_sipush (x := (-1001)) dX10_goBack_9 rfl (i32_c rfl) ?_
      exact j_iret dX10_goBack_12 rfl ⟨Nat.le_of_ble_eq_true rfl, Nat.le_of_ble_eq_true rfl⟩ (fun _ => h)
    · replace h := h.2 c2
      refine j_iconst (x := 1) dX10_within_10 rfl (i32_c rfl) ?_
      refine j_goto (tgt := 15) dX10_within_11 (by decide) ?_
      refine j_zret dX10_within_15 rfl ⟨Nat.le_of_ble_eq_true rfl, Nat.le_of_ble_eq_true rfl⟩ (by decide) ?_
      refine j_if_ne (tgt := 13) dX10_goBack_6 (by decide) (fun _ => ?_) (fun c => absurd c (by decide))
      refine j_aload_n 0 dX10_goBack_13 rfl ?_
      refine j_getc 30 dX10_goBack_14 f_X10_43 sh_0 rfl ?_
      refine j_iload_n 1 dX10_goBack_17 rfl ?_
      obtain ⟨o3, h⟩ := h
      refine j_zald dX10_goBack_18 sh_30 o3.1 o3.2 (fun _ => ?_)
      refine j_if_ne (tgt := 26) dX10_goBack_19 (by decide) (fun c4 => ?_) (fun c4 => ?_)
      · replace h := h.1 c4
        refine j_aload_n 0 dX10_goBack_26 rfl ?_
        refine j_getc 8 dX10_goBack_27 f_X10_35 sh_0 rfl ?_
        refine j_aload_n 0 dX10_goBack_30 rfl ?_
        refine j_getc 15 dX10_goBack_31 f_X10_39 sh_0 rfl ?_
        refine j_iload_n 1 dX10_goBack_34 rfl ?_
        obtain ⟨o5, h⟩ := h
        refine j_aald 23 dX10_goBack_35 sh_15 o3.1 o3.2 o5 ?_
        refine j_callvV (Yc := Y_X0_become) (as := [aR 23]) (rest := []) dX10_goBack_36 q_X10_310 ⟨Nat.le_of_ble_eq_true rfl, Nat.le_of_ble_eq_true rfl, Nat.le_of_ble_eq_true rfl, Nat.le_of_ble_eq_true rfl⟩ sh_8 rfl (Nat.le_of_ble_eq_true rfl) rfl (tv_mono h (fun u1 h => ?_))
        refine j_iconst (x := 1) dX10_goBack_39 rfl (i32_c rfl) ?_
        exact j_iret dX10_goBack_40 rfl ⟨Nat.le_of_ble_eq_true rfl, Nat.le_of_ble_eq_true rfl⟩ (fun _ => h)
      · replace h := h.2 c4
        refine j_sipush (x := (-1003)) dX10_goBack_22 rfl (i32_c rfl) ?_
        exact j_iret dX10_goBack_25 rfl ⟨Nat.le_of_ble_eq_true rfl, Nat.le_of_ble_eq_true rfl⟩ (fun _ => h)
theorem E_X10_goBack_23 {post : Int → ax_M → Prop} {M : ax_M} {x1 : Int} (h : ax_mr SH M → (((x1 < 0) → post (-1001) M) ∧ ((0 ≤ x1) → (((1 < x1) → post (-1001) M) ∧ ((x1 ≤ 1) → (0 ≤ x1 ∧ x1 < 2) ∧ (((¬ (M 30 x1) = 0) → ((M 15 x1) = 23) ∧ ax_Tv Y_X0_become [aR 8, aR 23] SH M (fun u1 => post 1 u1)) ∧ (((M 30 x1) = 0) → post (-1003) M))))))) : ax_Ti Y_X10_goBack [aR 0, aI x1] SH M post :=
  ti_of rfl (Nat.le_of_ble_eq_true rfl) rfl (fun q => B_X10_goBack_23_0 (h q))
set_option maxRecDepth 100000 in
set_option maxHeartbeats 4000000 in
theorem B_X10_canTell_0 {post : Int → ax_M → Prop} {M : ax_M} {x1 : Int} (h : (0 ≤ x1 ∧ x1 < 8) ∧ ((((M 10 x1) = 0) → post 0 M) ∧ ((¬ (M 10 x1) = 0) → ax_Ti Y_X0_untoldPlaces [aR 8] SH M (fun z2 u1 => ax_Ti Y_J6_bitCount_0f7a4 [aI z2] SH u1 (fun z4 u3 => (((6 < z4) → post 0 u3) ∧ ((z4 ≤ 6) → post 1 u3))))))) : ax_J Y_X10_canTell (ax_Ki Y_X10_canTell SH post) 0 0 0 [(0, aR 0), (1, aI x1)] [] SH M := by
  refine j_aload_n 0 dX10_canTell_0 rfl ?_
  refine j_getc 8 dX10_canTell_1 f_X10_35 sh_0 rfl ?_
  refine j_getc 10 dX10_canTell_4 f_X10_182 sh_8 rfl ?_
  refine j_iload_n 1 dX10_canTell_7 rfl ?_
  obtain ⟨o1, h⟩ := h
  refine j_zald dX10_canTell_8 sh_10 o1.1 o1.2 (fun _ => ?_)
  refine j_if_eq (tgt := 31) dX10_canTell_9 (by decide) (fun c2 => ?_) (fun c2 => ?_)
  · replace h := h.1 c2
    refine j_iconst (x := 0) dX10_canTell_31 rfl (i32_c rfl) ?_
    exact j_zret dX10_canTell_32 rfl ⟨Nat.le_of_ble_eq_true rfl, Nat.le_of_ble_eq_true rfl⟩ (by decide) h
  · replace h := h.2 c2
    refine j_aload_n 0 dX10_canTell_12 rfl ?_
    refine j_getc 8 dX10_canTell_13 f_X10_35 sh_0 rfl ?_
    refine j_calliV (Yc := Y_X0_untoldPlaces) (as := []) (rest := []) dX10_canTell_16 q_X10_243 ⟨Nat.le_of_ble_eq_true rfl, Nat.le_of_ble_eq_true rfl, Nat.le_of_ble_eq_true rfl, Nat.le_of_ble_eq_true rfl⟩ sh_8 rfl (Nat.le_of_ble_eq_true rfl) rfl (ti_mono h (fun z2 u1 h => ?_))
    refine j_calliS (Yc := Y_J6_bitCount_0f7a4) (as := [aI z2]) (rest := []) dX10_canTell_19 q_X10_313 ⟨Nat.le_of_ble_eq_true rfl, Nat.le_of_ble_eq_true rfl, Nat.le_of_ble_eq_true rfl, Nat.le_of_ble_eq_true rfl⟩ rfl (Nat.le_of_ble_eq_true rfl) rfl (ti_mono h (fun z4 u3 h => ?_))
    refine j_bipush (x := 6) dX10_canTell_22 rfl (i32_c rfl) ?_
    refine j_icmp_gt (tgt := 31) dX10_canTell_24 (by decide) (fun c3 => ?_) (fun c3 => ?_)
    · replace h := h.1 c3
      refine j_iconst (x := 0) dX10_canTell_31 rfl (i32_c rfl) ?_
      exact j_zret dX10_canTell_32 rfl ⟨Nat.le_of_ble_eq_true rfl, Nat.le_of_ble_eq_true rfl⟩ (by decide) h
    · replace h := h.2 c3
      refine j_iconst (x := 1) dX10_canTell_27 rfl (i32_c rfl) ?_
      refine j_goto (tgt := 32) dX10_canTell_28 (by decide) ?_
      exact j_zret dX10_canTell_32 rfl ⟨Nat.le_of_ble_eq_true rfl, Nat.le_of_ble_eq_true rfl⟩ (by decide) h
theorem E_X10_canTell {post : Int → ax_M → Prop} {M : ax_M} {x1 : Int} (h : ax_mr SH M → (0 ≤ x1 ∧ x1 < 8) ∧ ((((M 10 x1) = 0) → post 0 M) ∧ ((¬ (M 10 x1) = 0) → ax_Ti Y_X0_untoldPlaces [aR 8] SH M (fun z2 u1 => ax_Ti Y_J6_bitCount_0f7a4 [aI z2] SH u1 (fun z4 u3 => (((6 < z4) → post 0 u3) ∧ ((z4 ≤ 6) → post 1 u3))))))) : ax_Ti Y_X10_canTell [aR 0, aI x1] SH M post :=
  ti_of rfl (Nat.le_of_ble_eq_true rfl) rfl (fun q => B_X10_canTell_0 (h q))
set_option maxRecDepth 100000 in
set_option maxHeartbeats 4000000 in
theorem B_X10_hearing_0 {post : Int → ax_M → Prop} {M : ax_M} {x1 : Int} (h : ax_J Y_X10_hearing (ax_Ki Y_X10_hearing SH post) 0 0 4 [(0, aR 0), (1, aI x1), (2, aI 0), (3, aI 0)] [] SH M) : ax_J Y_X10_hearing (ax_Ki Y_X10_hearing SH post) 0 0 0 [(0, aR 0), (1, aI x1)] [] SH M := by
  refine j_iconst (x := 0) dX10_hearing_0 rfl (i32_c rfl) ?_
  refine j_istore_n (ll' := [(2, aI 0), (0, aR 0), (1, aI x1)]) dX10_hearing_1 (Nat.le_of_ble_eq_true rfl) rfl ?_
  refine j_iconst (x := 0) dX10_hearing_2 rfl (i32_c rfl) ?_
  refine j_istore_n (ll' := [(3, aI 0), (2, aI 0), (0, aR 0), (1, aI x1)]) dX10_hearing_3 (Nat.le_of_ble_eq_true rfl) rfl ?_
  refine j_sub [2, 3, 1, 0] rfl ?_
  exact h
theorem E_X10_hearing {post : Int → ax_M → Prop} {M : ax_M} {x1 : Int} (h : ax_mr SH M → ax_J Y_X10_hearing (ax_Ki Y_X10_hearing SH post) 0 0 4 [(0, aR 0), (1, aI x1), (2, aI 0), (3, aI 0)] [] SH M) : ax_Ti Y_X10_hearing [aR 0, aI x1] SH M post :=
  ti_of rfl (Nat.le_of_ble_eq_true rfl) rfl (fun q => B_X10_hearing_0 (h q))
set_option maxRecDepth 100000 in
set_option maxHeartbeats 4000000 in
theorem B_X10_hearing_4 {post : Int → ax_M → Prop} {M : ax_M} {x1 x2 x3 : Int} (h : ((((M 8 0) ≤ x3) → post x2 M) ∧ ((x3 < (M 8 0)) → (0 ≤ x3 ∧ x3 < 8) ∧ (0 ≤ (M 9 x3) ∧ (M 9 x3) < 12) ∧ (((¬ (M 10 x3) = 0) → (-2147483648 ≤ (x3 + 1) ∧ (x3 + 1) ≤ 2147483647) ∧ ax_J Y_X10_hearing (ax_Ki Y_X10_hearing SH post) 0 0 4 [(0, aR 0), (1, aI x1), (2, aI x2), (3, aI (x3 + 1))] [] SH M) ∧ (((M 10 x3) = 0) → (((¬ (M 38 (M 9 x3)) = (-1)) → ax_J Y_X10_hearing (ax_Ki Y_X10_hearing SH post) 0 0 63 [(0, aR 0), (1, aI x1), (2, aI x2), (3, aI x3), (4, aI (M 38 (M 9 x3))), (5, aI 1000), (6, aI 0)] [] SH M) ∧ (((M 38 (M 9 x3)) = (-1)) → (-2147483648 ≤ (x3 + 1) ∧ (x3 + 1) ≤ 2147483647) ∧ ax_J Y_X10_hearing (ax_Ki Y_X10_hearing SH post) 0 0 4 [(0, aR 0), (1, aI x1), (2, aI x2), (3, aI (x3 + 1))] [] SH M))))))) : ax_J Y_X10_hearing (ax_Ki Y_X10_hearing SH post) 0 0 4 [(0, aR 0), (1, aI x1), (2, aI x2), (3, aI x3)] [] SH M := by
  refine j_iload_n 3 dX10_hearing_4 rfl ?_
  refine j_aload_n 0 dX10_hearing_5 rfl ?_
  refine j_getc 8 dX10_hearing_6 f_X10_35 sh_0 rfl ?_
  refine j_geti (i := 0) dX10_hearing_9 f_X10_147 sh_8 rfl rfl (fun _ => ?_)
  refine j_icmp_ge (tgt := 97) dX10_hearing_12 (by decide) (fun c1 => ?_) (fun c1 => ?_)
  · replace h := h.1 c1
    refine j_iload_n 2 dX10_hearing_97 rfl ?_
    exact j_iret dX10_hearing_98 rfl ⟨Nat.le_of_ble_eq_true rfl, Nat.le_of_ble_eq_true rfl⟩ (fun _ => h)
  · replace h := h.2 c1
    refine j_aload_n 0 dX10_hearing_15 rfl ?_
    refine j_getc 33 dX10_hearing_16 f_X10_59 sh_0 rfl ?_
    refine j_getc 38 dX10_hearing_19 f_X10_208 sh_33 rfl ?_
    refine j_aload_n 0 dX10_hearing_22 rfl ?_
    refine j_getc 8 dX10_hearing_23 f_X10_35 sh_0 rfl ?_
    refine j_getc 9 dX10_hearing_26 f_X10_178 sh_8 rfl ?_
    refine j_iload_n 3 dX10_hearing_29 rfl ?_
    obtain ⟨o2, h⟩ := h
    refine j_iald dX10_hearing_30 sh_9 o2.1 o2.2 (fun _ => ?_)
    obtain ⟨o3, h⟩ := h
    refine j_iald dX10_hearing_31 sh_38 o3.1 o3.2 (fun _ => ?_)
    refine j_istore (ll' := [(4, aI (M 38 (M 9 x3))), (0, aR 0), (1, aI x1), (2, aI x2), (3, aI x3)]) dX10_hearing_32 (Nat.le_of_ble_eq_true rfl) rfl ?_
    refine j_aload_n 1 dX10_hearing_34 rfl ?_
    refine j_getc 8 dX10_hearing_35 f_X10_35 sh_0 rfl ?_
    refine j_getc 10 dX10_hearing_38 f_X10_182 sh_8 rfl ?_
    refine j_iload_n 4 dX10_hearing_41 rfl ?_
    refine j_zald dX10_hearing_42 sh_10 o2.1 o2.2 (fun _ => ?_)
    refine j_if_ne (tgt := 91) dX10_hearing_43 (by decide) (fun c4 => ?_) (fun c4 => ?_)
    · replace h := h.1 c4
      obtain ⟨o5, h⟩ := h
      refine j_iinc (ll' := [(3, aI (x3 + 1)), (4, aI (M 38 (M 9 x3))), (0, aR 0), (1, aI x1), (2, aI x2)]) 4 dX10_hearing_91 rfl (Nat.le_of_ble_eq_true rfl) o5 rfl ?_
      refine j_goto (tgt := 4) dX10_hearing_94 (by decide) ?_
      refine j_sub [2, 3, 4, 0] rfl ?_
      exact h
    · replace h := h.2 c4
      refine j_iload 0 dX10_hearing_46 rfl ?_
      refine j_iconst (x := (-1)) dX10_hearing_48 rfl (i32_c rfl) ?_
      refine j_icmp_ne (tgt := 55) dX10_hearing_49 (by decide) (fun c6 => ?_) (fun c6 => ?_)
      · replace h := h.1 c6
        refine j_sipush (x := 1000) dX10_hearing_55 rfl (i32_c rfl) ?_
        refine j_istore (ll' := [(5, aI 1000), (4, aI (M 38 (M 9 x3))), (0, aR 0), (1, aI x1), (2, aI x2), (3, aI x3)]) dX10_hearing_58 (Nat.le_of_ble_eq_true rfl) rfl ?_
        refine j_iconst (x := 0) dX10_hearing_60 rfl (i32_c rfl) ?_
        refine j_istore (ll' := [(6, aI 0), (5, aI 1000), (4, aI (M 38 (M 9 x3))), (0, aR 0), (1, aI x1), (2, aI x2), (3, aI x3)]) dX10_hearing_61 (Nat.le_of_ble_eq_true rfl) rfl ?_
        refine j_sub [3, 4, 5, 6, 2, 1, 0] rfl ?_
        exact h
      · replace h := h.2 c6
        refine j_goto (tgt := 91) dX10_hearing_52 (by decide) ?_
        obtain ⟨o7, h⟩ := h
        refine j_iinc (ll' := [(3, aI (x3 + 1)), (4, aI (M 38 (M 9 x3))), (0, aR 0), (1, aI x1), (2, aI x2)]) 4 dX10_hearing_91 rfl (Nat.le_of_ble_eq_true rfl) o7 rfl ?_
        refine j_goto (tgt := 4) dX10_hearing_94 (by decide) ?_
        refine j_sub [2, 3, 4, 0] rfl ?_
        exact h
set_option maxRecDepth 100000 in
set_option maxHeartbeats 4000000 in
theorem B_X10_hearing_63 {post : Int → ax_M → Prop} {M : ax_M} {x1 x2 x3 x4 x5 x6 : Int} (h : (((x4 ≤ x6) → (-2147483648 ≤ (x2 + x5) ∧ (x2 + x5) ≤ 2147483647) ∧ (-2147483648 ≤ (x3 + 1) ∧ (x3 + 1) ≤ 2147483647) ∧ ax_J Y_X10_hearing (ax_Ki Y_X10_hearing SH post) 0 0 4 [(0, aR 0), (1, aI x1), (2, aI (x2 + x5)), (3, aI (x3 + 1))] [] SH M) ∧ ((x6 < x4) → (-2147483648 ≤ (x5 * x1) ∧ (x5 * x1) ≤ 2147483647) ∧ (0 ≤ (x5 * x1)) ∧ (-2147483648 ≤ (x6 + 1) ∧ (x6 + 1) ≤ 2147483647) ∧ ax_J Y_X10_hearing (ax_Ki Y_X10_hearing SH post) 0 0 63 [(0, aR 0), (1, aI x1), (2, aI x2), (3, aI x3), (4, aI x4), (5, aI ((x5 * x1) / 1000)), (6, aI (x6 + 1))] [] SH M))) : ax_J Y_X10_hearing (ax_Ki Y_X10_hearing SH post) 0 0 63 [(0, aR 0), (1, aI x1), (2, aI x2), (3, aI x3), (4, aI x4), (5, aI x5), (6, aI x6)] [] SH M := by
  refine j_iload 6 dX10_hearing_63 rfl ?_
  refine j_iload 4 dX10_hearing_65 rfl ?_
  refine j_icmp_ge (tgt := 86) dX10_hearing_67 (by decide) (fun c1 => ?_) (fun c1 => ?_)
  · replace h := h.1 c1
    refine j_iload_n 2 dX10_hearing_86 rfl ?_
    refine j_iload 5 dX10_hearing_87 rfl ?_
    obtain ⟨o2, h⟩ := h
    refine j_iadd (z := (x2 + x5)) dX10_hearing_89 rfl o2 ?_
    refine j_istore_n (ll' := [(2, aI (x2 + x5)), (0, aR 0), (1, aI x1), (3, aI x3), (4, aI x4), (5, aI x5), (6, aI x6)]) dX10_hearing_90 (Nat.le_of_ble_eq_true rfl) rfl ?_
    obtain ⟨o3, h⟩ := h
    refine j_iinc (ll' := [(3, aI (x3 + 1)), (2, aI (x2 + x5)), (0, aR 0), (1, aI x1), (4, aI x4), (5, aI x5), (6, aI x6)]) 3 dX10_hearing_91 rfl (Nat.le_of_ble_eq_true rfl) o3 rfl ?_
    refine j_goto (tgt := 4) dX10_hearing_94 (by decide) ?_
    refine j_sub [2, 3, 1, 0] rfl ?_
    exact h
  · replace h := h.2 c1
    refine j_iload 5 dX10_hearing_70 rfl ?_
    refine j_iload_n 1 dX10_hearing_72 rfl ?_
    obtain ⟨o4, h⟩ := h
    refine j_imul (z := (x5 * x1)) dX10_hearing_73 rfl o4 ?_
    refine j_sipush (x := 1000) dX10_hearing_74 rfl (i32_c rfl) ?_
    obtain ⟨o5, h⟩ := h
    refine j_idiv (z := ((x5 * x1) / 1000)) dX10_hearing_77 rfl o5 (by decide) ?_
    refine j_istore (ll' := [(5, aI ((x5 * x1) / 1000)), (0, aR 0), (1, aI x1), (2, aI x2), (3, aI x3), (4, aI x4), (6, aI x6)]) dX10_hearing_78 (Nat.le_of_ble_eq_true rfl) rfl ?_
    obtain ⟨o6, h⟩ := h
    refine j_iinc (ll' := [(6, aI (x6 + 1)), (5, aI ((x5 * x1) / 1000)), (0, aR 0), (1, aI x1), (2, aI x2), (3, aI x3), (4, aI x4)]) 6 dX10_hearing_80 rfl (Nat.le_of_ble_eq_true rfl) o6 rfl ?_
    refine j_goto (tgt := 63) dX10_hearing_83 (by decide) ?_
    refine j_sub [2, 3, 4, 5, 6, 1, 0] rfl ?_
    exact h
