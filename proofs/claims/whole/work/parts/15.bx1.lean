set_option maxRecDepth 100000 in
set_option maxHeartbeats 4000000 in
theorem B_X8_append_0 {post : ax_M → Prop} {M : ax_M} {x1 x2 : Int} (h : (-2147483648 ≤ (x1 - 1) ∧ (x1 - 1) ≤ 2147483647) ∧ ax_J Y_X8_append (ax_Kv Y_X8_append SH post) 0 0 5 [(0, aR 1), (2, aL x2), (4, aI (x1 - 1))] [] SH M) : ax_J Y_X8_append (ax_Kv Y_X8_append SH post) 0 0 0 [(0, aR 1), (1, aI x1), (2, aL x2)] [] SH M := by
  refine j_iload_n 1 dX8_append_0 rfl ?_
  refine j_iconst (x := 1) dX8_append_1 rfl (i32_c rfl) ?_
  obtain ⟨o1, h⟩ := h
  refine j_isub (z := (x1 - 1)) dX8_append_2 rfl o1 ?_
  refine j_istore (ll' := [(4, aI (x1 - 1)), (0, aR 1), (1, aI x1), (2, aL x2)]) dX8_append_3 (Nat.le_of_ble_eq_true rfl) rfl ?_
  refine j_sub [1, 3, 0] rfl ?_
  exact h
theorem E_X8_append {post : ax_M → Prop} {M : ax_M} {x1 x2 : Int} (h : ax_mr SH M → (-2147483648 ≤ (x1 - 1) ∧ (x1 - 1) ≤ 2147483647) ∧ ax_J Y_X8_append (ax_Kv Y_X8_append SH post) 0 0 5 [(0, aR 1), (2, aL x2), (4, aI (x1 - 1))] [] SH M) : ax_Tv Y_X8_append [aR 1, aI x1, aL x2] SH M post :=
  tv_of rfl (Nat.le_of_ble_eq_true rfl) rfl (fun q => B_X8_append_0 (h q))
set_option maxRecDepth 100000 in
set_option maxHeartbeats 4000000 in
theorem B_X8_append_5 {post : ax_M → Prop} {M : ax_M} {x2 x4 : Int} (h : (((x4 < 0) → post M) ∧ ((0 ≤ x4) → (((400 ≤ (M 1 1)) → post M) ∧ (((M 1 1) < 400) → (-2147483648 ≤ (8 * x4) ∧ (8 * x4) ≤ 2147483647) ∧ (0 ≤ (M 1 1) ∧ (M 1 1) < 400) ∧ (-128 ≤ ((Int8.ofInt ((Int32.ofInt (bo_lshr x2 (8 * x4))).toInt)).toInt) ∧ ((Int8.ofInt ((Int32.ofInt (bo_lshr x2 (8 * x4))).toInt)).toInt) ≤ 127) ∧ (-2147483648 ≤ ((M 1 1) + 1) ∧ ((M 1 1) + 1) ≤ 2147483647) ∧ (-2147483648 ≤ (x4 + (-1)) ∧ (x4 + (-1)) ≤ 2147483647) ∧ ax_J Y_X8_append (ax_Kv Y_X8_append SH post) 0 0 5 [(0, aR 1), (2, aL x2), (4, aI (x4 + (-1)))] [] SH (ax_up (ax_up M 2 (M 1 1) ((Int8.ofInt ((Int32.ofInt (bo_lshr x2 (8 * x4))).toInt)).toInt)) 1 1 ((M 1 1) + 1))))))) : ax_J Y_X8_append (ax_Kv Y_X8_append SH post) 0 0 5 [(0, aR 1), (2, aL x2), (4, aI x4)] [] SH M := by
  refine j_iload 2 dX8_append_5 rfl ?_
  refine j_if_lt (tgt := 54) dX8_append_7 (by decide) (fun c1 => ?_) (fun c1 => ?_)
  · replace h := h.1 c1
    exact j_vret dX8_append_54 rfl ⟨Nat.le_of_ble_eq_true rfl, Nat.le_of_ble_eq_true rfl⟩ h
  · replace h := h.2 c1
    refine j_aload_n 0 dX8_append_10 rfl ?_
    refine j_geti (i := 1) dX8_append_11 f_X8_15 sh_1 rfl rfl (fun _ => ?_)
    refine j_sipush (x := 400) dX8_append_14 rfl (i32_c rfl) ?_
    refine j_icmp_ge (tgt := 54) dX8_append_17 (by decide) (fun c2 => ?_) (fun c2 => ?_)
    · replace h := h.1 c2
      exact j_vret dX8_append_54 rfl ⟨Nat.le_of_ble_eq_true rfl, Nat.le_of_ble_eq_true rfl⟩ h
    · replace h := h.2 c2
      refine j_aload_n 0 dX8_append_20 rfl ?_
      refine j_getc 2 dX8_append_21 f_X8_9 sh_1 rfl ?_
      refine j_aload_n 0 dX8_append_24 rfl ?_
      refine j_geti (i := 1) dX8_append_25 f_X8_15 sh_1 rfl rfl (fun _ => ?_)
      refine j_lload_n 1 dX8_append_28 rfl ?_
      refine j_bipush (x := 8) dX8_append_29 rfl (i32_c rfl) ?_
      refine j_iload 2 dX8_append_31 rfl ?_
      obtain ⟨o3, h⟩ := h
      refine j_imul (z := (8 * x4)) dX8_append_33 rfl o3 ?_
      refine j_lshr dX8_append_34 ?_
      refine j_l2iw dX8_append_35 ?_
      refine j_i2b dX8_append_36 ?_
      obtain ⟨o4, h⟩ := h
      obtain ⟨o5, h⟩ := h
      refine j_bast dX8_append_37 sh_2 o4.1 o4.2 o5 ?_
      refine j_aload_n 0 dX8_append_38 rfl ?_
      refine j_dup dX8_append_39 rfl ?_
      refine j_geti (i := 1) dX8_append_40 f_X8_15 sh_1 rfl rfl (fun _ => ?_)
      refine j_iconst (x := 1) dX8_append_43 rfl (i32_c rfl) ?_
      obtain ⟨o6, h⟩ := h
      refine j_iadd (z := ((M 1 1) + 1)) dX8_append_44 rfl o6 ?_
      refine j_puti (i := 1) dX8_append_45 p_X8_15 (fun h => by cases h) sh_1 rfl rfl ?_
      obtain ⟨o7, h⟩ := h
      refine j_iinc (ll' := [(4, aI (x4 + (-1))), (0, aR 1), (2, aL x2)]) 2 dX8_append_48 rfl (Nat.le_of_ble_eq_true rfl) o7 rfl ?_
      refine j_goto (tgt := 5) dX8_append_51 (by decide) ?_
      refine j_sub [1, 2, 0] rfl ?_
      exact h
set_option maxRecDepth 100000 in
set_option maxHeartbeats 4000000 in
theorem B_X0_vanish_0 {post : ax_M → Prop} {M : ax_M} (h : ax_J Y_X0_vanish (ax_Kv Y_X0_vanish SH post) 0 0 12 [(0, aR 8), (1, aI 0)] [] SH (ax_up (ax_up M 8 0 0) 8 1 0)) : ax_J Y_X0_vanish (ax_Kv Y_X0_vanish SH post) 0 0 0 [(0, aR 8)] [] SH M := by
  refine j_aload_n 0 dX0_vanish_0 rfl ?_
  refine j_iconst (x := 0) dX0_vanish_1 rfl (i32_c rfl) ?_
  refine j_puti (i := 0) dX0_vanish_2 p_X0_31 (fun h => by cases h) sh_8 rfl rfl ?_
  refine j_aload_n 0 dX0_vanish_5 rfl ?_
  refine j_iconst (x := 0) dX0_vanish_6 rfl (i32_c rfl) ?_
  refine j_puti (i := 1) dX0_vanish_7 p_X0_35 (fun h => by cases h) sh_8 rfl rfl ?_
  refine j_iconst (x := 0) dX0_vanish_10 rfl (i32_c rfl) ?_
  refine j_istore_n (ll' := [(1, aI 0), (0, aR 8)]) dX0_vanish_11 (Nat.le_of_ble_eq_true rfl) rfl ?_
  refine j_sub [1, 0] rfl ?_
  exact h
theorem E_X0_vanish {post : ax_M → Prop} {M : ax_M} (h : ax_mr SH M → ax_J Y_X0_vanish (ax_Kv Y_X0_vanish SH post) 0 0 12 [(0, aR 8), (1, aI 0)] [] SH (ax_up (ax_up M 8 0 0) 8 1 0)) : ax_Tv Y_X0_vanish [aR 8] SH M post :=
  tv_of rfl (Nat.le_of_ble_eq_true rfl) rfl (fun q => B_X0_vanish_0 (h q))
set_option maxRecDepth 100000 in
set_option maxHeartbeats 4000000 in
theorem B_X0_vanish_12 {post : ax_M → Prop} {M : ax_M} {x1 : Int} (h : (((24 ≤ x1) → post M) ∧ ((x1 < 24) → (0 ≤ x1 ∧ x1 < 24) ∧ (-2147483648 ≤ (x1 + 1) ∧ (x1 + 1) ≤ 2147483647) ∧ ax_J Y_X0_vanish (ax_Kv Y_X0_vanish SH post) 0 0 12 [(0, aR 8), (1, aI (x1 + 1))] [] SH (ax_up M 14 x1 0)))) : ax_J Y_X0_vanish (ax_Kv Y_X0_vanish SH post) 0 0 12 [(0, aR 8), (1, aI x1)] [] SH M := by
  refine j_iload_n 1 dX0_vanish_12 rfl ?_
  refine j_bipush (x := 24) dX0_vanish_13 rfl (i32_c rfl) ?_
  refine j_icmp_ge (tgt := 31) dX0_vanish_15 (by decide) (fun c1 => ?_) (fun c1 => ?_)
  · replace h := h.1 c1
    exact j_vret dX0_vanish_31 rfl ⟨Nat.le_of_ble_eq_true rfl, Nat.le_of_ble_eq_true rfl⟩ h
  · replace h := h.2 c1
    refine j_aload_n 0 dX0_vanish_18 rfl ?_
    refine j_getc 14 dX0_vanish_19 f_X0_28 sh_8 rfl ?_
    refine j_iload_n 1 dX0_vanish_22 rfl ?_
    refine j_iconst (x := 0) dX0_vanish_23 rfl (i32_c rfl) ?_
    obtain ⟨o2, h⟩ := h
    refine j_zast dX0_vanish_24 sh_14 o2.1 o2.2 (by decide) ?_
    obtain ⟨o3, h⟩ := h
    refine j_iinc (ll' := [(1, aI (x1 + 1)), (0, aR 8)]) 1 dX0_vanish_25 rfl (Nat.le_of_ble_eq_true rfl) o3 rfl ?_
    refine j_goto (tgt := 12) dX0_vanish_28 (by decide) ?_
    refine j_sub [1, 0] rfl ?_
    exact h
set_option maxRecDepth 100000 in
set_option maxHeartbeats 4000000 in
theorem B_X3_become_0 {post : ax_M → Prop} {M : ax_M} (h : post (ax_cp (ax_up (ax_up (ax_up (ax_up M 6 0 (M 4 0)) 6 1 (M 4 1)) 6 2 (M 4 2)) 6 3 (M 4 3)) 5 7 0 0 168)) : ax_J Y_X3_become (ax_Kv Y_X3_become SH post) 0 0 0 [(0, aR 6), (1, aR 4)] [] SH M := by
  refine j_aload_n 0 dX3_become_0 rfl ?_
  refine j_aload_n 1 dX3_become_1 rfl ?_
  refine j_geti (i := 0) dX3_become_2 f_X3_19 sh_4 rfl rfl (fun _ => ?_)
  refine j_puti (i := 0) dX3_become_5 p_X3_19 (fun h => by cases h) sh_6 rfl rfl ?_
  refine j_aload_n 0 dX3_become_8 rfl ?_
  refine j_aload_n 1 dX3_become_9 rfl ?_
  refine j_geti (i := 1) dX3_become_10 f_X3_22 sh_4 rfl rfl (fun _ => ?_)
  refine j_puti (i := 1) dX3_become_13 p_X3_22 (fun h => by cases h) sh_6 rfl rfl ?_
  refine j_aload_n 0 dX3_become_16 rfl ?_
  refine j_aload_n 1 dX3_become_17 rfl ?_
  refine j_geti (i := 2) dX3_become_18 f_X3_9 sh_4 rfl rfl (fun _ => ?_)
  refine j_puti (i := 2) dX3_become_21 p_X3_9 (fun h => by cases h) sh_6 rfl rfl ?_
  refine j_aload_n 0 dX3_become_24 rfl ?_
  refine j_aload_n 1 dX3_become_25 rfl ?_
  refine j_geti (i := 3) dX3_become_26 f_X3_25 sh_4 rfl rfl (fun _ => ?_)
  refine j_puti (i := 3) dX3_become_29 p_X3_25 (fun h => by cases h) sh_6 rfl rfl ?_
  refine j_aload_n 1 dX3_become_32 rfl ?_
  refine j_getc 5 dX3_become_33 f_X3_15 sh_4 rfl ?_
  refine j_iconst (x := 0) dX3_become_36 rfl (i32_c rfl) ?_
  refine j_aload_n 0 dX3_become_37 rfl ?_
  refine j_getc 7 dX3_become_38 f_X3_15 sh_6 rfl ?_
  refine j_iconst (x := 0) dX3_become_41 rfl (i32_c rfl) ?_
  refine j_aload_n 0 dX3_become_42 rfl ?_
  refine j_getc 7 dX3_become_43 f_X3_15 sh_6 rfl ?_
  refine j_alen (v := 168) dX3_become_46 sh_7 (by decide) (by decide) rfl ?_
  refine j_copy 0 (by decide) dX3_become_47 (ax_in 672 (by decide +kernel) rfl) (ax_in 674 (by decide +kernel) rfl) (ax_in 673 (by decide +kernel) rfl) (ax_in 133 (by decide +kernel) rfl) sh_5 sh_7 (by decide) (by decide) (by decide) (by decide) (by decide) (Nat.le_of_ble_eq_true rfl) (Nat.le_of_ble_eq_true rfl) ?_
  exact j_vret dX3_become_50 rfl ⟨Nat.le_of_ble_eq_true rfl, Nat.le_of_ble_eq_true rfl⟩ h
theorem E_X3_become {post : ax_M → Prop} {M : ax_M} (h : ax_mr SH M → post (ax_cp (ax_up (ax_up (ax_up (ax_up M 6 0 (M 4 0)) 6 1 (M 4 1)) 6 2 (M 4 2)) 6 3 (M 4 3)) 5 7 0 0 168)) : ax_Tv Y_X3_become [aR 6, aR 4] SH M post :=
  tv_of rfl (Nat.le_of_ble_eq_true rfl) rfl (fun q => B_X3_become_0 (h q))
set_option maxRecDepth 100000 in
set_option maxHeartbeats 4000000 in
theorem B_X5_read_0 {post : Int → ax_M → Prop} {M : ax_M} (h : ax_Tv Y_X3_vanish [aR 4] SH (ax_up (ax_up (ax_up M 3 2 0) 3 4 0) 3 5 (-1)) (fun u1 => ax_Tv Y_X5_readPlaces [aR 3] SH u1 (fun u2 => ax_J Y_X5_read (ax_Ki Y_X5_read SH post) 0 0 28 [(0, aR 3), (1, aI 0)] [] SH u2))) : ax_J Y_X5_read (ax_Ki Y_X5_read SH post) 0 0 0 [(0, aR 3)] [] SH M := by
  refine j_aload_n 0 dX5_read_0 rfl ?_
  refine j_iconst (x := 0) dX5_read_1 rfl (i32_c rfl) ?_
  refine j_puti (i := 2) dX5_read_2 p_X5_26 (fun h => by cases h) sh_3 rfl rfl ?_
  refine j_aload_n 0 dX5_read_5 rfl ?_
  refine j_iconst (x := 0) dX5_read_6 rfl (i32_c rfl) ?_
  refine j_puti (i := 4) dX5_read_7 p_X5_29 (fun h => by cases h) sh_3 rfl rfl ?_
  refine j_aload_n 0 dX5_read_10 rfl ?_
  refine j_iconst (x := (-1)) dX5_read_11 rfl (i32_c rfl) ?_
  refine j_puti (i := 5) dX5_read_12 p_X5_18 (fun h => by cases h) sh_3 rfl rfl ?_
  refine j_aload_n 0 dX5_read_15 rfl ?_
  refine j_getc 4 dX5_read_16 f_X5_12 sh_3 rfl ?_
  refine j_callvV (Yc := Y_X3_vanish) (as := []) (rest := []) dX5_read_19 q_X5_32 ⟨Nat.le_of_ble_eq_true rfl, Nat.le_of_ble_eq_true rfl, Nat.le_of_ble_eq_true rfl, Nat.le_of_ble_eq_true rfl⟩ sh_4 rfl (Nat.le_of_ble_eq_true rfl) rfl (tv_mono h (fun u1 h => ?_))
  refine j_aload_n 0 dX5_read_22 rfl ?_
  refine j_callvV (Yc := Y_X5_readPlaces) (as := []) (rest := []) dX5_read_23 q_X5_35 ⟨Nat.le_of_ble_eq_true rfl, Nat.le_of_ble_eq_true rfl, Nat.le_of_ble_eq_true rfl, Nat.le_of_ble_eq_true rfl⟩ sh_3 rfl (Nat.le_of_ble_eq_true rfl) rfl (tv_mono h (fun u2 h => ?_))
  refine j_iconst (x := 0) dX5_read_26 rfl (i32_c rfl) ?_
  refine j_istore_n (ll' := [(1, aI 0), (0, aR 3)]) dX5_read_27 (Nat.le_of_ble_eq_true rfl) rfl ?_
  refine j_sub [1, 0] rfl ?_
  exact h
theorem E_X5_read {post : Int → ax_M → Prop} {M : ax_M} (h : ax_mr SH M → ax_Tv Y_X3_vanish [aR 4] SH (ax_up (ax_up (ax_up M 3 2 0) 3 4 0) 3 5 (-1)) (fun u1 => ax_Tv Y_X5_readPlaces [aR 3] SH u1 (fun u2 => ax_J Y_X5_read (ax_Ki Y_X5_read SH post) 0 0 28 [(0, aR 3), (1, aI 0)] [] SH u2))) : ax_Ti Y_X5_read [aR 3] SH M post :=
  ti_of rfl (Nat.le_of_ble_eq_true rfl) rfl (fun q => B_X5_read_0 (h q))
set_option maxRecDepth 100000 in
set_option maxHeartbeats 4000000 in
theorem B_X5_read_28 {post : Int → ax_M → Prop} {M : ax_M} {x1 : Int} (h : (((400 ≤ x1) → (((¬ (M 4 2) = (-1)) → post (M 3 4) M) ∧ (((M 4 2) = (-1)) → (((¬ (M 3 4) = 0) → post (M 3 4) M) ∧ (((M 3 4) = 0) → post 1 (ax_up (ax_up M 3 4 1) 3 5 (M 3 2))))))) ∧ ((x1 < 400) → (((¬ (M 3 4) = 0) → (((¬ (M 4 2) = (-1)) → post (M 3 4) M) ∧ (((M 4 2) = (-1)) → post (M 3 4) M))) ∧ (((M 3 4) = 0) → ax_Ti Y_X5_atEnd [aR 3] SH M (fun z2 u1 => (((¬ z2 = 0) → (((¬ (u1 4 2) = (-1)) → post (u1 3 4) u1) ∧ (((u1 4 2) = (-1)) → (((¬ (u1 3 4) = 0) → post (u1 3 4) u1) ∧ (((u1 3 4) = 0) → post 1 (ax_up (ax_up u1 3 4 1) 3 5 (u1 3 2))))))) ∧ ((z2 = 0) → ax_Tv Y_X5_readClause [aR 3] SH u1 (fun u3 => (-2147483648 ≤ (x1 + 1) ∧ (x1 + 1) ≤ 2147483647) ∧ ax_J Y_X5_read (ax_Ki Y_X5_read SH post) 0 0 28 [(0, aR 3), (1, aI (x1 + 1))] [] SH u3))))))))) : ax_J Y_X5_read (ax_Ki Y_X5_read SH post) 0 0 28 [(0, aR 3), (1, aI x1)] [] SH M := by
  refine j_iload_n 1 dX5_read_28 rfl ?_
  refine j_sipush (x := 400) dX5_read_29 rfl (i32_c rfl) ?_
  refine j_icmp_ge (tgt := 59) dX5_read_32 (by decide) (fun c1 => ?_) (fun c1 => ?_)
  · replace h := h.1 c1
    refine j_aload_n 0 dX5_read_59 rfl ?_
    refine j_getc 4 dX5_read_60 f_X5_12 sh_3 rfl ?_
    refine j_geti (i := 2) dX5_read_63 f_X5_45 sh_4 rfl rfl (fun _ => ?_)
    refine j_iconst (x := (-1)) dX5_read_66 rfl (i32_c rfl) ?_
    refine j_icmp_ne (tgt := 79) dX5_read_67 (by decide) (fun c2 => ?_) (fun c2 => ?_)
    · replace h := h.1 c2
      refine j_aload_n 0 dX5_read_79 rfl ?_
      refine j_geti (i := 4) dX5_read_80 f_X5_29 sh_3 rfl rfl (fun _ => ?_)
      exact j_iret dX5_read_83 rfl ⟨Nat.le_of_ble_eq_true rfl, Nat.le_of_ble_eq_true rfl⟩ (fun _ => h)
    · replace h := h.2 c2
      refine j_aload_n 0 dX5_read_70 rfl ?_
      refine j_iconst (x := 1) dX5_read_71 rfl (i32_c rfl) ?_
      refine j_aload_n 0 dX5_read_72 rfl ?_
      refine j_geti (i := 2) dX5_read_73 f_X5_26 sh_3 rfl rfl (fun _ => ?_)
      refine j_callvV (Yc := Y_X5_blame) (as := [aI 1, aI (M 3 2)]) (rest := []) dX5_read_76 q_X5_48 ⟨Nat.le_of_ble_eq_true rfl, Nat.le_of_ble_eq_true rfl, Nat.le_of_ble_eq_true rfl, Nat.le_of_ble_eq_true rfl⟩ sh_3 rfl (Nat.le_of_ble_eq_true rfl) rfl (tv_of (ll := [(0, aR 3), (1, aI 1), (2, aI (M 3 2))]) rfl (Nat.le_of_ble_eq_true rfl) rfl (fun _ => ?_))
      refine j_aload_n 0 dX5_blame_0 rfl ?_
      refine j_geti (i := 4) dX5_blame_1 f_X5_29 sh_3 rfl rfl (fun _ => ?_)
      refine j_if_ne (tgt := 17) dX5_blame_4 (by decide) (fun c3 => ?_) (fun c3 => ?_)
      · replace h := h.1 c3
        refine j_vret dX5_blame_17 rfl ⟨Nat.le_of_ble_eq_true rfl, Nat.le_of_ble_eq_true rfl⟩ ?_
        refine j_aload_n 0 dX5_read_79 rfl ?_
        refine j_geti (i := 4) dX5_read_80 f_X5_29 sh_3 rfl rfl (fun _ => ?_)
        exact j_iret dX5_read_83 rfl ⟨Nat.le_of_ble_eq_true rfl, Nat.le_of_ble_eq_true rfl⟩ (fun _ => h)
      · replace h := h.2 c3
        refine j_aload_n 0 dX5_blame_7 rfl ?_
        refine j_iload_n 1 dX5_blame_8 rfl ?_
        refine j_puti (i := 4) dX5_blame_9 p_X5_29 (fun h => by cases h) sh_3 rfl rfl ?_
        refine j_aload_n 0 dX5_blame_12 rfl ?_
        refine j_iload_n 2 dX5_blame_13 rfl ?_
        refine j_puti (i := 5) dX5_blame_14 p_X5_18 (fun h => by cases h) sh_3 rfl rfl ?_
        refine j_vret dX5_blame_17 rfl ⟨Nat.le_of_ble_eq_true rfl, Nat.le_of_ble_eq_true rfl⟩ ?_
        refine j_aload_n 0 dX5_read_79 rfl ?_
        refine j_geti (i := 4) dX5_read_80 f_X5_29 sh_3 rfl rfl (fun _ => ?_)
        exact j_iret dX5_read_83 rfl ⟨Nat.le_of_ble_eq_true rfl, Nat.le_of_ble_eq_true rfl⟩ (fun _ => h)
  · replace h := h.2 c1
    refine j_aload_n 0 dX5_read_35 rfl ?_
    refine j_geti (i := 4) dX5_read_36 f_X5_29 sh_3 rfl rfl (fun _ => ?_)
    refine j_if_ne (tgt := 59) dX5_read_39 (by decide) (fun c4 => ?_) (fun c4 => ?_)
    · replace h := h.1 c4
      refine j_aload_n 0 dX5_read_59 rfl ?_
      refine j_getc 4 dX5_read_60 f_X5_12 sh_3 rfl ?_
      refine j_geti (i := 2) dX5_read_63 f_X5_45 sh_4 rfl rfl (fun _ => ?_)
      refine j_iconst (x := (-1)) dX5_read_66 rfl (i32_c rfl) ?_
      refine j_icmp_ne (tgt := 79) dX5_read_67 (by decide) (fun c5 => ?_) (fun c5 => ?_)
      · replace h := h.1 c5
        refine j_aload_n 0 dX5_read_79 rfl ?_
        refine j_geti (i := 4) dX5_read_80 f_X5_29 sh_3 rfl rfl (fun _ => ?_)
        exact j_iret dX5_read_83 rfl ⟨Nat.le_of_ble_eq_true rfl, Nat.le_of_ble_eq_true rfl⟩ (fun _ => h)
      · replace h := h.2 c5
        refine j_aload_n 0 dX5_read_70 rfl ?_
        refine j_iconst (x := 1) dX5_read_71 rfl (i32_c rfl) ?_
        refine j_aload_n 0 dX5_read_72 rfl ?_
        refine j_geti (i := 2) dX5_read_73 f_X5_26 sh_3 rfl rfl (fun _ => ?_)
        refine j_callvV (Yc := Y_X5_blame) (as := [aI 1, aI (M 3 2)]) (rest := []) dX5_read_76 q_X5_48 ⟨Nat.le_of_ble_eq_true rfl, Nat.le_of_ble_eq_true rfl, Nat.le_of_ble_eq_true rfl, Nat.le_of_ble_eq_true rfl⟩ sh_3 rfl (Nat.le_of_ble_eq_true rfl) rfl (tv_of (ll := [(0, aR 3), (1, aI 1), (2, aI (M 3 2))]) rfl (Nat.le_of_ble_eq_true rfl) rfl (fun _ => ?_))
        refine j_aload_n 0 dX5_blame_0 rfl ?_
        refine j_geti (i := 4) dX5_blame_1 f_X5_29 sh_3 rfl rfl (fun _ => ?_)
        refine j_if_ne (tgt := 17) dX5_blame_4 (by decide) (fun _ => ?_) (fun c => by have := c4; omega)
        refine j_vret dX5_blame_17 rfl ⟨Nat.le_of_ble_eq_true rfl, Nat.le_of_ble_eq_true rfl⟩ ?_
        refine j_aload_n 0 dX5_read_79 rfl ?_
        refine j_geti (i := 4) dX5_read_80 f_X5_29 sh_3 rfl rfl (fun _ => ?_)
        exact j_iret dX5_read_83 rfl ⟨Nat.le_of_ble_eq_true rfl, Nat.le_of_ble_eq_true rfl⟩ (fun _ => h)
    · replace h := h.2 c4
      refine j_aload_n 0 dX5_read_42 rfl ?_
      refine j_calliV (Yc := Y_X5_atEnd) (as := []) (rest := []) dX5_read_43 q_X5_38 ⟨Nat.le_of_ble_eq_true rfl, Nat.le_of_ble_eq_true rfl, Nat.le_of_ble_eq_true rfl, Nat.le_of_ble_eq_true rfl⟩ sh_3 rfl (Nat.le_of_ble_eq_true rfl) rfl (ti_mono h (fun z2 u1 h => ?_))
      refine j_if_ne (tgt := 59) dX5_read_46 (by decide) (fun c6 => ?_) (fun c6 => ?_)
      · replace h := h.1 c6
        refine j_aload_n 0 dX5_read_59 rfl ?_
        refine j_getc 4 dX5_read_60 f_X5_12 sh_3 rfl ?_
        refine j_geti (i := 2) dX5_read_63 f_X5_45 sh_4 rfl rfl (fun _ => ?_)
        refine j_iconst (x := (-1)) dX5_read_66 rfl (i32_c rfl) ?_
        refine j_icmp_ne (tgt := 79) dX5_read_67 (by decide) (fun c7 => ?_) (fun c7 => ?_)
        · replace h := h.1 c7
          refine j_aload_n 0 dX5_read_79 rfl ?_
          refine j_geti (i := 4) dX5_read_80 f_X5_29 sh_3 rfl rfl (fun _ => ?_)
          exact j_iret dX5_read_83 rfl ⟨Nat.le_of_ble_eq_true rfl, Nat.le_of_ble_eq_true rfl⟩ (fun _ => h)
        · replace h := h.2 c7
          refine j_aload_n 0 dX5_read_70 rfl ?_
          refine j_iconst (x := 1) dX5_read_71 rfl (i32_c rfl) ?_
          refine j_aload_n 0 dX5_read_72 rfl ?_
          refine j_geti (i := 2) dX5_read_73 f_X5_26 sh_3 rfl rfl (fun _ => ?_)
          refine j_callvV (Yc := Y_X5_blame) (as := [aI 1, aI (u1 3 2)]) (rest := []) dX5_read_76 q_X5_48 ⟨Nat.le_of_ble_eq_true rfl, Nat.le_of_ble_eq_true rfl, Nat.le_of_ble_eq_true rfl, Nat.le_of_ble_eq_true rfl⟩ sh_3 rfl (Nat.le_of_ble_eq_true rfl) rfl (tv_of (ll := [(0, aR 3), (1, aI 1), (2, aI (u1 3 2))]) rfl (Nat.le_of_ble_eq_true rfl) rfl (fun _ => ?_))
          refine j_aload_n 0 dX5_blame_0 rfl ?_
          refine j_geti (i := 4) dX5_blame_1 f_X5_29 sh_3 rfl rfl (fun _ => ?_)
          refine j_if_ne (tgt := 17) dX5_blame_4 (by decide) (fun c8 => ?_) (fun c8 => ?_)
          · replace h := h.1 c8
            refine j_vret dX5_blame_17 rfl ⟨Nat.le_of_ble_eq_true rfl, Nat.le_of_ble_eq_true rfl⟩ ?_
            refine j_aload_n 0 dX5_read_79 rfl ?_
            refine j_geti (i := 4) dX5_read_80 f_X5_29 sh_3 rfl rfl (fun _ => ?_)
            exact j_iret dX5_read_83 rfl ⟨Nat.le_of_ble_eq_true rfl, Nat.le_of_ble_eq_true rfl⟩ (fun _ => h)
          · replace h := h.2 c8
            refine j_aload_n 0 dX5_blame_7 rfl ?_
            refine j_iload_n 1 dX5_blame_8 rfl ?_
            refine j_puti (i := 4) dX5_blame_9 p_X5_29 (fun h => by cases h) sh_3 rfl rfl ?_
            refine j_aload_n 0 dX5_blame_12 rfl ?_
            refine j_iload_n 2 dX5_blame_13 rfl ?_
            refine j_puti (i := 5) dX5_blame_14 p_X5_18 (fun h => by cases h) sh_3 rfl rfl ?_
            refine j_vret dX5_blame_17 rfl ⟨Nat.le_of_ble_eq_true rfl, Nat.le_of_ble_eq_true rfl⟩ ?_
            refine j_aload_n 0 dX5_read_79 rfl ?_
            refine j_geti (i := 4) dX5_read_80 f_X5_29 sh_3 rfl rfl (fun _ => ?_)
            exact j_iret dX5_read_83 rfl ⟨Nat.le_of_ble_eq_true rfl, Nat.le_of_ble_eq_true rfl⟩ (fun _ => h)
      · replace h := h.2 c6
        refine j_aload_n 0 dX5_read_49 rfl ?_
        refine j_callvV (Yc := Y_X5_readClause) (as := []) (rest := []) dX5_read_50 q_X5_42 ⟨Nat.le_of_ble_eq_true rfl, Nat.le_of_ble_eq_true rfl, Nat.le_of_ble_eq_true rfl, Nat.le_of_ble_eq_true rfl⟩ sh_3 rfl (Nat.le_of_ble_eq_true rfl) rfl (tv_mono h (fun u3 h => ?_))
        obtain ⟨o9, h⟩ := h
        refine j_iinc (ll' := [(1, aI (x1 + 1)), (0, aR 3)]) 1 dX5_read_53 rfl (Nat.le_of_ble_eq_true rfl) o9 rfl ?_
        refine j_goto (tgt := 28) dX5_read_56 (by decide) ?_
        refine j_sub [1, 0] rfl ?_
        exact h
set_option maxRecDepth 100000 in
set_option maxHeartbeats 4000000 in
theorem B_X0_knowing_0 {post : Int → ax_M → Prop} {M : ax_M} (h : ax_J Y_X0_knowing (ax_Ki Y_X0_knowing SH post) 0 0 4 [(0, aR 8), (1, aI 0), (2, aI 0)] [] SH M) : ax_J Y_X0_knowing (ax_Ki Y_X0_knowing SH post) 0 0 0 [(0, aR 8)] [] SH M := by
  refine j_iconst (x := 0) dX0_knowing_0 rfl (i32_c rfl) ?_
  refine j_istore_n (ll' := [(1, aI 0), (0, aR 8)]) dX0_knowing_1 (Nat.le_of_ble_eq_true rfl) rfl ?_
  refine j_iconst (x := 0) dX0_knowing_2 rfl (i32_c rfl) ?_
  refine j_istore_n (ll' := [(2, aI 0), (1, aI 0), (0, aR 8)]) dX0_knowing_3 (Nat.le_of_ble_eq_true rfl) rfl ?_
  refine j_sub [2, 1, 0] rfl ?_
  exact h
theorem E_X0_knowing {post : Int → ax_M → Prop} {M : ax_M} (h : ax_mr SH M → ax_J Y_X0_knowing (ax_Ki Y_X0_knowing SH post) 0 0 4 [(0, aR 8), (1, aI 0), (2, aI 0)] [] SH M) : ax_Ti Y_X0_knowing [aR 8] SH M post :=
  ti_of rfl (Nat.le_of_ble_eq_true rfl) rfl (fun q => B_X0_knowing_0 (h q))
set_option maxRecDepth 100000 in
set_option maxHeartbeats 4000000 in
theorem B_X0_knowing_4 {post : Int → ax_M → Prop} {M : ax_M} {x1 x2 : Int} (h : ((((M 8 0) ≤ x2) → post x1 M) ∧ ((x2 < (M 8 0)) → (0 ≤ x2 ∧ x2 < 8) ∧ ((((M 10 x2) = 0) → (-2147483648 ≤ (x1 + 0) ∧ (x1 + 0) ≤ 2147483647) ∧ (-2147483648 ≤ (x2 + 1) ∧ (x2 + 1) ≤ 2147483647) ∧ ax_J Y_X0_knowing (ax_Ki Y_X0_knowing SH post) 0 0 4 [(0, aR 8), (1, aI (x1 + 0)), (2, aI (x2 + 1))] [] SH M) ∧ ((¬ (M 10 x2) = 0) → (-2147483648 ≤ (x1 + 1) ∧ (x1 + 1) ≤ 2147483647) ∧ (-2147483648 ≤ (x2 + 1) ∧ (x2 + 1) ≤ 2147483647) ∧ ax_J Y_X0_knowing (ax_Ki Y_X0_knowing SH post) 0 0 4 [(0, aR 8), (1, aI (x1 + 1)), (2, aI (x2 + 1))] [] SH M))))) : ax_J Y_X0_knowing (ax_Ki Y_X0_knowing SH post) 0 0 4 [(0, aR 8), (1, aI x1), (2, aI x2)] [] SH M := by
  refine j_iload_n 2 dX0_knowing_4 rfl ?_
  refine j_aload_n 0 dX0_knowing_5 rfl ?_
  refine j_geti (i := 0) dX0_knowing_6 f_X0_31 sh_8 rfl rfl (fun _ => ?_)
  refine j_icmp_ge (tgt := 30) dX0_knowing_9 (by decide) (fun c1 => ?_) (fun c1 => ?_)
  · replace h := h.1 c1
    refine j_iload_n 1 dX0_knowing_30 rfl ?_
    exact j_iret dX0_knowing_31 rfl ⟨Nat.le_of_ble_eq_true rfl, Nat.le_of_ble_eq_true rfl⟩ (fun _ => h)
  · replace h := h.2 c1
    refine j_iload_n 1 dX0_knowing_12 rfl ?_
    refine j_aload_n 0 dX0_knowing_13 rfl ?_
    refine j_getc 10 dX0_knowing_14 f_X0_15 sh_8 rfl ?_
    refine j_iload_n 2 dX0_knowing_17 rfl ?_
    obtain ⟨o2, h⟩ := h
    refine j_zald dX0_knowing_18 sh_10 o2.1 o2.2 (fun _ => ?_)
    refine j_calliS (Yc := Y_X10_bit) (as := [aI (M 10 x2)]) (rest := [aI x1]) dX0_knowing_19 q_X0_48 ⟨Nat.le_of_ble_eq_true rfl, Nat.le_of_ble_eq_true rfl, Nat.le_of_ble_eq_true rfl, Nat.le_of_ble_eq_true rfl⟩ rfl (Nat.le_of_ble_eq_true rfl) rfl (ti_of (ll := [(0, aI (M 10 x2))]) rfl (Nat.le_of_ble_eq_true rfl) rfl (fun _ => ?_))
    refine j_iload_n 0 dX10_bit_0 rfl ?_
    refine j_if_eq (tgt := 8) dX10_bit_1 (by decide) (fun c3 => ?_) (fun c3 => ?_)
    · replace h := h.1 c3
      refine j_iconst (x := 0) dX10_bit_8 rfl (i32_c rfl) ?_
      refine j_iret dX10_bit_9 rfl ⟨Nat.le_of_ble_eq_true rfl, Nat.le_of_ble_eq_true rfl⟩ (fun _ => ?_)
      obtain ⟨o4, h⟩ := h
      refine j_iadd (z := (x1 + 0)) dX0_knowing_22 rfl o4 ?_
      refine j_istore_n (ll' := [(1, aI (x1 + 0)), (0, aR 8), (2, aI x2)]) dX0_knowing_23 (Nat.le_of_ble_eq_true rfl) rfl ?_
      obtain ⟨o5, h⟩ := h
      refine j_iinc (ll' := [(2, aI (x2 + 1)), (1, aI (x1 + 0)), (0, aR 8)]) 2 dX0_knowing_24 rfl (Nat.le_of_ble_eq_true rfl) o5 rfl ?_
      refine j_goto (tgt := 4) dX0_knowing_27 (by decide) ?_
      refine j_sub [2, 1, 0] rfl ?_
      exact h
    · replace h := h.2 c3
      refine j_iconst (x := 1) dX10_bit_4 rfl (i32_c rfl) ?_
      refine j_goto (tgt := 9) dX10_bit_5 (by decide) ?_
      refine j_iret dX10_bit_9 rfl ⟨Nat.le_of_ble_eq_true rfl, Nat.le_of_ble_eq_true rfl⟩ (fun _ => ?_)
      obtain ⟨o6, h⟩ := h
      refine j_iadd (z := (x1 + 1)) dX0_knowing_22 rfl o6 ?_
      refine j_istore_n (ll' := [(1, aI (x1 + 1)), (0, aR 8), (2, aI x2)]) dX0_knowing_23 (Nat.le_of_ble_eq_true rfl) rfl ?_
      obtain ⟨o7, h⟩ := h
      refine j_iinc (ll' := [(2, aI (x2 + 1)), (1, aI (x1 + 1)), (0, aR 8)]) 2 dX0_knowing_24 rfl (Nat.le_of_ble_eq_true rfl) o7 rfl ?_
      refine j_goto (tgt := 4) dX0_knowing_27 (by decide) ?_
      refine j_sub [2, 1, 0] rfl ?_
      exact h
set_option maxRecDepth 100000 in
set_option maxHeartbeats 4000000 in
theorem B_X9_prepareMarked_0 {post : ax_M → Prop} {M : ax_M} {x1 x2 x3 x4 : Int} (h : (((x2 = 0) → ax_J Y_X9_prepareMarked (ax_Kv Y_X9_prepareMarked SH post) 0 0 9 [(0, aR 33), (1, aI x1), (3, aI x3), (4, aI x4)] [aI 1] SH M) ∧ ((¬ x2 = 0) → ax_J Y_X9_prepareMarked (ax_Kv Y_X9_prepareMarked SH post) 0 0 9 [(0, aR 33), (1, aI x1), (3, aI x3), (4, aI x4)] [aI 2] SH M))) : ax_J Y_X9_prepareMarked (ax_Kv Y_X9_prepareMarked SH post) 0 0 0 [(0, aR 33), (1, aI x1), (2, aI x2), (3, aI x3), (4, aI x4)] [] SH M := by
  refine j_iload_n 2 dX9_prepareMarked_0 rfl ?_
  refine j_if_eq (tgt := 8) dX9_prepareMarked_1 (by decide) (fun c1 => ?_) (fun c1 => ?_)
  · replace h := h.1 c1
    refine j_iconst (x := 1) dX9_prepareMarked_8 rfl (i32_c rfl) ?_
    refine j_sub [0, 1, 3, 4] rfl ?_
    exact h
  · replace h := h.2 c1
    refine j_iconst (x := 2) dX9_prepareMarked_4 rfl (i32_c rfl) ?_
    refine j_goto (tgt := 9) dX9_prepareMarked_5 (by decide) ?_
    refine j_sub [0, 1, 3, 4] rfl ?_
    exact h
theorem E_X9_prepareMarked {post : ax_M → Prop} {M : ax_M} {x1 x2 x3 x4 : Int} (h : ax_mr SH M → (((x2 = 0) → ax_J Y_X9_prepareMarked (ax_Kv Y_X9_prepareMarked SH post) 0 0 9 [(0, aR 33), (1, aI x1), (3, aI x3), (4, aI x4)] [aI 1] SH M) ∧ ((¬ x2 = 0) → ax_J Y_X9_prepareMarked (ax_Kv Y_X9_prepareMarked SH post) 0 0 9 [(0, aR 33), (1, aI x1), (3, aI x3), (4, aI x4)] [aI 2] SH M))) : ax_Tv Y_X9_prepareMarked [aR 33, aI x1, aI x2, aI x3, aI x4] SH M post :=
  tv_of rfl (Nat.le_of_ble_eq_true rfl) rfl (fun q => B_X9_prepareMarked_0 (h q))
set_option maxRecDepth 100000 in
set_option maxHeartbeats 4000000 in
theorem B_X9_prepareMarked_9 {post : ax_M → Prop} {M : ax_M} {s0 x1 x3 x4 : Int} (h : ax_J Y_X9_prepareMarked (ax_Kv Y_X9_prepareMarked SH post) 0 0 14 [(0, aR 33), (1, aI x1), (3, aI x3), (4, aI x4), (5, aI s0), (6, aI 0)] [] SH M) : ax_J Y_X9_prepareMarked (ax_Kv Y_X9_prepareMarked SH post) 0 0 9 [(0, aR 33), (1, aI x1), (3, aI x3), (4, aI x4)] [aI s0] SH M := by
  refine j_istore (ll' := [(5, aI s0), (0, aR 33), (1, aI x1), (3, aI x3), (4, aI x4)]) dX9_prepareMarked_9 (Nat.le_of_ble_eq_true rfl) rfl ?_
  refine j_iconst (x := 0) dX9_prepareMarked_11 rfl (i32_c rfl) ?_
  refine j_istore (ll' := [(6, aI 0), (5, aI s0), (0, aR 33), (1, aI x1), (3, aI x3), (4, aI x4)]) dX9_prepareMarked_12 (Nat.le_of_ble_eq_true rfl) rfl ?_
  refine j_sub [2, 3, 4, 5, 1, 0] rfl ?_
  exact h
set_option maxRecDepth 100000 in
set_option maxHeartbeats 4000000 in
theorem B_X9_prepareMarked_14 {post : ax_M → Prop} {M : ax_M} {x1 x3 x4 x5 x6 : Int} (h : ((((M 6 1) ≤ x6) → post M) ∧ ((x6 < (M 6 1)) → (-2147483648 ≤ (x6 * 7) ∧ (x6 * 7) ≤ 2147483647) ∧ (-2147483648 ≤ ((x6 * 7) + 3) ∧ ((x6 * 7) + 3) ≤ 2147483647) ∧ (0 ≤ ((x6 * 7) + 3) ∧ ((x6 * 7) + 3) < 168) ∧ (-2147483648 ≤ ((x6 * 7) + 2) ∧ ((x6 * 7) + 2) ≤ 2147483647) ∧ (0 ≤ ((x6 * 7) + 2) ∧ ((x6 * 7) + 2) < 168) ∧ (-2147483648 ≤ (x5 * (M 7 ((x6 * 7) + 2))) ∧ (x5 * (M 7 ((x6 * 7) + 2))) ≤ 2147483647) ∧ (0 ≤ x6 ∧ x6 < 24) ∧ (((¬ (M 7 ((x6 * 7) + 3)) = (-1)) → (-2147483648 ≤ (x5 * (M 7 ((x6 * 7) + 3))) ∧ (x5 * (M 7 ((x6 * 7) + 3))) ≤ 2147483647) ∧ ax_J Y_X9_prepareMarked (ax_Kv Y_X9_prepareMarked SH post) 0 0 79 [(0, aR 33), (1, aI x1), (3, aI x3), (4, aI x4), (5, aI x5), (6, aI x6)] [aI (x5 * (M 7 ((x6 * 7) + 3))), aI x6, aR 35] SH (ax_up M 34 x6 (x5 * (M 7 ((x6 * 7) + 2))))) ∧ (((M 7 ((x6 * 7) + 3)) = (-1)) → ax_J Y_X9_prepareMarked (ax_Kv Y_X9_prepareMarked SH post) 0 0 79 [(0, aR 33), (1, aI x1), (3, aI x3), (4, aI x4), (5, aI x5), (6, aI x6)] [aI (-1), aI x6, aR 35] SH (ax_up M 34 x6 (x5 * (M 7 ((x6 * 7) + 2))))))))) : ax_J Y_X9_prepareMarked (ax_Kv Y_X9_prepareMarked SH post) 0 0 14 [(0, aR 33), (1, aI x1), (3, aI x3), (4, aI x4), (5, aI x5), (6, aI x6)] [] SH M := by
  refine j_iload 5 dX9_prepareMarked_14 rfl ?_
  refine j_aload_n 0 dX9_prepareMarked_16 rfl ?_
  refine j_getc 6 dX9_prepareMarked_17 f_X9_30 sh_33 rfl ?_
  refine j_geti (i := 1) dX9_prepareMarked_20 f_X9_42 sh_6 rfl rfl (fun _ => ?_)
  refine j_icmp_ge (tgt := 150) dX9_prepareMarked_23 (by decide) (fun c1 => ?_) (fun c1 => ?_)
  · replace h := h.1 c1
    exact j_vret dX9_prepareMarked_150 rfl ⟨Nat.le_of_ble_eq_true rfl, Nat.le_of_ble_eq_true rfl⟩ h
  · replace h := h.2 c1
    refine j_aload_n 0 dX9_prepareMarked_26 rfl ?_
    refine j_getc 6 dX9_prepareMarked_27 f_X9_30 sh_33 rfl ?_
    refine j_iload 5 dX9_prepareMarked_30 rfl ?_
    refine j_iconst (x := 3) dX9_prepareMarked_32 rfl (i32_c rfl) ?_
    refine j_calliV (Yc := Y_X3_fact) (as := [aI x6, aI 3]) (rest := []) dX9_prepareMarked_33 q_X9_48 ⟨Nat.le_of_ble_eq_true rfl, Nat.le_of_ble_eq_true rfl, Nat.le_of_ble_eq_true rfl, Nat.le_of_ble_eq_true rfl⟩ sh_6 rfl (Nat.le_of_ble_eq_true rfl) rfl (ti_of (ll := [(0, aR 6), (1, aI x6), (2, aI 3)]) rfl (Nat.le_of_ble_eq_true rfl) rfl (fun _ => ?_))
    refine j_aload_n 0 dX3_fact_0 rfl ?_
    refine j_getc 7 dX3_fact_1 f_X3_15 sh_6 rfl ?_
    refine j_iload_n 1 dX3_fact_4 rfl ?_
    refine j_bipush (x := 7) dX3_fact_5 rfl (i32_c rfl) ?_
    obtain ⟨o2, h⟩ := h
    refine j_imul (z := (x6 * 7)) dX3_fact_7 rfl o2 ?_
    refine j_iload_n 2 dX3_fact_8 rfl ?_
    obtain ⟨o3, h⟩ := h
    refine j_iadd (z := ((x6 * 7) + 3)) dX3_fact_9 rfl o3 ?_
    obtain ⟨o4, h⟩ := h
    refine j_iald dX3_fact_10 sh_7 o4.1 o4.2 (fun _ => ?_)
    refine j_iret dX3_fact_11 rfl ⟨Nat.le_of_ble_eq_true rfl, Nat.le_of_ble_eq_true rfl⟩ (fun _ => ?_)
    refine j_istore (ll' := [(7, aI (M 7 ((x6 * 7) + 3))), (0, aR 33), (1, aI x1), (3, aI x3), (4, aI x4), (5, aI x5), (6, aI x6)]) dX9_prepareMarked_36 (Nat.le_of_ble_eq_true rfl) rfl ?_
    refine j_aload_n 1 dX9_prepareMarked_38 rfl ?_
    refine j_getc 34 dX9_prepareMarked_39 f_X9_9 sh_33 rfl ?_
    refine j_iload 6 dX9_prepareMarked_42 rfl ?_
    refine j_iload 5 dX9_prepareMarked_44 rfl ?_
    refine j_aload_n 1 dX9_prepareMarked_46 rfl ?_
    refine j_getc 6 dX9_prepareMarked_47 f_X9_30 sh_33 rfl ?_
    refine j_iload 6 dX9_prepareMarked_50 rfl ?_
    refine j_iconst (x := 2) dX9_prepareMarked_52 rfl (i32_c rfl) ?_
    refine j_calliV (Yc := Y_X3_fact) (as := [aI x6, aI 2]) (rest := [aI x5, aI x6, aR 34]) dX9_prepareMarked_53 q_X9_48 ⟨Nat.le_of_ble_eq_true rfl, Nat.le_of_ble_eq_true rfl, Nat.le_of_ble_eq_true rfl, Nat.le_of_ble_eq_true rfl⟩ sh_6 rfl (Nat.le_of_ble_eq_true rfl) rfl (ti_of (ll := [(0, aR 6), (1, aI x6), (2, aI 2)]) rfl (Nat.le_of_ble_eq_true rfl) rfl (fun _ => ?_))
    refine j_aload_n 0 dX3_fact_0 rfl ?_
    refine j_getc 7 dX3_fact_1 f_X3_15 sh_6 rfl ?_
    refine j_iload_n 1 dX3_fact_4 rfl ?_
    refine j_bipush (x := 7) dX3_fact_5 rfl (i32_c rfl) ?_
    refine j_imul (z := (x6 * 7)) dX3_fact_7 rfl o2 ?_
    refine j_iload_n 2 dX3_fact_8 rfl ?_
    obtain ⟨o5, h⟩ := h
    refine j_iadd (z := ((x6 * 7) + 2)) dX3_fact_9 rfl o5 ?_
    obtain ⟨o6, h⟩ := h
    refine j_iald dX3_fact_10 sh_7 o6.1 o6.2 (fun _ => ?_)
    refine j_iret dX3_fact_11 rfl ⟨Nat.le_of_ble_eq_true rfl, Nat.le_of_ble_eq_true rfl⟩ (fun _ => ?_)
    obtain ⟨o7, h⟩ := h
    refine j_imul (z := (x5 * (M 7 ((x6 * 7) + 2)))) dX9_prepareMarked_56 rfl o7 ?_
    obtain ⟨o8, h⟩ := h
    refine j_iast dX9_prepareMarked_57 sh_34 o8.1 o8.2 ?_
    refine j_aload_n 1 dX9_prepareMarked_58 rfl ?_
    refine j_getc 35 dX9_prepareMarked_59 f_X9_15 sh_33 rfl ?_
    refine j_iload 6 dX9_prepareMarked_62 rfl ?_
    refine j_iload 0 dX9_prepareMarked_64 rfl ?_
    refine j_iconst (x := (-1)) dX9_prepareMarked_66 rfl (i32_c rfl) ?_
    refine j_icmp_ne (tgt := 74) dX9_prepareMarked_67 (by decide) (fun c9 => ?_) (fun c9 => ?_)
    · replace h := h.1 c9
      refine j_iload 5 dX9_prepareMarked_74 rfl ?_
      refine j_iload 0 dX9_prepareMarked_76 rfl ?_
      obtain ⟨o10, h⟩ := h
      refine j_imul (z := (x5 * (M 7 ((x6 * 7) + 3)))) dX9_prepareMarked_78 rfl o10 ?_
      refine j_sub [1, 2, 3, 4, 5, 6] rfl ?_
      exact h
    · replace h := h.2 c9
      refine j_iconst (x := (-1)) dX9_prepareMarked_70 rfl (i32_c rfl) ?_
      refine j_goto (tgt := 79) dX9_prepareMarked_71 (by decide) ?_
      refine j_sub [1, 2, 3, 4, 5, 6] rfl ?_
      exact h
set_option maxRecDepth 100000 in
set_option maxHeartbeats 4000000 in
theorem B_X9_prepareMarked_79 {post : ax_M → Prop} {M : ax_M} {s0 s1 x1 x3 x4 x5 x6 : Int} (h : (0 ≤ s1 ∧ s1 < 24) ∧ ax_Ti Y_X3_touches [aR 6, aI x6, aI x3] SH (ax_up M 35 s1 s0) (fun z2 u1 => (((z2 = 0) → ax_J Y_X9_prepareMarked (ax_Kv Y_X9_prepareMarked SH post) 0 0 109 [(0, aR 33), (1, aI x1), (3, aI x3), (4, aI x4), (5, aI x5), (6, aI x6)] [aI x1, aI x6, aR 36] SH u1) ∧ ((¬ z2 = 0) → ax_J Y_X9_prepareMarked (ax_Kv Y_X9_prepareMarked SH post) 0 0 109 [(0, aR 33), (1, aI x1), (3, aI x3), (4, aI x4), (5, aI x5), (6, aI x6)] [aI (max x1 x4), aI x6, aR 36] SH u1)))) : ax_J Y_X9_prepareMarked (ax_Kv Y_X9_prepareMarked SH post) 0 0 79 [(0, aR 33), (1, aI x1), (3, aI x3), (4, aI x4), (5, aI x5), (6, aI x6)] [aI s0, aI s1, aR 35] SH M := by
  obtain ⟨o1, h⟩ := h
  refine j_iast dX9_prepareMarked_79 sh_35 o1.1 o1.2 ?_
  refine j_aload_n 0 dX9_prepareMarked_80 rfl ?_
  refine j_getc 36 dX9_prepareMarked_81 f_X9_18 sh_33 rfl ?_
  refine j_iload 5 dX9_prepareMarked_84 rfl ?_
  refine j_aload_n 0 dX9_prepareMarked_86 rfl ?_
  refine j_getc 6 dX9_prepareMarked_87 f_X9_30 sh_33 rfl ?_
  refine j_iload 5 dX9_prepareMarked_90 rfl ?_
  refine j_iload_n 2 dX9_prepareMarked_92 rfl ?_
  refine j_calliV (Yc := Y_X3_touches) (as := [aI x6, aI x3]) (rest := [aI x6, aR 36]) dX9_prepareMarked_93 q_X9_52 ⟨Nat.le_of_ble_eq_true rfl, Nat.le_of_ble_eq_true rfl, Nat.le_of_ble_eq_true rfl, Nat.le_of_ble_eq_true rfl⟩ sh_6 rfl (Nat.le_of_ble_eq_true rfl) rfl (ti_mono h (fun z2 u1 h => ?_))
  refine j_if_eq (tgt := 108) dX9_prepareMarked_96 (by decide) (fun c2 => ?_) (fun c2 => ?_)
  · replace h := h.1 c2
    refine j_iload_n 1 dX9_prepareMarked_108 rfl ?_
    exact h
  · replace h := h.2 c2
    refine j_iload_n 1 dX9_prepareMarked_99 rfl ?_
    refine j_iload 3 dX9_prepareMarked_100 rfl ?_
    refine j_mmax dX9_prepareMarked_102 (ax_in 775 (by decide +kernel) rfl) ⟨Nat.le_of_ble_eq_true rfl, Nat.le_of_ble_eq_true rfl⟩ (Nat.le_of_ble_eq_true rfl) (Nat.le_of_ble_eq_true rfl) ?_
    refine j_goto (tgt := 109) dX9_prepareMarked_105 (by decide) ?_
    exact h
set_option maxRecDepth 100000 in
set_option maxHeartbeats 4000000 in
theorem B_X9_prepareMarked_109 {post : ax_M → Prop} {M : ax_M} {s0 s1 x1 x3 x4 x5 x6 : Int} (h : (0 ≤ s1 ∧ s1 < 24) ∧ (0 ≤ x6 ∧ x6 < 24) ∧ ((((M 14 x6) = 0) → (-2147483648 ≤ (x6 * 7) ∧ (x6 * 7) ≤ 2147483647) ∧ (-2147483648 ≤ ((x6 * 7) + 5) ∧ ((x6 * 7) + 5) ≤ 2147483647) ∧ (0 ≤ ((x6 * 7) + 5) ∧ ((x6 * 7) + 5) < 168) ∧ ax_J Y_X9_prepareMarked (ax_Kv Y_X9_prepareMarked SH post) 0 0 143 [(0, aR 33), (1, aI x1), (3, aI x3), (4, aI x4), (5, aI x5), (6, aI x6)] [aI (M 7 ((x6 * 7) + 5)), aI x6, aR 37] SH (ax_up M 36 s1 s0)) ∧ ((¬ (M 14 x6) = 0) → ax_J Y_X9_prepareMarked (ax_Kv Y_X9_prepareMarked SH post) 0 0 143 [(0, aR 33), (1, aI x1), (3, aI x3), (4, aI x4), (5, aI x5), (6, aI x6)] [aI (-1), aI x6, aR 37] SH (ax_up M 36 s1 s0)))) : ax_J Y_X9_prepareMarked (ax_Kv Y_X9_prepareMarked SH post) 0 0 109 [(0, aR 33), (1, aI x1), (3, aI x3), (4, aI x4), (5, aI x5), (6, aI x6)] [aI s0, aI s1, aR 36] SH M := by
  obtain ⟨o1, h⟩ := h
  refine j_iast dX9_prepareMarked_109 sh_36 o1.1 o1.2 ?_
  refine j_aload_n 0 dX9_prepareMarked_110 rfl ?_
  refine j_getc 37 dX9_prepareMarked_111 f_X9_21 sh_33 rfl ?_
  refine j_iload 5 dX9_prepareMarked_114 rfl ?_
  refine j_aload_n 0 dX9_prepareMarked_116 rfl ?_
  refine j_getc 8 dX9_prepareMarked_117 f_X9_34 sh_33 rfl ?_
  refine j_getc 14 dX9_prepareMarked_120 f_X9_61 sh_8 rfl ?_
  refine j_iload 5 dX9_prepareMarked_123 rfl ?_
  obtain ⟨o2, h⟩ := h
  refine j_zald dX9_prepareMarked_125 sh_14 o2.1 o2.2 (fun _ => ?_)
  refine j_if_eq (tgt := 133) dX9_prepareMarked_126 (by decide) (fun c3 => ?_) (fun c3 => ?_)
  · replace h := h.1 c3
    refine j_aload_n 0 dX9_prepareMarked_133 rfl ?_
    refine j_getc 6 dX9_prepareMarked_134 f_X9_30 sh_33 rfl ?_
    refine j_iload 5 dX9_prepareMarked_137 rfl ?_
    refine j_iconst (x := 5) dX9_prepareMarked_139 rfl (i32_c rfl) ?_
    refine j_calliV (Yc := Y_X3_fact) (as := [aI x6, aI 5]) (rest := [aI x6, aR 37]) dX9_prepareMarked_140 q_X9_48 ⟨Nat.le_of_ble_eq_true rfl, Nat.le_of_ble_eq_true rfl, Nat.le_of_ble_eq_true rfl, Nat.le_of_ble_eq_true rfl⟩ sh_6 rfl (Nat.le_of_ble_eq_true rfl) rfl (ti_of (ll := [(0, aR 6), (1, aI x6), (2, aI 5)]) rfl (Nat.le_of_ble_eq_true rfl) rfl (fun _ => ?_))
    refine j_aload_n 0 dX3_fact_0 rfl ?_
    refine j_getc 7 dX3_fact_1 f_X3_15 sh_6 rfl ?_
    refine j_iload_n 1 dX3_fact_4 rfl ?_
    refine j_bipush (x := 7) dX3_fact_5 rfl (i32_c rfl) ?_
    obtain ⟨o4, h⟩ := h
    refine j_imul (z := (x6 * 7)) dX3_fact_7 rfl o4 ?_
    refine j_iload_n 2 dX3_fact_8 rfl ?_
    obtain ⟨o5, h⟩ := h
    refine j_iadd (z := ((x6 * 7) + 5)) dX3_fact_9 rfl o5 ?_
    obtain ⟨o6, h⟩ := h
    refine j_iald dX3_fact_10 sh_7 o6.1 o6.2 (fun _ => ?_)
    refine j_iret dX3_fact_11 rfl ⟨Nat.le_of_ble_eq_true rfl, Nat.le_of_ble_eq_true rfl⟩ (fun _ => ?_)
    exact h
  · replace h := h.2 c3
    refine j_iconst (x := (-1)) dX9_prepareMarked_129 rfl (i32_c rfl) ?_
    refine j_goto (tgt := 143) dX9_prepareMarked_130 (by decide) ?_
    exact h
set_option maxRecDepth 100000 in
set_option maxHeartbeats 4000000 in
theorem B_X9_prepareMarked_143 {post : ax_M → Prop} {M : ax_M} {s0 s1 x1 x3 x4 x5 x6 : Int} (h : (0 ≤ s1 ∧ s1 < 24) ∧ (-2147483648 ≤ (x6 + 1) ∧ (x6 + 1) ≤ 2147483647) ∧ ax_J Y_X9_prepareMarked (ax_Kv Y_X9_prepareMarked SH post) 0 0 14 [(0, aR 33), (1, aI x1), (3, aI x3), (4, aI x4), (5, aI x5), (6, aI (x6 + 1))] [] SH (ax_up M 37 s1 s0)) : ax_J Y_X9_prepareMarked (ax_Kv Y_X9_prepareMarked SH post) 0 0 143 [(0, aR 33), (1, aI x1), (3, aI x3), (4, aI x4), (5, aI x5), (6, aI x6)] [aI s0, aI s1, aR 37] SH M := by
  obtain ⟨o1, h⟩ := h
  refine j_iast dX9_prepareMarked_143 sh_37 o1.1 o1.2 ?_
  obtain ⟨o2, h⟩ := h
  refine j_iinc (ll' := [(6, aI (x6 + 1)), (0, aR 33), (1, aI x1), (3, aI x3), (4, aI x4), (5, aI x5)]) 5 dX9_prepareMarked_144 rfl (Nat.le_of_ble_eq_true rfl) o2 rfl ?_
  refine j_goto (tgt := 14) dX9_prepareMarked_147 (by decide) ?_
  refine j_sub [1, 2, 3, 4, 5, 0] rfl ?_
  exact h
set_option maxRecDepth 100000 in
set_option maxHeartbeats 4000000 in
theorem B_X9_spread_0 {post : ax_M → Prop} {M : ax_M} {x1 x2 : Int} (h : ax_Tv Y_J7_fill_53178 [aR 38, aI (-1)] SH M (fun u1 => (0 ≤ x1 ∧ x1 < 12) ∧ ax_J Y_X9_spread (ax_Kv Y_X9_spread SH post) 0 0 20 [(0, aR 33), (3, aI 1), (4, aI 0)] [] SH (ax_up u1 38 x1 x2))) : ax_J Y_X9_spread (ax_Kv Y_X9_spread SH post) 0 0 0 [(0, aR 33), (1, aI x1), (2, aI x2)] [] SH M := by
  refine j_aload_n 0 dX9_spread_0 rfl ?_
  refine j_getc 38 dX9_spread_1 f_X9_24 sh_33 rfl ?_
  refine j_iconst (x := (-1)) dX9_spread_4 rfl (i32_c rfl) ?_
  refine j_callvS (Yc := Y_J7_fill_53178) (as := [aR 38, aI (-1)]) (rest := []) dX9_spread_5 q_X9_67 ⟨Nat.le_of_ble_eq_true rfl, Nat.le_of_ble_eq_true rfl, Nat.le_of_ble_eq_true rfl, Nat.le_of_ble_eq_true rfl⟩ rfl (Nat.le_of_ble_eq_true rfl) rfl (tv_mono h (fun u1 h => ?_))
  refine j_aload_n 0 dX9_spread_8 rfl ?_
  refine j_getc 38 dX9_spread_9 f_X9_24 sh_33 rfl ?_
  refine j_iload_n 1 dX9_spread_12 rfl ?_
  refine j_iload_n 2 dX9_spread_13 rfl ?_
  obtain ⟨o1, h⟩ := h
  refine j_iast dX9_spread_14 sh_38 o1.1 o1.2 ?_
  refine j_iconst (x := 1) dX9_spread_15 rfl (i32_c rfl) ?_
  refine j_istore_n (ll' := [(3, aI 1), (0, aR 33), (1, aI x1), (2, aI x2)]) dX9_spread_16 (Nat.le_of_ble_eq_true rfl) rfl ?_
  refine j_iconst (x := 0) dX9_spread_17 rfl (i32_c rfl) ?_
  refine j_istore (ll' := [(4, aI 0), (3, aI 1), (0, aR 33), (1, aI x1), (2, aI x2)]) dX9_spread_18 (Nat.le_of_ble_eq_true rfl) rfl ?_
  refine j_sub [2, 1, 0] rfl ?_
  exact h
theorem E_X9_spread {post : ax_M → Prop} {M : ax_M} {x1 x2 : Int} (h : ax_mr SH M → ax_Tv Y_J7_fill_53178 [aR 38, aI (-1)] SH M (fun u1 => (0 ≤ x1 ∧ x1 < 12) ∧ ax_J Y_X9_spread (ax_Kv Y_X9_spread SH post) 0 0 20 [(0, aR 33), (3, aI 1), (4, aI 0)] [] SH (ax_up u1 38 x1 x2))) : ax_Tv Y_X9_spread [aR 33, aI x1, aI x2] SH M post :=
  tv_of rfl (Nat.le_of_ble_eq_true rfl) rfl (fun q => B_X9_spread_0 (h q))
set_option maxRecDepth 100000 in
set_option maxHeartbeats 4000000 in
theorem B_X9_spread_20 {post : ax_M → Prop} {M : ax_M} {x3 x4 : Int} (h : (((12 ≤ x4) → post M) ∧ ((x4 < 12) → (((x3 = 0) → post M) ∧ ((¬ x3 = 0) → ax_J Y_X9_spread (ax_Kv Y_X9_spread SH post) 0 0 36 [(0, aR 33), (3, aI 0), (4, aI x4), (5, aI 0)] [] SH M))))) : ax_J Y_X9_spread (ax_Kv Y_X9_spread SH post) 0 0 20 [(0, aR 33), (3, aI x3), (4, aI x4)] [] SH M := by
  refine j_iload 2 dX9_spread_20 rfl ?_
  refine j_bipush (x := 12) dX9_spread_22 rfl (i32_c rfl) ?_
  refine j_icmp_ge (tgt := 130) dX9_spread_24 (by decide) (fun c1 => ?_) (fun c1 => ?_)
  · replace h := h.1 c1
    exact j_vret dX9_spread_130 rfl ⟨Nat.le_of_ble_eq_true rfl, Nat.le_of_ble_eq_true rfl⟩ h
  · replace h := h.2 c1
    refine j_iload_n 1 dX9_spread_27 rfl ?_
    refine j_if_eq (tgt := 130) dX9_spread_28 (by decide) (fun c2 => ?_) (fun c2 => ?_)
    · replace h := h.1 c2
      exact j_vret dX9_spread_130 rfl ⟨Nat.le_of_ble_eq_true rfl, Nat.le_of_ble_eq_true rfl⟩ h
    · replace h := h.2 c2
      refine j_iconst (x := 0) dX9_spread_31 rfl (i32_c rfl) ?_
      refine j_istore_n (ll' := [(3, aI 0), (0, aR 33), (4, aI x4)]) dX9_spread_32 (Nat.le_of_ble_eq_true rfl) rfl ?_
      refine j_iconst (x := 0) dX9_spread_33 rfl (i32_c rfl) ?_
      refine j_istore (ll' := [(5, aI 0), (3, aI 0), (0, aR 33), (4, aI x4)]) dX9_spread_34 (Nat.le_of_ble_eq_true rfl) rfl ?_
      refine j_sub [2, 1, 3, 0] rfl ?_
      exact h
set_option maxRecDepth 100000 in
set_option maxHeartbeats 4000000 in
theorem B_X9_spread_36 {post : ax_M → Prop} {M : ax_M} {x3 x4 x5 : Int} (h : ((((M 6 1) ≤ x5) → (-2147483648 ≤ (x4 + 1) ∧ (x4 + 1) ≤ 2147483647) ∧ ax_J Y_X9_spread (ax_Kv Y_X9_spread SH post) 0 0 20 [(0, aR 33), (3, aI x3), (4, aI (x4 + 1))] [] SH M) ∧ ((x5 < (M 6 1)) → (-2147483648 ≤ (x5 * 7) ∧ (x5 * 7) ≤ 2147483647) ∧ (-2147483648 ≤ ((x5 * 7) + 0) ∧ ((x5 * 7) + 0) ≤ 2147483647) ∧ (0 ≤ ((x5 * 7) + 0) ∧ ((x5 * 7) + 0) < 168) ∧ (-2147483648 ≤ ((x5 * 7) + 1) ∧ ((x5 * 7) + 1) ≤ 2147483647) ∧ (0 ≤ ((x5 * 7) + 1) ∧ ((x5 * 7) + 1) < 168) ∧ ax_Ti Y_X9_comesSooner [aR 33, aI x5, aI (M 7 ((x5 * 7) + 0)), aI (M 7 ((x5 * 7) + 1))] SH M (fun z2 u1 => (((¬ z2 = 0) → ax_Ti Y_X9_comesSooner [aR 33, aI x5, aI (M 7 ((x5 * 7) + 1)), aI (M 7 ((x5 * 7) + 0))] SH u1 (fun z4 u3 => (((¬ z4 = 0) → (-2147483648 ≤ (x5 + 1) ∧ (x5 + 1) ≤ 2147483647) ∧ ax_J Y_X9_spread (ax_Kv Y_X9_spread SH post) 0 0 36 [(0, aR 33), (3, aI 1), (4, aI x4), (5, aI (x5 + 1))] [] SH u3) ∧ ((z4 = 0) → (-2147483648 ≤ (x5 + 1) ∧ (x5 + 1) ≤ 2147483647) ∧ ax_J Y_X9_spread (ax_Kv Y_X9_spread SH post) 0 0 36 [(0, aR 33), (3, aI 1), (4, aI x4), (5, aI (x5 + 1))] [] SH u3)))) ∧ ((z2 = 0) → (((x3 = 0) → ax_Ti Y_X9_comesSooner [aR 33, aI x5, aI (M 7 ((x5 * 7) + 1)), aI (M 7 ((x5 * 7) + 0))] SH u1 (fun z6 u5 => (((¬ z6 = 0) → (-2147483648 ≤ (x5 + 1) ∧ (x5 + 1) ≤ 2147483647) ∧ ax_J Y_X9_spread (ax_Kv Y_X9_spread SH post) 0 0 36 [(0, aR 33), (3, aI 1), (4, aI x4), (5, aI (x5 + 1))] [] SH u5) ∧ ((z6 = 0) → (-2147483648 ≤ (x5 + 1) ∧ (x5 + 1) ≤ 2147483647) ∧ ax_J Y_X9_spread (ax_Kv Y_X9_spread SH post) 0 0 36 [(0, aR 33), (3, aI 0), (4, aI x4), (5, aI (x5 + 1))] [] SH u5)))) ∧ ((¬ x3 = 0) → ax_Ti Y_X9_comesSooner [aR 33, aI x5, aI (M 7 ((x5 * 7) + 1)), aI (M 7 ((x5 * 7) + 0))] SH u1 (fun z8 u7 => (((¬ z8 = 0) → (-2147483648 ≤ (x5 + 1) ∧ (x5 + 1) ≤ 2147483647) ∧ ax_J Y_X9_spread (ax_Kv Y_X9_spread SH post) 0 0 36 [(0, aR 33), (3, aI 1), (4, aI x4), (5, aI (x5 + 1))] [] SH u7) ∧ ((z8 = 0) → (-2147483648 ≤ (x5 + 1) ∧ (x5 + 1) ≤ 2147483647) ∧ ax_J Y_X9_spread (ax_Kv Y_X9_spread SH post) 0 0 36 [(0, aR 33), (3, aI 1), (4, aI x4), (5, aI (x5 + 1))] [] SH u7))))))))))) : ax_J Y_X9_spread (ax_Kv Y_X9_spread SH post) 0 0 36 [(0, aR 33), (3, aI x3), (4, aI x4), (5, aI x5)] [] SH M := by
  refine j_iload 3 dX9_spread_36 rfl ?_
  refine j_aload_n 0 dX9_spread_38 rfl ?_
  refine j_getc 6 dX9_spread_39 f_X9_30 sh_33 rfl ?_
  refine j_geti (i := 1) dX9_spread_42 f_X9_42 sh_6 rfl rfl (fun _ => ?_)
  refine j_icmp_ge (tgt := 124) dX9_spread_45 (by decide) (fun c1 => ?_) (fun c1 => ?_)
  · replace h := h.1 c1
    obtain ⟨o2, h⟩ := h
    refine j_iinc (ll' := [(4, aI (x4 + 1)), (0, aR 33), (3, aI x3), (5, aI x5)]) 2 dX9_spread_124 rfl (Nat.le_of_ble_eq_true rfl) o2 rfl ?_
    refine j_goto (tgt := 20) dX9_spread_127 (by decide) ?_
    refine j_sub [1, 2, 0] rfl ?_
    exact h
  · replace h := h.2 c1
    refine j_aload_n 0 dX9_spread_48 rfl ?_
    refine j_getc 6 dX9_spread_49 f_X9_30 sh_33 rfl ?_
    refine j_iload 3 dX9_spread_52 rfl ?_
    refine j_iconst (x := 0) dX9_spread_54 rfl (i32_c rfl) ?_
    refine j_calliV (Yc := Y_X3_fact) (as := [aI x5, aI 0]) (rest := []) dX9_spread_55 q_X9_48 ⟨Nat.le_of_ble_eq_true rfl, Nat.le_of_ble_eq_true rfl, Nat.le_of_ble_eq_true rfl, Nat.le_of_ble_eq_true rfl⟩ sh_6 rfl (Nat.le_of_ble_eq_true rfl) rfl (ti_of (ll := [(0, aR 6), (1, aI x5), (2, aI 0)]) rfl (Nat.le_of_ble_eq_true rfl) rfl (fun _ => ?_))
    refine j_aload_n 0 dX3_fact_0 rfl ?_
    refine j_getc 7 dX3_fact_1 f_X3_15 sh_6 rfl ?_
    refine j_iload_n 1 dX3_fact_4 rfl ?_
    refine j_bipush (x := 7) dX3_fact_5 rfl (i32_c rfl) ?_
    obtain ⟨o3, h⟩ := h
    refine j_imul (z := (x5 * 7)) dX3_fact_7 rfl o3 ?_
    refine j_iload_n 2 dX3_fact_8 rfl ?_
    obtain ⟨o4, h⟩ := h
    refine j_iadd (z := ((x5 * 7) + 0)) dX3_fact_9 rfl o4 ?_
    obtain ⟨o5, h⟩ := h
    refine j_iald dX3_fact_10 sh_7 o5.1 o5.2 (fun _ => ?_)
    refine j_iret dX3_fact_11 rfl ⟨Nat.le_of_ble_eq_true rfl, Nat.le_of_ble_eq_true rfl⟩ (fun _ => ?_)
    refine j_istore (ll' := [(6, aI (M 7 ((x5 * 7) + 0))), (0, aR 33), (3, aI x3), (4, aI x4), (5, aI x5)]) dX9_spread_58 (Nat.le_of_ble_eq_true rfl) rfl ?_
    refine j_aload_n 1 dX9_spread_60 rfl ?_
    refine j_getc 6 dX9_spread_61 f_X9_30 sh_33 rfl ?_
    refine j_iload 4 dX9_spread_64 rfl ?_
    refine j_iconst (x := 1) dX9_spread_66 rfl (i32_c rfl) ?_
    refine j_calliV (Yc := Y_X3_fact) (as := [aI x5, aI 1]) (rest := []) dX9_spread_67 q_X9_48 ⟨Nat.le_of_ble_eq_true rfl, Nat.le_of_ble_eq_true rfl, Nat.le_of_ble_eq_true rfl, Nat.le_of_ble_eq_true rfl⟩ sh_6 rfl (Nat.le_of_ble_eq_true rfl) rfl (ti_of (ll := [(0, aR 6), (1, aI x5), (2, aI 1)]) rfl (Nat.le_of_ble_eq_true rfl) rfl (fun _ => ?_))
    refine j_aload_n 0 dX3_fact_0 rfl ?_
    refine j_getc 7 dX3_fact_1 f_X3_15 sh_6 rfl ?_
    refine j_iload_n 1 dX3_fact_4 rfl ?_
    refine j_bipush (x := 7) dX3_fact_5 rfl (i32_c rfl) ?_
    refine j_imul (z := (x5 * 7)) dX3_fact_7 rfl o3 ?_
    refine j_iload_n 2 dX3_fact_8 rfl ?_
    obtain ⟨o6, h⟩ := h
    refine j_iadd (z := ((x5 * 7) + 1)) dX3_fact_9 rfl o6 ?_
    obtain ⟨o7, h⟩ := h
    refine j_iald dX3_fact_10 sh_7 o7.1 o7.2 (fun _ => ?_)
    refine j_iret dX3_fact_11 rfl ⟨Nat.le_of_ble_eq_true rfl, Nat.le_of_ble_eq_true rfl⟩ (fun _ => ?_)
    refine j_istore (ll' := [(7, aI (M 7 ((x5 * 7) + 1))), (6, aI (M 7 ((x5 * 7) + 0))), (0, aR 33), (3, aI x3), (4, aI x4), (5, aI x5)]) dX9_spread_70 (Nat.le_of_ble_eq_true rfl) rfl ?_
    refine j_aload_n 2 dX9_spread_72 rfl ?_
    refine j_iload 5 dX9_spread_73 rfl ?_
    refine j_iload 1 dX9_spread_75 rfl ?_
    refine j_iload 0 dX9_spread_77 rfl ?_
    refine j_calliV (Yc := Y_X9_comesSooner) (as := [aI x5, aI (M 7 ((x5 * 7) + 0)), aI (M 7 ((x5 * 7) + 1))]) (rest := []) dX9_spread_79 q_X9_73 ⟨Nat.le_of_ble_eq_true rfl, Nat.le_of_ble_eq_true rfl, Nat.le_of_ble_eq_true rfl, Nat.le_of_ble_eq_true rfl⟩ sh_33 rfl (Nat.le_of_ble_eq_true rfl) rfl (ti_mono h (fun z2 u1 h => ?_))
    refine j_if_ne (tgt := 89) dX9_spread_82 (by decide) (fun c8 => ?_) (fun c8 => ?_)
    · replace h := h.1 c8
      refine j_iconst (x := 1) dX9_spread_89 rfl (i32_c rfl) ?_
      refine j_goto (tgt := 94) dX9_spread_90 (by decide) ?_
      refine j_istore_n (ll' := [(3, aI 1), (7, aI (M 7 ((x5 * 7) + 1))), (6, aI (M 7 ((x5 * 7) + 0))), (0, aR 33), (4, aI x4), (5, aI x5)]) dX9_spread_94 (Nat.le_of_ble_eq_true rfl) rfl ?_
      refine j_aload_n 3 dX9_spread_95 rfl ?_
      refine j_iload 5 dX9_spread_96 rfl ?_
      refine j_iload 1 dX9_spread_98 rfl ?_
      refine j_iload 2 dX9_spread_100 rfl ?_
      refine j_calliV (Yc := Y_X9_comesSooner) (as := [aI x5, aI (M 7 ((x5 * 7) + 1)), aI (M 7 ((x5 * 7) + 0))]) (rest := []) dX9_spread_102 q_X9_73 ⟨Nat.le_of_ble_eq_true rfl, Nat.le_of_ble_eq_true rfl, Nat.le_of_ble_eq_true rfl, Nat.le_of_ble_eq_true rfl⟩ sh_33 rfl (Nat.le_of_ble_eq_true rfl) rfl (ti_mono h (fun z4 u3 h => ?_))
      refine j_if_ne (tgt := 112) dX9_spread_105 (by decide) (fun c9 => ?_) (fun c9 => ?_)
      · replace h := h.1 c9
        refine j_iconst (x := 1) dX9_spread_112 rfl (i32_c rfl) ?_
        refine j_goto (tgt := 117) dX9_spread_113 (by decide) ?_
        refine j_istore_n (ll' := [(3, aI 1), (7, aI (M 7 ((x5 * 7) + 1))), (6, aI (M 7 ((x5 * 7) + 0))), (0, aR 33), (4, aI x4), (5, aI x5)]) dX9_spread_117 (Nat.le_of_ble_eq_true rfl) rfl ?_
        obtain ⟨o10, h⟩ := h
        refine j_iinc (ll' := [(5, aI (x5 + 1)), (3, aI 1), (7, aI (M 7 ((x5 * 7) + 1))), (6, aI (M 7 ((x5 * 7) + 0))), (0, aR 33), (4, aI x4)]) 5 dX9_spread_118 rfl (Nat.le_of_ble_eq_true rfl) o10 rfl ?_
        refine j_goto (tgt := 36) dX9_spread_121 (by decide) ?_
        refine j_sub [4, 1, 5, 0] rfl ?_
        exact h
      · replace h := h.2 c9
        refine j_iload_n 0 dX9_spread_108 rfl ?_
        refine j_if_eq (tgt := 116) dX9_spread_109 (by decide) (fun c => absurd c (by decide)) (fun _ => ?_)
        refine j_iconst (x := 1) dX9_spread_112 rfl (i32_c rfl) ?_
        refine j_goto (tgt := 117) dX9_spread_113 (by decide) ?_
        refine j_istore_n (ll' := [(3, aI 1), (7, aI (M 7 ((x5 * 7) + 1))), (6, aI (M 7 ((x5 * 7) + 0))), (0, aR 33), (4, aI x4), (5, aI x5)]) dX9_spread_117 (Nat.le_of_ble_eq_true rfl) rfl ?_
        obtain ⟨o11, h⟩ := h
        refine j_iinc (ll' := [(5, aI (x5 + 1)), (3, aI 1), (7, aI (M 7 ((x5 * 7) + 1))), (6, aI (M 7 ((x5 * 7) + 0))), (0, aR 33), (4, aI x4)]) 5 dX9_spread_118 rfl (Nat.le_of_ble_eq_true rfl) o11 rfl ?_
        refine j_goto (tgt := 36) dX9_spread_121 (by decide) ?_
        refine j_sub [4, 1, 5, 0] rfl ?_
        exact h
    · replace h := h.2 c8
      refine j_iload_n 3 dX9_spread_85 rfl ?_
      refine j_if_eq (tgt := 93) dX9_spread_86 (by decide) (fun c12 => ?_) (fun c12 => ?_)
      · replace h := h.1 c12
        refine j_iconst (x := 0) dX9_spread_93 rfl (i32_c rfl) ?_
        refine j_istore_n (ll' := [(3, aI 0), (7, aI (M 7 ((x5 * 7) + 1))), (6, aI (M 7 ((x5 * 7) + 0))), (0, aR 33), (4, aI x4), (5, aI x5)]) dX9_spread_94 (Nat.le_of_ble_eq_true rfl) rfl ?_
        refine j_aload_n 3 dX9_spread_95 rfl ?_
        refine j_iload 5 dX9_spread_96 rfl ?_
        refine j_iload 1 dX9_spread_98 rfl ?_
        refine j_iload 2 dX9_spread_100 rfl ?_
        refine j_calliV (Yc := Y_X9_comesSooner) (as := [aI x5, aI (M 7 ((x5 * 7) + 1)), aI (M 7 ((x5 * 7) + 0))]) (rest := []) dX9_spread_102 q_X9_73 ⟨Nat.le_of_ble_eq_true rfl, Nat.le_of_ble_eq_true rfl, Nat.le_of_ble_eq_true rfl, Nat.le_of_ble_eq_true rfl⟩ sh_33 rfl (Nat.le_of_ble_eq_true rfl) rfl (ti_mono h (fun z6 u5 h => ?_))
        refine j_if_ne (tgt := 112) dX9_spread_105 (by decide) (fun c13 => ?_) (fun c13 => ?_)
        · replace h := h.1 c13
          refine j_iconst (x := 1) dX9_spread_112 rfl (i32_c rfl) ?_
          refine j_goto (tgt := 117) dX9_spread_113 (by decide) ?_
          refine j_istore_n (ll' := [(3, aI 1), (7, aI (M 7 ((x5 * 7) + 1))), (6, aI (M 7 ((x5 * 7) + 0))), (0, aR 33), (4, aI x4), (5, aI x5)]) dX9_spread_117 (Nat.le_of_ble_eq_true rfl) rfl ?_
          obtain ⟨o14, h⟩ := h
          refine j_iinc (ll' := [(5, aI (x5 + 1)), (3, aI 1), (7, aI (M 7 ((x5 * 7) + 1))), (6, aI (M 7 ((x5 * 7) + 0))), (0, aR 33), (4, aI x4)]) 5 dX9_spread_118 rfl (Nat.le_of_ble_eq_true rfl) o14 rfl ?_
          refine j_goto (tgt := 36) dX9_spread_121 (by decide) ?_
          refine j_sub [4, 1, 5, 0] rfl ?_
          exact h
        · replace h := h.2 c13
          refine j_iload_n 0 dX9_spread_108 rfl ?_
          refine j_if_eq (tgt := 116) dX9_spread_109 (by decide) (fun _ => ?_) (fun c => absurd c (by decide))
          refine j_iconst (x := 0) dX9_spread_116 rfl (i32_c rfl) ?_
          refine j_istore_n (ll' := [(3, aI 0), (7, aI (M 7 ((x5 * 7) + 1))), (6, aI (M 7 ((x5 * 7) + 0))), (0, aR 33), (4, aI x4), (5, aI x5)]) dX9_spread_117 (Nat.le_of_ble_eq_true rfl) rfl ?_
          obtain ⟨o15, h⟩ := h
          refine j_iinc (ll' := [(5, aI (x5 + 1)), (3, aI 0), (7, aI (M 7 ((x5 * 7) + 1))), (6, aI (M 7 ((x5 * 7) + 0))), (0, aR 33), (4, aI x4)]) 5 dX9_spread_118 rfl (Nat.le_of_ble_eq_true rfl) o15 rfl ?_
          refine j_goto (tgt := 36) dX9_spread_121 (by decide) ?_
          refine j_sub [4, 1, 5, 0] rfl ?_
          exact h
      · replace h := h.2 c12
        refine j_iconst (x := 1) dX9_spread_89 rfl (i32_c rfl) ?_
        refine j_goto (tgt := 94) dX9_spread_90 (by decide) ?_
        refine j_istore_n (ll' := [(3, aI 1), (7, aI (M 7 ((x5 * 7) + 1))), (6, aI (M 7 ((x5 * 7) + 0))), (0, aR 33), (4, aI x4), (5, aI x5)]) dX9_spread_94 (Nat.le_of_ble_eq_true rfl) rfl ?_
        refine j_aload_n 3 dX9_spread_95 rfl ?_
        refine j_iload 5 dX9_spread_96 rfl ?_
        refine j_iload 1 dX9_spread_98 rfl ?_
        refine j_iload 2 dX9_spread_100 rfl ?_
        refine j_calliV (Yc := Y_X9_comesSooner) (as := [aI x5, aI (M 7 ((x5 * 7) + 1)), aI (M 7 ((x5 * 7) + 0))]) (rest := []) dX9_spread_102 q_X9_73 ⟨Nat.le_of_ble_eq_true rfl, Nat.le_of_ble_eq_true rfl, Nat.le_of_ble_eq_true rfl, Nat.le_of_ble_eq_true rfl⟩ sh_33 rfl (Nat.le_of_ble_eq_true rfl) rfl (ti_mono h (fun z8 u7 h => ?_))
        refine j_if_ne (tgt := 112) dX9_spread_105 (by decide) (fun c16 => ?_) (fun c16 => ?_)
        · replace h := h.1 c16
          refine j_iconst (x := 1) dX9_spread_112 rfl (i32_c rfl) ?_
          refine j_goto (tgt := 117) dX9_spread_113 (by decide) ?_
          refine j_istore_n (ll' := [(3, aI 1), (7, aI (M 7 ((x5 * 7) + 1))), (6, aI (M 7 ((x5 * 7) + 0))), (0, aR 33), (4, aI x4), (5, aI x5)]) dX9_spread_117 (Nat.le_of_ble_eq_true rfl) rfl ?_
          obtain ⟨o17, h⟩ := h
          refine j_iinc (ll' := [(5, aI (x5 + 1)), (3, aI 1), (7, aI (M 7 ((x5 * 7) + 1))), (6, aI (M 7 ((x5 * 7) + 0))), (0, aR 33), (4, aI x4)]) 5 dX9_spread_118 rfl (Nat.le_of_ble_eq_true rfl) o17 rfl ?_
          refine j_goto (tgt := 36) dX9_spread_121 (by decide) ?_
          refine j_sub [4, 1, 5, 0] rfl ?_
          exact h
        · replace h := h.2 c16
          refine j_iload_n 0 dX9_spread_108 rfl ?_
          refine j_if_eq (tgt := 116) dX9_spread_109 (by decide) (fun c => absurd c (by decide)) (fun _ => ?_)
          refine j_iconst (x := 1) dX9_spread_112 rfl (i32_c rfl) ?_
          refine j_goto (tgt := 117) dX9_spread_113 (by decide) ?_
          refine j_istore_n (ll' := [(3, aI 1), (7, aI (M 7 ((x5 * 7) + 1))), (6, aI (M 7 ((x5 * 7) + 0))), (0, aR 33), (4, aI x4), (5, aI x5)]) dX9_spread_117 (Nat.le_of_ble_eq_true rfl) rfl ?_
          obtain ⟨o18, h⟩ := h
          refine j_iinc (ll' := [(5, aI (x5 + 1)), (3, aI 1), (7, aI (M 7 ((x5 * 7) + 1))), (6, aI (M 7 ((x5 * 7) + 0))), (0, aR 33), (4, aI x4)]) 5 dX9_spread_118 rfl (Nat.le_of_ble_eq_true rfl) o18 rfl ?_
          refine j_goto (tgt := 36) dX9_spread_121 (by decide) ?_
          refine j_sub [4, 1, 5, 0] rfl ?_
          exact h
set_option maxRecDepth 100000 in
set_option maxHeartbeats 4000000 in
theorem B_X9_gather_0 {post : ax_M → Prop} {M : ax_M} {x1 x2 : Int} (h : ax_Tv Y_J7_fill_53178 [aR 39, aI (-1)] SH M (fun u1 => (((¬ x1 = (-1)) → (0 ≤ x1 ∧ x1 < 12) ∧ ax_J Y_X9_gather (ax_Kv Y_X9_gather SH post) 0 0 26 [(0, aR 33), (3, aI 1), (4, aI 0)] [] SH (ax_up u1 39 x1 x2)) ∧ ((x1 = (-1)) → post u1)))) : ax_J Y_X9_gather (ax_Kv Y_X9_gather SH post) 0 0 0 [(0, aR 33), (1, aI x1), (2, aI x2)] [] SH M := by
  refine j_aload_n 0 dX9_gather_0 rfl ?_
  refine j_getc 39 dX9_gather_1 f_X9_27 sh_33 rfl ?_
  refine j_iconst (x := (-1)) dX9_gather_4 rfl (i32_c rfl) ?_
  refine j_callvS (Yc := Y_J7_fill_53178) (as := [aR 39, aI (-1)]) (rest := []) dX9_gather_5 q_X9_67 ⟨Nat.le_of_ble_eq_true rfl, Nat.le_of_ble_eq_true rfl, Nat.le_of_ble_eq_true rfl, Nat.le_of_ble_eq_true rfl⟩ rfl (Nat.le_of_ble_eq_true rfl) rfl (tv_mono h (fun u1 h => ?_))
  refine j_iload_n 1 dX9_gather_8 rfl ?_
  refine j_iconst (x := (-1)) dX9_gather_9 rfl (i32_c rfl) ?_
  refine j_icmp_ne (tgt := 14) dX9_gather_10 (by decide) (fun c1 => ?_) (fun c1 => ?_)
  · replace h := h.1 c1
    refine j_aload_n 0 dX9_gather_14 rfl ?_
    refine j_getc 39 dX9_gather_15 f_X9_27 sh_33 rfl ?_
    refine j_iload_n 1 dX9_gather_18 rfl ?_
    refine j_iload_n 2 dX9_gather_19 rfl ?_
    obtain ⟨o2, h⟩ := h
    refine j_iast dX9_gather_20 sh_39 o2.1 o2.2 ?_
    refine j_iconst (x := 1) dX9_gather_21 rfl (i32_c rfl) ?_
    refine j_istore_n (ll' := [(3, aI 1), (0, aR 33), (1, aI x1), (2, aI x2)]) dX9_gather_22 (Nat.le_of_ble_eq_true rfl) rfl ?_
    refine j_iconst (x := 0) dX9_gather_23 rfl (i32_c rfl) ?_
    refine j_istore (ll' := [(4, aI 0), (3, aI 1), (0, aR 33), (1, aI x1), (2, aI x2)]) dX9_gather_24 (Nat.le_of_ble_eq_true rfl) rfl ?_
    refine j_sub [2, 1, 0] rfl ?_
    exact h
  · replace h := h.2 c1
    exact j_vret dX9_gather_13 rfl ⟨Nat.le_of_ble_eq_true rfl, Nat.le_of_ble_eq_true rfl⟩ h
theorem E_X9_gather {post : ax_M → Prop} {M : ax_M} {x1 x2 : Int} (h : ax_mr SH M → ax_Tv Y_J7_fill_53178 [aR 39, aI (-1)] SH M (fun u1 => (((¬ x1 = (-1)) → (0 ≤ x1 ∧ x1 < 12) ∧ ax_J Y_X9_gather (ax_Kv Y_X9_gather SH post) 0 0 26 [(0, aR 33), (3, aI 1), (4, aI 0)] [] SH (ax_up u1 39 x1 x2)) ∧ ((x1 = (-1)) → post u1)))) : ax_Tv Y_X9_gather [aR 33, aI x1, aI x2] SH M post :=
  tv_of rfl (Nat.le_of_ble_eq_true rfl) rfl (fun q => B_X9_gather_0 (h q))
set_option maxRecDepth 100000 in
set_option maxHeartbeats 4000000 in
theorem B_X9_gather_26 {post : ax_M → Prop} {M : ax_M} {x3 x4 : Int} (h : (((12 ≤ x4) → post M) ∧ ((x4 < 12) → (((x3 = 0) → post M) ∧ ((¬ x3 = 0) → ax_J Y_X9_gather (ax_Kv Y_X9_gather SH post) 0 0 42 [(0, aR 33), (3, aI 0), (4, aI x4), (5, aI 0)] [] SH M))))) : ax_J Y_X9_gather (ax_Kv Y_X9_gather SH post) 0 0 26 [(0, aR 33), (3, aI x3), (4, aI x4)] [] SH M := by
  refine j_iload 2 dX9_gather_26 rfl ?_
  refine j_bipush (x := 12) dX9_gather_28 rfl (i32_c rfl) ?_
  refine j_icmp_ge (tgt := 136) dX9_gather_30 (by decide) (fun c1 => ?_) (fun c1 => ?_)
  · replace h := h.1 c1
    exact j_vret dX9_gather_136 rfl ⟨Nat.le_of_ble_eq_true rfl, Nat.le_of_ble_eq_true rfl⟩ h
  · replace h := h.2 c1
    refine j_iload_n 1 dX9_gather_33 rfl ?_
    refine j_if_eq (tgt := 136) dX9_gather_34 (by decide) (fun c2 => ?_) (fun c2 => ?_)
    · replace h := h.1 c2
      exact j_vret dX9_gather_136 rfl ⟨Nat.le_of_ble_eq_true rfl, Nat.le_of_ble_eq_true rfl⟩ h
    · replace h := h.2 c2
      refine j_iconst (x := 0) dX9_gather_37 rfl (i32_c rfl) ?_
      refine j_istore_n (ll' := [(3, aI 0), (0, aR 33), (4, aI x4)]) dX9_gather_38 (Nat.le_of_ble_eq_true rfl) rfl ?_
      refine j_iconst (x := 0) dX9_gather_39 rfl (i32_c rfl) ?_
      refine j_istore (ll' := [(5, aI 0), (3, aI 0), (0, aR 33), (4, aI x4)]) dX9_gather_40 (Nat.le_of_ble_eq_true rfl) rfl ?_
      refine j_sub [2, 1, 3, 0] rfl ?_
      exact h
set_option maxRecDepth 100000 in
set_option maxHeartbeats 4000000 in
theorem B_X9_gather_42 {post : ax_M → Prop} {M : ax_M} {x3 x4 x5 : Int} (h : ((((M 6 1) ≤ x5) → (-2147483648 ≤ (x4 + 1) ∧ (x4 + 1) ≤ 2147483647) ∧ ax_J Y_X9_gather (ax_Kv Y_X9_gather SH post) 0 0 26 [(0, aR 33), (3, aI x3), (4, aI (x4 + 1))] [] SH M) ∧ ((x5 < (M 6 1)) → (-2147483648 ≤ (x5 * 7) ∧ (x5 * 7) ≤ 2147483647) ∧ (-2147483648 ≤ ((x5 * 7) + 0) ∧ ((x5 * 7) + 0) ≤ 2147483647) ∧ (0 ≤ ((x5 * 7) + 0) ∧ ((x5 * 7) + 0) < 168) ∧ (-2147483648 ≤ ((x5 * 7) + 1) ∧ ((x5 * 7) + 1) ≤ 2147483647) ∧ (0 ≤ ((x5 * 7) + 1) ∧ ((x5 * 7) + 1) < 168) ∧ ax_Ti Y_X9_leavesLater [aR 33, aI x5, aI (M 7 ((x5 * 7) + 0)), aI (M 7 ((x5 * 7) + 1))] SH M (fun z2 u1 => (((¬ z2 = 0) → ax_Ti Y_X9_leavesLater [aR 33, aI x5, aI (M 7 ((x5 * 7) + 1)), aI (M 7 ((x5 * 7) + 0))] SH u1 (fun z4 u3 => (((¬ z4 = 0) → (-2147483648 ≤ (x5 + 1) ∧ (x5 + 1) ≤ 2147483647) ∧ ax_J Y_X9_gather (ax_Kv Y_X9_gather SH post) 0 0 42 [(0, aR 33), (3, aI 1), (4, aI x4), (5, aI (x5 + 1))] [] SH u3) ∧ ((z4 = 0) → (-2147483648 ≤ (x5 + 1) ∧ (x5 + 1) ≤ 2147483647) ∧ ax_J Y_X9_gather (ax_Kv Y_X9_gather SH post) 0 0 42 [(0, aR 33), (3, aI 1), (4, aI x4), (5, aI (x5 + 1))] [] SH u3)))) ∧ ((z2 = 0) → (((x3 = 0) → ax_Ti Y_X9_leavesLater [aR 33, aI x5, aI (M 7 ((x5 * 7) + 1)), aI (M 7 ((x5 * 7) + 0))] SH u1 (fun z6 u5 => (((¬ z6 = 0) → (-2147483648 ≤ (x5 + 1) ∧ (x5 + 1) ≤ 2147483647) ∧ ax_J Y_X9_gather (ax_Kv Y_X9_gather SH post) 0 0 42 [(0, aR 33), (3, aI 1), (4, aI x4), (5, aI (x5 + 1))] [] SH u5) ∧ ((z6 = 0) → (-2147483648 ≤ (x5 + 1) ∧ (x5 + 1) ≤ 2147483647) ∧ ax_J Y_X9_gather (ax_Kv Y_X9_gather SH post) 0 0 42 [(0, aR 33), (3, aI 0), (4, aI x4), (5, aI (x5 + 1))] [] SH u5)))) ∧ ((¬ x3 = 0) → ax_Ti Y_X9_leavesLater [aR 33, aI x5, aI (M 7 ((x5 * 7) + 1)), aI (M 7 ((x5 * 7) + 0))] SH u1 (fun z8 u7 => (((¬ z8 = 0) → (-2147483648 ≤ (x5 + 1) ∧ (x5 + 1) ≤ 2147483647) ∧ ax_J Y_X9_gather (ax_Kv Y_X9_gather SH post) 0 0 42 [(0, aR 33), (3, aI 1), (4, aI x4), (5, aI (x5 + 1))] [] SH u7) ∧ ((z8 = 0) → (-2147483648 ≤ (x5 + 1) ∧ (x5 + 1) ≤ 2147483647) ∧ ax_J Y_X9_gather (ax_Kv Y_X9_gather SH post) 0 0 42 [(0, aR 33), (3, aI 1), (4, aI x4), (5, aI (x5 + 1))] [] SH u7))))))))))) : ax_J Y_X9_gather (ax_Kv Y_X9_gather SH post) 0 0 42 [(0, aR 33), (3, aI x3), (4, aI x4), (5, aI x5)] [] SH M := by
  refine j_iload 3 dX9_gather_42 rfl ?_
  refine j_aload_n 0 dX9_gather_44 rfl ?_
  refine j_getc 6 dX9_gather_45 f_X9_30 sh_33 rfl ?_
  refine j_geti (i := 1) dX9_gather_48 f_X9_42 sh_6 rfl rfl (fun _ => ?_)
  refine j_icmp_ge (tgt := 130) dX9_gather_51 (by decide) (fun c1 => ?_) (fun c1 => ?_)
  · replace h := h.1 c1
    obtain ⟨o2, h⟩ := h
    refine j_iinc (ll' := [(4, aI (x4 + 1)), (0, aR 33), (3, aI x3), (5, aI x5)]) 2 dX9_gather_130 rfl (Nat.le_of_ble_eq_true rfl) o2 rfl ?_
    refine j_goto (tgt := 26) dX9_gather_133 (by decide) ?_
    refine j_sub [1, 2, 0] rfl ?_
    exact h
  · replace h := h.2 c1
    refine j_aload_n 0 dX9_gather_54 rfl ?_
    refine j_getc 6 dX9_gather_55 f_X9_30 sh_33 rfl ?_
    refine j_iload 3 dX9_gather_58 rfl ?_
    refine j_iconst (x := 0) dX9_gather_60 rfl (i32_c rfl) ?_
    refine j_calliV (Yc := Y_X3_fact) (as := [aI x5, aI 0]) (rest := []) dX9_gather_61 q_X9_48 ⟨Nat.le_of_ble_eq_true rfl, Nat.le_of_ble_eq_true rfl, Nat.le_of_ble_eq_true rfl, Nat.le_of_ble_eq_true rfl⟩ sh_6 rfl (Nat.le_of_ble_eq_true rfl) rfl (ti_of (ll := [(0, aR 6), (1, aI x5), (2, aI 0)]) rfl (Nat.le_of_ble_eq_true rfl) rfl (fun _ => ?_))
    refine j_aload_n 0 dX3_fact_0 rfl ?_
    refine j_getc 7 dX3_fact_1 f_X3_15 sh_6 rfl ?_
    refine j_iload_n 1 dX3_fact_4 rfl ?_
    refine j_bipush (x := 7) dX3_fact_5 rfl (i32_c rfl) ?_
    obtain ⟨o3, h⟩ := h
    refine j_imul (z := (x5 * 7)) dX3_fact_7 rfl o3 ?_
    refine j_iload_n 2 dX3_fact_8 rfl ?_
    obtain ⟨o4, h⟩ := h
    refine j_iadd (z := ((x5 * 7) + 0)) dX3_fact_9 rfl o4 ?_
    obtain ⟨o5, h⟩ := h
    refine j_iald dX3_fact_10 sh_7 o5.1 o5.2 (fun _ => ?_)
    refine j_iret dX3_fact_11 rfl ⟨Nat.le_of_ble_eq_true rfl, Nat.le_of_ble_eq_true rfl⟩ (fun _ => ?_)
    refine j_istore (ll' := [(6, aI (M 7 ((x5 * 7) + 0))), (0, aR 33), (3, aI x3), (4, aI x4), (5, aI x5)]) dX9_gather_64 (Nat.le_of_ble_eq_true rfl) rfl ?_
    refine j_aload_n 1 dX9_gather_66 rfl ?_
    refine j_getc 6 dX9_gather_67 f_X9_30 sh_33 rfl ?_
    refine j_iload 4 dX9_gather_70 rfl ?_
    refine j_iconst (x := 1) dX9_gather_72 rfl (i32_c rfl) ?_
    refine j_calliV (Yc := Y_X3_fact) (as := [aI x5, aI 1]) (rest := []) dX9_gather_73 q_X9_48 ⟨Nat.le_of_ble_eq_true rfl, Nat.le_of_ble_eq_true rfl, Nat.le_of_ble_eq_true rfl, Nat.le_of_ble_eq_true rfl⟩ sh_6 rfl (Nat.le_of_ble_eq_true rfl) rfl (ti_of (ll := [(0, aR 6), (1, aI x5), (2, aI 1)]) rfl (Nat.le_of_ble_eq_true rfl) rfl (fun _ => ?_))
    refine j_aload_n 0 dX3_fact_0 rfl ?_
    refine j_getc 7 dX3_fact_1 f_X3_15 sh_6 rfl ?_
    refine j_iload_n 1 dX3_fact_4 rfl ?_
    refine j_bipush (x := 7) dX3_fact_5 rfl (i32_c rfl) ?_
    refine j_imul (z := (x5 * 7)) dX3_fact_7 rfl o3 ?_
    refine j_iload_n 2 dX3_fact_8 rfl ?_
    obtain ⟨o6, h⟩ := h
    refine j_iadd (z := ((x5 * 7) + 1)) dX3_fact_9 rfl o6 ?_
    obtain ⟨o7, h⟩ := h
    refine j_iald dX3_fact_10 sh_7 o7.1 o7.2 (fun _ => ?_)
    refine j_iret dX3_fact_11 rfl ⟨Nat.le_of_ble_eq_true rfl, Nat.le_of_ble_eq_true rfl⟩ (fun _ => ?_)
    refine j_istore (ll' := [(7, aI (M 7 ((x5 * 7) + 1))), (6, aI (M 7 ((x5 * 7) + 0))), (0, aR 33), (3, aI x3), (4, aI x4), (5, aI x5)]) dX9_gather_76 (Nat.le_of_ble_eq_true rfl) rfl ?_
    refine j_aload_n 2 dX9_gather_78 rfl ?_
    refine j_iload 5 dX9_gather_79 rfl ?_
    refine j_iload 1 dX9_gather_81 rfl ?_
    refine j_iload 0 dX9_gather_83 rfl ?_
    refine j_calliV (Yc := Y_X9_leavesLater) (as := [aI x5, aI (M 7 ((x5 * 7) + 0)), aI (M 7 ((x5 * 7) + 1))]) (rest := []) dX9_gather_85 q_X9_80 ⟨Nat.le_of_ble_eq_true rfl, Nat.le_of_ble_eq_true rfl, Nat.le_of_ble_eq_true rfl, Nat.le_of_ble_eq_true rfl⟩ sh_33 rfl (Nat.le_of_ble_eq_true rfl) rfl (ti_mono h (fun z2 u1 h => ?_))
    refine j_if_ne (tgt := 95) dX9_gather_88 (by decide) (fun c8 => ?_) (fun c8 => ?_)
    · replace h := h.1 c8
      refine j_iconst (x := 1) dX9_gather_95 rfl (i32_c rfl) ?_
      refine j_goto (tgt := 100) dX9_gather_96 (by decide) ?_
      refine j_istore_n (ll' := [(3, aI 1), (7, aI (M 7 ((x5 * 7) + 1))), (6, aI (M 7 ((x5 * 7) + 0))), (0, aR 33), (4, aI x4), (5, aI x5)]) dX9_gather_100 (Nat.le_of_ble_eq_true rfl) rfl ?_
      refine j_aload_n 3 dX9_gather_101 rfl ?_
      refine j_iload 5 dX9_gather_102 rfl ?_
      refine j_iload 1 dX9_gather_104 rfl ?_
      refine j_iload 2 dX9_gather_106 rfl ?_
      refine j_calliV (Yc := Y_X9_leavesLater) (as := [aI x5, aI (M 7 ((x5 * 7) + 1)), aI (M 7 ((x5 * 7) + 0))]) (rest := []) dX9_gather_108 q_X9_80 ⟨Nat.le_of_ble_eq_true rfl, Nat.le_of_ble_eq_true rfl, Nat.le_of_ble_eq_true rfl, Nat.le_of_ble_eq_true rfl⟩ sh_33 rfl (Nat.le_of_ble_eq_true rfl) rfl (ti_mono h (fun z4 u3 h => ?_))
      refine j_if_ne (tgt := 118) dX9_gather_111 (by decide) (fun c9 => ?_) (fun c9 => ?_)
      · replace h := h.1 c9
        refine j_iconst (x := 1) dX9_gather_118 rfl (i32_c rfl) ?_
        refine j_goto (tgt := 123) dX9_gather_119 (by decide) ?_
        refine j_istore_n (ll' := [(3, aI 1), (7, aI (M 7 ((x5 * 7) + 1))), (6, aI (M 7 ((x5 * 7) + 0))), (0, aR 33), (4, aI x4), (5, aI x5)]) dX9_gather_123 (Nat.le_of_ble_eq_true rfl) rfl ?_
        obtain ⟨o10, h⟩ := h
        refine j_iinc (ll' := [(5, aI (x5 + 1)), (3, aI 1), (7, aI (M 7 ((x5 * 7) + 1))), (6, aI (M 7 ((x5 * 7) + 0))), (0, aR 33), (4, aI x4)]) 5 dX9_gather_124 rfl (Nat.le_of_ble_eq_true rfl) o10 rfl ?_
        refine j_goto (tgt := 42) dX9_gather_127 (by decide) ?_
        refine j_sub [4, 1, 5, 0] rfl ?_
        exact h
      · replace h := h.2 c9
        refine j_iload_n 0 dX9_gather_114 rfl ?_
        refine j_if_eq (tgt := 122) dX9_gather_115 (by decide) (fun c => absurd c (by decide)) (fun _ => ?_)
        refine j_iconst (x := 1) dX9_gather_118 rfl (i32_c rfl) ?_
        refine j_goto (tgt := 123) dX9_gather_119 (by decide) ?_
        refine j_istore_n (ll' := [(3, aI 1), (7, aI (M 7 ((x5 * 7) + 1))), (6, aI (M 7 ((x5 * 7) + 0))), (0, aR 33), (4, aI x4), (5, aI x5)]) dX9_gather_123 (Nat.le_of_ble_eq_true rfl) rfl ?_
        obtain ⟨o11, h⟩ := h
        refine j_iinc (ll' := [(5, aI (x5 + 1)), (3, aI 1), (7, aI (M 7 ((x5 * 7) + 1))), (6, aI (M 7 ((x5 * 7) + 0))), (0, aR 33), (4, aI x4)]) 5 dX9_gather_124 rfl (Nat.le_of_ble_eq_true rfl) o11 rfl ?_
        refine j_goto (tgt := 42) dX9_gather_127 (by decide) ?_
        refine j_sub [4, 1, 5, 0] rfl ?_
        exact h
    · replace h := h.2 c8
      refine j_iload_n 3 dX9_gather_91 rfl ?_
      refine j_if_eq (tgt := 99) dX9_gather_92 (by decide) (fun c12 => ?_) (fun c12 => ?_)
      · replace h := h.1 c12
        refine j_iconst (x := 0) dX9_gather_99 rfl (i32_c rfl) ?_
        refine j_istore_n (ll' := [(3, aI 0), (7, aI (M 7 ((x5 * 7) + 1))), (6, aI (M 7 ((x5 * 7) + 0))), (0, aR 33), (4, aI x4), (5, aI x5)]) dX9_gather_100 (Nat.le_of_ble_eq_true rfl) rfl ?_
        refine j_aload_n 3 dX9_gather_101 rfl ?_
        refine j_iload 5 dX9_gather_102 rfl ?_
        refine j_iload 1 dX9_gather_104 rfl ?_
        refine j_iload 2 dX9_gather_106 rfl ?_
        refine j_calliV (Yc := Y_X9_leavesLater) (as := [aI x5, aI (M 7 ((x5 * 7) + 1)), aI (M 7 ((x5 * 7) + 0))]) (rest := []) dX9_gather_108 q_X9_80 ⟨Nat.le_of_ble_eq_true rfl, Nat.le_of_ble_eq_true rfl, Nat.le_of_ble_eq_true rfl, Nat.le_of_ble_eq_true rfl⟩ sh_33 rfl (Nat.le_of_ble_eq_true rfl) rfl (ti_mono h (fun z6 u5 h => ?_))
        refine j_if_ne (tgt := 118) dX9_gather_111 (by decide) (fun c13 => ?_) (fun c13 => ?_)
        · replace h := h.1 c13
          refine j_iconst (x := 1) dX9_gather_118 rfl (i32_c rfl) ?_
          refine j_goto (tgt := 123) dX9_gather_119 (by decide) ?_
          refine j_istore_n (ll' := [(3, aI 1), (7, aI (M 7 ((x5 * 7) + 1))), (6, aI (M 7 ((x5 * 7) + 0))), (0, aR 33), (4, aI x4), (5, aI x5)]) dX9_gather_123 (Nat.le_of_ble_eq_true rfl) rfl ?_
          obtain ⟨o14, h⟩ := h
          refine j_iinc (ll' := [(5, aI (x5 + 1)), (3, aI 1), (7, aI (M 7 ((x5 * 7) + 1))), (6, aI (M 7 ((x5 * 7) + 0))), (0, aR 33), (4, aI x4)]) 5 dX9_gather_124 rfl (Nat.le_of_ble_eq_true rfl) o14 rfl ?_
          refine j_goto (tgt := 42) dX9_gather_127 (by decide) ?_
          refine j_sub [4, 1, 5, 0] rfl ?_
          exact h
        · replace h := h.2 c13
          refine j_iload_n 0 dX9_gather_114 rfl ?_
          refine j_if_eq (tgt := 122) dX9_gather_115 (by decide) (fun _ => ?_) (fun c => absurd c (by decide))
          refine j_iconst (x := 0) dX9_gather_122 rfl (i32_c rfl) ?_
          refine j_istore_n (ll' := [(3, aI 0), (7, aI (M 7 ((x5 * 7) + 1))), (6, aI (M 7 ((x5 * 7) + 0))), (0, aR 33), (4, aI x4), (5, aI x5)]) dX9_gather_123 (Nat.le_of_ble_eq_true rfl) rfl ?_
          obtain ⟨o15, h⟩ := h
          refine j_iinc (ll' := [(5, aI (x5 + 1)), (3, aI 0), (7, aI (M 7 ((x5 * 7) + 1))), (6, aI (M 7 ((x5 * 7) + 0))), (0, aR 33), (4, aI x4)]) 5 dX9_gather_124 rfl (Nat.le_of_ble_eq_true rfl) o15 rfl ?_
          refine j_goto (tgt := 42) dX9_gather_127 (by decide) ?_
          refine j_sub [4, 1, 5, 0] rfl ?_
          exact h
      · replace h := h.2 c12
        refine j_iconst (x := 1) dX9_gather_95 rfl (i32_c rfl) ?_
        refine j_goto (tgt := 100) dX9_gather_96 (by decide) ?_
        refine j_istore_n (ll' := [(3, aI 1), (7, aI (M 7 ((x5 * 7) + 1))), (6, aI (M 7 ((x5 * 7) + 0))), (0, aR 33), (4, aI x4), (5, aI x5)]) dX9_gather_100 (Nat.le_of_ble_eq_true rfl) rfl ?_
        refine j_aload_n 3 dX9_gather_101 rfl ?_
        refine j_iload 5 dX9_gather_102 rfl ?_
        refine j_iload 1 dX9_gather_104 rfl ?_
        refine j_iload 2 dX9_gather_106 rfl ?_
        refine j_calliV (Yc := Y_X9_leavesLater) (as := [aI x5, aI (M 7 ((x5 * 7) + 1)), aI (M 7 ((x5 * 7) + 0))]) (rest := []) dX9_gather_108 q_X9_80 ⟨Nat.le_of_ble_eq_true rfl, Nat.le_of_ble_eq_true rfl, Nat.le_of_ble_eq_true rfl, Nat.le_of_ble_eq_true rfl⟩ sh_33 rfl (Nat.le_of_ble_eq_true rfl) rfl (ti_mono h (fun z8 u7 h => ?_))
        refine j_if_ne (tgt := 118) dX9_gather_111 (by decide) (fun c16 => ?_) (fun c16 => ?_)
        · replace h := h.1 c16
          refine j_iconst (x := 1) dX9_gather_118 rfl (i32_c rfl) ?_
          refine j_goto (tgt := 123) dX9_gather_119 (by decide) ?_
          refine j_istore_n (ll' := [(3, aI 1), (7, aI (M 7 ((x5 * 7) + 1))), (6, aI (M 7 ((x5 * 7) + 0))), (0, aR 33), (4, aI x4), (5, aI x5)]) dX9_gather_123 (Nat.le_of_ble_eq_true rfl) rfl ?_
          obtain ⟨o17, h⟩ := h
          refine j_iinc (ll' := [(5, aI (x5 + 1)), (3, aI 1), (7, aI (M 7 ((x5 * 7) + 1))), (6, aI (M 7 ((x5 * 7) + 0))), (0, aR 33), (4, aI x4)]) 5 dX9_gather_124 rfl (Nat.le_of_ble_eq_true rfl) o17 rfl ?_
          refine j_goto (tgt := 42) dX9_gather_127 (by decide) ?_
          refine j_sub [4, 1, 5, 0] rfl ?_
          exact h
        · replace h := h.2 c16
          refine j_iload_n 0 dX9_gather_114 rfl ?_
          refine j_if_eq (tgt := 122) dX9_gather_115 (by decide) (fun c => absurd c (by decide)) (fun _ => ?_)
          refine j_iconst (x := 1) dX9_gather_118 rfl (i32_c rfl) ?_
          refine j_goto (tgt := 123) dX9_gather_119 (by decide) ?_
          refine j_istore_n (ll' := [(3, aI 1), (7, aI (M 7 ((x5 * 7) + 1))), (6, aI (M 7 ((x5 * 7) + 0))), (0, aR 33), (4, aI x4), (5, aI x5)]) dX9_gather_123 (Nat.le_of_ble_eq_true rfl) rfl ?_
          obtain ⟨o18, h⟩ := h
          refine j_iinc (ll' := [(5, aI (x5 + 1)), (3, aI 1), (7, aI (M 7 ((x5 * 7) + 1))), (6, aI (M 7 ((x5 * 7) + 0))), (0, aR 33), (4, aI x4)]) 5 dX9_gather_124 rfl (Nat.le_of_ble_eq_true rfl) o18 rfl ?_
          refine j_goto (tgt := 42) dX9_gather_127 (by decide) ?_
          refine j_sub [4, 1, 5, 0] rfl ?_
          exact h
set_option maxRecDepth 100000 in
set_option maxHeartbeats 4000000 in
theorem B_X2_lift_0 {post : Int → ax_M → Prop} {M : ax_M} {x1 : Int} (h : ax_Tv Y_J7_fill_53178 [aR 41, aI 0] SH (ax_up M 40 11 x1) (fun u1 => ax_Tv Y_J7_fill_53178 [aR 42, aI 0] SH u1 (fun u2 => ax_Tv Y_J7_fill_53178 [aR 43, aI 0] SH u2 (fun u3 => ax_J Y_X2_lift (ax_Ki Y_X2_lift SH post) 0 0 31 [(0, aR 40), (2, aI 0)] [] SH u3)))) : ax_J Y_X2_lift (ax_Ki Y_X2_lift SH post) 0 0 0 [(0, aR 40), (1, aI x1)] [] SH M := by
  refine j_aload_n 0 dX2_lift_0 rfl ?_
  refine j_iload_n 1 dX2_lift_1 rfl ?_
  refine j_puti (i := 11) dX2_lift_2 p_X2_44 (fun h => by cases h) sh_40 rfl rfl ?_
  refine j_aload_n 0 dX2_lift_5 rfl ?_
  refine j_getc 41 dX2_lift_6 f_X2_11 sh_40 rfl ?_
  refine j_iconst (x := 0) dX2_lift_9 rfl (i32_c rfl) ?_
  refine j_callvS (Yc := Y_J7_fill_53178) (as := [aR 41, aI 0]) (rest := []) dX2_lift_10 q_X2_48 ⟨Nat.le_of_ble_eq_true rfl, Nat.le_of_ble_eq_true rfl, Nat.le_of_ble_eq_true rfl, Nat.le_of_ble_eq_true rfl⟩ rfl (Nat.le_of_ble_eq_true rfl) rfl (tv_mono h (fun u1 h => ?_))
  refine j_aload_n 0 dX2_lift_13 rfl ?_
  refine j_getc 42 dX2_lift_14 f_X2_15 sh_40 rfl ?_
  refine j_iconst (x := 0) dX2_lift_17 rfl (i32_c rfl) ?_
  refine j_callvS (Yc := Y_J7_fill_53178) (as := [aR 42, aI 0]) (rest := []) dX2_lift_18 q_X2_48 ⟨Nat.le_of_ble_eq_true rfl, Nat.le_of_ble_eq_true rfl, Nat.le_of_ble_eq_true rfl, Nat.le_of_ble_eq_true rfl⟩ rfl (Nat.le_of_ble_eq_true rfl) rfl (tv_mono h (fun u2 h => ?_))
  refine j_aload_n 0 dX2_lift_21 rfl ?_
  refine j_getc 43 dX2_lift_22 f_X2_18 sh_40 rfl ?_
  refine j_iconst (x := 0) dX2_lift_25 rfl (i32_c rfl) ?_
  refine j_callvS (Yc := Y_J7_fill_53178) (as := [aR 43, aI 0]) (rest := []) dX2_lift_26 q_X2_48 ⟨Nat.le_of_ble_eq_true rfl, Nat.le_of_ble_eq_true rfl, Nat.le_of_ble_eq_true rfl, Nat.le_of_ble_eq_true rfl⟩ rfl (Nat.le_of_ble_eq_true rfl) rfl (tv_mono h (fun u3 h => ?_))
  refine j_iconst (x := 0) dX2_lift_29 rfl (i32_c rfl) ?_
  refine j_istore_n (ll' := [(2, aI 0), (0, aR 40), (1, aI x1)]) dX2_lift_30 (Nat.le_of_ble_eq_true rfl) rfl ?_
  refine j_sub [1, 0] rfl ?_
  exact h
theorem E_X2_lift {post : Int → ax_M → Prop} {M : ax_M} {x1 : Int} (h : ax_mr SH M → ax_Tv Y_J7_fill_53178 [aR 41, aI 0] SH (ax_up M 40 11 x1) (fun u1 => ax_Tv Y_J7_fill_53178 [aR 42, aI 0] SH u1 (fun u2 => ax_Tv Y_J7_fill_53178 [aR 43, aI 0] SH u2 (fun u3 => ax_J Y_X2_lift (ax_Ki Y_X2_lift SH post) 0 0 31 [(0, aR 40), (2, aI 0)] [] SH u3)))) : ax_Ti Y_X2_lift [aR 40, aI x1] SH M post :=
  ti_of rfl (Nat.le_of_ble_eq_true rfl) rfl (fun q => B_X2_lift_0 (h q))
set_option maxRecDepth 100000 in
set_option maxHeartbeats 4000000 in
theorem B_X2_lift_31 {post : Int → ax_M → Prop} {M : ax_M} {x2 : Int} (h : ((((M 8 0) ≤ x2) → ax_Tv Y_X2_findNear [aR 40] SH M (fun u1 => ax_J Y_X2_lift (ax_Ki Y_X2_lift SH post) 0 0 74 [(0, aR 40), (2, aI 0), (3, aI 0)] [] SH u1)) ∧ ((x2 < (M 8 0)) → (0 ≤ x2 ∧ x2 < 8) ∧ (0 ≤ (M 9 x2) ∧ (M 9 x2) < 12) ∧ (-2147483648 ≤ ((M 43 (M 9 x2)) + 1) ∧ ((M 43 (M 9 x2)) + 1) ≤ 2147483647) ∧ (-2147483648 ≤ (x2 + 1) ∧ (x2 + 1) ≤ 2147483647) ∧ ax_J Y_X2_lift (ax_Ki Y_X2_lift SH post) 0 0 31 [(0, aR 40), (2, aI (x2 + 1))] [] SH (ax_up M 43 (M 9 x2) ((M 43 (M 9 x2)) + 1))))) : ax_J Y_X2_lift (ax_Ki Y_X2_lift SH post) 0 0 31 [(0, aR 40), (2, aI x2)] [] SH M := by
  refine j_iload_n 1 dX2_lift_31 rfl ?_
  refine j_aload_n 0 dX2_lift_32 rfl ?_
  refine j_getc 8 dX2_lift_33 f_X2_40 sh_40 rfl ?_
  refine j_geti (i := 0) dX2_lift_36 f_X2_54 sh_8 rfl rfl (fun _ => ?_)
  refine j_icmp_ge (tgt := 66) dX2_lift_39 (by decide) (fun c1 => ?_) (fun c1 => ?_)
  · replace h := h.1 c1
    refine j_aload_n 0 dX2_lift_66 rfl ?_
    refine j_callvV (Yc := Y_X2_findNear) (as := []) (rest := []) dX2_lift_67 q_X2_62 ⟨Nat.le_of_ble_eq_true rfl, Nat.le_of_ble_eq_true rfl, Nat.le_of_ble_eq_true rfl, Nat.le_of_ble_eq_true rfl⟩ sh_40 rfl (Nat.le_of_ble_eq_true rfl) rfl (tv_mono h (fun u1 h => ?_))
    refine j_iconst (x := 0) dX2_lift_70 rfl (i32_c rfl) ?_
    refine j_istore_n (ll' := [(2, aI 0), (0, aR 40)]) dX2_lift_71 (Nat.le_of_ble_eq_true rfl) rfl ?_
    refine j_iconst (x := 0) dX2_lift_72 rfl (i32_c rfl) ?_
    refine j_istore_n (ll' := [(3, aI 0), (2, aI 0), (0, aR 40)]) dX2_lift_73 (Nat.le_of_ble_eq_true rfl) rfl ?_
    refine j_sub [2, 1, 0] rfl ?_
    exact h
  · replace h := h.2 c1
    refine j_aload_n 0 dX2_lift_42 rfl ?_
    refine j_getc 43 dX2_lift_43 f_X2_18 sh_40 rfl ?_
    refine j_aload_n 0 dX2_lift_46 rfl ?_
    refine j_getc 8 dX2_lift_47 f_X2_40 sh_40 rfl ?_
    refine j_getc 9 dX2_lift_50 f_X2_59 sh_8 rfl ?_
    refine j_iload_n 1 dX2_lift_53 rfl ?_
    obtain ⟨o2, h⟩ := h
    refine j_iald dX2_lift_54 sh_9 o2.1 o2.2 (fun _ => ?_)
    refine j_dup2 dX2_lift_55 rfl rfl ?_
    obtain ⟨o3, h⟩ := h
    refine j_iald dX2_lift_56 sh_43 o3.1 o3.2 (fun _ => ?_)
    refine j_iconst (x := 1) dX2_lift_57 rfl (i32_c rfl) ?_
    obtain ⟨o4, h⟩ := h
    refine j_iadd (z := ((M 43 (M 9 x2)) + 1)) dX2_lift_58 rfl o4 ?_
    refine j_iast dX2_lift_59 sh_43 o3.1 o3.2 ?_
    obtain ⟨o5, h⟩ := h
    refine j_iinc (ll' := [(2, aI (x2 + 1)), (0, aR 40)]) 1 dX2_lift_60 rfl (Nat.le_of_ble_eq_true rfl) o5 rfl ?_
    refine j_goto (tgt := 31) dX2_lift_63 (by decide) ?_
    refine j_sub [1, 0] rfl ?_
    exact h
set_option maxRecDepth 100000 in
set_option maxHeartbeats 4000000 in
theorem B_X2_lift_74 {post : Int → ax_M → Prop} {M : ax_M} {x2 x3 : Int} (h : ((((M 8 0) ≤ x3) → post x2 M) ∧ ((x3 < (M 8 0)) → ax_Ti Y_X2_search [aR 40] SH M (fun z2 u1 => (((¬ z2 = (-1)) → ax_Tv Y_X2_send [aR 40, aI z2] SH u1 (fun u3 => (-2147483648 ≤ (x2 + 1) ∧ (x2 + 1) ≤ 2147483647) ∧ (-2147483648 ≤ (x3 + 1) ∧ (x3 + 1) ≤ 2147483647) ∧ ax_J Y_X2_lift (ax_Ki Y_X2_lift SH post) 0 0 74 [(0, aR 40), (2, aI (x2 + 1)), (3, aI (x3 + 1))] [] SH u3)) ∧ ((z2 = (-1)) → post x2 u1)))))) : ax_J Y_X2_lift (ax_Ki Y_X2_lift SH post) 0 0 74 [(0, aR 40), (2, aI x2), (3, aI x3)] [] SH M := by
  refine j_iload_n 2 dX2_lift_74 rfl ?_
  refine j_aload_n 0 dX2_lift_75 rfl ?_
  refine j_getc 8 dX2_lift_76 f_X2_40 sh_40 rfl ?_
  refine j_geti (i := 0) dX2_lift_79 f_X2_54 sh_8 rfl rfl (fun _ => ?_)
  refine j_icmp_ge (tgt := 115) dX2_lift_82 (by decide) (fun c1 => ?_) (fun c1 => ?_)
  · replace h := h.1 c1
    refine j_iload_n 1 dX2_lift_115 rfl ?_
    exact j_iret dX2_lift_116 rfl ⟨Nat.le_of_ble_eq_true rfl, Nat.le_of_ble_eq_true rfl⟩ (fun _ => h)
  · replace h := h.2 c1
    refine j_aload_n 0 dX2_lift_85 rfl ?_
    refine j_calliV (Yc := Y_X2_search) (as := []) (rest := []) dX2_lift_86 q_X2_65 ⟨Nat.le_of_ble_eq_true rfl, Nat.le_of_ble_eq_true rfl, Nat.le_of_ble_eq_true rfl, Nat.le_of_ble_eq_true rfl⟩ sh_40 rfl (Nat.le_of_ble_eq_true rfl) rfl (ti_mono h (fun z2 u1 h => ?_))
    refine j_istore (ll' := [(4, aI z2), (0, aR 40), (2, aI x2), (3, aI x3)]) dX2_lift_89 (Nat.le_of_ble_eq_true rfl) rfl ?_
    refine j_iload 0 dX2_lift_91 rfl ?_
    refine j_iconst (x := (-1)) dX2_lift_93 rfl (i32_c rfl) ?_
    refine j_icmp_ne (tgt := 100) dX2_lift_94 (by decide) (fun c2 => ?_) (fun c2 => ?_)
    · replace h := h.1 c2
      refine j_aload_n 1 dX2_lift_100 rfl ?_
      refine j_iload 0 dX2_lift_101 rfl ?_
      refine j_callvV (Yc := Y_X2_send) (as := [aI z2]) (rest := []) dX2_lift_103 q_X2_69 ⟨Nat.le_of_ble_eq_true rfl, Nat.le_of_ble_eq_true rfl, Nat.le_of_ble_eq_true rfl, Nat.le_of_ble_eq_true rfl⟩ sh_40 rfl (Nat.le_of_ble_eq_true rfl) rfl (tv_mono h (fun u3 h => ?_))
      obtain ⟨o3, h⟩ := h
      refine j_iinc (ll' := [(2, aI (x2 + 1)), (4, aI z2), (0, aR 40), (3, aI x3)]) 2 dX2_lift_106 rfl (Nat.le_of_ble_eq_true rfl) o3 rfl ?_
      obtain ⟨o4, h⟩ := h
      refine j_iinc (ll' := [(3, aI (x3 + 1)), (2, aI (x2 + 1)), (4, aI z2), (0, aR 40)]) 3 dX2_lift_109 rfl (Nat.le_of_ble_eq_true rfl) o4 rfl ?_
      refine j_goto (tgt := 74) dX2_lift_112 (by decide) ?_
      refine j_sub [3, 1, 0] rfl ?_
      exact h
    · replace h := h.2 c2
      refine j_goto (tgt := 115) dX2_lift_97 (by decide) ?_
      refine j_iload_n 2 dX2_lift_115 rfl ?_
      exact j_iret dX2_lift_116 rfl ⟨Nat.le_of_ble_eq_true rfl, Nat.le_of_ble_eq_true rfl⟩ (fun _ => h)
set_option maxRecDepth 100000 in
set_option maxHeartbeats 4000000 in
theorem B_X2_seenPlaces_0 {post : Int → ax_M → Prop} {M : ax_M} (h : ax_J Y_X2_seenPlaces (ax_Ki Y_X2_seenPlaces SH post) 0 0 4 [(0, aR 40), (1, aI 0), (2, aI 0)] [] SH M) : ax_J Y_X2_seenPlaces (ax_Ki Y_X2_seenPlaces SH post) 0 0 0 [(0, aR 40)] [] SH M := by
  refine j_iconst (x := 0) dX2_seenPlaces_0 rfl (i32_c rfl) ?_
  refine j_istore_n (ll' := [(1, aI 0), (0, aR 40)]) dX2_seenPlaces_1 (Nat.le_of_ble_eq_true rfl) rfl ?_
  refine j_iconst (x := 0) dX2_seenPlaces_2 rfl (i32_c rfl) ?_
  refine j_istore_n (ll' := [(2, aI 0), (1, aI 0), (0, aR 40)]) dX2_seenPlaces_3 (Nat.le_of_ble_eq_true rfl) rfl ?_
  refine j_sub [2, 1, 0] rfl ?_
  exact h
theorem E_X2_seenPlaces {post : Int → ax_M → Prop} {M : ax_M} (h : ax_mr SH M → ax_J Y_X2_seenPlaces (ax_Ki Y_X2_seenPlaces SH post) 0 0 4 [(0, aR 40), (1, aI 0), (2, aI 0)] [] SH M) : ax_Ti Y_X2_seenPlaces [aR 40] SH M post :=
  ti_of rfl (Nat.le_of_ble_eq_true rfl) rfl (fun q => B_X2_seenPlaces_0 (h q))
set_option maxRecDepth 100000 in
set_option maxHeartbeats 4000000 in
theorem B_X2_seenPlaces_4 {post : Int → ax_M → Prop} {M : ax_M} {x1 x2 : Int} (h : ((((M 40 10) ≤ x2) → post x1 M) ∧ ((x2 < (M 40 10)) → (0 ≤ x2 ∧ x2 < 732) ∧ (0 ≤ (M 48 x2)) ∧ (-2147483648 ≤ (x2 + 1) ∧ (x2 + 1) ≤ 2147483647) ∧ ax_J Y_X2_seenPlaces (ax_Ki Y_X2_seenPlaces SH post) 0 0 4 [(0, aR 40), (1, aI (bo_or x1 (bo_shl 1 ((M 48 x2) / 61)))), (2, aI (x2 + 1))] [] SH M))) : ax_J Y_X2_seenPlaces (ax_Ki Y_X2_seenPlaces SH post) 0 0 4 [(0, aR 40), (1, aI x1), (2, aI x2)] [] SH M := by
  refine j_iload_n 2 dX2_seenPlaces_4 rfl ?_
  refine j_aload_n 0 dX2_seenPlaces_5 rfl ?_
  refine j_geti (i := 10) dX2_seenPlaces_6 f_X2_90 sh_40 rfl rfl (fun _ => ?_)
  refine j_icmp_ge (tgt := 32) dX2_seenPlaces_9 (by decide) (fun c1 => ?_) (fun c1 => ?_)
  · replace h := h.1 c1
    refine j_iload_n 1 dX2_seenPlaces_32 rfl ?_
    exact j_iret dX2_seenPlaces_33 rfl ⟨Nat.le_of_ble_eq_true rfl, Nat.le_of_ble_eq_true rfl⟩ (fun _ => h)
  · replace h := h.2 c1
    refine j_iload_n 1 dX2_seenPlaces_12 rfl ?_
    refine j_iconst (x := 1) dX2_seenPlaces_13 rfl (i32_c rfl) ?_
    refine j_aload_n 0 dX2_seenPlaces_14 rfl ?_
    refine j_getc 48 dX2_seenPlaces_15 f_X2_33 sh_40 rfl ?_
    refine j_iload_n 2 dX2_seenPlaces_18 rfl ?_
    obtain ⟨o2, h⟩ := h
    refine j_iald dX2_seenPlaces_19 sh_48 o2.1 o2.2 (fun _ => ?_)
    refine j_bipush (x := 61) dX2_seenPlaces_20 rfl (i32_c rfl) ?_
    obtain ⟨o3, h⟩ := h
    refine j_idiv (z := ((M 48 x2) / 61)) dX2_seenPlaces_22 rfl o3 (by decide) ?_
    refine j_ishl (z := (bo_shl 1 ((M 48 x2) / 61))) dX2_seenPlaces_23 rfl ?_
    refine j_ior (z := (bo_or x1 (bo_shl 1 ((M 48 x2) / 61)))) dX2_seenPlaces_24 rfl ?_
    refine j_istore_n (ll' := [(1, aI (bo_or x1 (bo_shl 1 ((M 48 x2) / 61)))), (0, aR 40), (2, aI x2)]) dX2_seenPlaces_25 (Nat.le_of_ble_eq_true rfl) rfl ?_
    obtain ⟨o4, h⟩ := h
    refine j_iinc (ll' := [(2, aI (x2 + 1)), (1, aI (bo_or x1 (bo_shl 1 ((M 48 x2) / 61)))), (0, aR 40)]) 2 dX2_seenPlaces_26 rfl (Nat.le_of_ble_eq_true rfl) o4 rfl ?_
    refine j_goto (tgt := 4) dX2_seenPlaces_29 (by decide) ?_
    refine j_sub [2, 1, 0] rfl ?_
    exact h
set_option maxRecDepth 100000 in
set_option maxHeartbeats 4000000 in
theorem B_X1_upFrom_0 {post : Int → ax_M → Prop} {M : ax_M} {x1 x2 : Int} (h : ax_Tv Y_X1_lineUp [aR 49, aI x1, aI 0] SH (ax_up M 49 4 0) (fun u1 => ax_Tv Y_X1_lineUp [aR 49, aI x1, aI 1] SH u1 (fun u2 => ax_J Y_X1_upFrom (ax_Ki Y_X1_upFrom SH post) 0 0 25 [(0, aR 49), (1, aI x1), (2, aI x2), (3, aI 0), (4, aI 0), (5, aI 0)] [] SH u2))) : ax_J Y_X1_upFrom (ax_Ki Y_X1_upFrom SH post) 0 0 0 [(0, aR 49), (1, aI x1), (2, aI x2)] [] SH M := by
  refine j_aload_n 0 dX1_upFrom_0 rfl ?_
  refine j_iconst (x := 0) dX1_upFrom_1 rfl (i32_c rfl) ?_
  refine j_puti (i := 4) dX1_upFrom_2 p_X1_51 (fun h => by cases h) sh_49 rfl rfl ?_
  refine j_aload_n 0 dX1_upFrom_5 rfl ?_
  refine j_iload_n 1 dX1_upFrom_6 rfl ?_
  refine j_iconst (x := 0) dX1_upFrom_7 rfl (i32_c rfl) ?_
  refine j_callvV (Yc := Y_X1_lineUp) (as := [aI x1, aI 0]) (rest := []) dX1_upFrom_8 q_X1_54 ⟨Nat.le_of_ble_eq_true rfl, Nat.le_of_ble_eq_true rfl, Nat.le_of_ble_eq_true rfl, Nat.le_of_ble_eq_true rfl⟩ sh_49 rfl (Nat.le_of_ble_eq_true rfl) rfl (tv_mono h (fun u1 h => ?_))
  refine j_aload_n 0 dX1_upFrom_11 rfl ?_
  refine j_iload_n 1 dX1_upFrom_12 rfl ?_
  refine j_iconst (x := 1) dX1_upFrom_13 rfl (i32_c rfl) ?_
  refine j_callvV (Yc := Y_X1_lineUp) (as := [aI x1, aI 1]) (rest := []) dX1_upFrom_14 q_X1_54 ⟨Nat.le_of_ble_eq_true rfl, Nat.le_of_ble_eq_true rfl, Nat.le_of_ble_eq_true rfl, Nat.le_of_ble_eq_true rfl⟩ sh_49 rfl (Nat.le_of_ble_eq_true rfl) rfl (tv_mono h (fun u2 h => ?_))
  refine j_iconst (x := 0) dX1_upFrom_17 rfl (i32_c rfl) ?_
  refine j_istore_n (ll' := [(3, aI 0), (0, aR 49), (1, aI x1), (2, aI x2)]) dX1_upFrom_18 (Nat.le_of_ble_eq_true rfl) rfl ?_
  refine j_iconst (x := 0) dX1_upFrom_19 rfl (i32_c rfl) ?_
  refine j_istore (ll' := [(4, aI 0), (3, aI 0), (0, aR 49), (1, aI x1), (2, aI x2)]) dX1_upFrom_20 (Nat.le_of_ble_eq_true rfl) rfl ?_
  refine j_iconst (x := 0) dX1_upFrom_22 rfl (i32_c rfl) ?_
  refine j_istore (ll' := [(5, aI 0), (4, aI 0), (3, aI 0), (0, aR 49), (1, aI x1), (2, aI x2)]) dX1_upFrom_23 (Nat.le_of_ble_eq_true rfl) rfl ?_
  refine j_sub [3, 4, 5, 2, 1, 0] rfl ?_
  exact h
theorem E_X1_upFrom {post : Int → ax_M → Prop} {M : ax_M} {x1 x2 : Int} (h : ax_mr SH M → ax_Tv Y_X1_lineUp [aR 49, aI x1, aI 0] SH (ax_up M 49 4 0) (fun u1 => ax_Tv Y_X1_lineUp [aR 49, aI x1, aI 1] SH u1 (fun u2 => ax_J Y_X1_upFrom (ax_Ki Y_X1_upFrom SH post) 0 0 25 [(0, aR 49), (1, aI x1), (2, aI x2), (3, aI 0), (4, aI 0), (5, aI 0)] [] SH u2))) : ax_Ti Y_X1_upFrom [aR 49, aI x1, aI x2] SH M post :=
  ti_of rfl (Nat.le_of_ble_eq_true rfl) rfl (fun q => B_X1_upFrom_0 (h q))
set_option maxRecDepth 100000 in
set_option maxHeartbeats 4000000 in
theorem B_X1_upFrom_25 {post : Int → ax_M → Prop} {M : ax_M} {x1 x2 x3 x4 x5 : Int} (h : ((((M 8 1) ≤ x5) → ax_J Y_X1_upFrom (ax_Ki Y_X1_upFrom SH post) 0 0 141 [(0, aR 49), (1, aI x1), (4, aI x4), (5, aI x3)] [] SH M) ∧ ((x5 < (M 8 1)) → (((x5 = (M 49 5)) → (-2147483648 ≤ (x5 + 1) ∧ (x5 + 1) ≤ 2147483647) ∧ ax_J Y_X1_upFrom (ax_Ki Y_X1_upFrom SH post) 0 0 25 [(0, aR 49), (1, aI x1), (2, aI x2), (3, aI x3), (4, aI x4), (5, aI (x5 + 1))] [] SH M) ∧ ((¬ x5 = (M 49 5)) → (0 ≤ x5 ∧ x5 < 4) ∧ (((¬ (M 12 x5) = x1) → (-2147483648 ≤ (x5 + 1) ∧ (x5 + 1) ≤ 2147483647) ∧ ax_J Y_X1_upFrom (ax_Ki Y_X1_upFrom SH post) 0 0 25 [(0, aR 49), (1, aI x1), (2, aI x2), (3, aI x3), (4, aI x4), (5, aI (x5 + 1))] [] SH M) ∧ (((M 12 x5) = x1) → (((x3 < (M 49 4)) → (-2147483648 ≤ (x3 + 1) ∧ (x3 + 1) ≤ 2147483647) ∧ (-2147483648 ≤ ((x3 + 1) + x2) ∧ ((x3 + 1) + x2) ≤ 2147483647) ∧ (-2147483648 ≤ ((min (M 49 4) ((x3 + 1) + x2)) - 1) ∧ ((min (M 49 4) ((x3 + 1) + x2)) - 1) ≤ 2147483647) ∧ (0 ≤ ((min (M 49 4) ((x3 + 1) + x2)) - 1) ∧ ((min (M 49 4) ((x3 + 1) + x2)) - 1) < 8) ∧ (0 ≤ (M 50 ((min (M 49 4) ((x3 + 1) + x2)) - 1)) ∧ (M 50 ((min (M 49 4) ((x3 + 1) + x2)) - 1)) < 8) ∧ ax_Ti Y_X1_comesUp [aR 49, aI x1, aI (M 13 x5), aI (M 11 (M 50 ((min (M 49 4) ((x3 + 1) + x2)) - 1)))] SH M (fun z2 u1 => (((z2 = 0) → (-2147483648 ≤ (x5 + 1) ∧ (x5 + 1) ≤ 2147483647) ∧ ax_J Y_X1_upFrom (ax_Ki Y_X1_upFrom SH post) 0 0 25 [(0, aR 49), (1, aI x1), (2, aI x2), (3, aI (min (M 49 4) ((x3 + 1) + x2))), (4, aI x4), (5, aI (x5 + 1))] [] SH u1) ∧ ((¬ z2 = 0) → (-2147483648 ≤ ((min (M 49 4) ((x3 + 1) + x2)) - x3) ∧ ((min (M 49 4) ((x3 + 1) + x2)) - x3) ≤ 2147483647) ∧ (-2147483648 ≤ (x4 + ((min (M 49 4) ((x3 + 1) + x2)) - x3)) ∧ (x4 + ((min (M 49 4) ((x3 + 1) + x2)) - x3)) ≤ 2147483647) ∧ (-2147483648 ≤ (x5 + 1) ∧ (x5 + 1) ≤ 2147483647) ∧ ax_J Y_X1_upFrom (ax_Ki Y_X1_upFrom SH post) 0 0 25 [(0, aR 49), (1, aI x1), (2, aI x2), (3, aI (min (M 49 4) ((x3 + 1) + x2))), (4, aI (x4 + ((min (M 49 4) ((x3 + 1) + x2)) - x3))), (5, aI (x5 + 1))] [] SH u1)))) ∧ (((M 49 4) ≤ x3) → (-2147483648 ≤ (x5 + 1) ∧ (x5 + 1) ≤ 2147483647) ∧ ax_J Y_X1_upFrom (ax_Ki Y_X1_upFrom SH post) 0 0 25 [(0, aR 49), (1, aI x1), (2, aI x2), (3, aI x3), (4, aI x4), (5, aI (x5 + 1))] [] SH M))))))))) : ax_J Y_X1_upFrom (ax_Ki Y_X1_upFrom SH post) 0 0 25 [(0, aR 49), (1, aI x1), (2, aI x2), (3, aI x3), (4, aI x4), (5, aI x5)] [] SH M := by
  refine j_iload 5 dX1_upFrom_25 rfl ?_
  refine j_aload_n 0 dX1_upFrom_27 rfl ?_
  refine j_getc 8 dX1_upFrom_28 f_X1_29 sh_49 rfl ?_
  refine j_geti (i := 1) dX1_upFrom_31 f_X1_58 sh_8 rfl rfl (fun _ => ?_)
  refine j_icmp_ge (tgt := 138) dX1_upFrom_34 (by decide) (fun c1 => ?_) (fun c1 => ?_)
  · replace h := h.1 c1
    refine j_iload_n 3 dX1_upFrom_138 rfl ?_
    refine j_istore (ll' := [(5, aI x3), (0, aR 49), (1, aI x1), (2, aI x2), (3, aI x3), (4, aI x4)]) dX1_upFrom_139 (Nat.le_of_ble_eq_true rfl) rfl ?_
    refine j_sub [1, 2, 5, 0] rfl ?_
    exact h
  · replace h := h.2 c1
    refine j_iload 5 dX1_upFrom_37 rfl ?_
    refine j_aload_n 0 dX1_upFrom_39 rfl ?_
    refine j_geti (i := 5) dX1_upFrom_40 f_X1_15 sh_49 rfl rfl (fun _ => ?_)
    refine j_icmp_eq (tgt := 132) dX1_upFrom_43 (by decide) (fun c2 => ?_) (fun c2 => ?_)
    · replace h := h.1 c2
      obtain ⟨o3, h⟩ := h
      refine j_iinc (ll' := [(5, aI (x5 + 1)), (0, aR 49), (1, aI x1), (2, aI x2), (3, aI x3), (4, aI x4)]) 5 dX1_upFrom_132 rfl (Nat.le_of_ble_eq_true rfl) o3 rfl ?_
      refine j_goto (tgt := 25) dX1_upFrom_135 (by decide) ?_
      refine j_sub [1, 2, 3, 4, 5, 0] rfl ?_
      exact h
    · replace h := h.2 c2
      refine j_aload_n 0 dX1_upFrom_46 rfl ?_
      refine j_getc 8 dX1_upFrom_47 f_X1_29 sh_49 rfl ?_
      refine j_getc 12 dX1_upFrom_50 f_X1_61 sh_8 rfl ?_
      refine j_iload 5 dX1_upFrom_53 rfl ?_
      obtain ⟨o4, h⟩ := h
      refine j_iald dX1_upFrom_55 sh_12 o4.1 o4.2 (fun _ => ?_)
      refine j_iload_n 1 dX1_upFrom_56 rfl ?_
      refine j_icmp_ne (tgt := 132) dX1_upFrom_57 (by decide) (fun c5 => ?_) (fun c5 => ?_)
      · replace h := h.1 c5
        obtain ⟨o6, h⟩ := h
        refine j_iinc (ll' := [(5, aI (x5 + 1)), (0, aR 49), (1, aI x1), (2, aI x2), (3, aI x3), (4, aI x4)]) 5 dX1_upFrom_132 rfl (Nat.le_of_ble_eq_true rfl) o6 rfl ?_
        refine j_goto (tgt := 25) dX1_upFrom_135 (by decide) ?_
        refine j_sub [1, 2, 3, 4, 5, 0] rfl ?_
        exact h
      · replace h := h.2 c5
        refine j_iload_n 3 dX1_upFrom_60 rfl ?_
        refine j_aload_n 0 dX1_upFrom_61 rfl ?_
        refine j_geti (i := 4) dX1_upFrom_62 f_X1_51 sh_49 rfl rfl (fun _ => ?_)
        refine j_icmp_lt (tgt := 71) dX1_upFrom_65 (by decide) (fun c7 => ?_) (fun c7 => ?_)
        · replace h := h.1 c7
          refine j_aload_n 0 dX1_upFrom_71 rfl ?_
          refine j_geti (i := 4) dX1_upFrom_72 f_X1_51 sh_49 rfl rfl (fun _ => ?_)
          refine j_iload_n 3 dX1_upFrom_75 rfl ?_
          refine j_iconst (x := 1) dX1_upFrom_76 rfl (i32_c rfl) ?_
          obtain ⟨o8, h⟩ := h
          refine j_iadd (z := (x3 + 1)) dX1_upFrom_77 rfl o8 ?_
          refine j_iload_n 2 dX1_upFrom_78 rfl ?_
          obtain ⟨o9, h⟩ := h
          refine j_iadd (z := ((x3 + 1) + x2)) dX1_upFrom_79 rfl o9 ?_
          refine j_mmin dX1_upFrom_80 (ax_in 894 (by decide +kernel) rfl) ⟨Nat.le_of_ble_eq_true rfl, Nat.le_of_ble_eq_true rfl⟩ (Nat.le_of_ble_eq_true rfl) (Nat.le_of_ble_eq_true rfl) ?_
          refine j_istore (ll' := [(6, aI (min (M 49 4) ((x3 + 1) + x2))), (0, aR 49), (1, aI x1), (2, aI x2), (3, aI x3), (4, aI x4), (5, aI x5)]) dX1_upFrom_83 (Nat.le_of_ble_eq_true rfl) rfl ?_
          refine j_aload_n 1 dX1_upFrom_85 rfl ?_
          refine j_iload_n 2 dX1_upFrom_86 rfl ?_
          refine j_aload_n 1 dX1_upFrom_87 rfl ?_
          refine j_getc 8 dX1_upFrom_88 f_X1_29 sh_49 rfl ?_
          refine j_getc 13 dX1_upFrom_91 f_X1_37 sh_8 rfl ?_
          refine j_iload 6 dX1_upFrom_94 rfl ?_
          refine j_iald dX1_upFrom_96 sh_13 o4.1 o4.2 (fun _ => ?_)
          refine j_aload_n 1 dX1_upFrom_97 rfl ?_
          refine j_getc 8 dX1_upFrom_98 f_X1_29 sh_49 rfl ?_
          refine j_getc 11 dX1_upFrom_101 f_X1_69 sh_8 rfl ?_
          refine j_aload_n 1 dX1_upFrom_104 rfl ?_
          refine j_getc 50 dX1_upFrom_105 f_X1_9 sh_49 rfl ?_
          refine j_iload 0 dX1_upFrom_108 rfl ?_
          refine j_iconst (x := 1) dX1_upFrom_110 rfl (i32_c rfl) ?_
          obtain ⟨o10, h⟩ := h
          refine j_isub (z := ((min (M 49 4) ((x3 + 1) + x2)) - 1)) dX1_upFrom_111 rfl o10 ?_
          obtain ⟨o11, h⟩ := h
          refine j_iald dX1_upFrom_112 sh_50 o11.1 o11.2 (fun _ => ?_)
          obtain ⟨o12, h⟩ := h
          refine j_zald dX1_upFrom_113 sh_11 o12.1 o12.2 (fun _ => ?_)
          refine j_calliV (Yc := Y_X1_comesUp) (as := [aI x1, aI (M 13 x5), aI (M 11 (M 50 ((min (M 49 4) ((x3 + 1) + x2)) - 1)))]) (rest := []) dX1_upFrom_114 q_X1_73 ⟨Nat.le_of_ble_eq_true rfl, Nat.le_of_ble_eq_true rfl, Nat.le_of_ble_eq_true rfl, Nat.le_of_ble_eq_true rfl⟩ sh_49 rfl (Nat.le_of_ble_eq_true rfl) rfl (ti_mono h (fun z2 u1 h => ?_))
          refine j_if_eq (tgt := 129) dX1_upFrom_117 (by decide) (fun c13 => ?_) (fun c13 => ?_)
          · replace h := h.1 c13
            refine j_iload 0 dX1_upFrom_129 rfl ?_
            refine j_istore_n (ll' := [(3, aI (min (M 49 4) ((x3 + 1) + x2))), (6, aI (min (M 49 4) ((x3 + 1) + x2))), (0, aR 49), (1, aI x1), (2, aI x2), (4, aI x4), (5, aI x5)]) dX1_upFrom_131 (Nat.le_of_ble_eq_true rfl) rfl ?_
            obtain ⟨o14, h⟩ := h
            refine j_iinc (ll' := [(5, aI (x5 + 1)), (3, aI (min (M 49 4) ((x3 + 1) + x2))), (6, aI (min (M 49 4) ((x3 + 1) + x2))), (0, aR 49), (1, aI x1), (2, aI x2), (4, aI x4)]) 6 dX1_upFrom_132 rfl (Nat.le_of_ble_eq_true rfl) o14 rfl ?_
            refine j_goto (tgt := 25) dX1_upFrom_135 (by decide) ?_
            refine j_sub [3, 4, 5, 1, 6, 0] rfl ?_
            exact h
          · replace h := h.2 c13
            refine j_iload 5 dX1_upFrom_120 rfl ?_
            refine j_iload 0 dX1_upFrom_122 rfl ?_
            refine j_iload_n 4 dX1_upFrom_124 rfl ?_
            obtain ⟨o15, h⟩ := h
            refine j_isub (z := ((min (M 49 4) ((x3 + 1) + x2)) - x3)) dX1_upFrom_125 rfl o15 ?_
            obtain ⟨o16, h⟩ := h
            refine j_iadd (z := (x4 + ((min (M 49 4) ((x3 + 1) + x2)) - x3))) dX1_upFrom_126 rfl o16 ?_
            refine j_istore (ll' := [(4, aI (x4 + ((min (M 49 4) ((x3 + 1) + x2)) - x3))), (6, aI (min (M 49 4) ((x3 + 1) + x2))), (0, aR 49), (1, aI x1), (2, aI x2), (3, aI x3), (5, aI x5)]) dX1_upFrom_127 (Nat.le_of_ble_eq_true rfl) rfl ?_
            refine j_iload 1 dX1_upFrom_129 rfl ?_
            refine j_istore_n (ll' := [(3, aI (min (M 49 4) ((x3 + 1) + x2))), (4, aI (x4 + ((min (M 49 4) ((x3 + 1) + x2)) - x3))), (6, aI (min (M 49 4) ((x3 + 1) + x2))), (0, aR 49), (1, aI x1), (2, aI x2), (5, aI x5)]) dX1_upFrom_131 (Nat.le_of_ble_eq_true rfl) rfl ?_
            obtain ⟨o17, h⟩ := h
            refine j_iinc (ll' := [(5, aI (x5 + 1)), (3, aI (min (M 49 4) ((x3 + 1) + x2))), (4, aI (x4 + ((min (M 49 4) ((x3 + 1) + x2)) - x3))), (6, aI (min (M 49 4) ((x3 + 1) + x2))), (0, aR 49), (1, aI x1), (2, aI x2)]) 6 dX1_upFrom_132 rfl (Nat.le_of_ble_eq_true rfl) o17 rfl ?_
            refine j_goto (tgt := 25) dX1_upFrom_135 (by decide) ?_
            refine j_sub [4, 5, 6, 1, 2, 0] rfl ?_
            exact h
        · replace h := h.2 c7
          refine j_goto (tgt := 132) dX1_upFrom_68 (by decide) ?_
          obtain ⟨o18, h⟩ := h
          refine j_iinc (ll' := [(5, aI (x5 + 1)), (0, aR 49), (1, aI x1), (2, aI x2), (3, aI x3), (4, aI x4)]) 5 dX1_upFrom_132 rfl (Nat.le_of_ble_eq_true rfl) o18 rfl ?_
          refine j_goto (tgt := 25) dX1_upFrom_135 (by decide) ?_
          refine j_sub [1, 2, 3, 4, 5, 0] rfl ?_
          exact h
set_option maxRecDepth 100000 in
set_option maxHeartbeats 4000000 in
theorem B_X1_upFrom_141 {post : Int → ax_M → Prop} {M : ax_M} {x1 x4 x5 : Int} (h : ((((M 49 4) ≤ x5) → post x4 M) ∧ ((x5 < (M 49 4)) → (0 ≤ x5 ∧ x5 < 8) ∧ (0 ≤ (M 50 x5) ∧ (M 50 x5) < 8) ∧ ax_Ti Y_X1_comesUp [aR 49, aI x1, aI (-1), aI (M 11 (M 50 x5))] SH M (fun z2 u1 => (((z2 = 0) → (-2147483648 ≤ (x4 + 0) ∧ (x4 + 0) ≤ 2147483647) ∧ (-2147483648 ≤ (x5 + 1) ∧ (x5 + 1) ≤ 2147483647) ∧ ax_J Y_X1_upFrom (ax_Ki Y_X1_upFrom SH post) 0 0 141 [(0, aR 49), (1, aI x1), (4, aI (x4 + 0)), (5, aI (x5 + 1))] [] SH u1) ∧ ((¬ z2 = 0) → (-2147483648 ≤ (x4 + 1) ∧ (x4 + 1) ≤ 2147483647) ∧ (-2147483648 ≤ (x5 + 1) ∧ (x5 + 1) ≤ 2147483647) ∧ ax_J Y_X1_upFrom (ax_Ki Y_X1_upFrom SH post) 0 0 141 [(0, aR 49), (1, aI x1), (4, aI (x4 + 1)), (5, aI (x5 + 1))] [] SH u1)))))) : ax_J Y_X1_upFrom (ax_Ki Y_X1_upFrom SH post) 0 0 141 [(0, aR 49), (1, aI x1), (4, aI x4), (5, aI x5)] [] SH M := by
  refine j_iload 3 dX1_upFrom_141 rfl ?_
  refine j_aload_n 0 dX1_upFrom_143 rfl ?_
  refine j_geti (i := 4) dX1_upFrom_144 f_X1_51 sh_49 rfl rfl (fun _ => ?_)
  refine j_icmp_ge (tgt := 185) dX1_upFrom_147 (by decide) (fun c1 => ?_) (fun c1 => ?_)
  · replace h := h.1 c1
    refine j_iload 2 dX1_upFrom_185 rfl ?_
    exact j_iret dX1_upFrom_187 rfl ⟨Nat.le_of_ble_eq_true rfl, Nat.le_of_ble_eq_true rfl⟩ (fun _ => h)
  · replace h := h.2 c1
    refine j_iload 2 dX1_upFrom_150 rfl ?_
    refine j_aload_n 0 dX1_upFrom_152 rfl ?_
    refine j_iload_n 1 dX1_upFrom_153 rfl ?_
    refine j_iconst (x := (-1)) dX1_upFrom_154 rfl (i32_c rfl) ?_
    refine j_aload_n 0 dX1_upFrom_155 rfl ?_
    refine j_getc 8 dX1_upFrom_156 f_X1_29 sh_49 rfl ?_
    refine j_getc 11 dX1_upFrom_159 f_X1_69 sh_8 rfl ?_
    refine j_aload_n 0 dX1_upFrom_162 rfl ?_
    refine j_getc 50 dX1_upFrom_163 f_X1_9 sh_49 rfl ?_
    refine j_iload 3 dX1_upFrom_166 rfl ?_
    obtain ⟨o2, h⟩ := h
    refine j_iald dX1_upFrom_168 sh_50 o2.1 o2.2 (fun _ => ?_)
    obtain ⟨o3, h⟩ := h
    refine j_zald dX1_upFrom_169 sh_11 o3.1 o3.2 (fun _ => ?_)
    refine j_calliV (Yc := Y_X1_comesUp) (as := [aI x1, aI (-1), aI (M 11 (M 50 x5))]) (rest := [aI x4]) dX1_upFrom_170 q_X1_73 ⟨Nat.le_of_ble_eq_true rfl, Nat.le_of_ble_eq_true rfl, Nat.le_of_ble_eq_true rfl, Nat.le_of_ble_eq_true rfl⟩ sh_49 rfl (Nat.le_of_ble_eq_true rfl) rfl (ti_mono h (fun z2 u1 h => ?_))
    refine j_calliS (Yc := Y_X10_bit) (as := [aI z2]) (rest := [aI x4]) dX1_upFrom_173 q_X1_77 ⟨Nat.le_of_ble_eq_true rfl, Nat.le_of_ble_eq_true rfl, Nat.le_of_ble_eq_true rfl, Nat.le_of_ble_eq_true rfl⟩ rfl (Nat.le_of_ble_eq_true rfl) rfl (ti_of (ll := [(0, aI z2)]) rfl (Nat.le_of_ble_eq_true rfl) rfl (fun _ => ?_))
    refine j_iload_n 0 dX10_bit_0 rfl ?_
    refine j_if_eq (tgt := 8) dX10_bit_1 (by decide) (fun c4 => ?_) (fun c4 => ?_)
    · replace h := h.1 c4
      refine j_iconst (x := 0) dX10_bit_8 rfl (i32_c rfl) ?_
      refine j_iret dX10_bit_9 rfl ⟨Nat.le_of_ble_eq_true rfl, Nat.le_of_ble_eq_true rfl⟩ (fun _ => ?_)
      obtain ⟨o5, h⟩ := h
      refine j_iadd (z := (x4 + 0)) dX1_upFrom_176 rfl o5 ?_
      refine j_istore (ll' := [(4, aI (x4 + 0)), (0, aR 49), (1, aI x1), (5, aI x5)]) dX1_upFrom_177 (Nat.le_of_ble_eq_true rfl) rfl ?_
      obtain ⟨o6, h⟩ := h
      refine j_iinc (ll' := [(5, aI (x5 + 1)), (4, aI (x4 + 0)), (0, aR 49), (1, aI x1)]) 3 dX1_upFrom_179 rfl (Nat.le_of_ble_eq_true rfl) o6 rfl ?_
      refine j_goto (tgt := 141) dX1_upFrom_182 (by decide) ?_
      refine j_sub [2, 3, 1, 0] rfl ?_
      exact h
    · replace h := h.2 c4
      refine j_iconst (x := 1) dX10_bit_4 rfl (i32_c rfl) ?_
      refine j_goto (tgt := 9) dX10_bit_5 (by decide) ?_
      refine j_iret dX10_bit_9 rfl ⟨Nat.le_of_ble_eq_true rfl, Nat.le_of_ble_eq_true rfl⟩ (fun _ => ?_)
      obtain ⟨o7, h⟩ := h
      refine j_iadd (z := (x4 + 1)) dX1_upFrom_176 rfl o7 ?_
      refine j_istore (ll' := [(4, aI (x4 + 1)), (0, aR 49), (1, aI x1), (5, aI x5)]) dX1_upFrom_177 (Nat.le_of_ble_eq_true rfl) rfl ?_
      obtain ⟨o8, h⟩ := h
      refine j_iinc (ll' := [(5, aI (x5 + 1)), (4, aI (x4 + 1)), (0, aR 49), (1, aI x1)]) 3 dX1_upFrom_179 rfl (Nat.le_of_ble_eq_true rfl) o8 rfl ?_
      refine j_goto (tgt := 141) dX1_upFrom_182 (by decide) ?_
      refine j_sub [2, 3, 1, 0] rfl ?_
      exact h
set_option maxRecDepth 100000 in
set_option maxHeartbeats 4000000 in
theorem B_X1_upFromAll_0 {post : Int → ax_M → Prop} {M : ax_M} {x1 : Int} (h : ax_J Y_X1_upFromAll (ax_Ki Y_X1_upFromAll SH post) 0 0 4 [(0, aR 49), (1, aI x1), (2, aI 0), (3, aI 0)] [] SH M) : ax_J Y_X1_upFromAll (ax_Ki Y_X1_upFromAll SH post) 0 0 0 [(0, aR 49), (1, aI x1)] [] SH M := by
  refine j_iconst (x := 0) dX1_upFromAll_0 rfl (i32_c rfl) ?_
  refine j_istore_n (ll' := [(2, aI 0), (0, aR 49), (1, aI x1)]) dX1_upFromAll_1 (Nat.le_of_ble_eq_true rfl) rfl ?_
  refine j_iconst (x := 0) dX1_upFromAll_2 rfl (i32_c rfl) ?_
  refine j_istore_n (ll' := [(3, aI 0), (2, aI 0), (0, aR 49), (1, aI x1)]) dX1_upFromAll_3 (Nat.le_of_ble_eq_true rfl) rfl ?_
  refine j_sub [2, 3, 1, 0] rfl ?_
  exact h
theorem E_X1_upFromAll {post : Int → ax_M → Prop} {M : ax_M} {x1 : Int} (h : ax_mr SH M → ax_J Y_X1_upFromAll (ax_Ki Y_X1_upFromAll SH post) 0 0 4 [(0, aR 49), (1, aI x1), (2, aI 0), (3, aI 0)] [] SH M) : ax_Ti Y_X1_upFromAll [aR 49, aI x1] SH M post :=
  ti_of rfl (Nat.le_of_ble_eq_true rfl) rfl (fun q => B_X1_upFromAll_0 (h q))
set_option maxRecDepth 100000 in
set_option maxHeartbeats 4000000 in
theorem B_X1_upFromAll_4 {post : Int → ax_M → Prop} {M : ax_M} {x1 x2 x3 : Int} (h : ((((M 6 0) ≤ x3) → post x2 M) ∧ ((x3 < (M 6 0)) → ax_Ti Y_X1_upFrom [aR 49, aI x3, aI x1] SH M (fun z2 u1 => (-2147483648 ≤ (x2 + z2) ∧ (x2 + z2) ≤ 2147483647) ∧ (-2147483648 ≤ (x3 + 1) ∧ (x3 + 1) ≤ 2147483647) ∧ ax_J Y_X1_upFromAll (ax_Ki Y_X1_upFromAll SH post) 0 0 4 [(0, aR 49), (1, aI x1), (2, aI (x2 + z2)), (3, aI (x3 + 1))] [] SH u1)))) : ax_J Y_X1_upFromAll (ax_Ki Y_X1_upFromAll SH post) 0 0 4 [(0, aR 49), (1, aI x1), (2, aI x2), (3, aI x3)] [] SH M := by
  refine j_iload_n 3 dX1_upFromAll_4 rfl ?_
  refine j_aload_n 0 dX1_upFromAll_5 rfl ?_
  refine j_getc 6 dX1_upFromAll_6 f_X1_25 sh_49 rfl ?_
  refine j_geti (i := 0) dX1_upFromAll_9 f_X1_42 sh_6 rfl rfl (fun _ => ?_)
  refine j_icmp_ge (tgt := 30) dX1_upFromAll_12 (by decide) (fun c1 => ?_) (fun c1 => ?_)
  · replace h := h.1 c1
    refine j_iload_n 2 dX1_upFromAll_30 rfl ?_
    exact j_iret dX1_upFromAll_31 rfl ⟨Nat.le_of_ble_eq_true rfl, Nat.le_of_ble_eq_true rfl⟩ (fun _ => h)
  · replace h := h.2 c1
    refine j_iload_n 2 dX1_upFromAll_15 rfl ?_
    refine j_aload_n 0 dX1_upFromAll_16 rfl ?_
    refine j_iload_n 3 dX1_upFromAll_17 rfl ?_
    refine j_iload_n 1 dX1_upFromAll_18 rfl ?_
    refine j_calliV (Yc := Y_X1_upFrom) (as := [aI x3, aI x1]) (rest := [aI x2]) dX1_upFromAll_19 q_X1_47 ⟨Nat.le_of_ble_eq_true rfl, Nat.le_of_ble_eq_true rfl, Nat.le_of_ble_eq_true rfl, Nat.le_of_ble_eq_true rfl⟩ sh_49 rfl (Nat.le_of_ble_eq_true rfl) rfl (ti_mono h (fun z2 u1 h => ?_))
    obtain ⟨o2, h⟩ := h
    refine j_iadd (z := (x2 + z2)) dX1_upFromAll_22 rfl o2 ?_
    refine j_istore_n (ll' := [(2, aI (x2 + z2)), (0, aR 49), (1, aI x1), (3, aI x3)]) dX1_upFromAll_23 (Nat.le_of_ble_eq_true rfl) rfl ?_
    obtain ⟨o3, h⟩ := h
    refine j_iinc (ll' := [(3, aI (x3 + 1)), (2, aI (x2 + z2)), (0, aR 49), (1, aI x1)]) 3 dX1_upFromAll_24 rfl (Nat.le_of_ble_eq_true rfl) o3 rfl ?_
    refine j_goto (tgt := 4) dX1_upFromAll_27 (by decide) ?_
    refine j_sub [2, 3, 1, 0] rfl ?_
    exact h
set_option maxRecDepth 100000 in
set_option maxHeartbeats 4000000 in
theorem B_X1_lend_0 {post : Int → ax_M → Prop} {M : ax_M} {x1 x2 : Int} (h : (0 ≤ x1 ∧ x1 < 4) ∧ ax_Tv Y_X1_lineUp [aR 49, aI (M 12 x1), aI 0] SH (ax_up M 49 4 0) (fun u1 => ax_Tv Y_X1_lineUp [aR 49, aI (u1 12 x1), aI 1] SH u1 (fun u2 => (((¬ (u2 49 4) = 0) → (0 ≤ (u2 50 0) ∧ (u2 50 0) < 8) ∧ ax_Tv Y_X9_prepareMarked [aR 33, aI (u2 13 x1), aI (u2 11 (u2 50 0)), aI (-1), aI (-1)] SH u2 (fun u3 => ax_Tv Y_X9_spread [aR 33, aI (u3 12 x1), aI 0] SH u3 (fun u4 => (0 ≤ x2 ∧ x2 < 12) ∧ (((¬ (u4 38 x2) = (-1)) → (((¬ (u4 11 (u2 50 0)) = 0) → ax_Tv Y_X9_prepareMarked [aR 33, aI (u4 13 x1), aI 1, aI (-1), aI (-1)] SH u4 (fun u5 => ax_Tv Y_X9_spread [aR 33, aI x2, aI (u4 38 x2)] SH u5 (fun u6 => (0 ≤ (u6 6 2) ∧ (u6 6 2) < 12) ∧ post (u6 38 (u6 6 2)) u6))) ∧ (((u4 11 (u2 50 0)) = 0) → ax_Ti Y_X0_someSlowAt [aR 8, aI x2] SH u4 (fun z8 u7 => (((z8 = 0) → ax_Tv Y_X9_prepareMarked [aR 33, aI (u4 13 x1), aI 0, aI (-1), aI (-1)] SH u7 (fun u9 => ax_Tv Y_X9_spread [aR 33, aI x2, aI (u4 38 x2)] SH u9 (fun u10 => (0 ≤ (u10 6 2) ∧ (u10 6 2) < 12) ∧ post (u10 38 (u10 6 2)) u10))) ∧ ((¬ z8 = 0) → ax_Tv Y_X9_prepareMarked [aR 33, aI (u4 13 x1), aI 1, aI (-1), aI (-1)] SH u7 (fun u11 => ax_Tv Y_X9_spread [aR 33, aI x2, aI (u4 38 x2)] SH u11 (fun u12 => (0 ≤ (u12 6 2) ∧ (u12 6 2) < 12) ∧ post (u12 38 (u12 6 2)) u12)))))))) ∧ (((u4 38 x2) = (-1)) → post (-1) u4))))) ∧ (((u2 49 4) = 0) → post (-1) u2))))) : ax_J Y_X1_lend (ax_Ki Y_X1_lend SH post) 0 0 0 [(0, aR 49), (1, aI x1), (2, aI x2)] [] SH M := by
  refine j_aload_n 0 dX1_lend_0 rfl ?_
  refine j_iconst (x := 0) dX1_lend_1 rfl (i32_c rfl) ?_
  refine j_puti (i := 4) dX1_lend_2 p_X1_51 (fun h => by cases h) sh_49 rfl rfl ?_
  refine j_aload_n 0 dX1_lend_5 rfl ?_
  refine j_aload_n 0 dX1_lend_6 rfl ?_
  refine j_getc 8 dX1_lend_7 f_X1_29 sh_49 rfl ?_
  refine j_getc 12 dX1_lend_10 f_X1_61 sh_8 rfl ?_
  refine j_iload_n 1 dX1_lend_13 rfl ?_
  obtain ⟨o1, h⟩ := h
  refine j_iald dX1_lend_14 sh_12 o1.1 o1.2 (fun _ => ?_)
  refine j_iconst (x := 0) dX1_lend_15 rfl (i32_c rfl) ?_
  refine j_callvV (Yc := Y_X1_lineUp) (as := [aI (M 12 x1), aI 0]) (rest := []) dX1_lend_16 q_X1_54 ⟨Nat.le_of_ble_eq_true rfl, Nat.le_of_ble_eq_true rfl, Nat.le_of_ble_eq_true rfl, Nat.le_of_ble_eq_true rfl⟩ sh_49 rfl (Nat.le_of_ble_eq_true rfl) rfl (tv_mono h (fun u1 h => ?_))
  refine j_aload_n 0 dX1_lend_19 rfl ?_
  refine j_aload_n 0 dX1_lend_20 rfl ?_
  refine j_getc 8 dX1_lend_21 f_X1_29 sh_49 rfl ?_
  refine j_getc 12 dX1_lend_24 f_X1_61 sh_8 rfl ?_
  refine j_iload_n 1 dX1_lend_27 rfl ?_
  refine j_iald dX1_lend_28 sh_12 o1.1 o1.2 (fun _ => ?_)
  refine j_iconst (x := 1) dX1_lend_29 rfl (i32_c rfl) ?_
  refine j_callvV (Yc := Y_X1_lineUp) (as := [aI (u1 12 x1), aI 1]) (rest := []) dX1_lend_30 q_X1_54 ⟨Nat.le_of_ble_eq_true rfl, Nat.le_of_ble_eq_true rfl, Nat.le_of_ble_eq_true rfl, Nat.le_of_ble_eq_true rfl⟩ sh_49 rfl (Nat.le_of_ble_eq_true rfl) rfl (tv_mono h (fun u2 h => ?_))
  refine j_aload_n 0 dX1_lend_33 rfl ?_
  refine j_geti (i := 4) dX1_lend_34 f_X1_51 sh_49 rfl rfl (fun _ => ?_)
  refine j_if_ne (tgt := 42) dX1_lend_37 (by decide) (fun c2 => ?_) (fun c2 => ?_)
  · replace h := h.1 c2
    refine j_aload_n 0 dX1_lend_42 rfl ?_
    refine j_getc 50 dX1_lend_43 f_X1_9 sh_49 rfl ?_
    refine j_iconst (x := 0) dX1_lend_46 rfl (i32_c rfl) ?_
    refine j_iald dX1_lend_47 sh_50 (by decide) (by decide) (fun _ => ?_)
    refine j_istore_n (ll' := [(3, aI (u2 50 0)), (0, aR 49), (1, aI x1), (2, aI x2)]) dX1_lend_48 (Nat.le_of_ble_eq_true rfl) rfl ?_
    refine j_aload_n 1 dX1_lend_49 rfl ?_
    refine j_getc 33 dX1_lend_50 f_X1_33 sh_49 rfl ?_
    refine j_aload_n 1 dX1_lend_53 rfl ?_
    refine j_getc 8 dX1_lend_54 f_X1_29 sh_49 rfl ?_
    refine j_getc 13 dX1_lend_57 f_X1_37 sh_8 rfl ?_
    refine j_iload_n 2 dX1_lend_60 rfl ?_
    refine j_iald dX1_lend_61 sh_13 o1.1 o1.2 (fun _ => ?_)
    refine j_aload_n 1 dX1_lend_62 rfl ?_
    refine j_getc 8 dX1_lend_63 f_X1_29 sh_49 rfl ?_
    refine j_getc 11 dX1_lend_66 f_X1_69 sh_8 rfl ?_
    refine j_iload_n 0 dX1_lend_69 rfl ?_
    obtain ⟨o3, h⟩ := h
    refine j_zald dX1_lend_70 sh_11 o3.1 o3.2 (fun _ => ?_)
    refine j_callvV (Yc := Y_X9_prepare) (as := [aI (u2 13 x1), aI (u2 11 (u2 50 0))]) (rest := []) dX1_lend_71 q_X1_106 ⟨Nat.le_of_ble_eq_true rfl, Nat.le_of_ble_eq_true rfl, Nat.le_of_ble_eq_true rfl, Nat.le_of_ble_eq_true rfl⟩ sh_33 rfl (Nat.le_of_ble_eq_true rfl) rfl (tv_of (ll := [(0, aR 33), (1, aI (u2 13 x1)), (2, aI (u2 11 (u2 50 0)))]) rfl (Nat.le_of_ble_eq_true rfl) rfl (fun _ => ?_))
    refine j_aload_n 0 dX9_prepare_0 rfl ?_
    refine j_iload_n 1 dX9_prepare_1 rfl ?_
    refine j_iload_n 2 dX9_prepare_2 rfl ?_
    refine j_iconst (x := (-1)) dX9_prepare_3 rfl (i32_c rfl) ?_
    refine j_iconst (x := (-1)) dX9_prepare_4 rfl (i32_c rfl) ?_
    refine j_callvV (Yc := Y_X9_prepareMarked) (as := [aI (u2 13 x1), aI (u2 11 (u2 50 0)), aI (-1), aI (-1)]) (rest := []) dX9_prepare_5 q_X9_38 ⟨Nat.le_of_ble_eq_true rfl, Nat.le_of_ble_eq_true rfl, Nat.le_of_ble_eq_true rfl, Nat.le_of_ble_eq_true rfl⟩ sh_33 rfl (Nat.le_of_ble_eq_true rfl) rfl (tv_mono h (fun u3 h => ?_))
    refine j_vret dX9_prepare_8 rfl ⟨Nat.le_of_ble_eq_true rfl, Nat.le_of_ble_eq_true rfl⟩ ?_
    refine j_aload_n 1 dX1_lend_74 rfl ?_
    refine j_getc 33 dX1_lend_75 f_X1_33 sh_49 rfl ?_
    refine j_aload_n 1 dX1_lend_78 rfl ?_
    refine j_getc 8 dX1_lend_79 f_X1_29 sh_49 rfl ?_
    refine j_getc 12 dX1_lend_82 f_X1_61 sh_8 rfl ?_
    refine j_iload_n 2 dX1_lend_85 rfl ?_
    refine j_iald dX1_lend_86 sh_12 o1.1 o1.2 (fun _ => ?_)
    refine j_iconst (x := 0) dX1_lend_87 rfl (i32_c rfl) ?_
    refine j_callvV (Yc := Y_X9_spread) (as := [aI (u3 12 x1), aI 0]) (rest := []) dX1_lend_88 q_X1_109 ⟨Nat.le_of_ble_eq_true rfl, Nat.le_of_ble_eq_true rfl, Nat.le_of_ble_eq_true rfl, Nat.le_of_ble_eq_true rfl⟩ sh_33 rfl (Nat.le_of_ble_eq_true rfl) rfl (tv_mono h (fun u4 h => ?_))
    refine j_aload_n 1 dX1_lend_91 rfl ?_
    refine j_getc 33 dX1_lend_92 f_X1_33 sh_49 rfl ?_
    refine j_getc 38 dX1_lend_95 f_X1_112 sh_33 rfl ?_
    refine j_iload_n 3 dX1_lend_98 rfl ?_
    obtain ⟨o4, h⟩ := h
    refine j_iald dX1_lend_99 sh_38 o4.1 o4.2 (fun _ => ?_)
    refine j_istore (ll' := [(4, aI (u4 38 x2)), (3, aI (u2 50 0)), (0, aR 49), (1, aI x1), (2, aI x2)]) dX1_lend_100 (Nat.le_of_ble_eq_true rfl) rfl ?_
    refine j_iload 0 dX1_lend_102 rfl ?_
    refine j_iconst (x := (-1)) dX1_lend_104 rfl (i32_c rfl) ?_
    refine j_icmp_ne (tgt := 110) dX1_lend_105 (by decide) (fun c5 => ?_) (fun c5 => ?_)
    · replace h := h.1 c5
      refine j_aload_n 2 dX1_lend_110 rfl ?_
      refine j_getc 33 dX1_lend_111 f_X1_33 sh_49 rfl ?_
      refine j_aload_n 2 dX1_lend_114 rfl ?_
      refine j_getc 8 dX1_lend_115 f_X1_29 sh_49 rfl ?_
      refine j_getc 13 dX1_lend_118 f_X1_37 sh_8 rfl ?_
      refine j_iload_n 3 dX1_lend_121 rfl ?_
      refine j_iald dX1_lend_122 sh_13 o1.1 o1.2 (fun _ => ?_)
      refine j_aload_n 2 dX1_lend_123 rfl ?_
      refine j_getc 8 dX1_lend_124 f_X1_29 sh_49 rfl ?_
      refine j_getc 11 dX1_lend_127 f_X1_69 sh_8 rfl ?_
      refine j_iload_n 1 dX1_lend_130 rfl ?_
      refine j_zald dX1_lend_131 sh_11 o3.1 o3.2 (fun _ => ?_)
      refine j_if_ne (tgt := 146) dX1_lend_132 (by decide) (fun c6 => ?_) (fun c6 => ?_)
      · replace h := h.1 c6
        refine j_iconst (x := 1) dX1_lend_146 rfl (i32_c rfl) ?_
        refine j_goto (tgt := 151) dX1_lend_147 (by decide) ?_
        refine j_callvV (Yc := Y_X9_prepare) (as := [aI (u4 13 x1), aI 1]) (rest := []) dX1_lend_151 q_X1_106 ⟨Nat.le_of_ble_eq_true rfl, Nat.le_of_ble_eq_true rfl, Nat.le_of_ble_eq_true rfl, Nat.le_of_ble_eq_true rfl⟩ sh_33 rfl (Nat.le_of_ble_eq_true rfl) rfl (tv_of (ll := [(0, aR 33), (1, aI (u4 13 x1)), (2, aI 1)]) rfl (Nat.le_of_ble_eq_true rfl) rfl (fun _ => ?_))
        refine j_aload_n 0 dX9_prepare_0 rfl ?_
        refine j_iload_n 1 dX9_prepare_1 rfl ?_
        refine j_iload_n 2 dX9_prepare_2 rfl ?_
        refine j_iconst (x := (-1)) dX9_prepare_3 rfl (i32_c rfl) ?_
        refine j_iconst (x := (-1)) dX9_prepare_4 rfl (i32_c rfl) ?_
        refine j_callvV (Yc := Y_X9_prepareMarked) (as := [aI (u4 13 x1), aI 1, aI (-1), aI (-1)]) (rest := []) dX9_prepare_5 q_X9_38 ⟨Nat.le_of_ble_eq_true rfl, Nat.le_of_ble_eq_true rfl, Nat.le_of_ble_eq_true rfl, Nat.le_of_ble_eq_true rfl⟩ sh_33 rfl (Nat.le_of_ble_eq_true rfl) rfl (tv_mono h (fun u5 h => ?_))
        refine j_vret dX9_prepare_8 rfl ⟨Nat.le_of_ble_eq_true rfl, Nat.le_of_ble_eq_true rfl⟩ ?_
        refine j_aload_n 2 dX1_lend_154 rfl ?_
        refine j_getc 33 dX1_lend_155 f_X1_33 sh_49 rfl ?_
        refine j_iload_n 4 dX1_lend_158 rfl ?_
        refine j_iload 0 dX1_lend_159 rfl ?_
        refine j_callvV (Yc := Y_X9_spread) (as := [aI x2, aI (u4 38 x2)]) (rest := []) dX1_lend_161 q_X1_109 ⟨Nat.le_of_ble_eq_true rfl, Nat.le_of_ble_eq_true rfl, Nat.le_of_ble_eq_true rfl, Nat.le_of_ble_eq_true rfl⟩ sh_33 rfl (Nat.le_of_ble_eq_true rfl) rfl (tv_mono h (fun u6 h => ?_))
        refine j_aload_n 2 dX1_lend_164 rfl ?_
        refine j_getc 33 dX1_lend_165 f_X1_33 sh_49 rfl ?_
        refine j_getc 38 dX1_lend_168 f_X1_112 sh_33 rfl ?_
        refine j_aload_n 2 dX1_lend_171 rfl ?_
        refine j_getc 6 dX1_lend_172 f_X1_25 sh_49 rfl ?_
        refine j_geti (i := 2) dX1_lend_175 f_X1_96 sh_6 rfl rfl (fun _ => ?_)
        obtain ⟨o7, h⟩ := h
        refine j_iald dX1_lend_178 sh_38 o7.1 o7.2 (fun _ => ?_)
        exact j_iret dX1_lend_179 rfl ⟨Nat.le_of_ble_eq_true rfl, Nat.le_of_ble_eq_true rfl⟩ (fun _ => h)
      · replace h := h.2 c6
        refine j_aload_n 2 dX1_lend_135 rfl ?_
        refine j_getc 8 dX1_lend_136 f_X1_29 sh_49 rfl ?_
        refine j_iload_n 4 dX1_lend_139 rfl ?_
        refine j_calliV (Yc := Y_X0_someSlowAt) (as := [aI x2]) (rest := [aI (u4 13 x1), aR 33]) dX1_lend_140 q_X1_115 ⟨Nat.le_of_ble_eq_true rfl, Nat.le_of_ble_eq_true rfl, Nat.le_of_ble_eq_true rfl, Nat.le_of_ble_eq_true rfl⟩ sh_8 rfl (Nat.le_of_ble_eq_true rfl) rfl (ti_mono h (fun z8 u7 h => ?_))
        refine j_if_eq (tgt := 150) dX1_lend_143 (by decide) (fun c8 => ?_) (fun c8 => ?_)
        · replace h := h.1 c8
          refine j_iconst (x := 0) dX1_lend_150 rfl (i32_c rfl) ?_
          refine j_callvV (Yc := Y_X9_prepare) (as := [aI (u4 13 x1), aI 0]) (rest := []) dX1_lend_151 q_X1_106 ⟨Nat.le_of_ble_eq_true rfl, Nat.le_of_ble_eq_true rfl, Nat.le_of_ble_eq_true rfl, Nat.le_of_ble_eq_true rfl⟩ sh_33 rfl (Nat.le_of_ble_eq_true rfl) rfl (tv_of (ll := [(0, aR 33), (1, aI (u4 13 x1)), (2, aI 0)]) rfl (Nat.le_of_ble_eq_true rfl) rfl (fun _ => ?_))
          refine j_aload_n 0 dX9_prepare_0 rfl ?_
          refine j_iload_n 1 dX9_prepare_1 rfl ?_
          refine j_iload_n 2 dX9_prepare_2 rfl ?_
          refine j_iconst (x := (-1)) dX9_prepare_3 rfl (i32_c rfl) ?_
          refine j_iconst (x := (-1)) dX9_prepare_4 rfl (i32_c rfl) ?_
          refine j_callvV (Yc := Y_X9_prepareMarked) (as := [aI (u4 13 x1), aI 0, aI (-1), aI (-1)]) (rest := []) dX9_prepare_5 q_X9_38 ⟨Nat.le_of_ble_eq_true rfl, Nat.le_of_ble_eq_true rfl, Nat.le_of_ble_eq_true rfl, Nat.le_of_ble_eq_true rfl⟩ sh_33 rfl (Nat.le_of_ble_eq_true rfl) rfl (tv_mono h (fun u9 h => ?_))
          refine j_vret dX9_prepare_8 rfl ⟨Nat.le_of_ble_eq_true rfl, Nat.le_of_ble_eq_true rfl⟩ ?_
          refine j_aload_n 2 dX1_lend_154 rfl ?_
          refine j_getc 33 dX1_lend_155 f_X1_33 sh_49 rfl ?_
          refine j_iload_n 4 dX1_lend_158 rfl ?_
          refine j_iload 0 dX1_lend_159 rfl ?_
          refine j_callvV (Yc := Y_X9_spread) (as := [aI x2, aI (u4 38 x2)]) (rest := []) dX1_lend_161 q_X1_109 ⟨Nat.le_of_ble_eq_true rfl, Nat.le_of_ble_eq_true rfl, Nat.le_of_ble_eq_true rfl, Nat.le_of_ble_eq_true rfl⟩ sh_33 rfl (Nat.le_of_ble_eq_true rfl) rfl (tv_mono h (fun u10 h => ?_))
          refine j_aload_n 2 dX1_lend_164 rfl ?_
          refine j_getc 33 dX1_lend_165 f_X1_33 sh_49 rfl ?_
          refine j_getc 38 dX1_lend_168 f_X1_112 sh_33 rfl ?_
          refine j_aload_n 2 dX1_lend_171 rfl ?_
          refine j_getc 6 dX1_lend_172 f_X1_25 sh_49 rfl ?_
          refine j_geti (i := 2) dX1_lend_175 f_X1_96 sh_6 rfl rfl (fun _ => ?_)
          obtain ⟨o9, h⟩ := h
          refine j_iald dX1_lend_178 sh_38 o9.1 o9.2 (fun _ => ?_)
          exact j_iret dX1_lend_179 rfl ⟨Nat.le_of_ble_eq_true rfl, Nat.le_of_ble_eq_true rfl⟩ (fun _ => h)
        · replace h := h.2 c8
          refine j_iconst (x := 1) dX1_lend_146 rfl (i32_c rfl) ?_
          refine j_goto (tgt := 151) dX1_lend_147 (by decide) ?_
          refine j_callvV (Yc := Y_X9_prepare) (as := [aI (u4 13 x1), aI 1]) (rest := []) dX1_lend_151 q_X1_106 ⟨Nat.le_of_ble_eq_true rfl, Nat.le_of_ble_eq_true rfl, Nat.le_of_ble_eq_true rfl, Nat.le_of_ble_eq_true rfl⟩ sh_33 rfl (Nat.le_of_ble_eq_true rfl) rfl (tv_of (ll := [(0, aR 33), (1, aI (u4 13 x1)), (2, aI 1)]) rfl (Nat.le_of_ble_eq_true rfl) rfl (fun _ => ?_))
          refine j_aload_n 0 dX9_prepare_0 rfl ?_
          refine j_iload_n 1 dX9_prepare_1 rfl ?_
          refine j_iload_n 2 dX9_prepare_2 rfl ?_
          refine j_iconst (x := (-1)) dX9_prepare_3 rfl (i32_c rfl) ?_
          refine j_iconst (x := (-1)) dX9_prepare_4 rfl (i32_c rfl) ?_
          refine j_callvV (Yc := Y_X9_prepareMarked) (as := [aI (u4 13 x1), aI 1, aI (-1), aI (-1)]) (rest := []) dX9_prepare_5 q_X9_38 ⟨Nat.le_of_ble_eq_true rfl, Nat.le_of_ble_eq_true rfl, Nat.le_of_ble_eq_true rfl, Nat.le_of_ble_eq_true rfl⟩ sh_33 rfl (Nat.le_of_ble_eq_true rfl) rfl (tv_mono h (fun u11 h => ?_))
          refine j_vret dX9_prepare_8 rfl ⟨Nat.le_of_ble_eq_true rfl, Nat.le_of_ble_eq_true rfl⟩ ?_
          refine j_aload_n 2 dX1_lend_154 rfl ?_
          refine j_getc 33 dX1_lend_155 f_X1_33 sh_49 rfl ?_
          refine j_iload_n 4 dX1_lend_158 rfl ?_
          refine j_iload 0 dX1_lend_159 rfl ?_
          refine j_callvV (Yc := Y_X9_spread) (as := [aI x2, aI (u4 38 x2)]) (rest := []) dX1_lend_161 q_X1_109 ⟨Nat.le_of_ble_eq_true rfl, Nat.le_of_ble_eq_true rfl, Nat.le_of_ble_eq_true rfl, Nat.le_of_ble_eq_true rfl⟩ sh_33 rfl (Nat.le_of_ble_eq_true rfl) rfl (tv_mono h (fun u12 h => ?_))
          refine j_aload_n 2 dX1_lend_164 rfl ?_
          refine j_getc 33 dX1_lend_165 f_X1_33 sh_49 rfl ?_
          refine j_getc 38 dX1_lend_168 f_X1_112 sh_33 rfl ?_
          refine j_aload_n 2 dX1_lend_171 rfl ?_
          refine j_getc 6 dX1_lend_172 f_X1_25 sh_49 rfl ?_
          refine j_geti (i := 2) dX1_lend_175 f_X1_96 sh_6 rfl rfl (fun _ => ?_)
          obtain ⟨o10, h⟩ := h
          refine j_iald dX1_lend_178 sh_38 o10.1 o10.2 (fun _ => ?_)
          exact j_iret dX1_lend_179 rfl ⟨Nat.le_of_ble_eq_true rfl, Nat.le_of_ble_eq_true rfl⟩ (fun _ => h)
    · replace h := h.2 c5
      refine j_iconst (x := (-1)) dX1_lend_108 rfl (i32_c rfl) ?_
      exact j_iret dX1_lend_109 rfl ⟨Nat.le_of_ble_eq_true rfl, Nat.le_of_ble_eq_true rfl⟩ (fun _ => h)
  · replace h := h.2 c2
    refine j_iconst (x := (-1)) dX1_lend_40 rfl (i32_c rfl) ?_
    exact j_iret dX1_lend_41 rfl ⟨Nat.le_of_ble_eq_true rfl, Nat.le_of_ble_eq_true rfl⟩ (fun _ => h)
theorem E_X1_lend {post : Int → ax_M → Prop} {M : ax_M} {x1 x2 : Int} (h : ax_mr SH M → (0 ≤ x1 ∧ x1 < 4) ∧ ax_Tv Y_X1_lineUp [aR 49, aI (M 12 x1), aI 0] SH (ax_up M 49 4 0) (fun u1 => ax_Tv Y_X1_lineUp [aR 49, aI (u1 12 x1), aI 1] SH u1 (fun u2 => (((¬ (u2 49 4) = 0) → (0 ≤ (u2 50 0) ∧ (u2 50 0) < 8) ∧ ax_Tv Y_X9_prepareMarked [aR 33, aI (u2 13 x1), aI (u2 11 (u2 50 0)), aI (-1), aI (-1)] SH u2 (fun u3 => ax_Tv Y_X9_spread [aR 33, aI (u3 12 x1), aI 0] SH u3 (fun u4 => (0 ≤ x2 ∧ x2 < 12) ∧ (((¬ (u4 38 x2) = (-1)) → (((¬ (u4 11 (u2 50 0)) = 0) → ax_Tv Y_X9_prepareMarked [aR 33, aI (u4 13 x1), aI 1, aI (-1), aI (-1)] SH u4 (fun u5 => ax_Tv Y_X9_spread [aR 33, aI x2, aI (u4 38 x2)] SH u5 (fun u6 => (0 ≤ (u6 6 2) ∧ (u6 6 2) < 12) ∧ post (u6 38 (u6 6 2)) u6))) ∧ (((u4 11 (u2 50 0)) = 0) → ax_Ti Y_X0_someSlowAt [aR 8, aI x2] SH u4 (fun z8 u7 => (((z8 = 0) → ax_Tv Y_X9_prepareMarked [aR 33, aI (u4 13 x1), aI 0, aI (-1), aI (-1)] SH u7 (fun u9 => ax_Tv Y_X9_spread [aR 33, aI x2, aI (u4 38 x2)] SH u9 (fun u10 => (0 ≤ (u10 6 2) ∧ (u10 6 2) < 12) ∧ post (u10 38 (u10 6 2)) u10))) ∧ ((¬ z8 = 0) → ax_Tv Y_X9_prepareMarked [aR 33, aI (u4 13 x1), aI 1, aI (-1), aI (-1)] SH u7 (fun u11 => ax_Tv Y_X9_spread [aR 33, aI x2, aI (u4 38 x2)] SH u11 (fun u12 => (0 ≤ (u12 6 2) ∧ (u12 6 2) < 12) ∧ post (u12 38 (u12 6 2)) u12)))))))) ∧ (((u4 38 x2) = (-1)) → post (-1) u4))))) ∧ (((u2 49 4) = 0) → post (-1) u2))))) : ax_Ti Y_X1_lend [aR 49, aI x1, aI x2] SH M post :=
  ti_of rfl (Nat.le_of_ble_eq_true rfl) rfl (fun q => B_X1_lend_0 (h q))
set_option maxRecDepth 100000 in
set_option maxHeartbeats 4000000 in
theorem B_X0_untoldPlaces_0 {post : Int → ax_M → Prop} {M : ax_M} (h : ax_J Y_X0_untoldPlaces (ax_Ki Y_X0_untoldPlaces SH post) 0 0 4 [(0, aR 8), (1, aI 0), (2, aI 0)] [] SH M) : ax_J Y_X0_untoldPlaces (ax_Ki Y_X0_untoldPlaces SH post) 0 0 0 [(0, aR 8)] [] SH M := by
  refine j_iconst (x := 0) dX0_untoldPlaces_0 rfl (i32_c rfl) ?_
  refine j_istore_n (ll' := [(1, aI 0), (0, aR 8)]) dX0_untoldPlaces_1 (Nat.le_of_ble_eq_true rfl) rfl ?_
  refine j_iconst (x := 0) dX0_untoldPlaces_2 rfl (i32_c rfl) ?_
  refine j_istore_n (ll' := [(2, aI 0), (1, aI 0), (0, aR 8)]) dX0_untoldPlaces_3 (Nat.le_of_ble_eq_true rfl) rfl ?_
  refine j_sub [2, 1, 0] rfl ?_
  exact h
theorem E_X0_untoldPlaces {post : Int → ax_M → Prop} {M : ax_M} (h : ax_mr SH M → ax_J Y_X0_untoldPlaces (ax_Ki Y_X0_untoldPlaces SH post) 0 0 4 [(0, aR 8), (1, aI 0), (2, aI 0)] [] SH M) : ax_Ti Y_X0_untoldPlaces [aR 8] SH M post :=
  ti_of rfl (Nat.le_of_ble_eq_true rfl) rfl (fun q => B_X0_untoldPlaces_0 (h q))
set_option maxRecDepth 100000 in
set_option maxHeartbeats 4000000 in
theorem B_X0_untoldPlaces_4 {post : Int → ax_M → Prop} {M : ax_M} {x1 x2 : Int} (h : ((((M 8 0) ≤ x2) → post x1 M) ∧ ((x2 < (M 8 0)) → (0 ≤ x2 ∧ x2 < 8) ∧ (((¬ (M 10 x2) = 0) → (-2147483648 ≤ (x2 + 1) ∧ (x2 + 1) ≤ 2147483647) ∧ ax_J Y_X0_untoldPlaces (ax_Ki Y_X0_untoldPlaces SH post) 0 0 4 [(0, aR 8), (1, aI x1), (2, aI (x2 + 1))] [] SH M) ∧ (((M 10 x2) = 0) → (-2147483648 ≤ (x2 + 1) ∧ (x2 + 1) ≤ 2147483647) ∧ ax_J Y_X0_untoldPlaces (ax_Ki Y_X0_untoldPlaces SH post) 0 0 4 [(0, aR 8), (1, aI (bo_or x1 (bo_shl 1 (M 9 x2)))), (2, aI (x2 + 1))] [] SH M))))) : ax_J Y_X0_untoldPlaces (ax_Ki Y_X0_untoldPlaces SH post) 0 0 4 [(0, aR 8), (1, aI x1), (2, aI x2)] [] SH M := by
  refine j_iload_n 2 dX0_untoldPlaces_4 rfl ?_
  refine j_aload_n 0 dX0_untoldPlaces_5 rfl ?_
  refine j_geti (i := 0) dX0_untoldPlaces_6 f_X0_31 sh_8 rfl rfl (fun _ => ?_)
  refine j_icmp_ge (tgt := 38) dX0_untoldPlaces_9 (by decide) (fun c1 => ?_) (fun c1 => ?_)
  · replace h := h.1 c1
    refine j_iload_n 1 dX0_untoldPlaces_38 rfl ?_
    exact j_iret dX0_untoldPlaces_39 rfl ⟨Nat.le_of_ble_eq_true rfl, Nat.le_of_ble_eq_true rfl⟩ (fun _ => h)
  · replace h := h.2 c1
    refine j_aload_n 0 dX0_untoldPlaces_12 rfl ?_
    refine j_getc 10 dX0_untoldPlaces_13 f_X0_15 sh_8 rfl ?_
    refine j_iload_n 2 dX0_untoldPlaces_16 rfl ?_
    obtain ⟨o2, h⟩ := h
    refine j_zald dX0_untoldPlaces_17 sh_10 o2.1 o2.2 (fun _ => ?_)
    refine j_if_ne (tgt := 32) dX0_untoldPlaces_18 (by decide) (fun c3 => ?_) (fun c3 => ?_)
    · replace h := h.1 c3
      obtain ⟨o4, h⟩ := h
      refine j_iinc (ll' := [(2, aI (x2 + 1)), (0, aR 8), (1, aI x1)]) 2 dX0_untoldPlaces_32 rfl (Nat.le_of_ble_eq_true rfl) o4 rfl ?_
      refine j_goto (tgt := 4) dX0_untoldPlaces_35 (by decide) ?_
      refine j_sub [1, 2, 0] rfl ?_
      exact h
    · replace h := h.2 c3
      refine j_iload_n 1 dX0_untoldPlaces_21 rfl ?_
      refine j_iconst (x := 1) dX0_untoldPlaces_22 rfl (i32_c rfl) ?_
      refine j_aload_n 0 dX0_untoldPlaces_23 rfl ?_
      refine j_getc 9 dX0_untoldPlaces_24 f_X0_9 sh_8 rfl ?_
      refine j_iload_n 2 dX0_untoldPlaces_27 rfl ?_
      refine j_iald dX0_untoldPlaces_28 sh_9 o2.1 o2.2 (fun _ => ?_)
      refine j_ishl (z := (bo_shl 1 (M 9 x2))) dX0_untoldPlaces_29 rfl ?_
      refine j_ior (z := (bo_or x1 (bo_shl 1 (M 9 x2)))) dX0_untoldPlaces_30 rfl ?_
      refine j_istore_n (ll' := [(1, aI (bo_or x1 (bo_shl 1 (M 9 x2)))), (0, aR 8), (2, aI x2)]) dX0_untoldPlaces_31 (Nat.le_of_ble_eq_true rfl) rfl ?_
      obtain ⟨o5, h⟩ := h
      refine j_iinc (ll' := [(2, aI (x2 + 1)), (1, aI (bo_or x1 (bo_shl 1 (M 9 x2)))), (0, aR 8)]) 2 dX0_untoldPlaces_32 rfl (Nat.le_of_ble_eq_true rfl) o5 rfl ?_
      refine j_goto (tgt := 4) dX0_untoldPlaces_35 (by decide) ?_
      refine j_sub [2, 1, 0] rfl ?_
      exact h
set_option maxRecDepth 100000 in
set_option maxHeartbeats 4000000 in
theorem B_X7_findStops_0 {post : ax_M → Prop} {M : ax_M} (h : ax_Ti Y_X0_untoldPlaces [aR 8] SH M (fun z2 u1 => ax_J Y_X7_findStops (ax_Kv Y_X7_findStops SH post) 0 0 15 [(0, aR 51), (1, aI z2), (2, aI 0)] [] SH (ax_up u1 51 4 0))) : ax_J Y_X7_findStops (ax_Kv Y_X7_findStops SH post) 0 0 0 [(0, aR 51)] [] SH M := by
  refine j_aload_n 0 dX7_findStops_0 rfl ?_
  refine j_getc 8 dX7_findStops_1 f_X7_43 sh_51 rfl ?_
  refine j_calliV (Yc := Y_X0_untoldPlaces) (as := []) (rest := []) dX7_findStops_4 q_X7_51 ⟨Nat.le_of_ble_eq_true rfl, Nat.le_of_ble_eq_true rfl, Nat.le_of_ble_eq_true rfl, Nat.le_of_ble_eq_true rfl⟩ sh_8 rfl (Nat.le_of_ble_eq_true rfl) rfl (ti_mono h (fun z2 u1 h => ?_))
  refine j_istore_n (ll' := [(1, aI z2), (0, aR 51)]) dX7_findStops_7 (Nat.le_of_ble_eq_true rfl) rfl ?_
  refine j_aload_n 1 dX7_findStops_8 rfl ?_
  refine j_iconst (x := 0) dX7_findStops_9 rfl (i32_c rfl) ?_
  refine j_puti (i := 4) dX7_findStops_10 p_X7_57 (fun h => by cases h) sh_51 rfl rfl ?_
  refine j_iconst (x := 0) dX7_findStops_13 rfl (i32_c rfl) ?_
  refine j_istore_n (ll' := [(2, aI 0), (1, aI z2), (0, aR 51)]) dX7_findStops_14 (Nat.le_of_ble_eq_true rfl) rfl ?_
  refine j_sub [2, 1, 0] rfl ?_
  exact h
theorem E_X7_findStops {post : ax_M → Prop} {M : ax_M} (h : ax_mr SH M → ax_Ti Y_X0_untoldPlaces [aR 8] SH M (fun z2 u1 => ax_J Y_X7_findStops (ax_Kv Y_X7_findStops SH post) 0 0 15 [(0, aR 51), (1, aI z2), (2, aI 0)] [] SH (ax_up u1 51 4 0))) : ax_Tv Y_X7_findStops [aR 51] SH M post :=
  tv_of rfl (Nat.le_of_ble_eq_true rfl) rfl (fun q => B_X7_findStops_0 (h q))
set_option maxRecDepth 100000 in
set_option maxHeartbeats 4000000 in
theorem B_X7_findStops_15 {post : ax_M → Prop} {M : ax_M} {x1 x2 : Int} (h : (((12 ≤ x2) → ax_Tv Y_X7_findLast [aR 51, aI (-1), aI 0, aR 53] SH M (fun u1 => ax_Tv Y_X7_findLast [aR 51, aI (-1), aI 1, aR 54] SH u1 (fun u2 => post u2))) ∧ ((x2 < 12) → (((6 ≤ (M 51 4)) → ax_Tv Y_X7_findLast [aR 51, aI (-1), aI 0, aR 53] SH M (fun u3 => ax_Tv Y_X7_findLast [aR 51, aI (-1), aI 1, aR 54] SH u3 (fun u4 => post u4))) ∧ (((M 51 4) < 6) → ((((bo_and (bo_shr x1 x2) 1) = 0) → (-2147483648 ≤ (x2 + 1) ∧ (x2 + 1) ≤ 2147483647) ∧ ax_J Y_X7_findStops (ax_Kv Y_X7_findStops SH post) 0 0 15 [(0, aR 51), (1, aI x1), (2, aI (x2 + 1))] [] SH M) ∧ ((¬ (bo_and (bo_shr x1 x2) 1) = 0) → (0 ≤ (M 51 4) ∧ (M 51 4) < 7) ∧ (-2147483648 ≤ ((M 51 4) + 1) ∧ ((M 51 4) + 1) ≤ 2147483647) ∧ (-2147483648 ≤ (x2 + 1) ∧ (x2 + 1) ≤ 2147483647) ∧ ax_J Y_X7_findStops (ax_Kv Y_X7_findStops SH post) 0 0 15 [(0, aR 51), (1, aI x1), (2, aI (x2 + 1))] [] SH (ax_up (ax_up M 52 (M 51 4) x2) 51 4 ((M 51 4) + 1))))))))) : ax_J Y_X7_findStops (ax_Kv Y_X7_findStops SH post) 0 0 15 [(0, aR 51), (1, aI x1), (2, aI x2)] [] SH M := by
  refine j_iload_n 2 dX7_findStops_15 rfl ?_
  refine j_bipush (x := 12) dX7_findStops_16 rfl (i32_c rfl) ?_
  refine j_icmp_ge (tgt := 64) dX7_findStops_18 (by decide) (fun c1 => ?_) (fun c1 => ?_)
  · replace h := h.1 c1
    refine j_aload_n 0 dX7_findStops_64 rfl ?_
    refine j_iconst (x := (-1)) dX7_findStops_65 rfl (i32_c rfl) ?_
    refine j_iconst (x := 0) dX7_findStops_66 rfl (i32_c rfl) ?_
    refine j_aload_n 0 dX7_findStops_67 rfl ?_
    refine j_getc 53 dX7_findStops_68 f_X7_15 sh_51 rfl ?_
    refine j_callvV (Yc := Y_X7_findLast) (as := [aI (-1), aI 0, aR 53]) (rest := []) dX7_findStops_71 q_X7_61 ⟨Nat.le_of_ble_eq_true rfl, Nat.le_of_ble_eq_true rfl, Nat.le_of_ble_eq_true rfl, Nat.le_of_ble_eq_true rfl⟩ sh_51 rfl (Nat.le_of_ble_eq_true rfl) rfl (tv_mono h (fun u1 h => ?_))
    refine j_aload_n 0 dX7_findStops_74 rfl ?_
    refine j_iconst (x := (-1)) dX7_findStops_75 rfl (i32_c rfl) ?_
    refine j_iconst (x := 1) dX7_findStops_76 rfl (i32_c rfl) ?_
    refine j_aload_n 0 dX7_findStops_77 rfl ?_
    refine j_getc 54 dX7_findStops_78 f_X7_18 sh_51 rfl ?_
    refine j_callvV (Yc := Y_X7_findLast) (as := [aI (-1), aI 1, aR 54]) (rest := []) dX7_findStops_81 q_X7_61 ⟨Nat.le_of_ble_eq_true rfl, Nat.le_of_ble_eq_true rfl, Nat.le_of_ble_eq_true rfl, Nat.le_of_ble_eq_true rfl⟩ sh_51 rfl (Nat.le_of_ble_eq_true rfl) rfl (tv_mono h (fun u2 h => ?_))
    exact j_vret dX7_findStops_84 rfl ⟨Nat.le_of_ble_eq_true rfl, Nat.le_of_ble_eq_true rfl⟩ h
  · replace h := h.2 c1
    refine j_aload_n 0 dX7_findStops_21 rfl ?_
    refine j_geti (i := 4) dX7_findStops_22 f_X7_57 sh_51 rfl rfl (fun _ => ?_)
    refine j_bipush (x := 6) dX7_findStops_25 rfl (i32_c rfl) ?_
    refine j_icmp_ge (tgt := 64) dX7_findStops_27 (by decide) (fun c2 => ?_) (fun c2 => ?_)
    · replace h := h.1 c2
      refine j_aload_n 0 dX7_findStops_64 rfl ?_
      refine j_iconst (x := (-1)) dX7_findStops_65 rfl (i32_c rfl) ?_
      refine j_iconst (x := 0) dX7_findStops_66 rfl (i32_c rfl) ?_
      refine j_aload_n 0 dX7_findStops_67 rfl ?_
      refine j_getc 53 dX7_findStops_68 f_X7_15 sh_51 rfl ?_
      refine j_callvV (Yc := Y_X7_findLast) (as := [aI (-1), aI 0, aR 53]) (rest := []) dX7_findStops_71 q_X7_61 ⟨Nat.le_of_ble_eq_true rfl, Nat.le_of_ble_eq_true rfl, Nat.le_of_ble_eq_true rfl, Nat.le_of_ble_eq_true rfl⟩ sh_51 rfl (Nat.le_of_ble_eq_true rfl) rfl (tv_mono h (fun u3 h => ?_))
      refine j_aload_n 0 dX7_findStops_74 rfl ?_
      refine j_iconst (x := (-1)) dX7_findStops_75 rfl (i32_c rfl) ?_
      refine j_iconst (x := 1) dX7_findStops_76 rfl (i32_c rfl) ?_
      refine j_aload_n 0 dX7_findStops_77 rfl ?_
      refine j_getc 54 dX7_findStops_78 f_X7_18 sh_51 rfl ?_
      refine j_callvV (Yc := Y_X7_findLast) (as := [aI (-1), aI 1, aR 54]) (rest := []) dX7_findStops_81 q_X7_61 ⟨Nat.le_of_ble_eq_true rfl, Nat.le_of_ble_eq_true rfl, Nat.le_of_ble_eq_true rfl, Nat.le_of_ble_eq_true rfl⟩ sh_51 rfl (Nat.le_of_ble_eq_true rfl) rfl (tv_mono h (fun u4 h => ?_))
      exact j_vret dX7_findStops_84 rfl ⟨Nat.le_of_ble_eq_true rfl, Nat.le_of_ble_eq_true rfl⟩ h
    · replace h := h.2 c2
      refine j_iload_n 1 dX7_findStops_30 rfl ?_
      refine j_iload_n 2 dX7_findStops_31 rfl ?_
      refine j_ishr (z := (bo_shr x1 x2)) dX7_findStops_32 rfl ?_
      refine j_iconst (x := 1) dX7_findStops_33 rfl (i32_c rfl) ?_
      refine j_iand (z := (bo_and (bo_shr x1 x2) 1)) dX7_findStops_34 rfl ?_
      refine j_if_eq (tgt := 58) dX7_findStops_35 (by decide) (fun c3 => ?_) (fun c3 => ?_)
      · replace h := h.1 c3
        obtain ⟨o4, h⟩ := h
        refine j_iinc (ll' := [(2, aI (x2 + 1)), (0, aR 51), (1, aI x1)]) 2 dX7_findStops_58 rfl (Nat.le_of_ble_eq_true rfl) o4 rfl ?_
        refine j_goto (tgt := 15) dX7_findStops_61 (by decide) ?_
        refine j_sub [1, 2, 0] rfl ?_
        exact h
      · replace h := h.2 c3
        refine j_aload_n 0 dX7_findStops_38 rfl ?_
        refine j_getc 52 dX7_findStops_39 f_X7_9 sh_51 rfl ?_
        refine j_aload_n 0 dX7_findStops_42 rfl ?_
        refine j_geti (i := 4) dX7_findStops_43 f_X7_57 sh_51 rfl rfl (fun _ => ?_)
        refine j_iload_n 2 dX7_findStops_46 rfl ?_
        obtain ⟨o5, h⟩ := h
        refine j_iast dX7_findStops_47 sh_52 o5.1 o5.2 ?_
        refine j_aload_n 0 dX7_findStops_48 rfl ?_
        refine j_dup dX7_findStops_49 rfl ?_
        refine j_geti (i := 4) dX7_findStops_50 f_X7_57 sh_51 rfl rfl (fun _ => ?_)
        refine j_iconst (x := 1) dX7_findStops_53 rfl (i32_c rfl) ?_
        obtain ⟨o6, h⟩ := h
        refine j_iadd (z := ((M 51 4) + 1)) dX7_findStops_54 rfl o6 ?_
        refine j_puti (i := 4) dX7_findStops_55 p_X7_57 (fun h => by cases h) sh_51 rfl rfl ?_
        obtain ⟨o7, h⟩ := h
        refine j_iinc (ll' := [(2, aI (x2 + 1)), (0, aR 51), (1, aI x1)]) 2 dX7_findStops_58 rfl (Nat.le_of_ble_eq_true rfl) o7 rfl ?_
        refine j_goto (tgt := 15) dX7_findStops_61 (by decide) ?_
        refine j_sub [1, 2, 0] rfl ?_
        exact h
set_option maxRecDepth 100000 in
set_option maxHeartbeats 4000000 in
theorem B_X7_stopsOf_0 {post : Int → ax_M → Prop} {M : ax_M} {x1 : Int} (h : ax_J Y_X7_stopsOf (ax_Ki Y_X7_stopsOf SH post) 0 0 4 [(0, aR 51), (1, aI x1), (2, aI 0), (3, aI 0)] [] SH M) : ax_J Y_X7_stopsOf (ax_Ki Y_X7_stopsOf SH post) 0 0 0 [(0, aR 51), (1, aI x1)] [] SH M := by
  refine j_iconst (x := 0) dX7_stopsOf_0 rfl (i32_c rfl) ?_
  refine j_istore_n (ll' := [(2, aI 0), (0, aR 51), (1, aI x1)]) dX7_stopsOf_1 (Nat.le_of_ble_eq_true rfl) rfl ?_
  refine j_iconst (x := 0) dX7_stopsOf_2 rfl (i32_c rfl) ?_
  refine j_istore_n (ll' := [(3, aI 0), (2, aI 0), (0, aR 51), (1, aI x1)]) dX7_stopsOf_3 (Nat.le_of_ble_eq_true rfl) rfl ?_
  refine j_sub [2, 3, 1, 0] rfl ?_
  exact h
theorem E_X7_stopsOf {post : Int → ax_M → Prop} {M : ax_M} {x1 : Int} (h : ax_mr SH M → ax_J Y_X7_stopsOf (ax_Ki Y_X7_stopsOf SH post) 0 0 4 [(0, aR 51), (1, aI x1), (2, aI 0), (3, aI 0)] [] SH M) : ax_Ti Y_X7_stopsOf [aR 51, aI x1] SH M post :=
  ti_of rfl (Nat.le_of_ble_eq_true rfl) rfl (fun q => B_X7_stopsOf_0 (h q))
set_option maxRecDepth 100000 in
set_option maxHeartbeats 4000000 in
theorem B_X7_stopsOf_4 {post : Int → ax_M → Prop} {M : ax_M} {x1 x2 x3 : Int} (h : ((((M 51 4) ≤ x3) → post x2 M) ∧ ((x3 < (M 51 4)) → (0 ≤ x3 ∧ x3 < 7) ∧ (-2147483648 ≤ (x3 + 1) ∧ (x3 + 1) ≤ 2147483647) ∧ ax_J Y_X7_stopsOf (ax_Ki Y_X7_stopsOf SH post) 0 0 4 [(0, aR 51), (1, aI x1), (2, aI (bo_or x2 (bo_shl (bo_and (bo_shr x1 (M 52 x3)) 1) x3))), (3, aI (x3 + 1))] [] SH M))) : ax_J Y_X7_stopsOf (ax_Ki Y_X7_stopsOf SH post) 0 0 4 [(0, aR 51), (1, aI x1), (2, aI x2), (3, aI x3)] [] SH M := by
  refine j_iload_n 3 dX7_stopsOf_4 rfl ?_
  refine j_aload_n 0 dX7_stopsOf_5 rfl ?_
  refine j_geti (i := 4) dX7_stopsOf_6 f_X7_57 sh_51 rfl rfl (fun _ => ?_)
  refine j_icmp_ge (tgt := 33) dX7_stopsOf_9 (by decide) (fun c1 => ?_) (fun c1 => ?_)
  · replace h := h.1 c1
    refine j_iload_n 2 dX7_stopsOf_33 rfl ?_
    exact j_iret dX7_stopsOf_34 rfl ⟨Nat.le_of_ble_eq_true rfl, Nat.le_of_ble_eq_true rfl⟩ (fun _ => h)
  · replace h := h.2 c1
    refine j_iload_n 2 dX7_stopsOf_12 rfl ?_
    refine j_iload_n 1 dX7_stopsOf_13 rfl ?_
    refine j_aload_n 0 dX7_stopsOf_14 rfl ?_
    refine j_getc 52 dX7_stopsOf_15 f_X7_9 sh_51 rfl ?_
    refine j_iload_n 3 dX7_stopsOf_18 rfl ?_
    obtain ⟨o2, h⟩ := h
    refine j_iald dX7_stopsOf_19 sh_52 o2.1 o2.2 (fun _ => ?_)
    refine j_ishr (z := (bo_shr x1 (M 52 x3))) dX7_stopsOf_20 rfl ?_
    refine j_iconst (x := 1) dX7_stopsOf_21 rfl (i32_c rfl) ?_
    refine j_iand (z := (bo_and (bo_shr x1 (M 52 x3)) 1)) dX7_stopsOf_22 rfl ?_
    refine j_iload_n 3 dX7_stopsOf_23 rfl ?_
    refine j_ishl (z := (bo_shl (bo_and (bo_shr x1 (M 52 x3)) 1) x3)) dX7_stopsOf_24 rfl ?_
    refine j_ior (z := (bo_or x2 (bo_shl (bo_and (bo_shr x1 (M 52 x3)) 1) x3))) dX7_stopsOf_25 rfl ?_
    refine j_istore_n (ll' := [(2, aI (bo_or x2 (bo_shl (bo_and (bo_shr x1 (M 52 x3)) 1) x3))), (0, aR 51), (1, aI x1), (3, aI x3)]) dX7_stopsOf_26 (Nat.le_of_ble_eq_true rfl) rfl ?_
    obtain ⟨o3, h⟩ := h
    refine j_iinc (ll' := [(3, aI (x3 + 1)), (2, aI (bo_or x2 (bo_shl (bo_and (bo_shr x1 (M 52 x3)) 1) x3))), (0, aR 51), (1, aI x1)]) 3 dX7_stopsOf_27 rfl (Nat.le_of_ble_eq_true rfl) o3 rfl ?_
    refine j_goto (tgt := 4) dX7_stopsOf_30 (by decide) ?_
    refine j_sub [2, 3, 1, 0] rfl ?_
    exact h
set_option maxRecDepth 100000 in
set_option maxHeartbeats 4000000 in
theorem B_X7_weigh_51_56_0 {post : ax_M → Prop} {M : ax_M} {x2 x3 x4 x5 : Int} (h : (-2147483648 ≤ ((M 51 12) + 1) ∧ ((M 51 12) + 1) ≤ 2147483647) ∧ ax_Tv Y_J7_fill_53178 [aR 56, aI (-1)] SH (ax_up (ax_up (ax_up M 51 13 56) 51 14 x5) 51 12 ((M 51 12) + 1)) (fun u1 => (0 ≤ x2 ∧ x2 < 8) ∧ ax_Tv Y_X7_findLast [aR 51, aI x3, aI (u1 11 x2), aR 55] SH u1 (fun u2 => (0 ≤ (u2 51 4) ∧ (u2 51 4) < 7) ∧ (0 ≤ (u2 9 x2) ∧ (u2 9 x2) < 12) ∧ ((((u2 55 (u2 9 x2)) < x4) → post (ax_up u2 52 (u2 51 4) (u2 9 x2))) ∧ ((x4 ≤ (u2 55 (u2 9 x2))) → ax_Tv (Y_X7_goOnFrom 12) [aR 51, aI (u2 51 4), aI x4, aI 0, aI 0, aI 0] SH (ax_up u2 52 (u2 51 4) (u2 9 x2)) (fun u3 => post u3)))))) : ax_J Y_X7_weigh (ax_Kv Y_X7_weigh SH post) 0 0 0 [(0, aR 51), (1, aR 56), (2, aI x2), (3, aI x3), (4, aI x4), (5, aI x5)] [] SH M := by
  refine j_aload_n 0 dX7_weigh_0 rfl ?_
  refine j_aload_n 1 dX7_weigh_1 rfl ?_
  refine j_putr (i := 13) dX7_weigh_2 p_X7_36 (fun _ => ⟨rfl, rfl⟩) (fun h => by cases h) sh_51 rfl rfl (by decide) ?_
  refine j_aload_n 0 dX7_weigh_5 rfl ?_
  refine j_iload 5 dX7_weigh_6 rfl ?_
  refine j_puti (i := 14) dX7_weigh_8 p_X7_89 (fun h => by cases h) sh_51 rfl rfl ?_
  refine j_aload_n 0 dX7_weigh_11 rfl ?_
  refine j_dup dX7_weigh_12 rfl ?_
  refine j_geti (i := 12) dX7_weigh_13 f_X7_92 sh_51 rfl rfl (fun _ => ?_)
  refine j_iconst (x := 1) dX7_weigh_16 rfl (i32_c rfl) ?_
  obtain ⟨o1, h⟩ := h
  refine j_iadd (z := ((M 51 12) + 1)) dX7_weigh_17 rfl o1 ?_
  refine j_puti (i := 12) dX7_weigh_18 p_X7_92 (fun h => by cases h) sh_51 rfl rfl ?_
  refine j_aload_n 0 dX7_weigh_21 rfl ?_
  refine j_getr 56 (i := 13) dX7_weigh_22 f_X7_36 sh_51 rfl rfl rfl ?_
  refine j_iconst (x := (-1)) dX7_weigh_25 rfl (i32_c rfl) ?_
  refine j_callvS (Yc := Y_J7_fill_53178) (as := [aR 56, aI (-1)]) (rest := []) dX7_weigh_26 q_X7_95 ⟨Nat.le_of_ble_eq_true rfl, Nat.le_of_ble_eq_true rfl, Nat.le_of_ble_eq_true rfl, Nat.le_of_ble_eq_true rfl⟩ rfl (Nat.le_of_ble_eq_true rfl) rfl (tv_mono h (fun u1 h => ?_))
  refine j_aload_n 0 dX7_weigh_29 rfl ?_
  refine j_iload_n 3 dX7_weigh_30 rfl ?_
  refine j_aload_n 0 dX7_weigh_31 rfl ?_
  refine j_getc 8 dX7_weigh_32 f_X7_43 sh_51 rfl ?_
  refine j_getc 11 dX7_weigh_35 f_X7_101 sh_8 rfl ?_
  refine j_iload_n 2 dX7_weigh_38 rfl ?_
  obtain ⟨o2, h⟩ := h
  refine j_zald dX7_weigh_39 sh_11 o2.1 o2.2 (fun _ => ?_)
  refine j_aload_n 0 dX7_weigh_40 rfl ?_
  refine j_getc 55 dX7_weigh_41 f_X7_21 sh_51 rfl ?_
  refine j_callvV (Yc := Y_X7_findLast) (as := [aI x3, aI (u1 11 x2), aR 55]) (rest := []) dX7_weigh_44 q_X7_61 ⟨Nat.le_of_ble_eq_true rfl, Nat.le_of_ble_eq_true rfl, Nat.le_of_ble_eq_true rfl, Nat.le_of_ble_eq_true rfl⟩ sh_51 rfl (Nat.le_of_ble_eq_true rfl) rfl (tv_mono h (fun u2 h => ?_))
  refine j_aload_n 0 dX7_weigh_47 rfl ?_
  refine j_getc 52 dX7_weigh_48 f_X7_9 sh_51 rfl ?_
  refine j_aload_n 0 dX7_weigh_51 rfl ?_
  refine j_geti (i := 4) dX7_weigh_52 f_X7_57 sh_51 rfl rfl (fun _ => ?_)
  refine j_aload_n 0 dX7_weigh_55 rfl ?_
  refine j_getc 8 dX7_weigh_56 f_X7_43 sh_51 rfl ?_
  refine j_getc 9 dX7_weigh_59 f_X7_105 sh_8 rfl ?_
  refine j_iload_n 2 dX7_weigh_62 rfl ?_
  refine j_iald dX7_weigh_63 sh_9 o2.1 o2.2 (fun _ => ?_)
  obtain ⟨o3, h⟩ := h
  refine j_iast dX7_weigh_64 sh_52 o3.1 o3.2 ?_
  refine j_iload 4 dX7_weigh_65 rfl ?_
  refine j_aload_n 0 dX7_weigh_67 rfl ?_
  refine j_getc 55 dX7_weigh_68 f_X7_21 sh_51 rfl ?_
  refine j_aload_n 0 dX7_weigh_71 rfl ?_
  refine j_getc 8 dX7_weigh_72 f_X7_43 sh_51 rfl ?_
  refine j_getc 9 dX7_weigh_75 f_X7_105 sh_8 rfl ?_
  refine j_iload_n 2 dX7_weigh_78 rfl ?_
  refine j_iald dX7_weigh_79 sh_9 o2.1 o2.2 (fun _ => ?_)
  obtain ⟨o4, h⟩ := h
  refine j_iald dX7_weigh_80 sh_55 o4.1 o4.2 (fun _ => ?_)
  refine j_icmp_gt (tgt := 97) dX7_weigh_81 (by decide) (fun c5 => ?_) (fun c5 => ?_)
  · replace h := h.1 c5
    exact j_vret dX7_weigh_97 rfl ⟨Nat.le_of_ble_eq_true rfl, Nat.le_of_ble_eq_true rfl⟩ h
  · replace h := h.2 c5
    refine j_aload_n 0 dX7_weigh_84 rfl ?_
    refine j_aload_n 0 dX7_weigh_85 rfl ?_
    refine j_geti (i := 4) dX7_weigh_86 f_X7_57 sh_51 rfl rfl (fun _ => ?_)
    refine j_iload 4 dX7_weigh_89 rfl ?_
    refine j_iconst (x := 0) dX7_weigh_91 rfl (i32_c rfl) ?_
    refine j_iconst (x := 0) dX7_weigh_92 rfl (i32_c rfl) ?_
    refine j_iconst (x := 0) dX7_weigh_93 rfl (i32_c rfl) ?_
    refine j_callvS (Yc := (Y_X7_goOnFrom 12)) (as := [aR 51, aI (u2 51 4), aI x4, aI 0, aI 0, aI 0]) (rest := []) dX7_weigh_94 q_X7_108 ⟨Nat.le_of_ble_eq_true rfl, Nat.le_of_ble_eq_true rfl, Nat.le_of_ble_eq_true rfl, Nat.le_of_ble_eq_true rfl⟩ rfl (Nat.le_of_ble_eq_true rfl) rfl (tv_mono h (fun u3 h => ?_))
    exact j_vret dX7_weigh_97 rfl ⟨Nat.le_of_ble_eq_true rfl, Nat.le_of_ble_eq_true rfl⟩ h
theorem E_X7_weigh_51_56 {post : ax_M → Prop} {M : ax_M} {x2 x3 x4 x5 : Int} (h : ax_mr SH M → (-2147483648 ≤ ((M 51 12) + 1) ∧ ((M 51 12) + 1) ≤ 2147483647) ∧ ax_Tv Y_J7_fill_53178 [aR 56, aI (-1)] SH (ax_up (ax_up (ax_up M 51 13 56) 51 14 x5) 51 12 ((M 51 12) + 1)) (fun u1 => (0 ≤ x2 ∧ x2 < 8) ∧ ax_Tv Y_X7_findLast [aR 51, aI x3, aI (u1 11 x2), aR 55] SH u1 (fun u2 => (0 ≤ (u2 51 4) ∧ (u2 51 4) < 7) ∧ (0 ≤ (u2 9 x2) ∧ (u2 9 x2) < 12) ∧ ((((u2 55 (u2 9 x2)) < x4) → post (ax_up u2 52 (u2 51 4) (u2 9 x2))) ∧ ((x4 ≤ (u2 55 (u2 9 x2))) → ax_Tv (Y_X7_goOnFrom 12) [aR 51, aI (u2 51 4), aI x4, aI 0, aI 0, aI 0] SH (ax_up u2 52 (u2 51 4) (u2 9 x2)) (fun u3 => post u3)))))) : ax_Tv Y_X7_weigh [aR 51, aR 56, aI x2, aI x3, aI x4, aI x5] SH M post :=
  tv_of rfl (Nat.le_of_ble_eq_true rfl) rfl (fun q => B_X7_weigh_51_56_0 (h q))
set_option maxRecDepth 100000 in
set_option maxHeartbeats 4000000 in
theorem B_X7_bestOfOne_0 {post : Int → ax_M → Prop} {M : ax_M} (h : ax_J Y_X7_bestOfOne (ax_Ki Y_X7_bestOfOne SH post) 0 0 4 [(0, aR 51), (1, aI (-1)), (2, aI 0)] [] SH M) : ax_J Y_X7_bestOfOne (ax_Ki Y_X7_bestOfOne SH post) 0 0 0 [(0, aR 51)] [] SH M := by
  refine j_iconst (x := (-1)) dX7_bestOfOne_0 rfl (i32_c rfl) ?_
  refine j_istore_n (ll' := [(1, aI (-1)), (0, aR 51)]) dX7_bestOfOne_1 (Nat.le_of_ble_eq_true rfl) rfl ?_
  refine j_iconst (x := 0) dX7_bestOfOne_2 rfl (i32_c rfl) ?_
  refine j_istore_n (ll' := [(2, aI 0), (1, aI (-1)), (0, aR 51)]) dX7_bestOfOne_3 (Nat.le_of_ble_eq_true rfl) rfl ?_
  refine j_sub [2, 1, 0] rfl ?_
  exact h
theorem E_X7_bestOfOne {post : Int → ax_M → Prop} {M : ax_M} (h : ax_mr SH M → ax_J Y_X7_bestOfOne (ax_Ki Y_X7_bestOfOne SH post) 0 0 4 [(0, aR 51), (1, aI (-1)), (2, aI 0)] [] SH M) : ax_Ti Y_X7_bestOfOne [aR 51] SH M post :=
  ti_of rfl (Nat.le_of_ble_eq_true rfl) rfl (fun q => B_X7_bestOfOne_0 (h q))
set_option maxRecDepth 100000 in
set_option maxHeartbeats 4000000 in
theorem B_X7_bestOfOne_4 {post : Int → ax_M → Prop} {M : ax_M} {x1 x2 : Int} (h : (-2147483648 ≤ ((bo_shl 1 (M 51 4)) - 1) ∧ ((bo_shl 1 (M 51 4)) - 1) ≤ 2147483647) ∧ (((((bo_shl 1 (M 51 4)) - 1) < x2) → post x1 M) ∧ ((x2 ≤ ((bo_shl 1 (M 51 4)) - 1)) → (0 ≤ x2 ∧ x2 < 64) ∧ ((((M 56 x2) = (-1)) → (-2147483648 ≤ (x2 + 1) ∧ (x2 + 1) ≤ 2147483647) ∧ ax_J Y_X7_bestOfOne (ax_Ki Y_X7_bestOfOne SH post) 0 0 4 [(0, aR 51), (1, aI x1), (2, aI (x2 + 1))] [] SH M) ∧ ((¬ (M 56 x2) = (-1)) → (((x1 = (-1)) → (-2147483648 ≤ (x2 + 1) ∧ (x2 + 1) ≤ 2147483647) ∧ ax_J Y_X7_bestOfOne (ax_Ki Y_X7_bestOfOne SH post) 0 0 4 [(0, aR 51), (1, aI x2), (2, aI (x2 + 1))] [] SH M) ∧ ((¬ x1 = (-1)) → (0 ≤ x1 ∧ x1 < 64) ∧ ((((M 56 x2) ≤ (M 56 x1)) → (-2147483648 ≤ (x2 + 1) ∧ (x2 + 1) ≤ 2147483647) ∧ ax_J Y_X7_bestOfOne (ax_Ki Y_X7_bestOfOne SH post) 0 0 4 [(0, aR 51), (1, aI x1), (2, aI (x2 + 1))] [] SH M) ∧ (((M 56 x1) < (M 56 x2)) → (-2147483648 ≤ (x2 + 1) ∧ (x2 + 1) ≤ 2147483647) ∧ ax_J Y_X7_bestOfOne (ax_Ki Y_X7_bestOfOne SH post) 0 0 4 [(0, aR 51), (1, aI x2), (2, aI (x2 + 1))] [] SH M))))))))) : ax_J Y_X7_bestOfOne (ax_Ki Y_X7_bestOfOne SH post) 0 0 4 [(0, aR 51), (1, aI x1), (2, aI x2)] [] SH M := by
  refine j_iload_n 2 dX7_bestOfOne_4 rfl ?_
  refine j_aload_n 0 dX7_bestOfOne_5 rfl ?_
  refine j_calliV (Yc := Y_X7_allStops) (as := []) (rest := [aI x2]) dX7_bestOfOne_6 q_X7_140 ⟨Nat.le_of_ble_eq_true rfl, Nat.le_of_ble_eq_true rfl, Nat.le_of_ble_eq_true rfl, Nat.le_of_ble_eq_true rfl⟩ sh_51 rfl (Nat.le_of_ble_eq_true rfl) rfl (ti_of (ll := [(0, aR 51)]) rfl (Nat.le_of_ble_eq_true rfl) rfl (fun _ => ?_))
  refine j_iconst (x := 1) dX7_allStops_0 rfl (i32_c rfl) ?_
  refine j_aload_n 0 dX7_allStops_1 rfl ?_
  refine j_geti (i := 4) dX7_allStops_2 f_X7_57 sh_51 rfl rfl (fun _ => ?_)
  refine j_ishl (z := (bo_shl 1 (M 51 4))) dX7_allStops_5 rfl ?_
  refine j_iconst (x := 1) dX7_allStops_6 rfl (i32_c rfl) ?_
  obtain ⟨o1, h⟩ := h
  refine j_isub (z := ((bo_shl 1 (M 51 4)) - 1)) dX7_allStops_7 rfl o1 ?_
  refine j_iret dX7_allStops_8 rfl ⟨Nat.le_of_ble_eq_true rfl, Nat.le_of_ble_eq_true rfl⟩ (fun _ => ?_)
  refine j_icmp_gt (tgt := 50) dX7_bestOfOne_9 (by decide) (fun c2 => ?_) (fun c2 => ?_)
  · replace h := h.1 c2
    refine j_iload_n 1 dX7_bestOfOne_50 rfl ?_
    exact j_iret dX7_bestOfOne_51 rfl ⟨Nat.le_of_ble_eq_true rfl, Nat.le_of_ble_eq_true rfl⟩ (fun _ => h)
  · replace h := h.2 c2
    refine j_aload_n 0 dX7_bestOfOne_12 rfl ?_
    refine j_getc 56 dX7_bestOfOne_13 f_X7_24 sh_51 rfl ?_
    refine j_iload_n 2 dX7_bestOfOne_16 rfl ?_
    obtain ⟨o3, h⟩ := h
    refine j_iald dX7_bestOfOne_17 sh_56 o3.1 o3.2 (fun _ => ?_)
    refine j_iconst (x := (-1)) dX7_bestOfOne_18 rfl (i32_c rfl) ?_
    refine j_icmp_eq (tgt := 44) dX7_bestOfOne_19 (by decide) (fun c4 => ?_) (fun c4 => ?_)
    · replace h := h.1 c4
      obtain ⟨o5, h⟩ := h
      refine j_iinc (ll' := [(2, aI (x2 + 1)), (0, aR 51), (1, aI x1)]) 2 dX7_bestOfOne_44 rfl (Nat.le_of_ble_eq_true rfl) o5 rfl ?_
      refine j_goto (tgt := 4) dX7_bestOfOne_47 (by decide) ?_
      refine j_sub [1, 2, 0] rfl ?_
      exact h
    · replace h := h.2 c4
      refine j_iload_n 1 dX7_bestOfOne_22 rfl ?_
      refine j_iconst (x := (-1)) dX7_bestOfOne_23 rfl (i32_c rfl) ?_
      refine j_icmp_eq (tgt := 42) dX7_bestOfOne_24 (by decide) (fun c6 => ?_) (fun c6 => ?_)
      · replace h := h.1 c6
        refine j_iload_n 2 dX7_bestOfOne_42 rfl ?_
        refine j_istore_n (ll' := [(1, aI x2), (0, aR 51), (2, aI x2)]) dX7_bestOfOne_43 (Nat.le_of_ble_eq_true rfl) rfl ?_
        obtain ⟨o7, h⟩ := h
        refine j_iinc (ll' := [(2, aI (x2 + 1)), (1, aI x2), (0, aR 51)]) 2 dX7_bestOfOne_44 rfl (Nat.le_of_ble_eq_true rfl) o7 rfl ?_
        refine j_goto (tgt := 4) dX7_bestOfOne_47 (by decide) ?_
        refine j_sub [2, 1, 0] rfl ?_
        exact h
      · replace h := h.2 c6
        refine j_aload_n 0 dX7_bestOfOne_27 rfl ?_
        refine j_getc 56 dX7_bestOfOne_28 f_X7_24 sh_51 rfl ?_
        refine j_iload_n 2 dX7_bestOfOne_31 rfl ?_
        refine j_iald dX7_bestOfOne_32 sh_56 o3.1 o3.2 (fun _ => ?_)
        refine j_aload_n 0 dX7_bestOfOne_33 rfl ?_
        refine j_getc 56 dX7_bestOfOne_34 f_X7_24 sh_51 rfl ?_
        refine j_iload_n 1 dX7_bestOfOne_37 rfl ?_
        obtain ⟨o8, h⟩ := h
        refine j_iald dX7_bestOfOne_38 sh_56 o8.1 o8.2 (fun _ => ?_)
        refine j_icmp_le (tgt := 44) dX7_bestOfOne_39 (by decide) (fun c9 => ?_) (fun c9 => ?_)
        · replace h := h.1 c9
          obtain ⟨o10, h⟩ := h
          refine j_iinc (ll' := [(2, aI (x2 + 1)), (0, aR 51), (1, aI x1)]) 2 dX7_bestOfOne_44 rfl (Nat.le_of_ble_eq_true rfl) o10 rfl ?_
          refine j_goto (tgt := 4) dX7_bestOfOne_47 (by decide) ?_
          refine j_sub [1, 2, 0] rfl ?_
          exact h
        · replace h := h.2 c9
          refine j_iload_n 2 dX7_bestOfOne_42 rfl ?_
          refine j_istore_n (ll' := [(1, aI x2), (0, aR 51), (2, aI x2)]) dX7_bestOfOne_43 (Nat.le_of_ble_eq_true rfl) rfl ?_
          obtain ⟨o11, h⟩ := h
          refine j_iinc (ll' := [(2, aI (x2 + 1)), (1, aI x2), (0, aR 51)]) 2 dX7_bestOfOne_44 rfl (Nat.le_of_ble_eq_true rfl) o11 rfl ?_
          refine j_goto (tgt := 4) dX7_bestOfOne_47 (by decide) ?_
          refine j_sub [2, 1, 0] rfl ?_
          exact h
set_option maxRecDepth 100000 in
set_option maxHeartbeats 4000000 in
theorem B_X7_placesOf_0 {post : Int → ax_M → Prop} {M : ax_M} {x1 : Int} (h : ax_J Y_X7_placesOf (ax_Ki Y_X7_placesOf SH post) 0 0 4 [(0, aR 51), (1, aI x1), (2, aI 0), (3, aI 0)] [] SH M) : ax_J Y_X7_placesOf (ax_Ki Y_X7_placesOf SH post) 0 0 0 [(0, aR 51), (1, aI x1)] [] SH M := by
  refine j_iconst (x := 0) dX7_placesOf_0 rfl (i32_c rfl) ?_
  refine j_istore_n (ll' := [(2, aI 0), (0, aR 51), (1, aI x1)]) dX7_placesOf_1 (Nat.le_of_ble_eq_true rfl) rfl ?_
  refine j_iconst (x := 0) dX7_placesOf_2 rfl (i32_c rfl) ?_
  refine j_istore_n (ll' := [(3, aI 0), (2, aI 0), (0, aR 51), (1, aI x1)]) dX7_placesOf_3 (Nat.le_of_ble_eq_true rfl) rfl ?_
  refine j_sub [2, 3, 1, 0] rfl ?_
  exact h
theorem E_X7_placesOf {post : Int → ax_M → Prop} {M : ax_M} {x1 : Int} (h : ax_mr SH M → ax_J Y_X7_placesOf (ax_Ki Y_X7_placesOf SH post) 0 0 4 [(0, aR 51), (1, aI x1), (2, aI 0), (3, aI 0)] [] SH M) : ax_Ti Y_X7_placesOf [aR 51, aI x1] SH M post :=
  ti_of rfl (Nat.le_of_ble_eq_true rfl) rfl (fun q => B_X7_placesOf_0 (h q))
set_option maxRecDepth 100000 in
set_option maxHeartbeats 4000000 in
theorem B_X7_placesOf_4 {post : Int → ax_M → Prop} {M : ax_M} {x1 x2 x3 : Int} (h : ((((M 51 4) ≤ x3) → post x2 M) ∧ ((x3 < (M 51 4)) → (0 ≤ x3 ∧ x3 < 7) ∧ (-2147483648 ≤ (x3 + 1) ∧ (x3 + 1) ≤ 2147483647) ∧ ax_J Y_X7_placesOf (ax_Ki Y_X7_placesOf SH post) 0 0 4 [(0, aR 51), (1, aI x1), (2, aI (bo_or x2 (bo_shl (bo_and (bo_shr x1 x3) 1) (M 52 x3)))), (3, aI (x3 + 1))] [] SH M))) : ax_J Y_X7_placesOf (ax_Ki Y_X7_placesOf SH post) 0 0 4 [(0, aR 51), (1, aI x1), (2, aI x2), (3, aI x3)] [] SH M := by
  refine j_iload_n 3 dX7_placesOf_4 rfl ?_
  refine j_aload_n 0 dX7_placesOf_5 rfl ?_
  refine j_geti (i := 4) dX7_placesOf_6 f_X7_57 sh_51 rfl rfl (fun _ => ?_)
  refine j_icmp_ge (tgt := 33) dX7_placesOf_9 (by decide) (fun c1 => ?_) (fun c1 => ?_)
  · replace h := h.1 c1
    refine j_iload_n 2 dX7_placesOf_33 rfl ?_
    exact j_iret dX7_placesOf_34 rfl ⟨Nat.le_of_ble_eq_true rfl, Nat.le_of_ble_eq_true rfl⟩ (fun _ => h)
  · replace h := h.2 c1
    refine j_iload_n 2 dX7_placesOf_12 rfl ?_
    refine j_iload_n 1 dX7_placesOf_13 rfl ?_
    refine j_iload_n 3 dX7_placesOf_14 rfl ?_
    refine j_ishr (z := (bo_shr x1 x3)) dX7_placesOf_15 rfl ?_
    refine j_iconst (x := 1) dX7_placesOf_16 rfl (i32_c rfl) ?_
    refine j_iand (z := (bo_and (bo_shr x1 x3) 1)) dX7_placesOf_17 rfl ?_
    refine j_aload_n 0 dX7_placesOf_18 rfl ?_
    refine j_getc 52 dX7_placesOf_19 f_X7_9 sh_51 rfl ?_
    refine j_iload_n 3 dX7_placesOf_22 rfl ?_
    obtain ⟨o2, h⟩ := h
    refine j_iald dX7_placesOf_23 sh_52 o2.1 o2.2 (fun _ => ?_)
    refine j_ishl (z := (bo_shl (bo_and (bo_shr x1 x3) 1) (M 52 x3))) dX7_placesOf_24 rfl ?_
    refine j_ior (z := (bo_or x2 (bo_shl (bo_and (bo_shr x1 x3) 1) (M 52 x3)))) dX7_placesOf_25 rfl ?_
    refine j_istore_n (ll' := [(2, aI (bo_or x2 (bo_shl (bo_and (bo_shr x1 x3) 1) (M 52 x3)))), (0, aR 51), (1, aI x1), (3, aI x3)]) dX7_placesOf_26 (Nat.le_of_ble_eq_true rfl) rfl ?_
    obtain ⟨o3, h⟩ := h
    refine j_iinc (ll' := [(3, aI (x3 + 1)), (2, aI (bo_or x2 (bo_shl (bo_and (bo_shr x1 x3) 1) (M 52 x3)))), (0, aR 51), (1, aI x1)]) 3 dX7_placesOf_27 rfl (Nat.le_of_ble_eq_true rfl) o3 rfl ?_
    refine j_goto (tgt := 4) dX7_placesOf_30 (by decide) ?_
    refine j_sub [2, 3, 1, 0] rfl ?_
    exact h
set_option maxRecDepth 100000 in
set_option maxHeartbeats 4000000 in
theorem B_X7_bestOfTwo_0 {post : Int → ax_M → Prop} {M : ax_M} {x1 : Int} (h : ax_J Y_X7_bestOfTwo (ax_Ki Y_X7_bestOfTwo SH post) 0 0 10 [(0, aR 51), (1, aI x1), (2, aI (-1)), (3, aI (-1)), (4, aI (-1)), (5, aI 0)] [] SH M) : ax_J Y_X7_bestOfTwo (ax_Ki Y_X7_bestOfTwo SH post) 0 0 0 [(0, aR 51), (1, aI x1)] [] SH M := by
  refine j_iconst (x := (-1)) dX7_bestOfTwo_0 rfl (i32_c rfl) ?_
  refine j_istore_n (ll' := [(2, aI (-1)), (0, aR 51), (1, aI x1)]) dX7_bestOfTwo_1 (Nat.le_of_ble_eq_true rfl) rfl ?_
  refine j_iconst (x := (-1)) dX7_bestOfTwo_2 rfl (i32_c rfl) ?_
  refine j_istore_n (ll' := [(3, aI (-1)), (2, aI (-1)), (0, aR 51), (1, aI x1)]) dX7_bestOfTwo_3 (Nat.le_of_ble_eq_true rfl) rfl ?_
  refine j_iconst (x := (-1)) dX7_bestOfTwo_4 rfl (i32_c rfl) ?_
  refine j_istore (ll' := [(4, aI (-1)), (3, aI (-1)), (2, aI (-1)), (0, aR 51), (1, aI x1)]) dX7_bestOfTwo_5 (Nat.le_of_ble_eq_true rfl) rfl ?_
  refine j_iconst (x := 0) dX7_bestOfTwo_7 rfl (i32_c rfl) ?_
  refine j_istore (ll' := [(5, aI 0), (4, aI (-1)), (3, aI (-1)), (2, aI (-1)), (0, aR 51), (1, aI x1)]) dX7_bestOfTwo_8 (Nat.le_of_ble_eq_true rfl) rfl ?_
  refine j_sub [4, 5, 3, 2, 1, 0] rfl ?_
  exact h
theorem E_X7_bestOfTwo {post : Int → ax_M → Prop} {M : ax_M} {x1 : Int} (h : ax_mr SH M → ax_J Y_X7_bestOfTwo (ax_Ki Y_X7_bestOfTwo SH post) 0 0 10 [(0, aR 51), (1, aI x1), (2, aI (-1)), (3, aI (-1)), (4, aI (-1)), (5, aI 0)] [] SH M) : ax_Ti Y_X7_bestOfTwo [aR 51, aI x1] SH M post :=
  ti_of rfl (Nat.le_of_ble_eq_true rfl) rfl (fun q => B_X7_bestOfTwo_0 (h q))
set_option maxRecDepth 100000 in
set_option maxHeartbeats 4000000 in
theorem B_X7_bestOfTwo_10 {post : Int → ax_M → Prop} {M : ax_M} {x1 x2 x3 x4 x5 : Int} (h : (-2147483648 ≤ ((bo_shl 1 (M 51 4)) - 1) ∧ ((bo_shl 1 (M 51 4)) - 1) ≤ 2147483647) ∧ (((((bo_shl 1 (M 51 4)) - 1) < x5) → (((x4 = (-1)) → post x4 M) ∧ ((¬ x4 = (-1)) → (((¬ x1 = 2) → (((¬ x1 = 0) → ax_Ti Y_X7_placesOf [aR 51, aI x3] SH M (fun z2 u1 => post z2 u1)) ∧ ((x1 = 0) → ax_Ti Y_X7_placesOf [aR 51, aI x2] SH M (fun z4 u3 => post z4 u3)))) ∧ ((x1 = 2) → post x4 M))))) ∧ ((x5 ≤ ((bo_shl 1 (M 51 4)) - 1)) → ax_J Y_X7_bestOfTwo (ax_Ki Y_X7_bestOfTwo SH post) 0 0 22 [(0, aR 51), (1, aI x1), (2, aI x2), (3, aI x3), (4, aI x4), (5, aI x5), (6, aI 0)] [] SH M))) : ax_J Y_X7_bestOfTwo (ax_Ki Y_X7_bestOfTwo SH post) 0 0 10 [(0, aR 51), (1, aI x1), (2, aI x2), (3, aI x3), (4, aI x4), (5, aI x5)] [] SH M := by
  refine j_iload 5 dX7_bestOfTwo_10 rfl ?_
  refine j_aload_n 0 dX7_bestOfTwo_12 rfl ?_
  refine j_calliV (Yc := Y_X7_allStops) (as := []) (rest := [aI x5]) dX7_bestOfTwo_13 q_X7_140 ⟨Nat.le_of_ble_eq_true rfl, Nat.le_of_ble_eq_true rfl, Nat.le_of_ble_eq_true rfl, Nat.le_of_ble_eq_true rfl⟩ sh_51 rfl (Nat.le_of_ble_eq_true rfl) rfl (ti_of (ll := [(0, aR 51)]) rfl (Nat.le_of_ble_eq_true rfl) rfl (fun _ => ?_))
  refine j_iconst (x := 1) dX7_allStops_0 rfl (i32_c rfl) ?_
  refine j_aload_n 0 dX7_allStops_1 rfl ?_
  refine j_geti (i := 4) dX7_allStops_2 f_X7_57 sh_51 rfl rfl (fun _ => ?_)
  refine j_ishl (z := (bo_shl 1 (M 51 4))) dX7_allStops_5 rfl ?_
  refine j_iconst (x := 1) dX7_allStops_6 rfl (i32_c rfl) ?_
  obtain ⟨o1, h⟩ := h
  refine j_isub (z := ((bo_shl 1 (M 51 4)) - 1)) dX7_allStops_7 rfl o1 ?_
  refine j_iret dX7_allStops_8 rfl ⟨Nat.le_of_ble_eq_true rfl, Nat.le_of_ble_eq_true rfl⟩ (fun _ => ?_)
  refine j_icmp_gt (tgt := 119) dX7_bestOfTwo_16 (by decide) (fun c2 => ?_) (fun c2 => ?_)
  · replace h := h.1 c2
    refine j_iload 4 dX7_bestOfTwo_119 rfl ?_
    refine j_iconst (x := (-1)) dX7_bestOfTwo_121 rfl (i32_c rfl) ?_
    refine j_icmp_eq (tgt := 130) dX7_bestOfTwo_122 (by decide) (fun c3 => ?_) (fun c3 => ?_)
    · replace h := h.1 c3
      refine j_iload 4 dX7_bestOfTwo_130 rfl ?_
      exact j_iret dX7_bestOfTwo_132 rfl ⟨Nat.le_of_ble_eq_true rfl, Nat.le_of_ble_eq_true rfl⟩ (fun _ => h)
    · replace h := h.2 c3
      refine j_iload_n 1 dX7_bestOfTwo_125 rfl ?_
      refine j_iconst (x := 2) dX7_bestOfTwo_126 rfl (i32_c rfl) ?_
      refine j_icmp_ne (tgt := 133) dX7_bestOfTwo_127 (by decide) (fun c4 => ?_) (fun c4 => ?_)
      · replace h := h.1 c4
        refine j_aload_n 0 dX7_bestOfTwo_133 rfl ?_
        refine j_iload_n 1 dX7_bestOfTwo_134 rfl ?_
        refine j_if_ne (tgt := 142) dX7_bestOfTwo_135 (by decide) (fun c5 => ?_) (fun c5 => ?_)
        · replace h := h.1 c5
          refine j_iload_n 3 dX7_bestOfTwo_142 rfl ?_
          refine j_calliV (Yc := Y_X7_placesOf) (as := [aI x3]) (rest := []) dX7_bestOfTwo_143 q_X7_143 ⟨Nat.le_of_ble_eq_true rfl, Nat.le_of_ble_eq_true rfl, Nat.le_of_ble_eq_true rfl, Nat.le_of_ble_eq_true rfl⟩ sh_51 rfl (Nat.le_of_ble_eq_true rfl) rfl (ti_mono h (fun z2 u1 h => ?_))
          exact j_iret dX7_bestOfTwo_146 rfl ⟨Nat.le_of_ble_eq_true rfl, Nat.le_of_ble_eq_true rfl⟩ (fun _ => h)
        · replace h := h.2 c5
          refine j_iload_n 2 dX7_bestOfTwo_138 rfl ?_
          refine j_goto (tgt := 143) dX7_bestOfTwo_139 (by decide) ?_
          refine j_calliV (Yc := Y_X7_placesOf) (as := [aI x2]) (rest := []) dX7_bestOfTwo_143 q_X7_143 ⟨Nat.le_of_ble_eq_true rfl, Nat.le_of_ble_eq_true rfl, Nat.le_of_ble_eq_true rfl, Nat.le_of_ble_eq_true rfl⟩ sh_51 rfl (Nat.le_of_ble_eq_true rfl) rfl (ti_mono h (fun z4 u3 h => ?_))
          exact j_iret dX7_bestOfTwo_146 rfl ⟨Nat.le_of_ble_eq_true rfl, Nat.le_of_ble_eq_true rfl⟩ (fun _ => h)
      · replace h := h.2 c4
        refine j_iload 4 dX7_bestOfTwo_130 rfl ?_
        exact j_iret dX7_bestOfTwo_132 rfl ⟨Nat.le_of_ble_eq_true rfl, Nat.le_of_ble_eq_true rfl⟩ (fun _ => h)
  · replace h := h.2 c2
    refine j_iconst (x := 0) dX7_bestOfTwo_19 rfl (i32_c rfl) ?_
    refine j_istore (ll' := [(6, aI 0), (0, aR 51), (1, aI x1), (2, aI x2), (3, aI x3), (4, aI x4), (5, aI x5)]) dX7_bestOfTwo_20 (Nat.le_of_ble_eq_true rfl) rfl ?_
    refine j_sub [1, 2, 3, 4, 5, 6, 0] rfl ?_
    exact h
set_option maxRecDepth 100000 in
set_option maxHeartbeats 4000000 in
theorem B_X7_bestOfTwo_22 {post : Int → ax_M → Prop} {M : ax_M} {x1 x2 x3 x4 x5 x6 : Int} (h : (-2147483648 ≤ ((bo_shl 1 (M 51 4)) - 1) ∧ ((bo_shl 1 (M 51 4)) - 1) ≤ 2147483647) ∧ (((((bo_shl 1 (M 51 4)) - 1) < x6) → (-2147483648 ≤ (x5 + 1) ∧ (x5 + 1) ≤ 2147483647) ∧ ax_J Y_X7_bestOfTwo (ax_Ki Y_X7_bestOfTwo SH post) 0 0 10 [(0, aR 51), (1, aI x1), (2, aI x2), (3, aI x3), (4, aI x4), (5, aI (x5 + 1))] [] SH M) ∧ ((x6 ≤ ((bo_shl 1 (M 51 4)) - 1)) → (((¬ (bo_and x5 x6) = 0) → (-2147483648 ≤ (x6 + 1) ∧ (x6 + 1) ≤ 2147483647) ∧ ax_J Y_X7_bestOfTwo (ax_Ki Y_X7_bestOfTwo SH post) 0 0 22 [(0, aR 51), (1, aI x1), (2, aI x2), (3, aI x3), (4, aI x4), (5, aI x5), (6, aI (x6 + 1))] [] SH M) ∧ (((bo_and x5 x6) = 0) → (0 ≤ x5 ∧ x5 < 64) ∧ ((((M 56 x5) = (-1)) → (-2147483648 ≤ (x6 + 1) ∧ (x6 + 1) ≤ 2147483647) ∧ ax_J Y_X7_bestOfTwo (ax_Ki Y_X7_bestOfTwo SH post) 0 0 22 [(0, aR 51), (1, aI x1), (2, aI x2), (3, aI x3), (4, aI x4), (5, aI x5), (6, aI (x6 + 1))] [] SH M) ∧ ((¬ (M 56 x5) = (-1)) → (0 ≤ x6 ∧ x6 < 64) ∧ (((¬ (M 57 x6) = (-1)) → (-2147483648 ≤ ((M 56 x5) + (M 57 x6)) ∧ ((M 56 x5) + (M 57 x6)) ≤ 2147483647) ∧ (((((M 56 x5) + (M 57 x6)) ≤ x4) → (-2147483648 ≤ (x6 + 1) ∧ (x6 + 1) ≤ 2147483647) ∧ ax_J Y_X7_bestOfTwo (ax_Ki Y_X7_bestOfTwo SH post) 0 0 22 [(0, aR 51), (1, aI x1), (2, aI x2), (3, aI x3), (4, aI x4), (5, aI x5), (6, aI (x6 + 1))] [] SH M) ∧ ((x4 < ((M 56 x5) + (M 57 x6))) → (-2147483648 ≤ (x6 + 1) ∧ (x6 + 1) ≤ 2147483647) ∧ ax_J Y_X7_bestOfTwo (ax_Ki Y_X7_bestOfTwo SH post) 0 0 22 [(0, aR 51), (1, aI x1), (2, aI x5), (3, aI x6), (4, aI ((M 56 x5) + (M 57 x6))), (5, aI x5), (6, aI (x6 + 1))] [] SH M))) ∧ (((M 57 x6) = (-1)) → (-2147483648 ≤ (x6 + 1) ∧ (x6 + 1) ≤ 2147483647) ∧ ax_J Y_X7_bestOfTwo (ax_Ki Y_X7_bestOfTwo SH post) 0 0 22 [(0, aR 51), (1, aI x1), (2, aI x2), (3, aI x3), (4, aI x4), (5, aI x5), (6, aI (x6 + 1))] [] SH M))))))))) : ax_J Y_X7_bestOfTwo (ax_Ki Y_X7_bestOfTwo SH post) 0 0 22 [(0, aR 51), (1, aI x1), (2, aI x2), (3, aI x3), (4, aI x4), (5, aI x5), (6, aI x6)] [] SH M := by
  refine j_iload 6 dX7_bestOfTwo_22 rfl ?_
  refine j_aload_n 0 dX7_bestOfTwo_24 rfl ?_
  refine j_calliV (Yc := Y_X7_allStops) (as := []) (rest := [aI x6]) dX7_bestOfTwo_25 q_X7_140 ⟨Nat.le_of_ble_eq_true rfl, Nat.le_of_ble_eq_true rfl, Nat.le_of_ble_eq_true rfl, Nat.le_of_ble_eq_true rfl⟩ sh_51 rfl (Nat.le_of_ble_eq_true rfl) rfl (ti_of (ll := [(0, aR 51)]) rfl (Nat.le_of_ble_eq_true rfl) rfl (fun _ => ?_))
  refine j_iconst (x := 1) dX7_allStops_0 rfl (i32_c rfl) ?_
  refine j_aload_n 0 dX7_allStops_1 rfl ?_
  refine j_geti (i := 4) dX7_allStops_2 f_X7_57 sh_51 rfl rfl (fun _ => ?_)
  refine j_ishl (z := (bo_shl 1 (M 51 4))) dX7_allStops_5 rfl ?_
  refine j_iconst (x := 1) dX7_allStops_6 rfl (i32_c rfl) ?_
  obtain ⟨o1, h⟩ := h
  refine j_isub (z := ((bo_shl 1 (M 51 4)) - 1)) dX7_allStops_7 rfl o1 ?_
  refine j_iret dX7_allStops_8 rfl ⟨Nat.le_of_ble_eq_true rfl, Nat.le_of_ble_eq_true rfl⟩ (fun _ => ?_)
  refine j_icmp_gt (tgt := 113) dX7_bestOfTwo_28 (by decide) (fun c2 => ?_) (fun c2 => ?_)
  · replace h := h.1 c2
    obtain ⟨o3, h⟩ := h
    refine j_iinc (ll' := [(5, aI (x5 + 1)), (0, aR 51), (1, aI x1), (2, aI x2), (3, aI x3), (4, aI x4), (6, aI x6)]) 5 dX7_bestOfTwo_113 rfl (Nat.le_of_ble_eq_true rfl) o3 rfl ?_
    refine j_goto (tgt := 10) dX7_bestOfTwo_116 (by decide) ?_
    refine j_sub [1, 2, 3, 4, 5, 0] rfl ?_
    exact h
  · replace h := h.2 c2
    refine j_iload 5 dX7_bestOfTwo_31 rfl ?_
    refine j_iload 6 dX7_bestOfTwo_33 rfl ?_
    refine j_iand (z := (bo_and x5 x6)) dX7_bestOfTwo_35 rfl ?_
    refine j_if_ne (tgt := 107) dX7_bestOfTwo_36 (by decide) (fun c4 => ?_) (fun c4 => ?_)
    · replace h := h.1 c4
      obtain ⟨o5, h⟩ := h
      refine j_iinc (ll' := [(6, aI (x6 + 1)), (0, aR 51), (1, aI x1), (2, aI x2), (3, aI x3), (4, aI x4), (5, aI x5)]) 6 dX7_bestOfTwo_107 rfl (Nat.le_of_ble_eq_true rfl) o5 rfl ?_
      refine j_goto (tgt := 22) dX7_bestOfTwo_110 (by decide) ?_
      refine j_sub [1, 2, 3, 4, 5, 6, 0] rfl ?_
      exact h
    · replace h := h.2 c4
      refine j_aload_n 0 dX7_bestOfTwo_39 rfl ?_
      refine j_getc 56 dX7_bestOfTwo_40 f_X7_24 sh_51 rfl ?_
      refine j_iload 5 dX7_bestOfTwo_43 rfl ?_
      obtain ⟨o6, h⟩ := h
      refine j_iald dX7_bestOfTwo_45 sh_56 o6.1 o6.2 (fun _ => ?_)
      refine j_iconst (x := (-1)) dX7_bestOfTwo_46 rfl (i32_c rfl) ?_
      refine j_icmp_eq (tgt := 107) dX7_bestOfTwo_47 (by decide) (fun c7 => ?_) (fun c7 => ?_)
      · replace h := h.1 c7
        obtain ⟨o8, h⟩ := h
        refine j_iinc (ll' := [(6, aI (x6 + 1)), (0, aR 51), (1, aI x1), (2, aI x2), (3, aI x3), (4, aI x4), (5, aI x5)]) 6 dX7_bestOfTwo_107 rfl (Nat.le_of_ble_eq_true rfl) o8 rfl ?_
        refine j_goto (tgt := 22) dX7_bestOfTwo_110 (by decide) ?_
        refine j_sub [1, 2, 3, 4, 5, 6, 0] rfl ?_
        exact h
      · replace h := h.2 c7
        refine j_aload_n 0 dX7_bestOfTwo_50 rfl ?_
        refine j_getc 57 dX7_bestOfTwo_51 f_X7_27 sh_51 rfl ?_
        refine j_iload 6 dX7_bestOfTwo_54 rfl ?_
        obtain ⟨o9, h⟩ := h
        refine j_iald dX7_bestOfTwo_56 sh_57 o9.1 o9.2 (fun _ => ?_)
        refine j_iconst (x := (-1)) dX7_bestOfTwo_57 rfl (i32_c rfl) ?_
        refine j_icmp_ne (tgt := 64) dX7_bestOfTwo_58 (by decide) (fun c10 => ?_) (fun c10 => ?_)
        · replace h := h.1 c10
          refine j_aload_n 0 dX7_bestOfTwo_64 rfl ?_
          refine j_getc 56 dX7_bestOfTwo_65 f_X7_24 sh_51 rfl ?_
          refine j_iload 5 dX7_bestOfTwo_68 rfl ?_
          refine j_iald dX7_bestOfTwo_70 sh_56 o6.1 o6.2 (fun _ => ?_)
          refine j_aload_n 0 dX7_bestOfTwo_71 rfl ?_
          refine j_getc 57 dX7_bestOfTwo_72 f_X7_27 sh_51 rfl ?_
          refine j_iload 6 dX7_bestOfTwo_75 rfl ?_
          refine j_iald dX7_bestOfTwo_77 sh_57 o9.1 o9.2 (fun _ => ?_)
          obtain ⟨o11, h⟩ := h
          refine j_iadd (z := ((M 56 x5) + (M 57 x6))) dX7_bestOfTwo_78 rfl o11 ?_
          refine j_iload 4 dX7_bestOfTwo_79 rfl ?_
          refine j_icmp_le (tgt := 107) dX7_bestOfTwo_81 (by decide) (fun c12 => ?_) (fun c12 => ?_)
          · replace h := h.1 c12
            obtain ⟨o13, h⟩ := h
            refine j_iinc (ll' := [(6, aI (x6 + 1)), (0, aR 51), (1, aI x1), (2, aI x2), (3, aI x3), (4, aI x4), (5, aI x5)]) 6 dX7_bestOfTwo_107 rfl (Nat.le_of_ble_eq_true rfl) o13 rfl ?_
            refine j_goto (tgt := 22) dX7_bestOfTwo_110 (by decide) ?_
            refine j_sub [1, 2, 3, 4, 5, 6, 0] rfl ?_
            exact h
          · replace h := h.2 c12
            refine j_aload_n 0 dX7_bestOfTwo_84 rfl ?_
            refine j_getc 56 dX7_bestOfTwo_85 f_X7_24 sh_51 rfl ?_
            refine j_iload 5 dX7_bestOfTwo_88 rfl ?_
            refine j_iald dX7_bestOfTwo_90 sh_56 o6.1 o6.2 (fun _ => ?_)
            refine j_aload_n 0 dX7_bestOfTwo_91 rfl ?_
            refine j_getc 57 dX7_bestOfTwo_92 f_X7_27 sh_51 rfl ?_
            refine j_iload 6 dX7_bestOfTwo_95 rfl ?_
            refine j_iald dX7_bestOfTwo_97 sh_57 o9.1 o9.2 (fun _ => ?_)
            refine j_iadd (z := ((M 56 x5) + (M 57 x6))) dX7_bestOfTwo_98 rfl o11 ?_
            refine j_istore (ll' := [(4, aI ((M 56 x5) + (M 57 x6))), (0, aR 51), (1, aI x1), (2, aI x2), (3, aI x3), (5, aI x5), (6, aI x6)]) dX7_bestOfTwo_99 (Nat.le_of_ble_eq_true rfl) rfl ?_
            refine j_iload 5 dX7_bestOfTwo_101 rfl ?_
            refine j_istore_n (ll' := [(2, aI x5), (4, aI ((M 56 x5) + (M 57 x6))), (0, aR 51), (1, aI x1), (3, aI x3), (5, aI x5), (6, aI x6)]) dX7_bestOfTwo_103 (Nat.le_of_ble_eq_true rfl) rfl ?_
            refine j_iload 6 dX7_bestOfTwo_104 rfl ?_
            refine j_istore_n (ll' := [(3, aI x6), (2, aI x5), (4, aI ((M 56 x5) + (M 57 x6))), (0, aR 51), (1, aI x1), (5, aI x5), (6, aI x6)]) dX7_bestOfTwo_106 (Nat.le_of_ble_eq_true rfl) rfl ?_
            obtain ⟨o14, h⟩ := h
            refine j_iinc (ll' := [(6, aI (x6 + 1)), (3, aI x6), (2, aI x5), (4, aI ((M 56 x5) + (M 57 x6))), (0, aR 51), (1, aI x1), (5, aI x5)]) 6 dX7_bestOfTwo_107 rfl (Nat.le_of_ble_eq_true rfl) o14 rfl ?_
            refine j_goto (tgt := 22) dX7_bestOfTwo_110 (by decide) ?_
            refine j_sub [4, 5, 2, 1, 3, 6, 0] rfl ?_
            exact h
        · replace h := h.2 c10
          refine j_goto (tgt := 107) dX7_bestOfTwo_61 (by decide) ?_
          obtain ⟨o15, h⟩ := h
          refine j_iinc (ll' := [(6, aI (x6 + 1)), (0, aR 51), (1, aI x1), (2, aI x2), (3, aI x3), (4, aI x4), (5, aI x5)]) 6 dX7_bestOfTwo_107 rfl (Nat.le_of_ble_eq_true rfl) o15 rfl ?_
          refine j_goto (tgt := 22) dX7_bestOfTwo_110 (by decide) ?_
          refine j_sub [1, 2, 3, 4, 5, 6, 0] rfl ?_
          exact h
set_option maxRecDepth 100000 in
set_option maxHeartbeats 4000000 in
theorem B_X7_weigh_51_57_0 {post : ax_M → Prop} {M : ax_M} {x2 x3 x4 x5 : Int} (h : (-2147483648 ≤ ((M 51 12) + 1) ∧ ((M 51 12) + 1) ≤ 2147483647) ∧ ax_Tv Y_J7_fill_53178 [aR 57, aI (-1)] SH (ax_up (ax_up (ax_up M 51 13 57) 51 14 x5) 51 12 ((M 51 12) + 1)) (fun u1 => (0 ≤ x2 ∧ x2 < 8) ∧ ax_Tv Y_X7_findLast [aR 51, aI x3, aI (u1 11 x2), aR 55] SH u1 (fun u2 => (0 ≤ (u2 51 4) ∧ (u2 51 4) < 7) ∧ (0 ≤ (u2 9 x2) ∧ (u2 9 x2) < 12) ∧ ((((u2 55 (u2 9 x2)) < x4) → post (ax_up u2 52 (u2 51 4) (u2 9 x2))) ∧ ((x4 ≤ (u2 55 (u2 9 x2))) → ax_Tv (Y_X7_goOnFrom 12) [aR 51, aI (u2 51 4), aI x4, aI 0, aI 0, aI 0] SH (ax_up u2 52 (u2 51 4) (u2 9 x2)) (fun u3 => post u3)))))) : ax_J Y_X7_weigh (ax_Kv Y_X7_weigh SH post) 0 0 0 [(0, aR 51), (1, aR 57), (2, aI x2), (3, aI x3), (4, aI x4), (5, aI x5)] [] SH M := by
  refine j_aload_n 0 dX7_weigh_0 rfl ?_
  refine j_aload_n 1 dX7_weigh_1 rfl ?_
  refine j_putr (i := 13) dX7_weigh_2 p_X7_36 (fun _ => ⟨rfl, rfl⟩) (fun h => by cases h) sh_51 rfl rfl (by decide) ?_
  refine j_aload_n 0 dX7_weigh_5 rfl ?_
  refine j_iload 5 dX7_weigh_6 rfl ?_
  refine j_puti (i := 14) dX7_weigh_8 p_X7_89 (fun h => by cases h) sh_51 rfl rfl ?_
  refine j_aload_n 0 dX7_weigh_11 rfl ?_
  refine j_dup dX7_weigh_12 rfl ?_
  refine j_geti (i := 12) dX7_weigh_13 f_X7_92 sh_51 rfl rfl (fun _ => ?_)
  refine j_iconst (x := 1) dX7_weigh_16 rfl (i32_c rfl) ?_
  obtain ⟨o1, h⟩ := h
  refine j_iadd (z := ((M 51 12) + 1)) dX7_weigh_17 rfl o1 ?_
  refine j_puti (i := 12) dX7_weigh_18 p_X7_92 (fun h => by cases h) sh_51 rfl rfl ?_
  refine j_aload_n 0 dX7_weigh_21 rfl ?_
  refine j_getr 57 (i := 13) dX7_weigh_22 f_X7_36 sh_51 rfl rfl rfl ?_
  refine j_iconst (x := (-1)) dX7_weigh_25 rfl (i32_c rfl) ?_
  refine j_callvS (Yc := Y_J7_fill_53178) (as := [aR 57, aI (-1)]) (rest := []) dX7_weigh_26 q_X7_95 ⟨Nat.le_of_ble_eq_true rfl, Nat.le_of_ble_eq_true rfl, Nat.le_of_ble_eq_true rfl, Nat.le_of_ble_eq_true rfl⟩ rfl (Nat.le_of_ble_eq_true rfl) rfl (tv_mono h (fun u1 h => ?_))
  refine j_aload_n 0 dX7_weigh_29 rfl ?_
  refine j_iload_n 3 dX7_weigh_30 rfl ?_
  refine j_aload_n 0 dX7_weigh_31 rfl ?_
  refine j_getc 8 dX7_weigh_32 f_X7_43 sh_51 rfl ?_
  refine j_getc 11 dX7_weigh_35 f_X7_101 sh_8 rfl ?_
  refine j_iload_n 2 dX7_weigh_38 rfl ?_
  obtain ⟨o2, h⟩ := h
  refine j_zald dX7_weigh_39 sh_11 o2.1 o2.2 (fun _ => ?_)
  refine j_aload_n 0 dX7_weigh_40 rfl ?_
  refine j_getc 55 dX7_weigh_41 f_X7_21 sh_51 rfl ?_
  refine j_callvV (Yc := Y_X7_findLast) (as := [aI x3, aI (u1 11 x2), aR 55]) (rest := []) dX7_weigh_44 q_X7_61 ⟨Nat.le_of_ble_eq_true rfl, Nat.le_of_ble_eq_true rfl, Nat.le_of_ble_eq_true rfl, Nat.le_of_ble_eq_true rfl⟩ sh_51 rfl (Nat.le_of_ble_eq_true rfl) rfl (tv_mono h (fun u2 h => ?_))
  refine j_aload_n 0 dX7_weigh_47 rfl ?_
  refine j_getc 52 dX7_weigh_48 f_X7_9 sh_51 rfl ?_
  refine j_aload_n 0 dX7_weigh_51 rfl ?_
  refine j_geti (i := 4) dX7_weigh_52 f_X7_57 sh_51 rfl rfl (fun _ => ?_)
  refine j_aload_n 0 dX7_weigh_55 rfl ?_
  refine j_getc 8 dX7_weigh_56 f_X7_43 sh_51 rfl ?_
  refine j_getc 9 dX7_weigh_59 f_X7_105 sh_8 rfl ?_
  refine j_iload_n 2 dX7_weigh_62 rfl ?_
  refine j_iald dX7_weigh_63 sh_9 o2.1 o2.2 (fun _ => ?_)
  obtain ⟨o3, h⟩ := h
  refine j_iast dX7_weigh_64 sh_52 o3.1 o3.2 ?_
  refine j_iload 4 dX7_weigh_65 rfl ?_
  refine j_aload_n 0 dX7_weigh_67 rfl ?_
  refine j_getc 55 dX7_weigh_68 f_X7_21 sh_51 rfl ?_
  refine j_aload_n 0 dX7_weigh_71 rfl ?_
  refine j_getc 8 dX7_weigh_72 f_X7_43 sh_51 rfl ?_
  refine j_getc 9 dX7_weigh_75 f_X7_105 sh_8 rfl ?_
  refine j_iload_n 2 dX7_weigh_78 rfl ?_
  refine j_iald dX7_weigh_79 sh_9 o2.1 o2.2 (fun _ => ?_)
  obtain ⟨o4, h⟩ := h
  refine j_iald dX7_weigh_80 sh_55 o4.1 o4.2 (fun _ => ?_)
  refine j_icmp_gt (tgt := 97) dX7_weigh_81 (by decide) (fun c5 => ?_) (fun c5 => ?_)
  · replace h := h.1 c5
    exact j_vret dX7_weigh_97 rfl ⟨Nat.le_of_ble_eq_true rfl, Nat.le_of_ble_eq_true rfl⟩ h
  · replace h := h.2 c5
    refine j_aload_n 0 dX7_weigh_84 rfl ?_
    refine j_aload_n 0 dX7_weigh_85 rfl ?_
    refine j_geti (i := 4) dX7_weigh_86 f_X7_57 sh_51 rfl rfl (fun _ => ?_)
    refine j_iload 4 dX7_weigh_89 rfl ?_
    refine j_iconst (x := 0) dX7_weigh_91 rfl (i32_c rfl) ?_
    refine j_iconst (x := 0) dX7_weigh_92 rfl (i32_c rfl) ?_
    refine j_iconst (x := 0) dX7_weigh_93 rfl (i32_c rfl) ?_
    refine j_callvS (Yc := (Y_X7_goOnFrom 12)) (as := [aR 51, aI (u2 51 4), aI x4, aI 0, aI 0, aI 0]) (rest := []) dX7_weigh_94 q_X7_108 ⟨Nat.le_of_ble_eq_true rfl, Nat.le_of_ble_eq_true rfl, Nat.le_of_ble_eq_true rfl, Nat.le_of_ble_eq_true rfl⟩ rfl (Nat.le_of_ble_eq_true rfl) rfl (tv_mono h (fun u3 h => ?_))
    exact j_vret dX7_weigh_97 rfl ⟨Nat.le_of_ble_eq_true rfl, Nat.le_of_ble_eq_true rfl⟩ h
theorem E_X7_weigh_51_57 {post : ax_M → Prop} {M : ax_M} {x2 x3 x4 x5 : Int} (h : ax_mr SH M → (-2147483648 ≤ ((M 51 12) + 1) ∧ ((M 51 12) + 1) ≤ 2147483647) ∧ ax_Tv Y_J7_fill_53178 [aR 57, aI (-1)] SH (ax_up (ax_up (ax_up M 51 13 57) 51 14 x5) 51 12 ((M 51 12) + 1)) (fun u1 => (0 ≤ x2 ∧ x2 < 8) ∧ ax_Tv Y_X7_findLast [aR 51, aI x3, aI (u1 11 x2), aR 55] SH u1 (fun u2 => (0 ≤ (u2 51 4) ∧ (u2 51 4) < 7) ∧ (0 ≤ (u2 9 x2) ∧ (u2 9 x2) < 12) ∧ ((((u2 55 (u2 9 x2)) < x4) → post (ax_up u2 52 (u2 51 4) (u2 9 x2))) ∧ ((x4 ≤ (u2 55 (u2 9 x2))) → ax_Tv (Y_X7_goOnFrom 12) [aR 51, aI (u2 51 4), aI x4, aI 0, aI 0, aI 0] SH (ax_up u2 52 (u2 51 4) (u2 9 x2)) (fun u3 => post u3)))))) : ax_Tv Y_X7_weigh [aR 51, aR 57, aI x2, aI x3, aI x4, aI x5] SH M post :=
  tv_of rfl (Nat.le_of_ble_eq_true rfl) rfl (fun q => B_X7_weigh_51_57_0 (h q))
set_option maxRecDepth 100000 in
set_option maxHeartbeats 4000000 in
theorem B_X7_lateFor_0 {post : Int → ax_M → Prop} {M : ax_M} {x1 x2 x3 : Int} (h : (0 ≤ x1 ∧ x1 < 8) ∧ ax_Tv Y_X7_findLast [aR 51, aI x2, aI (M 11 x1), aR 55] SH M (fun u1 => (0 ≤ x3 ∧ x3 < 12) ∧ (((¬ (u1 55 x3) = (-1)) → ax_Tv Y_X9_gather [aR 33, aI x3, aI (u1 55 x3)] SH u1 (fun u2 => (0 ≤ (u2 9 x1) ∧ (u2 9 x1) < 12) ∧ (-2147483648 ≤ ((u2 39 (u2 9 x1)) + 1) ∧ ((u2 39 (u2 9 x1)) + 1) ≤ 2147483647) ∧ post ((u2 39 (u2 9 x1)) + 1) u2)) ∧ (((u1 55 x3) = (-1)) → post 0 u1)))) : ax_J Y_X7_lateFor (ax_Ki Y_X7_lateFor SH post) 0 0 0 [(0, aR 51), (1, aI x1), (2, aI x2), (3, aI x3)] [] SH M := by
  refine j_aload_n 0 dX7_lateFor_0 rfl ?_
  refine j_iload_n 2 dX7_lateFor_1 rfl ?_
  refine j_aload_n 0 dX7_lateFor_2 rfl ?_
  refine j_getc 8 dX7_lateFor_3 f_X7_43 sh_51 rfl ?_
  refine j_getc 11 dX7_lateFor_6 f_X7_101 sh_8 rfl ?_
  refine j_iload_n 1 dX7_lateFor_9 rfl ?_
  obtain ⟨o1, h⟩ := h
  refine j_zald dX7_lateFor_10 sh_11 o1.1 o1.2 (fun _ => ?_)
  refine j_aload_n 0 dX7_lateFor_11 rfl ?_
  refine j_getc 55 dX7_lateFor_12 f_X7_21 sh_51 rfl ?_
  refine j_callvV (Yc := Y_X7_findLast) (as := [aI x2, aI (M 11 x1), aR 55]) (rest := []) dX7_lateFor_15 q_X7_61 ⟨Nat.le_of_ble_eq_true rfl, Nat.le_of_ble_eq_true rfl, Nat.le_of_ble_eq_true rfl, Nat.le_of_ble_eq_true rfl⟩ sh_51 rfl (Nat.le_of_ble_eq_true rfl) rfl (tv_mono h (fun u1 h => ?_))
  refine j_aload_n 0 dX7_lateFor_18 rfl ?_
  refine j_getc 55 dX7_lateFor_19 f_X7_21 sh_51 rfl ?_
  refine j_iload_n 3 dX7_lateFor_22 rfl ?_
  obtain ⟨o2, h⟩ := h
  refine j_iald dX7_lateFor_23 sh_55 o2.1 o2.2 (fun _ => ?_)
  refine j_iconst (x := (-1)) dX7_lateFor_24 rfl (i32_c rfl) ?_
  refine j_icmp_ne (tgt := 30) dX7_lateFor_25 (by decide) (fun c3 => ?_) (fun c3 => ?_)
  · replace h := h.1 c3
    refine j_aload_n 0 dX7_lateFor_30 rfl ?_
    refine j_getc 33 dX7_lateFor_31 f_X7_47 sh_51 rfl ?_
    refine j_iload_n 3 dX7_lateFor_34 rfl ?_
    refine j_aload_n 0 dX7_lateFor_35 rfl ?_
    refine j_getc 55 dX7_lateFor_36 f_X7_21 sh_51 rfl ?_
    refine j_iload_n 3 dX7_lateFor_39 rfl ?_
    refine j_iald dX7_lateFor_40 sh_55 o2.1 o2.2 (fun _ => ?_)
    refine j_callvV (Yc := Y_X9_gather) (as := [aI x3, aI (u1 55 x3)]) (rest := []) dX7_lateFor_41 q_X7_76 ⟨Nat.le_of_ble_eq_true rfl, Nat.le_of_ble_eq_true rfl, Nat.le_of_ble_eq_true rfl, Nat.le_of_ble_eq_true rfl⟩ sh_33 rfl (Nat.le_of_ble_eq_true rfl) rfl (tv_mono h (fun u2 h => ?_))
    refine j_aload_n 0 dX7_lateFor_44 rfl ?_
    refine j_getc 33 dX7_lateFor_45 f_X7_47 sh_51 rfl ?_
    refine j_getc 39 dX7_lateFor_48 f_X7_80 sh_33 rfl ?_
    refine j_aload_n 0 dX7_lateFor_51 rfl ?_
    refine j_getc 8 dX7_lateFor_52 f_X7_43 sh_51 rfl ?_
    refine j_getc 9 dX7_lateFor_55 f_X7_105 sh_8 rfl ?_
    refine j_iload_n 1 dX7_lateFor_58 rfl ?_
    refine j_iald dX7_lateFor_59 sh_9 o1.1 o1.2 (fun _ => ?_)
    obtain ⟨o4, h⟩ := h
    refine j_iald dX7_lateFor_60 sh_39 o4.1 o4.2 (fun _ => ?_)
    refine j_iconst (x := 1) dX7_lateFor_61 rfl (i32_c rfl) ?_
    obtain ⟨o5, h⟩ := h
    refine j_iadd (z := ((u2 39 (u2 9 x1)) + 1)) dX7_lateFor_62 rfl o5 ?_
    exact j_iret dX7_lateFor_63 rfl ⟨Nat.le_of_ble_eq_true rfl, Nat.le_of_ble_eq_true rfl⟩ (fun _ => h)
  · replace h := h.2 c3
    refine j_iconst (x := 0) dX7_lateFor_28 rfl (i32_c rfl) ?_
    exact j_iret dX7_lateFor_29 rfl ⟨Nat.le_of_ble_eq_true rfl, Nat.le_of_ble_eq_true rfl⟩ (fun _ => h)
theorem E_X7_lateFor {post : Int → ax_M → Prop} {M : ax_M} {x1 x2 x3 : Int} (h : ax_mr SH M → (0 ≤ x1 ∧ x1 < 8) ∧ ax_Tv Y_X7_findLast [aR 51, aI x2, aI (M 11 x1), aR 55] SH M (fun u1 => (0 ≤ x3 ∧ x3 < 12) ∧ (((¬ (u1 55 x3) = (-1)) → ax_Tv Y_X9_gather [aR 33, aI x3, aI (u1 55 x3)] SH u1 (fun u2 => (0 ≤ (u2 9 x1) ∧ (u2 9 x1) < 12) ∧ (-2147483648 ≤ ((u2 39 (u2 9 x1)) + 1) ∧ ((u2 39 (u2 9 x1)) + 1) ≤ 2147483647) ∧ post ((u2 39 (u2 9 x1)) + 1) u2)) ∧ (((u1 55 x3) = (-1)) → post 0 u1)))) : ax_Ti Y_X7_lateFor [aR 51, aI x1, aI x2, aI x3] SH M post :=
  ti_of rfl (Nat.le_of_ble_eq_true rfl) rfl (fun q => B_X7_lateFor_0 (h q))
set_option maxRecDepth 100000 in
set_option maxHeartbeats 4000000 in
theorem B_X4_follow_0 {post : ax_M → Prop} {M : ax_M} {x1 : Int} (h : ax_J Y_X4_follow (ax_Kv Y_X4_follow SH post) 0 0 18 [(0, aR 60), (2, aI 1)] [] SH (ax_up (ax_up (ax_up M 60 3 (-1)) 60 4 x1) 60 5 1000000)) : ax_J Y_X4_follow (ax_Kv Y_X4_follow SH post) 0 0 0 [(0, aR 60), (1, aI x1)] [] SH M := by
  refine j_aload_n 0 dX4_follow_0 rfl ?_
  refine j_iconst (x := (-1)) dX4_follow_1 rfl (i32_c rfl) ?_
  refine j_puti (i := 3) dX4_follow_2 p_X4_23 (fun h => by cases h) sh_60 rfl rfl ?_
  refine j_aload_n 0 dX4_follow_5 rfl ?_
  refine j_iload_n 1 dX4_follow_6 rfl ?_
  refine j_puti (i := 4) dX4_follow_7 p_X4_27 (fun h => by cases h) sh_60 rfl rfl ?_
  refine j_aload_n 0 dX4_follow_10 rfl ?_
  refine j_ldc (x := 1000000) dX4_follow_11 (ax_in 1032 (by decide +kernel) rfl) (i32_c rfl) ?_
  refine j_puti (i := 5) dX4_follow_13 p_X4_31 (fun h => by cases h) sh_60 rfl rfl ?_
  refine j_iconst (x := 1) dX4_follow_16 rfl (i32_c rfl) ?_
  refine j_istore_n (ll' := [(2, aI 1), (0, aR 60), (1, aI x1)]) dX4_follow_17 (Nat.le_of_ble_eq_true rfl) rfl ?_
  refine j_sub [1, 0] rfl ?_
  exact h
theorem E_X4_follow {post : ax_M → Prop} {M : ax_M} {x1 : Int} (h : ax_mr SH M → ax_J Y_X4_follow (ax_Kv Y_X4_follow SH post) 0 0 18 [(0, aR 60), (2, aI 1)] [] SH (ax_up (ax_up (ax_up M 60 3 (-1)) 60 4 x1) 60 5 1000000)) : ax_Tv Y_X4_follow [aR 60, aI x1] SH M post :=
  tv_of rfl (Nat.le_of_ble_eq_true rfl) rfl (fun q => B_X4_follow_0 (h q))
set_option maxRecDepth 100000 in
set_option maxHeartbeats 4000000 in
theorem B_X4_follow_18 {post : ax_M → Prop} {M : ax_M} {x2 : Int} (h : ((((M 31 1) ≤ x2) → post M) ∧ ((x2 < (M 31 1)) → (-2147483648 ≤ (x2 - 1) ∧ (x2 - 1) ≤ 2147483647) ∧ (0 ≤ (x2 - 1) ∧ (x2 - 1) < 12) ∧ (0 ≤ x2 ∧ x2 < 12) ∧ ax_Ti Y_X9_choice [aR 33, aI (M 32 (x2 - 1)), aI (M 32 x2), aI (M 60 4)] SH M (fun z2 u1 => (((¬ z2 = (-1)) → ax_Ti Y_X9_through [aR 33, aI z2, aI (u1 60 4)] SH u1 (fun z4 u3 => ax_Ti Y_X3_notBad [aR 6, aI z2, aI z4] SH (ax_up u3 60 4 z4) (fun z6 u5 => (-9223372036854775808 ≤ ((u3 60 5) * z6) ∧ ((u3 60 5) * z6) ≤ 9223372036854775807) ∧ (0 ≤ ((u3 60 5) * z6)) ∧ (-2147483648 ≤ (((u3 60 5) * z6) / 1000000) ∧ (((u3 60 5) * z6) / 1000000) ≤ 2147483647) ∧ (-2147483648 ≤ (x2 + 1) ∧ (x2 + 1) ≤ 2147483647) ∧ ax_J Y_X4_follow (ax_Kv Y_X4_follow SH post) 0 0 18 [(0, aR 60), (2, aI (x2 + 1))] [] SH (ax_up u5 60 5 (((u3 60 5) * z6) / 1000000))))) ∧ ((z2 = (-1)) → post (ax_up u1 60 3 x2))))))) : ax_J Y_X4_follow (ax_Kv Y_X4_follow SH post) 0 0 18 [(0, aR 60), (2, aI x2)] [] SH M := by
  refine j_iload_n 1 dX4_follow_18 rfl ?_
  refine j_aload_n 0 dX4_follow_19 rfl ?_
  refine j_getc 31 dX4_follow_20 f_X4_15 sh_60 rfl ?_
  refine j_geti (i := 1) dX4_follow_23 f_X4_34 sh_31 rfl rfl (fun _ => ?_)
  refine j_icmp_ge (tgt := 117) dX4_follow_26 (by decide) (fun c1 => ?_) (fun c1 => ?_)
  · replace h := h.1 c1
    exact j_vret dX4_follow_117 rfl ⟨Nat.le_of_ble_eq_true rfl, Nat.le_of_ble_eq_true rfl⟩ h
  · replace h := h.2 c1
    refine j_aload_n 0 dX4_follow_29 rfl ?_
    refine j_getc 33 dX4_follow_30 f_X4_19 sh_60 rfl ?_
    refine j_aload_n 0 dX4_follow_33 rfl ?_
    refine j_getc 31 dX4_follow_34 f_X4_15 sh_60 rfl ?_
    refine j_getc 32 dX4_follow_37 f_X4_39 sh_31 rfl ?_
    refine j_iload_n 1 dX4_follow_40 rfl ?_
    refine j_iconst (x := 1) dX4_follow_41 rfl (i32_c rfl) ?_
    obtain ⟨o2, h⟩ := h
    refine j_isub (z := (x2 - 1)) dX4_follow_42 rfl o2 ?_
    obtain ⟨o3, h⟩ := h
    refine j_iald dX4_follow_43 sh_32 o3.1 o3.2 (fun _ => ?_)
    refine j_aload_n 0 dX4_follow_44 rfl ?_
    refine j_getc 31 dX4_follow_45 f_X4_15 sh_60 rfl ?_
    refine j_getc 32 dX4_follow_48 f_X4_39 sh_31 rfl ?_
    refine j_iload_n 1 dX4_follow_51 rfl ?_
    obtain ⟨o4, h⟩ := h
    refine j_iald dX4_follow_52 sh_32 o4.1 o4.2 (fun _ => ?_)
    refine j_aload_n 0 dX4_follow_53 rfl ?_
    refine j_geti (i := 4) dX4_follow_54 f_X4_27 sh_60 rfl rfl (fun _ => ?_)
    refine j_calliV (Yc := Y_X9_choice) (as := [aI (M 32 (x2 - 1)), aI (M 32 x2), aI (M 60 4)]) (rest := []) dX4_follow_57 q_X4_43 ⟨Nat.le_of_ble_eq_true rfl, Nat.le_of_ble_eq_true rfl, Nat.le_of_ble_eq_true rfl, Nat.le_of_ble_eq_true rfl⟩ sh_33 rfl (Nat.le_of_ble_eq_true rfl) rfl (ti_mono h (fun z2 u1 h => ?_))
    refine j_istore_n (ll' := [(3, aI z2), (0, aR 60), (2, aI x2)]) dX4_follow_60 (Nat.le_of_ble_eq_true rfl) rfl ?_
    refine j_iload_n 0 dX4_follow_61 rfl ?_
    refine j_iconst (x := (-1)) dX4_follow_62 rfl (i32_c rfl) ?_
    refine j_icmp_ne (tgt := 72) dX4_follow_63 (by decide) (fun c5 => ?_) (fun c5 => ?_)
    · replace h := h.1 c5
      refine j_aload_n 1 dX4_follow_72 rfl ?_
      refine j_aload_n 1 dX4_follow_73 rfl ?_
      refine j_getc 33 dX4_follow_74 f_X4_19 sh_60 rfl ?_
      refine j_iload_n 0 dX4_follow_77 rfl ?_
      refine j_aload_n 1 dX4_follow_78 rfl ?_
      refine j_geti (i := 4) dX4_follow_79 f_X4_27 sh_60 rfl rfl (fun _ => ?_)
      refine j_calliV (Yc := Y_X9_through) (as := [aI z2, aI (u1 60 4)]) (rest := [aR 60]) dX4_follow_82 q_X4_49 ⟨Nat.le_of_ble_eq_true rfl, Nat.le_of_ble_eq_true rfl, Nat.le_of_ble_eq_true rfl, Nat.le_of_ble_eq_true rfl⟩ sh_33 rfl (Nat.le_of_ble_eq_true rfl) rfl (ti_mono h (fun z4 u3 h => ?_))
      refine j_puti (i := 4) dX4_follow_85 p_X4_27 (fun h => by cases h) sh_60 rfl rfl ?_
      refine j_aload_n 1 dX4_follow_88 rfl ?_
      refine j_aload_n 1 dX4_follow_89 rfl ?_
      refine j_geti (i := 5) dX4_follow_90 f_X4_31 sh_60 rfl rfl (fun _ => ?_)
      refine j_aload_n 1 dX4_follow_93 rfl ?_
      refine j_getc 6 dX4_follow_94 f_X4_9 sh_60 rfl ?_
      refine j_iload_n 0 dX4_follow_97 rfl ?_
      refine j_aload_n 1 dX4_follow_98 rfl ?_
      refine j_geti (i := 4) dX4_follow_99 f_X4_27 sh_60 rfl rfl (fun _ => ?_)
      refine j_calliV (Yc := Y_X3_notBad) (as := [aI z2, aI z4]) (rest := [aI (u3 60 5), aR 60]) dX4_follow_102 q_X4_53 ⟨Nat.le_of_ble_eq_true rfl, Nat.le_of_ble_eq_true rfl, Nat.le_of_ble_eq_true rfl, Nat.le_of_ble_eq_true rfl⟩ sh_6 rfl (Nat.le_of_ble_eq_true rfl) rfl (ti_mono h (fun z6 u5 h => ?_))
      refine j_calliS (Yc := Y_X4_both) (as := [aI (u3 60 5), aI z6]) (rest := [aR 60]) dX4_follow_105 q_X4_58 ⟨Nat.le_of_ble_eq_true rfl, Nat.le_of_ble_eq_true rfl, Nat.le_of_ble_eq_true rfl, Nat.le_of_ble_eq_true rfl⟩ rfl (Nat.le_of_ble_eq_true rfl) rfl (ti_of (ll := [(0, aI (u3 60 5)), (1, aI z6)]) rfl (Nat.le_of_ble_eq_true rfl) rfl (fun _ => ?_))
      refine j_iload_n 0 dX4_both_0 rfl ?_
      refine j_i2l dX4_both_1 ?_
      refine j_iload_n 1 dX4_both_2 rfl ?_
      refine j_i2l dX4_both_3 ?_
      obtain ⟨o6, h⟩ := h
      refine j_lmul (z := ((u3 60 5) * z6)) dX4_both_4 rfl o6 ?_
      refine j_ldc2 (x := 1000000) dX4_both_5 (ax_in 1047 (by decide +kernel) rfl) (i64_c rfl) ?_
      obtain ⟨o7, h⟩ := h
      refine j_ldiv (z := (((u3 60 5) * z6) / 1000000)) dX4_both_8 rfl o7 (by decide) ?_
      obtain ⟨o8, h⟩ := h
      refine j_l2i dX4_both_9 o8 ?_
      refine j_iret dX4_both_10 rfl ⟨Nat.le_of_ble_eq_true rfl, Nat.le_of_ble_eq_true rfl⟩ (fun _ => ?_)
      refine j_puti (i := 5) dX4_follow_108 p_X4_31 (fun h => by cases h) sh_60 rfl rfl ?_
      obtain ⟨o9, h⟩ := h
      refine j_iinc (ll' := [(2, aI (x2 + 1)), (3, aI z2), (0, aR 60)]) 2 dX4_follow_111 rfl (Nat.le_of_ble_eq_true rfl) o9 rfl ?_
      refine j_goto (tgt := 18) dX4_follow_114 (by decide) ?_
      refine j_sub [2, 0] rfl ?_
      exact h
    · replace h := h.2 c5
      refine j_aload_n 1 dX4_follow_66 rfl ?_
      refine j_iload_n 2 dX4_follow_67 rfl ?_
      refine j_puti (i := 3) dX4_follow_68 p_X4_23 (fun h => by cases h) sh_60 rfl rfl ?_
      exact j_vret dX4_follow_71 rfl ⟨Nat.le_of_ble_eq_true rfl, Nat.le_of_ble_eq_true rfl⟩ h
set_option maxRecDepth 100000 in
set_option maxHeartbeats 4000000 in
theorem B_X3_notBad_0 {post : Int → ax_M → Prop} {M : ax_M} {x1 x2 : Int} (h : (-2147483648 ≤ (x1 * 7) ∧ (x1 * 7) ≤ 2147483647) ∧ (-2147483648 ≤ ((x1 * 7) + 6) ∧ ((x1 * 7) + 6) ≤ 2147483647) ∧ (0 ≤ ((x1 * 7) + 6) ∧ ((x1 * 7) + 6) < 168) ∧ (-2147483648 ≤ (1000 - (M 7 ((x1 * 7) + 6))) ∧ (1000 - (M 7 ((x1 * 7) + 6))) ≤ 2147483647) ∧ ax_J Y_X3_notBad (ax_Ki Y_X3_notBad SH post) 0 0 19 [(2, aI x2), (3, aI (1000 - (M 7 ((x1 * 7) + 6)))), (4, aI 1000000), (5, aI 0)] [] SH M) : ax_J Y_X3_notBad (ax_Ki Y_X3_notBad SH post) 0 0 0 [(0, aR 6), (1, aI x1), (2, aI x2)] [] SH M := by
  refine j_sipush (x := 1000) dX3_notBad_0 rfl (i32_c rfl) ?_
  refine j_aload_n 0 dX3_notBad_3 rfl ?_
  refine j_iload_n 1 dX3_notBad_4 rfl ?_
  refine j_bipush (x := 6) dX3_notBad_5 rfl (i32_c rfl) ?_
  refine j_calliV (Yc := Y_X3_fact) (as := [aI x1, aI 6]) (rest := [aI 1000]) dX3_notBad_7 q_X3_34 ⟨Nat.le_of_ble_eq_true rfl, Nat.le_of_ble_eq_true rfl, Nat.le_of_ble_eq_true rfl, Nat.le_of_ble_eq_true rfl⟩ sh_6 rfl (Nat.le_of_ble_eq_true rfl) rfl (ti_of (ll := [(0, aR 6), (1, aI x1), (2, aI 6)]) rfl (Nat.le_of_ble_eq_true rfl) rfl (fun _ => ?_))
  refine j_aload_n 0 dX3_fact_0 rfl ?_
  refine j_getc 7 dX3_fact_1 f_X3_15 sh_6 rfl ?_
  refine j_iload_n 1 dX3_fact_4 rfl ?_
  refine j_bipush (x := 7) dX3_fact_5 rfl (i32_c rfl) ?_
  obtain ⟨o1, h⟩ := h
  refine j_imul (z := (x1 * 7)) dX3_fact_7 rfl o1 ?_
  refine j_iload_n 2 dX3_fact_8 rfl ?_
  obtain ⟨o2, h⟩ := h
  refine j_iadd (z := ((x1 * 7) + 6)) dX3_fact_9 rfl o2 ?_
  obtain ⟨o3, h⟩ := h
  refine j_iald dX3_fact_10 sh_7 o3.1 o3.2 (fun _ => ?_)
  refine j_iret dX3_fact_11 rfl ⟨Nat.le_of_ble_eq_true rfl, Nat.le_of_ble_eq_true rfl⟩ (fun _ => ?_)
  obtain ⟨o4, h⟩ := h
  refine j_isub (z := (1000 - (M 7 ((x1 * 7) + 6)))) dX3_notBad_10 rfl o4 ?_
  refine j_istore_n (ll' := [(3, aI (1000 - (M 7 ((x1 * 7) + 6)))), (0, aR 6), (1, aI x1), (2, aI x2)]) dX3_notBad_11 (Nat.le_of_ble_eq_true rfl) rfl ?_
  refine j_ldc (x := 1000000) dX3_notBad_12 (ax_in 1043 (by decide +kernel) rfl) (i32_c rfl) ?_
  refine j_istore (ll' := [(4, aI 1000000), (3, aI (1000 - (M 7 ((x1 * 7) + 6)))), (0, aR 6), (1, aI x1), (2, aI x2)]) dX3_notBad_14 (Nat.le_of_ble_eq_true rfl) rfl ?_
  refine j_iconst (x := 0) dX3_notBad_16 rfl (i32_c rfl) ?_
  refine j_istore (ll' := [(5, aI 0), (4, aI 1000000), (3, aI (1000 - (M 7 ((x1 * 7) + 6)))), (0, aR 6), (1, aI x1), (2, aI x2)]) dX3_notBad_17 (Nat.le_of_ble_eq_true rfl) rfl ?_
  refine j_sub [5, 2, 1, 0] rfl ?_
  exact h
theorem E_X3_notBad {post : Int → ax_M → Prop} {M : ax_M} {x1 x2 : Int} (h : ax_mr SH M → (-2147483648 ≤ (x1 * 7) ∧ (x1 * 7) ≤ 2147483647) ∧ (-2147483648 ≤ ((x1 * 7) + 6) ∧ ((x1 * 7) + 6) ≤ 2147483647) ∧ (0 ≤ ((x1 * 7) + 6) ∧ ((x1 * 7) + 6) < 168) ∧ (-2147483648 ≤ (1000 - (M 7 ((x1 * 7) + 6))) ∧ (1000 - (M 7 ((x1 * 7) + 6))) ≤ 2147483647) ∧ ax_J Y_X3_notBad (ax_Ki Y_X3_notBad SH post) 0 0 19 [(2, aI x2), (3, aI (1000 - (M 7 ((x1 * 7) + 6)))), (4, aI 1000000), (5, aI 0)] [] SH M) : ax_Ti Y_X3_notBad [aR 6, aI x1, aI x2] SH M post :=
  ti_of rfl (Nat.le_of_ble_eq_true rfl) rfl (fun q => B_X3_notBad_0 (h q))
set_option maxRecDepth 100000 in
set_option maxHeartbeats 4000000 in
theorem B_X3_notBad_19 {post : Int → ax_M → Prop} {M : ax_M} {x2 x3 x4 x5 : Int} (h : (((x2 ≤ x5) → post x4 M) ∧ ((x5 < x2) → (-2147483648 ≤ (x4 * x3) ∧ (x4 * x3) ≤ 2147483647) ∧ (0 ≤ (x4 * x3)) ∧ (-2147483648 ≤ (x5 + 1) ∧ (x5 + 1) ≤ 2147483647) ∧ ax_J Y_X3_notBad (ax_Ki Y_X3_notBad SH post) 0 0 19 [(2, aI x2), (3, aI x3), (4, aI ((x4 * x3) / 1000)), (5, aI (x5 + 1))] [] SH M))) : ax_J Y_X3_notBad (ax_Ki Y_X3_notBad SH post) 0 0 19 [(2, aI x2), (3, aI x3), (4, aI x4), (5, aI x5)] [] SH M := by
  refine j_iload 3 dX3_notBad_19 rfl ?_
  refine j_iload_n 0 dX3_notBad_21 rfl ?_
  refine j_icmp_ge (tgt := 41) dX3_notBad_22 (by decide) (fun c1 => ?_) (fun c1 => ?_)
  · replace h := h.1 c1
    refine j_iload 2 dX3_notBad_41 rfl ?_
    exact j_iret dX3_notBad_43 rfl ⟨Nat.le_of_ble_eq_true rfl, Nat.le_of_ble_eq_true rfl⟩ (fun _ => h)
  · replace h := h.2 c1
    refine j_iload 2 dX3_notBad_25 rfl ?_
    refine j_iload_n 1 dX3_notBad_27 rfl ?_
    obtain ⟨o2, h⟩ := h
    refine j_imul (z := (x4 * x3)) dX3_notBad_28 rfl o2 ?_
    refine j_sipush (x := 1000) dX3_notBad_29 rfl (i32_c rfl) ?_
    obtain ⟨o3, h⟩ := h
    refine j_idiv (z := ((x4 * x3) / 1000)) dX3_notBad_32 rfl o3 (by decide) ?_
    refine j_istore (ll' := [(4, aI ((x4 * x3) / 1000)), (2, aI x2), (3, aI x3), (5, aI x5)]) dX3_notBad_33 (Nat.le_of_ble_eq_true rfl) rfl ?_
    obtain ⟨o4, h⟩ := h
    refine j_iinc (ll' := [(5, aI (x5 + 1)), (4, aI ((x4 * x3) / 1000)), (2, aI x2), (3, aI x3)]) 3 dX3_notBad_35 rfl (Nat.le_of_ble_eq_true rfl) o4 rfl ?_
    refine j_goto (tgt := 19) dX3_notBad_38 (by decide) ?_
    refine j_sub [2, 3, 1, 0] rfl ?_
    exact h
set_option maxRecDepth 100000 in
set_option maxHeartbeats 4000000 in
theorem B_X4_bestChance_0 {post : Int → ax_M → Prop} {M : ax_M} {x1 x2 : Int} (h : ax_Tv (Y_X4_goOnFrom 12) [aR 60, aI x1, aI x2, aI 1000000, aI (bo_shl 1 x1), aI 1] SH (ax_up M 60 6 0) (fun u1 => post (u1 60 6) u1)) : ax_J Y_X4_bestChance (ax_Ki Y_X4_bestChance SH post) 0 0 0 [(0, aR 60), (1, aI x1), (2, aI x2)] [] SH M := by
  refine j_aload_n 0 dX4_bestChance_0 rfl ?_
  refine j_iconst (x := 0) dX4_bestChance_1 rfl (i32_c rfl) ?_
  refine j_puti (i := 6) dX4_bestChance_2 p_X4_63 (fun h => by cases h) sh_60 rfl rfl ?_
  refine j_aload_n 0 dX4_bestChance_5 rfl ?_
  refine j_iload_n 1 dX4_bestChance_6 rfl ?_
  refine j_iload_n 2 dX4_bestChance_7 rfl ?_
  refine j_ldc (x := 1000000) dX4_bestChance_8 (ax_in 1032 (by decide +kernel) rfl) (i32_c rfl) ?_
  refine j_iconst (x := 1) dX4_bestChance_10 rfl (i32_c rfl) ?_
  refine j_iload_n 1 dX4_bestChance_11 rfl ?_
  refine j_ishl (z := (bo_shl 1 x1)) dX4_bestChance_12 rfl ?_
  refine j_iconst (x := 1) dX4_bestChance_13 rfl (i32_c rfl) ?_
  refine j_callvS (Yc := (Y_X4_goOnFrom 12)) (as := [aR 60, aI x1, aI x2, aI 1000000, aI (bo_shl 1 x1), aI 1]) (rest := []) dX4_bestChance_14 q_X4_66 ⟨Nat.le_of_ble_eq_true rfl, Nat.le_of_ble_eq_true rfl, Nat.le_of_ble_eq_true rfl, Nat.le_of_ble_eq_true rfl⟩ rfl (Nat.le_of_ble_eq_true rfl) rfl (tv_mono h (fun u1 h => ?_))
  refine j_aload_n 0 dX4_bestChance_17 rfl ?_
  refine j_geti (i := 6) dX4_bestChance_18 f_X4_63 sh_60 rfl rfl (fun _ => ?_)
  exact j_iret dX4_bestChance_21 rfl ⟨Nat.le_of_ble_eq_true rfl, Nat.le_of_ble_eq_true rfl⟩ (fun _ => h)
theorem E_X4_bestChance {post : Int → ax_M → Prop} {M : ax_M} {x1 x2 : Int} (h : ax_mr SH M → ax_Tv (Y_X4_goOnFrom 12) [aR 60, aI x1, aI x2, aI 1000000, aI (bo_shl 1 x1), aI 1] SH (ax_up M 60 6 0) (fun u1 => post (u1 60 6) u1)) : ax_Ti Y_X4_bestChance [aR 60, aI x1, aI x2] SH M post :=
  ti_of rfl (Nat.le_of_ble_eq_true rfl) rfl (fun q => B_X4_bestChance_0 (h q))
set_option maxRecDepth 100000 in
set_option maxHeartbeats 4000000 in
theorem B_X9_countWaysFrom_0 {post : ax_M → Prop} {M : ax_M} {x1 : Int} (h : ax_J Y_X9_countWaysFrom (ax_Kv Y_X9_countWaysFrom SH post) 0 0 2 [(0, aR 33), (1, aI x1), (2, aI 0)] [] SH M) : ax_J Y_X9_countWaysFrom (ax_Kv Y_X9_countWaysFrom SH post) 0 0 0 [(0, aR 33), (1, aI x1)] [] SH M := by
  refine j_iconst (x := 0) dX9_countWaysFrom_0 rfl (i32_c rfl) ?_
  refine j_istore_n (ll' := [(2, aI 0), (0, aR 33), (1, aI x1)]) dX9_countWaysFrom_1 (Nat.le_of_ble_eq_true rfl) rfl ?_
  refine j_sub [1, 2, 0] rfl ?_
  exact h
theorem E_X9_countWaysFrom {post : ax_M → Prop} {M : ax_M} {x1 : Int} (h : ax_mr SH M → ax_J Y_X9_countWaysFrom (ax_Kv Y_X9_countWaysFrom SH post) 0 0 2 [(0, aR 33), (1, aI x1), (2, aI 0)] [] SH M) : ax_Tv Y_X9_countWaysFrom [aR 33, aI x1] SH M post :=
  tv_of rfl (Nat.le_of_ble_eq_true rfl) rfl (fun q => B_X9_countWaysFrom_0 (h q))
set_option maxRecDepth 100000 in
set_option maxHeartbeats 4000000 in
theorem B_X9_countWaysFrom_2 {post : ax_M → Prop} {M : ax_M} {x1 x2 : Int} (h : ((((M 6 1) ≤ x2) → ax_Tv Y_X9_spread [aR 33, aI x1, aI 0] SH M (fun u1 => post u1)) ∧ ((x2 < (M 6 1)) → (0 ≤ x2 ∧ x2 < 24) ∧ ((((M 14 x2) = 0) → (-2147483648 ≤ (x2 + 1) ∧ (x2 + 1) ≤ 2147483647) ∧ ax_J Y_X9_countWaysFrom (ax_Kv Y_X9_countWaysFrom SH post) 0 0 2 [(0, aR 33), (1, aI x1), (2, aI (x2 + 1))] [] SH (ax_up (ax_up (ax_up (ax_up M 34 x2 1) 35 x2 (-1)) 36 x2 99) 37 x2 99)) ∧ ((¬ (M 14 x2) = 0) → (-2147483648 ≤ (x2 + 1) ∧ (x2 + 1) ≤ 2147483647) ∧ ax_J Y_X9_countWaysFrom (ax_Kv Y_X9_countWaysFrom SH post) 0 0 2 [(0, aR 33), (1, aI x1), (2, aI (x2 + 1))] [] SH (ax_up (ax_up (ax_up (ax_up M 34 x2 1) 35 x2 (-1)) 36 x2 99) 37 x2 (-1))))))) : ax_J Y_X9_countWaysFrom (ax_Kv Y_X9_countWaysFrom SH post) 0 0 2 [(0, aR 33), (1, aI x1), (2, aI x2)] [] SH M := by
  refine j_iload_n 2 dX9_countWaysFrom_2 rfl ?_
  refine j_aload_n 0 dX9_countWaysFrom_3 rfl ?_
  refine j_getc 6 dX9_countWaysFrom_4 f_X9_30 sh_33 rfl ?_
  refine j_geti (i := 1) dX9_countWaysFrom_7 f_X9_42 sh_6 rfl rfl (fun _ => ?_)
  refine j_icmp_ge (tgt := 65) dX9_countWaysFrom_10 (by decide) (fun c1 => ?_) (fun c1 => ?_)
  · replace h := h.1 c1
    refine j_aload_n 0 dX9_countWaysFrom_65 rfl ?_
    refine j_iload_n 1 dX9_countWaysFrom_66 rfl ?_
    refine j_iconst (x := 0) dX9_countWaysFrom_67 rfl (i32_c rfl) ?_
    refine j_callvV (Yc := Y_X9_spread) (as := [aI x1, aI 0]) (rest := []) dX9_countWaysFrom_68 q_X9_89 ⟨Nat.le_of_ble_eq_true rfl, Nat.le_of_ble_eq_true rfl, Nat.le_of_ble_eq_true rfl, Nat.le_of_ble_eq_true rfl⟩ sh_33 rfl (Nat.le_of_ble_eq_true rfl) rfl (tv_mono h (fun u1 h => ?_))
    exact j_vret dX9_countWaysFrom_71 rfl ⟨Nat.le_of_ble_eq_true rfl, Nat.le_of_ble_eq_true rfl⟩ h
  · replace h := h.2 c1
    refine j_aload_n 0 dX9_countWaysFrom_13 rfl ?_
    refine j_getc 34 dX9_countWaysFrom_14 f_X9_9 sh_33 rfl ?_
    refine j_iload_n 2 dX9_countWaysFrom_17 rfl ?_
    refine j_iconst (x := 1) dX9_countWaysFrom_18 rfl (i32_c rfl) ?_
    obtain ⟨o2, h⟩ := h
    refine j_iast dX9_countWaysFrom_19 sh_34 o2.1 o2.2 ?_
    refine j_aload_n 0 dX9_countWaysFrom_20 rfl ?_
    refine j_getc 35 dX9_countWaysFrom_21 f_X9_15 sh_33 rfl ?_
    refine j_iload_n 2 dX9_countWaysFrom_24 rfl ?_
    refine j_iconst (x := (-1)) dX9_countWaysFrom_25 rfl (i32_c rfl) ?_
    refine j_iast dX9_countWaysFrom_26 sh_35 o2.1 o2.2 ?_
    refine j_aload_n 0 dX9_countWaysFrom_27 rfl ?_
    refine j_getc 36 dX9_countWaysFrom_28 f_X9_18 sh_33 rfl ?_
    refine j_iload_n 2 dX9_countWaysFrom_31 rfl ?_
    refine j_bipush (x := 99) dX9_countWaysFrom_32 rfl (i32_c rfl) ?_
    refine j_iast dX9_countWaysFrom_34 sh_36 o2.1 o2.2 ?_
    refine j_aload_n 0 dX9_countWaysFrom_35 rfl ?_
    refine j_getc 37 dX9_countWaysFrom_36 f_X9_21 sh_33 rfl ?_
    refine j_iload_n 2 dX9_countWaysFrom_39 rfl ?_
    refine j_aload_n 0 dX9_countWaysFrom_40 rfl ?_
    refine j_getc 8 dX9_countWaysFrom_41 f_X9_34 sh_33 rfl ?_
    refine j_getc 14 dX9_countWaysFrom_44 f_X9_61 sh_8 rfl ?_
    refine j_iload_n 2 dX9_countWaysFrom_47 rfl ?_
    refine j_zald dX9_countWaysFrom_48 sh_14 o2.1 o2.2 (fun _ => ?_)
    refine j_if_eq (tgt := 56) dX9_countWaysFrom_49 (by decide) (fun c3 => ?_) (fun c3 => ?_)
    · replace h := h.1 c3
      refine j_bipush (x := 99) dX9_countWaysFrom_56 rfl (i32_c rfl) ?_
      refine j_iast dX9_countWaysFrom_58 sh_37 o2.1 o2.2 ?_
      obtain ⟨o4, h⟩ := h
      refine j_iinc (ll' := [(2, aI (x2 + 1)), (0, aR 33), (1, aI x1)]) 2 dX9_countWaysFrom_59 rfl (Nat.le_of_ble_eq_true rfl) o4 rfl ?_
      refine j_goto (tgt := 2) dX9_countWaysFrom_62 (by decide) ?_
      refine j_sub [1, 2, 0] rfl ?_
      exact h
    · replace h := h.2 c3
      refine j_iconst (x := (-1)) dX9_countWaysFrom_52 rfl (i32_c rfl) ?_
      refine j_goto (tgt := 58) dX9_countWaysFrom_53 (by decide) ?_
      refine j_iast dX9_countWaysFrom_58 sh_37 o2.1 o2.2 ?_
      obtain ⟨o5, h⟩ := h
      refine j_iinc (ll' := [(2, aI (x2 + 1)), (0, aR 33), (1, aI x1)]) 2 dX9_countWaysFrom_59 rfl (Nat.le_of_ble_eq_true rfl) o5 rfl ?_
      refine j_goto (tgt := 2) dX9_countWaysFrom_62 (by decide) ?_
      refine j_sub [1, 2, 0] rfl ?_
      exact h
set_option maxRecDepth 100000 in
set_option maxHeartbeats 4000000 in
theorem B_X0_become_16_8_0 {post : ax_M → Prop} {M : ax_M} (h : ax_Tv Y_X0_copy [aR 10, aR 18] SH (ax_cp (ax_cp (ax_cp (ax_up (ax_up M 16 0 (M 8 0)) 16 1 (M 8 1)) 9 17 0 0 8) 12 20 0 0 4) 13 21 0 0 4) (fun u1 => ax_Tv Y_X0_copy [aR 11, aR 19] SH u1 (fun u2 => ax_Tv Y_X0_copy [aR 14, aR 22] SH u2 (fun u3 => post u3)))) : ax_J Y_X0_become (ax_Kv Y_X0_become SH post) 0 0 0 [(0, aR 16), (1, aR 8)] [] SH M := by
  refine j_aload_n 0 dX0_become_0 rfl ?_
  refine j_aload_n 1 dX0_become_1 rfl ?_
  refine j_geti (i := 0) dX0_become_2 f_X0_31 sh_8 rfl rfl (fun _ => ?_)
  refine j_puti (i := 0) dX0_become_5 p_X0_31 (fun h => by cases h) sh_16 rfl rfl ?_
  refine j_aload_n 0 dX0_become_8 rfl ?_
  refine j_aload_n 1 dX0_become_9 rfl ?_
  refine j_geti (i := 1) dX0_become_10 f_X0_35 sh_8 rfl rfl (fun _ => ?_)
  refine j_puti (i := 1) dX0_become_13 p_X0_35 (fun h => by cases h) sh_16 rfl rfl ?_
  refine j_aload_n 1 dX0_become_16 rfl ?_
  refine j_getc 9 dX0_become_17 f_X0_9 sh_8 rfl ?_
  refine j_iconst (x := 0) dX0_become_20 rfl (i32_c rfl) ?_
  refine j_aload_n 0 dX0_become_21 rfl ?_
  refine j_getc 17 dX0_become_22 f_X0_9 sh_16 rfl ?_
  refine j_iconst (x := 0) dX0_become_25 rfl (i32_c rfl) ?_
  refine j_bipush (x := 8) dX0_become_26 rfl (i32_c rfl) ?_
  refine j_copy 0 (by decide) dX0_become_28 (ax_in 1092 (by decide +kernel) rfl) (ax_in 674 (by decide +kernel) rfl) (ax_in 673 (by decide +kernel) rfl) (ax_in 133 (by decide +kernel) rfl) sh_9 sh_17 (by decide) (by decide) (by decide) (by decide) (by decide) (Nat.le_of_ble_eq_true rfl) (Nat.le_of_ble_eq_true rfl) ?_
  refine j_aload_n 1 dX0_become_31 rfl ?_
  refine j_getc 12 dX0_become_32 f_X0_22 sh_8 rfl ?_
  refine j_iconst (x := 0) dX0_become_35 rfl (i32_c rfl) ?_
  refine j_aload_n 0 dX0_become_36 rfl ?_
  refine j_getc 20 dX0_become_37 f_X0_22 sh_16 rfl ?_
  refine j_iconst (x := 0) dX0_become_40 rfl (i32_c rfl) ?_
  refine j_iconst (x := 4) dX0_become_41 rfl (i32_c rfl) ?_
  refine j_copy 0 (by decide) dX0_become_42 (ax_in 1092 (by decide +kernel) rfl) (ax_in 674 (by decide +kernel) rfl) (ax_in 673 (by decide +kernel) rfl) (ax_in 133 (by decide +kernel) rfl) sh_12 sh_20 (by decide) (by decide) (by decide) (by decide) (by decide) (Nat.le_of_ble_eq_true rfl) (Nat.le_of_ble_eq_true rfl) ?_
  refine j_aload_n 1 dX0_become_45 rfl ?_
  refine j_getc 13 dX0_become_46 f_X0_25 sh_8 rfl ?_
  refine j_iconst (x := 0) dX0_become_49 rfl (i32_c rfl) ?_
  refine j_aload_n 0 dX0_become_50 rfl ?_
  refine j_getc 21 dX0_become_51 f_X0_25 sh_16 rfl ?_
  refine j_iconst (x := 0) dX0_become_54 rfl (i32_c rfl) ?_
  refine j_iconst (x := 4) dX0_become_55 rfl (i32_c rfl) ?_
  refine j_copy 0 (by decide) dX0_become_56 (ax_in 1092 (by decide +kernel) rfl) (ax_in 674 (by decide +kernel) rfl) (ax_in 673 (by decide +kernel) rfl) (ax_in 133 (by decide +kernel) rfl) sh_13 sh_21 (by decide) (by decide) (by decide) (by decide) (by decide) (Nat.le_of_ble_eq_true rfl) (Nat.le_of_ble_eq_true rfl) ?_
  refine j_aload_n 1 dX0_become_59 rfl ?_
  refine j_getc 10 dX0_become_60 f_X0_15 sh_8 rfl ?_
  refine j_aload_n 0 dX0_become_63 rfl ?_
  refine j_getc 18 dX0_become_64 f_X0_15 sh_16 rfl ?_
  refine j_callvS (Yc := Y_X0_copy) (as := [aR 10, aR 18]) (rest := []) dX0_become_67 q_X0_44 ⟨Nat.le_of_ble_eq_true rfl, Nat.le_of_ble_eq_true rfl, Nat.le_of_ble_eq_true rfl, Nat.le_of_ble_eq_true rfl⟩ rfl (Nat.le_of_ble_eq_true rfl) rfl (tv_mono h (fun u1 h => ?_))
  refine j_aload_n 1 dX0_become_70 rfl ?_
  refine j_getc 11 dX0_become_71 f_X0_19 sh_8 rfl ?_
  refine j_aload_n 0 dX0_become_74 rfl ?_
  refine j_getc 19 dX0_become_75 f_X0_19 sh_16 rfl ?_
  refine j_callvS (Yc := Y_X0_copy) (as := [aR 11, aR 19]) (rest := []) dX0_become_78 q_X0_44 ⟨Nat.le_of_ble_eq_true rfl, Nat.le_of_ble_eq_true rfl, Nat.le_of_ble_eq_true rfl, Nat.le_of_ble_eq_true rfl⟩ rfl (Nat.le_of_ble_eq_true rfl) rfl (tv_mono h (fun u2 h => ?_))
  refine j_aload_n 1 dX0_become_81 rfl ?_
  refine j_getc 14 dX0_become_82 f_X0_28 sh_8 rfl ?_
  refine j_aload_n 0 dX0_become_85 rfl ?_
  refine j_getc 22 dX0_become_86 f_X0_28 sh_16 rfl ?_
  refine j_callvS (Yc := Y_X0_copy) (as := [aR 14, aR 22]) (rest := []) dX0_become_89 q_X0_44 ⟨Nat.le_of_ble_eq_true rfl, Nat.le_of_ble_eq_true rfl, Nat.le_of_ble_eq_true rfl, Nat.le_of_ble_eq_true rfl⟩ rfl (Nat.le_of_ble_eq_true rfl) rfl (tv_mono h (fun u3 h => ?_))
  exact j_vret dX0_become_92 rfl ⟨Nat.le_of_ble_eq_true rfl, Nat.le_of_ble_eq_true rfl⟩ h
theorem E_X0_become_16_8 {post : ax_M → Prop} {M : ax_M} (h : ax_mr SH M → ax_Tv Y_X0_copy [aR 10, aR 18] SH (ax_cp (ax_cp (ax_cp (ax_up (ax_up M 16 0 (M 8 0)) 16 1 (M 8 1)) 9 17 0 0 8) 12 20 0 0 4) 13 21 0 0 4) (fun u1 => ax_Tv Y_X0_copy [aR 11, aR 19] SH u1 (fun u2 => ax_Tv Y_X0_copy [aR 14, aR 22] SH u2 (fun u3 => post u3)))) : ax_Tv Y_X0_become [aR 16, aR 8] SH M post :=
  tv_of rfl (Nat.le_of_ble_eq_true rfl) rfl (fun q => B_X0_become_16_8_0 (h q))
set_option maxRecDepth 100000 in
set_option maxHeartbeats 4000000 in
theorem B_X0_become_23_8_0 {post : ax_M → Prop} {M : ax_M} (h : ax_Tv Y_X0_copy [aR 10, aR 25] SH (ax_cp (ax_cp (ax_cp (ax_up (ax_up M 23 0 (M 8 0)) 23 1 (M 8 1)) 9 24 0 0 8) 12 27 0 0 4) 13 28 0 0 4) (fun u1 => ax_Tv Y_X0_copy [aR 11, aR 26] SH u1 (fun u2 => ax_Tv Y_X0_copy [aR 14, aR 29] SH u2 (fun u3 => post u3)))) : ax_J Y_X0_become (ax_Kv Y_X0_become SH post) 0 0 0 [(0, aR 23), (1, aR 8)] [] SH M := by
  refine j_aload_n 0 dX0_become_0 rfl ?_
  refine j_aload_n 1 dX0_become_1 rfl ?_
  refine j_geti (i := 0) dX0_become_2 f_X0_31 sh_8 rfl rfl (fun _ => ?_)
  refine j_puti (i := 0) dX0_become_5 p_X0_31 (fun h => by cases h) sh_23 rfl rfl ?_
  refine j_aload_n 0 dX0_become_8 rfl ?_
  refine j_aload_n 1 dX0_become_9 rfl ?_
  refine j_geti (i := 1) dX0_become_10 f_X0_35 sh_8 rfl rfl (fun _ => ?_)
  refine j_puti (i := 1) dX0_become_13 p_X0_35 (fun h => by cases h) sh_23 rfl rfl ?_
  refine j_aload_n 1 dX0_become_16 rfl ?_
  refine j_getc 9 dX0_become_17 f_X0_9 sh_8 rfl ?_
  refine j_iconst (x := 0) dX0_become_20 rfl (i32_c rfl) ?_
  refine j_aload_n 0 dX0_become_21 rfl ?_
  refine j_getc 24 dX0_become_22 f_X0_9 sh_23 rfl ?_
  refine j_iconst (x := 0) dX0_become_25 rfl (i32_c rfl) ?_
  refine j_bipush (x := 8) dX0_become_26 rfl (i32_c rfl) ?_
  refine j_copy 0 (by decide) dX0_become_28 (ax_in 1092 (by decide +kernel) rfl) (ax_in 674 (by decide +kernel) rfl) (ax_in 673 (by decide +kernel) rfl) (ax_in 133 (by decide +kernel) rfl) sh_9 sh_24 (by decide) (by decide) (by decide) (by decide) (by decide) (Nat.le_of_ble_eq_true rfl) (Nat.le_of_ble_eq_true rfl) ?_
  refine j_aload_n 1 dX0_become_31 rfl ?_
  refine j_getc 12 dX0_become_32 f_X0_22 sh_8 rfl ?_
  refine j_iconst (x := 0) dX0_become_35 rfl (i32_c rfl) ?_
  refine j_aload_n 0 dX0_become_36 rfl ?_
  refine j_getc 27 dX0_become_37 f_X0_22 sh_23 rfl ?_
  refine j_iconst (x := 0) dX0_become_40 rfl (i32_c rfl) ?_
  refine j_iconst (x := 4) dX0_become_41 rfl (i32_c rfl) ?_
  refine j_copy 0 (by decide) dX0_become_42 (ax_in 1092 (by decide +kernel) rfl) (ax_in 674 (by decide +kernel) rfl) (ax_in 673 (by decide +kernel) rfl) (ax_in 133 (by decide +kernel) rfl) sh_12 sh_27 (by decide) (by decide) (by decide) (by decide) (by decide) (Nat.le_of_ble_eq_true rfl) (Nat.le_of_ble_eq_true rfl) ?_
  refine j_aload_n 1 dX0_become_45 rfl ?_
  refine j_getc 13 dX0_become_46 f_X0_25 sh_8 rfl ?_
  refine j_iconst (x := 0) dX0_become_49 rfl (i32_c rfl) ?_
  refine j_aload_n 0 dX0_become_50 rfl ?_
  refine j_getc 28 dX0_become_51 f_X0_25 sh_23 rfl ?_
  refine j_iconst (x := 0) dX0_become_54 rfl (i32_c rfl) ?_
  refine j_iconst (x := 4) dX0_become_55 rfl (i32_c rfl) ?_
  refine j_copy 0 (by decide) dX0_become_56 (ax_in 1092 (by decide +kernel) rfl) (ax_in 674 (by decide +kernel) rfl) (ax_in 673 (by decide +kernel) rfl) (ax_in 133 (by decide +kernel) rfl) sh_13 sh_28 (by decide) (by decide) (by decide) (by decide) (by decide) (Nat.le_of_ble_eq_true rfl) (Nat.le_of_ble_eq_true rfl) ?_
  refine j_aload_n 1 dX0_become_59 rfl ?_
  refine j_getc 10 dX0_become_60 f_X0_15 sh_8 rfl ?_
  refine j_aload_n 0 dX0_become_63 rfl ?_
  refine j_getc 25 dX0_become_64 f_X0_15 sh_23 rfl ?_
  refine j_callvS (Yc := Y_X0_copy) (as := [aR 10, aR 25]) (rest := []) dX0_become_67 q_X0_44 ⟨Nat.le_of_ble_eq_true rfl, Nat.le_of_ble_eq_true rfl, Nat.le_of_ble_eq_true rfl, Nat.le_of_ble_eq_true rfl⟩ rfl (Nat.le_of_ble_eq_true rfl) rfl (tv_mono h (fun u1 h => ?_))
  refine j_aload_n 1 dX0_become_70 rfl ?_
  refine j_getc 11 dX0_become_71 f_X0_19 sh_8 rfl ?_
  refine j_aload_n 0 dX0_become_74 rfl ?_
  refine j_getc 26 dX0_become_75 f_X0_19 sh_23 rfl ?_
  refine j_callvS (Yc := Y_X0_copy) (as := [aR 11, aR 26]) (rest := []) dX0_become_78 q_X0_44 ⟨Nat.le_of_ble_eq_true rfl, Nat.le_of_ble_eq_true rfl, Nat.le_of_ble_eq_true rfl, Nat.le_of_ble_eq_true rfl⟩ rfl (Nat.le_of_ble_eq_true rfl) rfl (tv_mono h (fun u2 h => ?_))
  refine j_aload_n 1 dX0_become_81 rfl ?_
  refine j_getc 14 dX0_become_82 f_X0_28 sh_8 rfl ?_
  refine j_aload_n 0 dX0_become_85 rfl ?_
  refine j_getc 29 dX0_become_86 f_X0_28 sh_23 rfl ?_
  refine j_callvS (Yc := Y_X0_copy) (as := [aR 14, aR 29]) (rest := []) dX0_become_89 q_X0_44 ⟨Nat.le_of_ble_eq_true rfl, Nat.le_of_ble_eq_true rfl, Nat.le_of_ble_eq_true rfl, Nat.le_of_ble_eq_true rfl⟩ rfl (Nat.le_of_ble_eq_true rfl) rfl (tv_mono h (fun u3 h => ?_))
  exact j_vret dX0_become_92 rfl ⟨Nat.le_of_ble_eq_true rfl, Nat.le_of_ble_eq_true rfl⟩ h
theorem E_X0_become_23_8 {post : ax_M → Prop} {M : ax_M} (h : ax_mr SH M → ax_Tv Y_X0_copy [aR 10, aR 25] SH (ax_cp (ax_cp (ax_cp (ax_up (ax_up M 23 0 (M 8 0)) 23 1 (M 8 1)) 9 24 0 0 8) 12 27 0 0 4) 13 28 0 0 4) (fun u1 => ax_Tv Y_X0_copy [aR 11, aR 26] SH u1 (fun u2 => ax_Tv Y_X0_copy [aR 14, aR 29] SH u2 (fun u3 => post u3)))) : ax_Tv Y_X0_become [aR 23, aR 8] SH M post :=
  tv_of rfl (Nat.le_of_ble_eq_true rfl) rfl (fun q => B_X0_become_23_8_0 (h q))
set_option maxRecDepth 100000 in
set_option maxHeartbeats 4000000 in
theorem B_X0_become_8_16_0 {post : ax_M → Prop} {M : ax_M} (h : ax_Tv Y_X0_copy [aR 18, aR 10] SH (ax_cp (ax_cp (ax_cp (ax_up (ax_up M 8 0 (M 16 0)) 8 1 (M 16 1)) 17 9 0 0 8) 20 12 0 0 4) 21 13 0 0 4) (fun u1 => ax_Tv Y_X0_copy [aR 19, aR 11] SH u1 (fun u2 => ax_Tv Y_X0_copy [aR 22, aR 14] SH u2 (fun u3 => post u3)))) : ax_J Y_X0_become (ax_Kv Y_X0_become SH post) 0 0 0 [(0, aR 8), (1, aR 16)] [] SH M := by
  refine j_aload_n 0 dX0_become_0 rfl ?_
  refine j_aload_n 1 dX0_become_1 rfl ?_
  refine j_geti (i := 0) dX0_become_2 f_X0_31 sh_16 rfl rfl (fun _ => ?_)
  refine j_puti (i := 0) dX0_become_5 p_X0_31 (fun h => by cases h) sh_8 rfl rfl ?_
  refine j_aload_n 0 dX0_become_8 rfl ?_
  refine j_aload_n 1 dX0_become_9 rfl ?_
  refine j_geti (i := 1) dX0_become_10 f_X0_35 sh_16 rfl rfl (fun _ => ?_)
  refine j_puti (i := 1) dX0_become_13 p_X0_35 (fun h => by cases h) sh_8 rfl rfl ?_
  refine j_aload_n 1 dX0_become_16 rfl ?_
  refine j_getc 17 dX0_become_17 f_X0_9 sh_16 rfl ?_
  refine j_iconst (x := 0) dX0_become_20 rfl (i32_c rfl) ?_
  refine j_aload_n 0 dX0_become_21 rfl ?_
  refine j_getc 9 dX0_become_22 f_X0_9 sh_8 rfl ?_
  refine j_iconst (x := 0) dX0_become_25 rfl (i32_c rfl) ?_
  refine j_bipush (x := 8) dX0_become_26 rfl (i32_c rfl) ?_
  refine j_copy 0 (by decide) dX0_become_28 (ax_in 1092 (by decide +kernel) rfl) (ax_in 674 (by decide +kernel) rfl) (ax_in 673 (by decide +kernel) rfl) (ax_in 133 (by decide +kernel) rfl) sh_17 sh_9 (by decide) (by decide) (by decide) (by decide) (by decide) (Nat.le_of_ble_eq_true rfl) (Nat.le_of_ble_eq_true rfl) ?_
  refine j_aload_n 1 dX0_become_31 rfl ?_
  refine j_getc 20 dX0_become_32 f_X0_22 sh_16 rfl ?_
  refine j_iconst (x := 0) dX0_become_35 rfl (i32_c rfl) ?_
  refine j_aload_n 0 dX0_become_36 rfl ?_
  refine j_getc 12 dX0_become_37 f_X0_22 sh_8 rfl ?_
  refine j_iconst (x := 0) dX0_become_40 rfl (i32_c rfl) ?_
  refine j_iconst (x := 4) dX0_become_41 rfl (i32_c rfl) ?_
  refine j_copy 0 (by decide) dX0_become_42 (ax_in 1092 (by decide +kernel) rfl) (ax_in 674 (by decide +kernel) rfl) (ax_in 673 (by decide +kernel) rfl) (ax_in 133 (by decide +kernel) rfl) sh_20 sh_12 (by decide) (by decide) (by decide) (by decide) (by decide) (Nat.le_of_ble_eq_true rfl) (Nat.le_of_ble_eq_true rfl) ?_
  refine j_aload_n 1 dX0_become_45 rfl ?_
  refine j_getc 21 dX0_become_46 f_X0_25 sh_16 rfl ?_
  refine j_iconst (x := 0) dX0_become_49 rfl (i32_c rfl) ?_
  refine j_aload_n 0 dX0_become_50 rfl ?_
  refine j_getc 13 dX0_become_51 f_X0_25 sh_8 rfl ?_
  refine j_iconst (x := 0) dX0_become_54 rfl (i32_c rfl) ?_
  refine j_iconst (x := 4) dX0_become_55 rfl (i32_c rfl) ?_
  refine j_copy 0 (by decide) dX0_become_56 (ax_in 1092 (by decide +kernel) rfl) (ax_in 674 (by decide +kernel) rfl) (ax_in 673 (by decide +kernel) rfl) (ax_in 133 (by decide +kernel) rfl) sh_21 sh_13 (by decide) (by decide) (by decide) (by decide) (by decide) (Nat.le_of_ble_eq_true rfl) (Nat.le_of_ble_eq_true rfl) ?_
  refine j_aload_n 1 dX0_become_59 rfl ?_
  refine j_getc 18 dX0_become_60 f_X0_15 sh_16 rfl ?_
  refine j_aload_n 0 dX0_become_63 rfl ?_
  refine j_getc 10 dX0_become_64 f_X0_15 sh_8 rfl ?_
  refine j_callvS (Yc := Y_X0_copy) (as := [aR 18, aR 10]) (rest := []) dX0_become_67 q_X0_44 ⟨Nat.le_of_ble_eq_true rfl, Nat.le_of_ble_eq_true rfl, Nat.le_of_ble_eq_true rfl, Nat.le_of_ble_eq_true rfl⟩ rfl (Nat.le_of_ble_eq_true rfl) rfl (tv_mono h (fun u1 h => ?_))
  refine j_aload_n 1 dX0_become_70 rfl ?_
  refine j_getc 19 dX0_become_71 f_X0_19 sh_16 rfl ?_
  refine j_aload_n 0 dX0_become_74 rfl ?_
  refine j_getc 11 dX0_become_75 f_X0_19 sh_8 rfl ?_
  refine j_callvS (Yc := Y_X0_copy) (as := [aR 19, aR 11]) (rest := []) dX0_become_78 q_X0_44 ⟨Nat.le_of_ble_eq_true rfl, Nat.le_of_ble_eq_true rfl, Nat.le_of_ble_eq_true rfl, Nat.le_of_ble_eq_true rfl⟩ rfl (Nat.le_of_ble_eq_true rfl) rfl (tv_mono h (fun u2 h => ?_))
  refine j_aload_n 1 dX0_become_81 rfl ?_
  refine j_getc 22 dX0_become_82 f_X0_28 sh_16 rfl ?_
  refine j_aload_n 0 dX0_become_85 rfl ?_
  refine j_getc 14 dX0_become_86 f_X0_28 sh_8 rfl ?_
  refine j_callvS (Yc := Y_X0_copy) (as := [aR 22, aR 14]) (rest := []) dX0_become_89 q_X0_44 ⟨Nat.le_of_ble_eq_true rfl, Nat.le_of_ble_eq_true rfl, Nat.le_of_ble_eq_true rfl, Nat.le_of_ble_eq_true rfl⟩ rfl (Nat.le_of_ble_eq_true rfl) rfl (tv_mono h (fun u3 h => ?_))
  exact j_vret dX0_become_92 rfl ⟨Nat.le_of_ble_eq_true rfl, Nat.le_of_ble_eq_true rfl⟩ h
theorem E_X0_become_8_16 {post : ax_M → Prop} {M : ax_M} (h : ax_mr SH M → ax_Tv Y_X0_copy [aR 18, aR 10] SH (ax_cp (ax_cp (ax_cp (ax_up (ax_up M 8 0 (M 16 0)) 8 1 (M 16 1)) 17 9 0 0 8) 20 12 0 0 4) 21 13 0 0 4) (fun u1 => ax_Tv Y_X0_copy [aR 19, aR 11] SH u1 (fun u2 => ax_Tv Y_X0_copy [aR 22, aR 14] SH u2 (fun u3 => post u3)))) : ax_Tv Y_X0_become [aR 8, aR 16] SH M post :=
  tv_of rfl (Nat.le_of_ble_eq_true rfl) rfl (fun q => B_X0_become_8_16_0 (h q))
set_option maxRecDepth 100000 in
set_option maxHeartbeats 4000000 in
theorem B_X0_become_8_23_0 {post : ax_M → Prop} {M : ax_M} (h : ax_Tv Y_X0_copy [aR 25, aR 10] SH (ax_cp (ax_cp (ax_cp (ax_up (ax_up M 8 0 (M 23 0)) 8 1 (M 23 1)) 24 9 0 0 8) 27 12 0 0 4) 28 13 0 0 4) (fun u1 => ax_Tv Y_X0_copy [aR 26, aR 11] SH u1 (fun u2 => ax_Tv Y_X0_copy [aR 29, aR 14] SH u2 (fun u3 => post u3)))) : ax_J Y_X0_become (ax_Kv Y_X0_become SH post) 0 0 0 [(0, aR 8), (1, aR 23)] [] SH M := by
  refine j_aload_n 0 dX0_become_0 rfl ?_
  refine j_aload_n 1 dX0_become_1 rfl ?_
  refine j_geti (i := 0) dX0_become_2 f_X0_31 sh_23 rfl rfl (fun _ => ?_)
  refine j_puti (i := 0) dX0_become_5 p_X0_31 (fun h => by cases h) sh_8 rfl rfl ?_
  refine j_aload_n 0 dX0_become_8 rfl ?_
  refine j_aload_n 1 dX0_become_9 rfl ?_
  refine j_geti (i := 1) dX0_become_10 f_X0_35 sh_23 rfl rfl (fun _ => ?_)
  refine j_puti (i := 1) dX0_become_13 p_X0_35 (fun h => by cases h) sh_8 rfl rfl ?_
  refine j_aload_n 1 dX0_become_16 rfl ?_
  refine j_getc 24 dX0_become_17 f_X0_9 sh_23 rfl ?_
  refine j_iconst (x := 0) dX0_become_20 rfl (i32_c rfl) ?_
  refine j_aload_n 0 dX0_become_21 rfl ?_
  refine j_getc 9 dX0_become_22 f_X0_9 sh_8 rfl ?_
  refine j_iconst (x := 0) dX0_become_25 rfl (i32_c rfl) ?_
  refine j_bipush (x := 8) dX0_become_26 rfl (i32_c rfl) ?_
  refine j_copy 0 (by decide) dX0_become_28 (ax_in 1092 (by decide +kernel) rfl) (ax_in 674 (by decide +kernel) rfl) (ax_in 673 (by decide +kernel) rfl) (ax_in 133 (by decide +kernel) rfl) sh_24 sh_9 (by decide) (by decide) (by decide) (by decide) (by decide) (Nat.le_of_ble_eq_true rfl) (Nat.le_of_ble_eq_true rfl) ?_
  refine j_aload_n 1 dX0_become_31 rfl ?_
  refine j_getc 27 dX0_become_32 f_X0_22 sh_23 rfl ?_
  refine j_iconst (x := 0) dX0_become_35 rfl (i32_c rfl) ?_
  refine j_aload_n 0 dX0_become_36 rfl ?_
  refine j_getc 12 dX0_become_37 f_X0_22 sh_8 rfl ?_
  refine j_iconst (x := 0) dX0_become_40 rfl (i32_c rfl) ?_
  refine j_iconst (x := 4) dX0_become_41 rfl (i32_c rfl) ?_
  refine j_copy 0 (by decide) dX0_become_42 (ax_in 1092 (by decide +kernel) rfl) (ax_in 674 (by decide +kernel) rfl) (ax_in 673 (by decide +kernel) rfl) (ax_in 133 (by decide +kernel) rfl) sh_27 sh_12 (by decide) (by decide) (by decide) (by decide) (by decide) (Nat.le_of_ble_eq_true rfl) (Nat.le_of_ble_eq_true rfl) ?_
  refine j_aload_n 1 dX0_become_45 rfl ?_
  refine j_getc 28 dX0_become_46 f_X0_25 sh_23 rfl ?_
  refine j_iconst (x := 0) dX0_become_49 rfl (i32_c rfl) ?_
  refine j_aload_n 0 dX0_become_50 rfl ?_
  refine j_getc 13 dX0_become_51 f_X0_25 sh_8 rfl ?_
  refine j_iconst (x := 0) dX0_become_54 rfl (i32_c rfl) ?_
  refine j_iconst (x := 4) dX0_become_55 rfl (i32_c rfl) ?_
  refine j_copy 0 (by decide) dX0_become_56 (ax_in 1092 (by decide +kernel) rfl) (ax_in 674 (by decide +kernel) rfl) (ax_in 673 (by decide +kernel) rfl) (ax_in 133 (by decide +kernel) rfl) sh_28 sh_13 (by decide) (by decide) (by decide) (by decide) (by decide) (Nat.le_of_ble_eq_true rfl) (Nat.le_of_ble_eq_true rfl) ?_
  refine j_aload_n 1 dX0_become_59 rfl ?_
  refine j_getc 25 dX0_become_60 f_X0_15 sh_23 rfl ?_
  refine j_aload_n 0 dX0_become_63 rfl ?_
  refine j_getc 10 dX0_become_64 f_X0_15 sh_8 rfl ?_
  refine j_callvS (Yc := Y_X0_copy) (as := [aR 25, aR 10]) (rest := []) dX0_become_67 q_X0_44 ⟨Nat.le_of_ble_eq_true rfl, Nat.le_of_ble_eq_true rfl, Nat.le_of_ble_eq_true rfl, Nat.le_of_ble_eq_true rfl⟩ rfl (Nat.le_of_ble_eq_true rfl) rfl (tv_mono h (fun u1 h => ?_))
  refine j_aload_n 1 dX0_become_70 rfl ?_
  refine j_getc 26 dX0_become_71 f_X0_19 sh_23 rfl ?_
  refine j_aload_n 0 dX0_become_74 rfl ?_
  refine j_getc 11 dX0_become_75 f_X0_19 sh_8 rfl ?_
  refine j_callvS (Yc := Y_X0_copy) (as := [aR 26, aR 11]) (rest := []) dX0_become_78 q_X0_44 ⟨Nat.le_of_ble_eq_true rfl, Nat.le_of_ble_eq_true rfl, Nat.le_of_ble_eq_true rfl, Nat.le_of_ble_eq_true rfl⟩ rfl (Nat.le_of_ble_eq_true rfl) rfl (tv_mono h (fun u2 h => ?_))
  refine j_aload_n 1 dX0_become_81 rfl ?_
  refine j_getc 29 dX0_become_82 f_X0_28 sh_23 rfl ?_
  refine j_aload_n 0 dX0_become_85 rfl ?_
  refine j_getc 14 dX0_become_86 f_X0_28 sh_8 rfl ?_
  refine j_callvS (Yc := Y_X0_copy) (as := [aR 29, aR 14]) (rest := []) dX0_become_89 q_X0_44 ⟨Nat.le_of_ble_eq_true rfl, Nat.le_of_ble_eq_true rfl, Nat.le_of_ble_eq_true rfl, Nat.le_of_ble_eq_true rfl⟩ rfl (Nat.le_of_ble_eq_true rfl) rfl (tv_mono h (fun u3 h => ?_))
  exact j_vret dX0_become_92 rfl ⟨Nat.le_of_ble_eq_true rfl, Nat.le_of_ble_eq_true rfl⟩ h
theorem E_X0_become_8_23 {post : ax_M → Prop} {M : ax_M} (h : ax_mr SH M → ax_Tv Y_X0_copy [aR 25, aR 10] SH (ax_cp (ax_cp (ax_cp (ax_up (ax_up M 8 0 (M 23 0)) 8 1 (M 23 1)) 24 9 0 0 8) 27 12 0 0 4) 28 13 0 0 4) (fun u1 => ax_Tv Y_X0_copy [aR 26, aR 11] SH u1 (fun u2 => ax_Tv Y_X0_copy [aR 29, aR 14] SH u2 (fun u3 => post u3)))) : ax_Tv Y_X0_become [aR 8, aR 23] SH M post :=
  tv_of rfl (Nat.le_of_ble_eq_true rfl) rfl (fun q => B_X0_become_8_23_0 (h q))
set_option maxRecDepth 100000 in
set_option maxHeartbeats 4000000 in
theorem B_X3_vanish_0 {post : ax_M → Prop} {M : ax_M} (h : post (ax_up (ax_up (ax_up (ax_up M 4 0 0) 4 1 0) 4 2 (-1)) 4 3 0)) : ax_J Y_X3_vanish (ax_Kv Y_X3_vanish SH post) 0 0 0 [(0, aR 4)] [] SH M := by
  refine j_aload_n 0 dX3_vanish_0 rfl ?_
  refine j_iconst (x := 0) dX3_vanish_1 rfl (i32_c rfl) ?_
  refine j_puti (i := 0) dX3_vanish_2 p_X3_19 (fun h => by cases h) sh_4 rfl rfl ?_
  refine j_aload_n 0 dX3_vanish_5 rfl ?_
  refine j_iconst (x := 0) dX3_vanish_6 rfl (i32_c rfl) ?_
  refine j_puti (i := 1) dX3_vanish_7 p_X3_22 (fun h => by cases h) sh_4 rfl rfl ?_
  refine j_aload_n 0 dX3_vanish_10 rfl ?_
  refine j_iconst (x := (-1)) dX3_vanish_11 rfl (i32_c rfl) ?_
  refine j_puti (i := 2) dX3_vanish_12 p_X3_9 (fun h => by cases h) sh_4 rfl rfl ?_
  refine j_aload_n 0 dX3_vanish_15 rfl ?_
  refine j_iconst (x := 0) dX3_vanish_16 rfl (i32_c rfl) ?_
  refine j_puti (i := 3) dX3_vanish_17 p_X3_25 (fun h => by cases h) sh_4 rfl rfl ?_
  exact j_vret dX3_vanish_20 rfl ⟨Nat.le_of_ble_eq_true rfl, Nat.le_of_ble_eq_true rfl⟩ h
theorem E_X3_vanish {post : ax_M → Prop} {M : ax_M} (h : ax_mr SH M → post (ax_up (ax_up (ax_up (ax_up M 4 0 0) 4 1 0) 4 2 (-1)) 4 3 0)) : ax_Tv Y_X3_vanish [aR 4] SH M post :=
  tv_of rfl (Nat.le_of_ble_eq_true rfl) rfl (fun q => B_X3_vanish_0 (h q))
set_option maxRecDepth 100000 in
set_option maxHeartbeats 4000000 in
theorem B_X5_atEnd_0 {post : Int → ax_M → Prop} {M : ax_M} (h : ((((M 1 1) ≤ (M 3 2)) → post 1 M) ∧ (((M 3 2) < (M 1 1)) → (0 ≤ (M 3 2) ∧ (M 3 2) < 400) ∧ (((¬ (M 2 (M 3 2)) = 32) → post 0 M) ∧ (((M 2 (M 3 2)) = 32) → (-2147483648 ≤ ((M 3 2) + 1) ∧ ((M 3 2) + 1) ≤ 2147483647) ∧ ax_J Y_X5_atEnd (ax_Ki Y_X5_atEnd SH post) 0 0 0 [(0, aR 3)] [] SH (ax_up M 3 2 ((M 3 2) + 1))))))) : ax_J Y_X5_atEnd (ax_Ki Y_X5_atEnd SH post) 0 0 0 [(0, aR 3)] [] SH M := by
  refine j_aload_n 0 dX5_atEnd_0 rfl ?_
  refine j_geti (i := 2) dX5_atEnd_1 f_X5_26 sh_3 rfl rfl (fun _ => ?_)
  refine j_aload_n 0 dX5_atEnd_4 rfl ?_
  refine j_getc 1 dX5_atEnd_5 f_X5_22 sh_3 rfl ?_
  refine j_geti (i := 1) dX5_atEnd_8 f_X5_99 sh_1 rfl rfl (fun _ => ?_)
  refine j_icmp_ge (tgt := 44) dX5_atEnd_11 (by decide) (fun c1 => ?_) (fun c1 => ?_)
  · replace h := h.1 c1
    refine j_aload_n 0 dX5_atEnd_44 rfl ?_
    refine j_geti (i := 2) dX5_atEnd_45 f_X5_26 sh_3 rfl rfl (fun _ => ?_)
    refine j_aload_n 0 dX5_atEnd_48 rfl ?_
    refine j_getc 1 dX5_atEnd_49 f_X5_22 sh_3 rfl ?_
    refine j_geti (i := 1) dX5_atEnd_52 f_X5_99 sh_1 rfl rfl (fun _ => ?_)
    refine j_icmp_lt (tgt := 62) dX5_atEnd_55 (by decide) (fun c => by have := c1; omega) (fun _ => ?_)
    refine j_iconst (x := 1) dX5_atEnd_58 rfl (i32_c rfl) ?_
    refine j_goto (tgt := 63) dX5_atEnd_59 (by decide) ?_
    exact j_zret dX5_atEnd_63 rfl ⟨Nat.le_of_ble_eq_true rfl, Nat.le_of_ble_eq_true rfl⟩ (by decide) h
  · replace h := h.2 c1
    refine j_aload_n 0 dX5_atEnd_14 rfl ?_
    refine j_getc 1 dX5_atEnd_15 f_X5_22 sh_3 rfl ?_
    refine j_getc 2 dX5_atEnd_18 f_X5_104 sh_1 rfl ?_
    refine j_aload_n 0 dX5_atEnd_21 rfl ?_
    refine j_geti (i := 2) dX5_atEnd_22 f_X5_26 sh_3 rfl rfl (fun _ => ?_)
    obtain ⟨o2, h⟩ := h
    refine j_bald dX5_atEnd_25 sh_2 o2.1 o2.2 (fun _ => ?_)
    refine j_bipush (x := 32) dX5_atEnd_26 rfl (i32_c rfl) ?_
    refine j_icmp_ne (tgt := 44) dX5_atEnd_28 (by decide) (fun c3 => ?_) (fun c3 => ?_)
    · replace h := h.1 c3
      refine j_aload_n 0 dX5_atEnd_44 rfl ?_
      refine j_geti (i := 2) dX5_atEnd_45 f_X5_26 sh_3 rfl rfl (fun _ => ?_)
      refine j_aload_n 0 dX5_atEnd_48 rfl ?_
      refine j_getc 1 dX5_atEnd_49 f_X5_22 sh_3 rfl ?_
      refine j_geti (i := 1) dX5_atEnd_52 f_X5_99 sh_1 rfl rfl (fun _ => ?_)
      refine j_icmp_lt (tgt := 62) dX5_atEnd_55 (by decide) (fun _ => ?_) (fun c => by have := c1; omega)
      refine j_iconst (x := 0) dX5_atEnd_62 rfl (i32_c rfl) ?_
      exact j_zret dX5_atEnd_63 rfl ⟨Nat.le_of_ble_eq_true rfl, Nat.le_of_ble_eq_true rfl⟩ (by decide) h
    · replace h := h.2 c3
      refine j_aload_n 0 dX5_atEnd_31 rfl ?_
      refine j_dup dX5_atEnd_32 rfl ?_
      refine j_geti (i := 2) dX5_atEnd_33 f_X5_26 sh_3 rfl rfl (fun _ => ?_)
      refine j_iconst (x := 1) dX5_atEnd_36 rfl (i32_c rfl) ?_
      obtain ⟨o4, h⟩ := h
      refine j_iadd (z := ((M 3 2) + 1)) dX5_atEnd_37 rfl o4 ?_
      refine j_puti (i := 2) dX5_atEnd_38 p_X5_26 (fun h => by cases h) sh_3 rfl rfl ?_
      refine j_goto (tgt := 0) dX5_atEnd_41 (by decide) ?_
      exact h
theorem E_X5_atEnd {post : Int → ax_M → Prop} {M : ax_M} (h : ax_mr SH M → ((((M 1 1) ≤ (M 3 2)) → post 1 M) ∧ (((M 3 2) < (M 1 1)) → (0 ≤ (M 3 2) ∧ (M 3 2) < 400) ∧ (((¬ (M 2 (M 3 2)) = 32) → post 0 M) ∧ (((M 2 (M 3 2)) = 32) → (-2147483648 ≤ ((M 3 2) + 1) ∧ ((M 3 2) + 1) ≤ 2147483647) ∧ ax_J Y_X5_atEnd (ax_Ki Y_X5_atEnd SH post) 0 0 0 [(0, aR 3)] [] SH (ax_up M 3 2 ((M 3 2) + 1))))))) : ax_Ti Y_X5_atEnd [aR 3] SH M post :=
  ti_of rfl (Nat.le_of_ble_eq_true rfl) rfl (fun q => B_X5_atEnd_0 (h q))
set_option maxRecDepth 100000 in
set_option maxHeartbeats 4000000 in
theorem B_X5_readClause_0 {post : ax_M → Prop} {M : ax_M} (h : ax_Ti Y_X5_takeWord [aR 3, aR 1001] SH M (fun z2 u1 => (((z2 = 0) → ax_Ti Y_X5_takeWord [aR 3, aR 1002] SH u1 (fun z4 u3 => (((z4 = 0) → (((¬ (u3 3 4) = 0) → post u3) ∧ (((u3 3 4) = 0) → post (ax_up (ax_up u3 3 4 1) 3 5 (M 3 2))))) ∧ ((¬ z4 = 0) → ax_Tv Y_X5_readWay [aR 3, aI (M 3 2)] SH u3 (fun u5 => post u5))))) ∧ ((¬ z2 = 0) → ax_Tv Y_X5_readOut [aR 3, aI (M 3 2)] SH u1 (fun u6 => post u6))))) : ax_J Y_X5_readClause (ax_Kv Y_X5_readClause SH post) 0 0 0 [(0, aR 3)] [] SH M := by
  refine j_aload_n 0 dX5_readClause_0 rfl ?_
  refine j_geti (i := 2) dX5_readClause_1 f_X5_26 sh_3 rfl rfl (fun _ => ?_)
  refine j_istore_n (ll' := [(1, aI (M 3 2)), (0, aR 3)]) dX5_readClause_4 (Nat.le_of_ble_eq_true rfl) rfl ?_
  refine j_aload_n 1 dX5_readClause_5 rfl ?_
  refine j_ldcS (i := 1) dX5_readClause_6 rfl ?_
  refine j_calliV (Yc := Y_X5_takeWord) (as := [aR 1001]) (rest := []) dX5_readClause_8 q_X5_54 ⟨Nat.le_of_ble_eq_true rfl, Nat.le_of_ble_eq_true rfl, Nat.le_of_ble_eq_true rfl, Nat.le_of_ble_eq_true rfl⟩ sh_3 rfl (Nat.le_of_ble_eq_true rfl) rfl (ti_mono h (fun z2 u1 h => ?_))
  refine j_if_eq (tgt := 22) dX5_readClause_11 (by decide) (fun c1 => ?_) (fun c1 => ?_)
  · replace h := h.1 c1
    refine j_aload_n 1 dX5_readClause_22 rfl ?_
    refine j_ldcS (i := 2) dX5_readClause_23 rfl ?_
    refine j_calliV (Yc := Y_X5_takeWord) (as := [aR 1002]) (rest := []) dX5_readClause_25 q_X5_54 ⟨Nat.le_of_ble_eq_true rfl, Nat.le_of_ble_eq_true rfl, Nat.le_of_ble_eq_true rfl, Nat.le_of_ble_eq_true rfl⟩ sh_3 rfl (Nat.le_of_ble_eq_true rfl) rfl (ti_mono h (fun z4 u3 h => ?_))
    refine j_if_eq (tgt := 39) dX5_readClause_28 (by decide) (fun c2 => ?_) (fun c2 => ?_)
    · replace h := h.1 c2
      refine j_aload_n 1 dX5_readClause_39 rfl ?_
      refine j_iconst (x := 1) dX5_readClause_40 rfl (i32_c rfl) ?_
      refine j_iload_n 0 dX5_readClause_41 rfl ?_
      refine j_callvV (Yc := Y_X5_blame) (as := [aI 1, aI (M 3 2)]) (rest := []) dX5_readClause_42 q_X5_48 ⟨Nat.le_of_ble_eq_true rfl, Nat.le_of_ble_eq_true rfl, Nat.le_of_ble_eq_true rfl, Nat.le_of_ble_eq_true rfl⟩ sh_3 rfl (Nat.le_of_ble_eq_true rfl) rfl (tv_of (ll := [(0, aR 3), (1, aI 1), (2, aI (M 3 2))]) rfl (Nat.le_of_ble_eq_true rfl) rfl (fun _ => ?_))
      refine j_aload_n 0 dX5_blame_0 rfl ?_
      refine j_geti (i := 4) dX5_blame_1 f_X5_29 sh_3 rfl rfl (fun _ => ?_)
      refine j_if_ne (tgt := 17) dX5_blame_4 (by decide) (fun c3 => ?_) (fun c3 => ?_)
      · replace h := h.1 c3
        refine j_vret dX5_blame_17 rfl ⟨Nat.le_of_ble_eq_true rfl, Nat.le_of_ble_eq_true rfl⟩ ?_
        exact j_vret dX5_readClause_45 rfl ⟨Nat.le_of_ble_eq_true rfl, Nat.le_of_ble_eq_true rfl⟩ h
      · replace h := h.2 c3
        refine j_aload_n 0 dX5_blame_7 rfl ?_
        refine j_iload_n 1 dX5_blame_8 rfl ?_
        refine j_puti (i := 4) dX5_blame_9 p_X5_29 (fun h => by cases h) sh_3 rfl rfl ?_
        refine j_aload_n 0 dX5_blame_12 rfl ?_
        refine j_iload_n 2 dX5_blame_13 rfl ?_
        refine j_puti (i := 5) dX5_blame_14 p_X5_18 (fun h => by cases h) sh_3 rfl rfl ?_
        refine j_vret dX5_blame_17 rfl ⟨Nat.le_of_ble_eq_true rfl, Nat.le_of_ble_eq_true rfl⟩ ?_
        exact j_vret dX5_readClause_45 rfl ⟨Nat.le_of_ble_eq_true rfl, Nat.le_of_ble_eq_true rfl⟩ h
    · replace h := h.2 c2
      refine j_aload_n 1 dX5_readClause_31 rfl ?_
      refine j_iload_n 0 dX5_readClause_32 rfl ?_
      refine j_callvV (Yc := Y_X5_readWay) (as := [aI (M 3 2)]) (rest := []) dX5_readClause_33 q_X5_75 ⟨Nat.le_of_ble_eq_true rfl, Nat.le_of_ble_eq_true rfl, Nat.le_of_ble_eq_true rfl, Nat.le_of_ble_eq_true rfl⟩ sh_3 rfl (Nat.le_of_ble_eq_true rfl) rfl (tv_mono h (fun u5 h => ?_))
      refine j_goto (tgt := 45) dX5_readClause_36 (by decide) ?_
      exact j_vret dX5_readClause_45 rfl ⟨Nat.le_of_ble_eq_true rfl, Nat.le_of_ble_eq_true rfl⟩ h
  · replace h := h.2 c1
    refine j_aload_n 1 dX5_readClause_14 rfl ?_
    refine j_iload_n 0 dX5_readClause_15 rfl ?_
    refine j_callvV (Yc := Y_X5_readOut) (as := [aI (M 3 2)]) (rest := []) dX5_readClause_16 q_X5_69 ⟨Nat.le_of_ble_eq_true rfl, Nat.le_of_ble_eq_true rfl, Nat.le_of_ble_eq_true rfl, Nat.le_of_ble_eq_true rfl⟩ sh_3 rfl (Nat.le_of_ble_eq_true rfl) rfl (tv_mono h (fun u6 h => ?_))
    refine j_goto (tgt := 45) dX5_readClause_19 (by decide) ?_
    exact j_vret dX5_readClause_45 rfl ⟨Nat.le_of_ble_eq_true rfl, Nat.le_of_ble_eq_true rfl⟩ h
theorem E_X5_readClause {post : ax_M → Prop} {M : ax_M} (h : ax_mr SH M → ax_Ti Y_X5_takeWord [aR 3, aR 1001] SH M (fun z2 u1 => (((z2 = 0) → ax_Ti Y_X5_takeWord [aR 3, aR 1002] SH u1 (fun z4 u3 => (((z4 = 0) → (((¬ (u3 3 4) = 0) → post u3) ∧ (((u3 3 4) = 0) → post (ax_up (ax_up u3 3 4 1) 3 5 (M 3 2))))) ∧ ((¬ z4 = 0) → ax_Tv Y_X5_readWay [aR 3, aI (M 3 2)] SH u3 (fun u5 => post u5))))) ∧ ((¬ z2 = 0) → ax_Tv Y_X5_readOut [aR 3, aI (M 3 2)] SH u1 (fun u6 => post u6))))) : ax_Tv Y_X5_readClause [aR 3] SH M post :=
  tv_of rfl (Nat.le_of_ble_eq_true rfl) rfl (fun q => B_X5_readClause_0 (h q))
set_option maxRecDepth 100000 in
set_option maxHeartbeats 4000000 in
theorem B_X5_readPlaces_0 {post : ax_M → Prop} {M : ax_M} (h : ax_Ti Y_X5_takeWord [aR 3, aR 1000] SH M (fun z2 u1 => (((z2 = 0) → (((¬ (u1 3 4) = 0) → post u1) ∧ (((u1 3 4) = 0) → post (ax_up (ax_up u1 3 4 1) 3 5 (u1 3 2))))) ∧ ((¬ z2 = 0) → ax_Ti Y_X5_number [aR 3, aI 2, aI 12] SH u1 (fun z4 u3 => ax_Tv Y_X5_takeClauseEnd [aR 3] SH (ax_up u3 4 0 z4) (fun u5 => post u5)))))) : ax_J Y_X5_readPlaces (ax_Kv Y_X5_readPlaces SH post) 0 0 0 [(0, aR 3)] [] SH M := by
  refine j_aload_n 0 dX5_readPlaces_0 rfl ?_
  refine j_ldcS (i := 0) dX5_readPlaces_1 rfl ?_
  refine j_calliV (Yc := Y_X5_takeWord) (as := [aR 1000]) (rest := []) dX5_readPlaces_3 q_X5_54 ⟨Nat.le_of_ble_eq_true rfl, Nat.le_of_ble_eq_true rfl, Nat.le_of_ble_eq_true rfl, Nat.le_of_ble_eq_true rfl⟩ sh_3 rfl (Nat.le_of_ble_eq_true rfl) rfl (ti_mono h (fun z2 u1 h => ?_))
  refine j_if_eq (tgt := 30) dX5_readPlaces_6 (by decide) (fun c1 => ?_) (fun c1 => ?_)
  · replace h := h.1 c1
    refine j_aload_n 0 dX5_readPlaces_30 rfl ?_
    refine j_iconst (x := 1) dX5_readPlaces_31 rfl (i32_c rfl) ?_
    refine j_aload_n 0 dX5_readPlaces_32 rfl ?_
    refine j_geti (i := 2) dX5_readPlaces_33 f_X5_26 sh_3 rfl rfl (fun _ => ?_)
    refine j_callvV (Yc := Y_X5_blame) (as := [aI 1, aI (u1 3 2)]) (rest := []) dX5_readPlaces_36 q_X5_48 ⟨Nat.le_of_ble_eq_true rfl, Nat.le_of_ble_eq_true rfl, Nat.le_of_ble_eq_true rfl, Nat.le_of_ble_eq_true rfl⟩ sh_3 rfl (Nat.le_of_ble_eq_true rfl) rfl (tv_of (ll := [(0, aR 3), (1, aI 1), (2, aI (u1 3 2))]) rfl (Nat.le_of_ble_eq_true rfl) rfl (fun _ => ?_))
    refine j_aload_n 0 dX5_blame_0 rfl ?_
    refine j_geti (i := 4) dX5_blame_1 f_X5_29 sh_3 rfl rfl (fun _ => ?_)
    refine j_if_ne (tgt := 17) dX5_blame_4 (by decide) (fun c2 => ?_) (fun c2 => ?_)
    · replace h := h.1 c2
      refine j_vret dX5_blame_17 rfl ⟨Nat.le_of_ble_eq_true rfl, Nat.le_of_ble_eq_true rfl⟩ ?_
      exact j_vret dX5_readPlaces_39 rfl ⟨Nat.le_of_ble_eq_true rfl, Nat.le_of_ble_eq_true rfl⟩ h
    · replace h := h.2 c2
      refine j_aload_n 0 dX5_blame_7 rfl ?_
      refine j_iload_n 1 dX5_blame_8 rfl ?_
      refine j_puti (i := 4) dX5_blame_9 p_X5_29 (fun h => by cases h) sh_3 rfl rfl ?_
      refine j_aload_n 0 dX5_blame_12 rfl ?_
      refine j_iload_n 2 dX5_blame_13 rfl ?_
      refine j_puti (i := 5) dX5_blame_14 p_X5_18 (fun h => by cases h) sh_3 rfl rfl ?_
      refine j_vret dX5_blame_17 rfl ⟨Nat.le_of_ble_eq_true rfl, Nat.le_of_ble_eq_true rfl⟩ ?_
      exact j_vret dX5_readPlaces_39 rfl ⟨Nat.le_of_ble_eq_true rfl, Nat.le_of_ble_eq_true rfl⟩ h
  · replace h := h.2 c1
    refine j_aload_n 0 dX5_readPlaces_9 rfl ?_
    refine j_getc 4 dX5_readPlaces_10 f_X5_12 sh_3 rfl ?_
    refine j_aload_n 0 dX5_readPlaces_13 rfl ?_
    refine j_iconst (x := 2) dX5_readPlaces_14 rfl (i32_c rfl) ?_
    refine j_bipush (x := 12) dX5_readPlaces_15 rfl (i32_c rfl) ?_
    refine j_calliV (Yc := Y_X5_number) (as := [aI 2, aI 12]) (rest := [aR 4]) dX5_readPlaces_17 q_X5_58 ⟨Nat.le_of_ble_eq_true rfl, Nat.le_of_ble_eq_true rfl, Nat.le_of_ble_eq_true rfl, Nat.le_of_ble_eq_true rfl⟩ sh_3 rfl (Nat.le_of_ble_eq_true rfl) rfl (ti_mono h (fun z4 u3 h => ?_))
    refine j_puti (i := 0) dX5_readPlaces_20 p_X5_62 (fun h => by cases h) sh_4 rfl rfl ?_
    refine j_aload_n 0 dX5_readPlaces_23 rfl ?_
    refine j_callvV (Yc := Y_X5_takeClauseEnd) (as := []) (rest := []) dX5_readPlaces_24 q_X5_64 ⟨Nat.le_of_ble_eq_true rfl, Nat.le_of_ble_eq_true rfl, Nat.le_of_ble_eq_true rfl, Nat.le_of_ble_eq_true rfl⟩ sh_3 rfl (Nat.le_of_ble_eq_true rfl) rfl (tv_mono h (fun u5 h => ?_))
    refine j_goto (tgt := 39) dX5_readPlaces_27 (by decide) ?_
    exact j_vret dX5_readPlaces_39 rfl ⟨Nat.le_of_ble_eq_true rfl, Nat.le_of_ble_eq_true rfl⟩ h
theorem E_X5_readPlaces {post : ax_M → Prop} {M : ax_M} (h : ax_mr SH M → ax_Ti Y_X5_takeWord [aR 3, aR 1000] SH M (fun z2 u1 => (((z2 = 0) → (((¬ (u1 3 4) = 0) → post u1) ∧ (((u1 3 4) = 0) → post (ax_up (ax_up u1 3 4 1) 3 5 (u1 3 2))))) ∧ ((¬ z2 = 0) → ax_Ti Y_X5_number [aR 3, aI 2, aI 12] SH u1 (fun z4 u3 => ax_Tv Y_X5_takeClauseEnd [aR 3] SH (ax_up u3 4 0 z4) (fun u5 => post u5)))))) : ax_Tv Y_X5_readPlaces [aR 3] SH M post :=
  tv_of rfl (Nat.le_of_ble_eq_true rfl) rfl (fun q => B_X5_readPlaces_0 (h q))
set_option maxRecDepth 100000 in
set_option maxHeartbeats 4000000 in
theorem B_X3_touches_0 {post : Int → ax_M → Prop} {M : ax_M} {x1 x2 : Int} (h : (-2147483648 ≤ (x1 * 7) ∧ (x1 * 7) ≤ 2147483647) ∧ (-2147483648 ≤ ((x1 * 7) + 0) ∧ ((x1 * 7) + 0) ≤ 2147483647) ∧ (0 ≤ ((x1 * 7) + 0) ∧ ((x1 * 7) + 0) < 168) ∧ ((((M 7 ((x1 * 7) + 0)) = x2) → post 1 M) ∧ ((¬ (M 7 ((x1 * 7) + 0)) = x2) → (-2147483648 ≤ ((x1 * 7) + 1) ∧ ((x1 * 7) + 1) ≤ 2147483647) ∧ (0 ≤ ((x1 * 7) + 1) ∧ ((x1 * 7) + 1) < 168) ∧ (((¬ (M 7 ((x1 * 7) + 1)) = x2) → post 0 M) ∧ (((M 7 ((x1 * 7) + 1)) = x2) → post 1 M))))) : ax_J Y_X3_touches (ax_Ki Y_X3_touches SH post) 0 0 0 [(0, aR 6), (1, aI x1), (2, aI x2)] [] SH M := by
  refine j_aload_n 0 dX3_touches_0 rfl ?_
  refine j_iload_n 1 dX3_touches_1 rfl ?_
  refine j_iconst (x := 0) dX3_touches_2 rfl (i32_c rfl) ?_
  refine j_calliV (Yc := Y_X3_fact) (as := [aI x1, aI 0]) (rest := []) dX3_touches_3 q_X3_34 ⟨Nat.le_of_ble_eq_true rfl, Nat.le_of_ble_eq_true rfl, Nat.le_of_ble_eq_true rfl, Nat.le_of_ble_eq_true rfl⟩ sh_6 rfl (Nat.le_of_ble_eq_true rfl) rfl (ti_of (ll := [(0, aR 6), (1, aI x1), (2, aI 0)]) rfl (Nat.le_of_ble_eq_true rfl) rfl (fun _ => ?_))
  refine j_aload_n 0 dX3_fact_0 rfl ?_
  refine j_getc 7 dX3_fact_1 f_X3_15 sh_6 rfl ?_
  refine j_iload_n 1 dX3_fact_4 rfl ?_
  refine j_bipush (x := 7) dX3_fact_5 rfl (i32_c rfl) ?_
  obtain ⟨o1, h⟩ := h
  refine j_imul (z := (x1 * 7)) dX3_fact_7 rfl o1 ?_
  refine j_iload_n 2 dX3_fact_8 rfl ?_
  obtain ⟨o2, h⟩ := h
  refine j_iadd (z := ((x1 * 7) + 0)) dX3_fact_9 rfl o2 ?_
  obtain ⟨o3, h⟩ := h
  refine j_iald dX3_fact_10 sh_7 o3.1 o3.2 (fun _ => ?_)
  refine j_iret dX3_fact_11 rfl ⟨Nat.le_of_ble_eq_true rfl, Nat.le_of_ble_eq_true rfl⟩ (fun _ => ?_)
  refine j_iload_n 2 dX3_touches_6 rfl ?_
  refine j_icmp_eq (tgt := 20) dX3_touches_7 (by decide) (fun c4 => ?_) (fun c4 => ?_)
  · replace h := h.1 c4
    refine j_iconst (x := 1) dX3_touches_20 rfl (i32_c rfl) ?_
    refine j_goto (tgt := 25) dX3_touches_21 (by decide) ?_
    exact j_zret dX3_touches_25 rfl ⟨Nat.le_of_ble_eq_true rfl, Nat.le_of_ble_eq_true rfl⟩ (by decide) h
  · replace h := h.2 c4
    refine j_aload_n 0 dX3_touches_10 rfl ?_
    refine j_iload_n 1 dX3_touches_11 rfl ?_
    refine j_iconst (x := 1) dX3_touches_12 rfl (i32_c rfl) ?_
    refine j_calliV (Yc := Y_X3_fact) (as := [aI x1, aI 1]) (rest := []) dX3_touches_13 q_X3_34 ⟨Nat.le_of_ble_eq_true rfl, Nat.le_of_ble_eq_true rfl, Nat.le_of_ble_eq_true rfl, Nat.le_of_ble_eq_true rfl⟩ sh_6 rfl (Nat.le_of_ble_eq_true rfl) rfl (ti_of (ll := [(0, aR 6), (1, aI x1), (2, aI 1)]) rfl (Nat.le_of_ble_eq_true rfl) rfl (fun _ => ?_))
    refine j_aload_n 0 dX3_fact_0 rfl ?_
    refine j_getc 7 dX3_fact_1 f_X3_15 sh_6 rfl ?_
    refine j_iload_n 1 dX3_fact_4 rfl ?_
    refine j_bipush (x := 7) dX3_fact_5 rfl (i32_c rfl) ?_
    refine j_imul (z := (x1 * 7)) dX3_fact_7 rfl o1 ?_
    refine j_iload_n 2 dX3_fact_8 rfl ?_
    obtain ⟨o5, h⟩ := h
    refine j_iadd (z := ((x1 * 7) + 1)) dX3_fact_9 rfl o5 ?_
    obtain ⟨o6, h⟩ := h
    refine j_iald dX3_fact_10 sh_7 o6.1 o6.2 (fun _ => ?_)
    refine j_iret dX3_fact_11 rfl ⟨Nat.le_of_ble_eq_true rfl, Nat.le_of_ble_eq_true rfl⟩ (fun _ => ?_)
    refine j_iload_n 2 dX3_touches_16 rfl ?_
    refine j_icmp_ne (tgt := 24) dX3_touches_17 (by decide) (fun c7 => ?_) (fun c7 => ?_)
    · replace h := h.1 c7
      refine j_iconst (x := 0) dX3_touches_24 rfl (i32_c rfl) ?_
      exact j_zret dX3_touches_25 rfl ⟨Nat.le_of_ble_eq_true rfl, Nat.le_of_ble_eq_true rfl⟩ (by decide) h
    · replace h := h.2 c7
      refine j_iconst (x := 1) dX3_touches_20 rfl (i32_c rfl) ?_
      refine j_goto (tgt := 25) dX3_touches_21 (by decide) ?_
      exact j_zret dX3_touches_25 rfl ⟨Nat.le_of_ble_eq_true rfl, Nat.le_of_ble_eq_true rfl⟩ (by decide) h
theorem E_X3_touches {post : Int → ax_M → Prop} {M : ax_M} {x1 x2 : Int} (h : ax_mr SH M → (-2147483648 ≤ (x1 * 7) ∧ (x1 * 7) ≤ 2147483647) ∧ (-2147483648 ≤ ((x1 * 7) + 0) ∧ ((x1 * 7) + 0) ≤ 2147483647) ∧ (0 ≤ ((x1 * 7) + 0) ∧ ((x1 * 7) + 0) < 168) ∧ ((((M 7 ((x1 * 7) + 0)) = x2) → post 1 M) ∧ ((¬ (M 7 ((x1 * 7) + 0)) = x2) → (-2147483648 ≤ ((x1 * 7) + 1) ∧ ((x1 * 7) + 1) ≤ 2147483647) ∧ (0 ≤ ((x1 * 7) + 1) ∧ ((x1 * 7) + 1) < 168) ∧ (((¬ (M 7 ((x1 * 7) + 1)) = x2) → post 0 M) ∧ (((M 7 ((x1 * 7) + 1)) = x2) → post 1 M))))) : ax_Ti Y_X3_touches [aR 6, aI x1, aI x2] SH M post :=
  ti_of rfl (Nat.le_of_ble_eq_true rfl) rfl (fun q => B_X3_touches_0 (h q))
set_option maxRecDepth 100000 in
set_option maxHeartbeats 4000000 in
theorem B_X9_comesSooner_0 {post : Int → ax_M → Prop} {M : ax_M} {x1 x2 x3 : Int} (h : (0 ≤ x2 ∧ x2 < 12) ∧ (((¬ (M 38 x2) = (-1)) → ax_Ti Y_X9_through [aR 33, aI x1, aI (M 38 x2)] SH M (fun z2 u1 => (((z2 = (-1)) → post 0 u1) ∧ ((¬ z2 = (-1)) → (0 ≤ x3 ∧ x3 < 12) ∧ ((((u1 38 x3) = (-1)) → post 1 (ax_up u1 38 x3 z2)) ∧ ((¬ (u1 38 x3) = (-1)) → (((z2 < (u1 38 x3)) → post 1 (ax_up u1 38 x3 z2)) ∧ (((u1 38 x3) ≤ z2) → post 0 u1)))))))) ∧ (((M 38 x2) = (-1)) → post 0 M))) : ax_J Y_X9_comesSooner (ax_Ki Y_X9_comesSooner SH post) 0 0 0 [(0, aR 33), (1, aI x1), (2, aI x2), (3, aI x3)] [] SH M := by
  refine j_aload_n 0 dX9_comesSooner_0 rfl ?_
  refine j_getc 38 dX9_comesSooner_1 f_X9_24 sh_33 rfl ?_
  refine j_iload_n 2 dX9_comesSooner_4 rfl ?_
  obtain ⟨o1, h⟩ := h
  refine j_iald dX9_comesSooner_5 sh_38 o1.1 o1.2 (fun _ => ?_)
  refine j_iconst (x := (-1)) dX9_comesSooner_6 rfl (i32_c rfl) ?_
  refine j_icmp_ne (tgt := 12) dX9_comesSooner_7 (by decide) (fun c2 => ?_) (fun c2 => ?_)
  · replace h := h.1 c2
    refine j_aload_n 0 dX9_comesSooner_12 rfl ?_
    refine j_iload_n 1 dX9_comesSooner_13 rfl ?_
    refine j_aload_n 0 dX9_comesSooner_14 rfl ?_
    refine j_getc 38 dX9_comesSooner_15 f_X9_24 sh_33 rfl ?_
    refine j_iload_n 2 dX9_comesSooner_18 rfl ?_
    refine j_iald dX9_comesSooner_19 sh_38 o1.1 o1.2 (fun _ => ?_)
    refine j_calliV (Yc := Y_X9_through) (as := [aI x1, aI (M 38 x2)]) (rest := []) dX9_comesSooner_20 q_X9_77 ⟨Nat.le_of_ble_eq_true rfl, Nat.le_of_ble_eq_true rfl, Nat.le_of_ble_eq_true rfl, Nat.le_of_ble_eq_true rfl⟩ sh_33 rfl (Nat.le_of_ble_eq_true rfl) rfl (ti_mono h (fun z2 u1 h => ?_))
    refine j_istore (ll' := [(4, aI z2), (0, aR 33), (1, aI x1), (2, aI x2), (3, aI x3)]) dX9_comesSooner_23 (Nat.le_of_ble_eq_true rfl) rfl ?_
    refine j_iload 0 dX9_comesSooner_25 rfl ?_
    refine j_iconst (x := (-1)) dX9_comesSooner_27 rfl (i32_c rfl) ?_
    refine j_icmp_eq (tgt := 52) dX9_comesSooner_28 (by decide) (fun c3 => ?_) (fun c3 => ?_)
    · replace h := h.1 c3
      refine j_iconst (x := 0) dX9_comesSooner_52 rfl (i32_c rfl) ?_
      exact j_zret dX9_comesSooner_53 rfl ⟨Nat.le_of_ble_eq_true rfl, Nat.le_of_ble_eq_true rfl⟩ (by decide) h
    · replace h := h.2 c3
      refine j_aload_n 1 dX9_comesSooner_31 rfl ?_
      refine j_getc 38 dX9_comesSooner_32 f_X9_24 sh_33 rfl ?_
      refine j_iload_n 4 dX9_comesSooner_35 rfl ?_
      obtain ⟨o4, h⟩ := h
      refine j_iald dX9_comesSooner_36 sh_38 o4.1 o4.2 (fun _ => ?_)
      refine j_iconst (x := (-1)) dX9_comesSooner_37 rfl (i32_c rfl) ?_
      refine j_icmp_eq (tgt := 54) dX9_comesSooner_38 (by decide) (fun c5 => ?_) (fun c5 => ?_)
      · replace h := h.1 c5
        refine j_aload_n 1 dX9_comesSooner_54 rfl ?_
        refine j_getc 38 dX9_comesSooner_55 f_X9_24 sh_33 rfl ?_
        refine j_iload_n 4 dX9_comesSooner_58 rfl ?_
        refine j_iload 0 dX9_comesSooner_59 rfl ?_
        refine j_iast dX9_comesSooner_61 sh_38 o4.1 o4.2 ?_
        refine j_iconst (x := 1) dX9_comesSooner_62 rfl (i32_c rfl) ?_
        exact j_zret dX9_comesSooner_63 rfl ⟨Nat.le_of_ble_eq_true rfl, Nat.le_of_ble_eq_true rfl⟩ (by decide) h
      · replace h := h.2 c5
        refine j_aload_n 1 dX9_comesSooner_41 rfl ?_
        refine j_getc 38 dX9_comesSooner_42 f_X9_24 sh_33 rfl ?_
        refine j_iload_n 4 dX9_comesSooner_45 rfl ?_
        refine j_iald dX9_comesSooner_46 sh_38 o4.1 o4.2 (fun _ => ?_)
        refine j_iload 0 dX9_comesSooner_47 rfl ?_
        refine j_icmp_gt (tgt := 54) dX9_comesSooner_49 (by decide) (fun c6 => ?_) (fun c6 => ?_)
        · replace h := h.1 c6
          refine j_aload_n 1 dX9_comesSooner_54 rfl ?_
          refine j_getc 38 dX9_comesSooner_55 f_X9_24 sh_33 rfl ?_
          refine j_iload_n 4 dX9_comesSooner_58 rfl ?_
          refine j_iload 0 dX9_comesSooner_59 rfl ?_
          refine j_iast dX9_comesSooner_61 sh_38 o4.1 o4.2 ?_
          refine j_iconst (x := 1) dX9_comesSooner_62 rfl (i32_c rfl) ?_
          exact j_zret dX9_comesSooner_63 rfl ⟨Nat.le_of_ble_eq_true rfl, Nat.le_of_ble_eq_true rfl⟩ (by decide) h
        · replace h := h.2 c6
          refine j_iconst (x := 0) dX9_comesSooner_52 rfl (i32_c rfl) ?_
          exact j_zret dX9_comesSooner_53 rfl ⟨Nat.le_of_ble_eq_true rfl, Nat.le_of_ble_eq_true rfl⟩ (by decide) h
  · replace h := h.2 c2
    refine j_iconst (x := 0) dX9_comesSooner_10 rfl (i32_c rfl) ?_
    exact j_zret dX9_comesSooner_11 rfl ⟨Nat.le_of_ble_eq_true rfl, Nat.le_of_ble_eq_true rfl⟩ (by decide) h
theorem E_X9_comesSooner {post : Int → ax_M → Prop} {M : ax_M} {x1 x2 x3 : Int} (h : ax_mr SH M → (0 ≤ x2 ∧ x2 < 12) ∧ (((¬ (M 38 x2) = (-1)) → ax_Ti Y_X9_through [aR 33, aI x1, aI (M 38 x2)] SH M (fun z2 u1 => (((z2 = (-1)) → post 0 u1) ∧ ((¬ z2 = (-1)) → (0 ≤ x3 ∧ x3 < 12) ∧ ((((u1 38 x3) = (-1)) → post 1 (ax_up u1 38 x3 z2)) ∧ ((¬ (u1 38 x3) = (-1)) → (((z2 < (u1 38 x3)) → post 1 (ax_up u1 38 x3 z2)) ∧ (((u1 38 x3) ≤ z2) → post 0 u1)))))))) ∧ (((M 38 x2) = (-1)) → post 0 M))) : ax_Ti Y_X9_comesSooner [aR 33, aI x1, aI x2, aI x3] SH M post :=
  ti_of rfl (Nat.le_of_ble_eq_true rfl) rfl (fun q => B_X9_comesSooner_0 (h q))
set_option maxRecDepth 100000 in
set_option maxHeartbeats 4000000 in
theorem B_J7_fill_53178_38_0 {post : ax_M → Prop} {M : ax_M} {x1 : Int} (h : ax_J Y_J7_fill_53178 (ax_Kv Y_J7_fill_53178 SH post) 0 0 5 [(0, aR 38), (1, aI x1), (2, aI 0), (3, aI 12)] [] SH M) : ax_J Y_J7_fill_53178 (ax_Kv Y_J7_fill_53178 SH post) 0 0 0 [(0, aR 38), (1, aI x1)] [] SH M := by
  refine j_iconst (x := 0) dJ7_fill_53178_0 rfl (i32_c rfl) ?_
  refine j_istore_n (ll' := [(2, aI 0), (0, aR 38), (1, aI x1)]) dJ7_fill_53178_1 (Nat.le_of_ble_eq_true rfl) rfl ?_
  refine j_aload_n 1 dJ7_fill_53178_2 rfl ?_
  refine j_alen (v := 12) dJ7_fill_53178_3 sh_38 (by decide) (by decide) rfl ?_
  refine j_istore_n (ll' := [(3, aI 12), (2, aI 0), (0, aR 38), (1, aI x1)]) dJ7_fill_53178_4 (Nat.le_of_ble_eq_true rfl) rfl ?_
  refine j_sub [2, 3, 1, 0] rfl ?_
  exact h
theorem E_J7_fill_53178_38 {post : ax_M → Prop} {M : ax_M} {x1 : Int} (h : ax_mr SH M → ax_J Y_J7_fill_53178 (ax_Kv Y_J7_fill_53178 SH post) 0 0 5 [(0, aR 38), (1, aI x1), (2, aI 0), (3, aI 12)] [] SH M) : ax_Tv Y_J7_fill_53178 [aR 38, aI x1] SH M post :=
  tv_of rfl (Nat.le_of_ble_eq_true rfl) rfl (fun q => B_J7_fill_53178_38_0 (h q))
set_option maxRecDepth 100000 in
set_option maxHeartbeats 4000000 in
theorem B_J7_fill_53178_38_5 {post : ax_M → Prop} {M : ax_M} {x1 x2 x3 : Int} (h : (((x3 ≤ x2) → post M) ∧ ((x2 < x3) → (0 ≤ x2 ∧ x2 < 12) ∧ (-2147483648 ≤ (x2 + 1) ∧ (x2 + 1) ≤ 2147483647) ∧ ax_J Y_J7_fill_53178 (ax_Kv Y_J7_fill_53178 SH post) 0 0 5 [(0, aR 38), (1, aI x1), (2, aI (x2 + 1)), (3, aI x3)] [] SH (ax_up M 38 x2 x1)))) : ax_J Y_J7_fill_53178 (ax_Kv Y_J7_fill_53178 SH post) 0 0 5 [(0, aR 38), (1, aI x1), (2, aI x2), (3, aI x3)] [] SH M := by
  refine j_iload_n 2 dJ7_fill_53178_5 rfl ?_
  refine j_iload_n 3 dJ7_fill_53178_6 rfl ?_
  refine j_icmp_ge (tgt := 20) dJ7_fill_53178_7 (by decide) (fun c1 => ?_) (fun c1 => ?_)
  · replace h := h.1 c1
    exact j_vret dJ7_fill_53178_20 rfl ⟨Nat.le_of_ble_eq_true rfl, Nat.le_of_ble_eq_true rfl⟩ h
  · replace h := h.2 c1
    refine j_aload_n 0 dJ7_fill_53178_10 rfl ?_
    refine j_iload_n 2 dJ7_fill_53178_11 rfl ?_
    refine j_iload_n 1 dJ7_fill_53178_12 rfl ?_
    obtain ⟨o2, h⟩ := h
    refine j_iast dJ7_fill_53178_13 sh_38 o2.1 o2.2 ?_
    obtain ⟨o3, h⟩ := h
    refine j_iinc (ll' := [(2, aI (x2 + 1)), (0, aR 38), (1, aI x1), (3, aI x3)]) 2 dJ7_fill_53178_14 rfl (Nat.le_of_ble_eq_true rfl) o3 rfl ?_
    refine j_goto (tgt := 5) dJ7_fill_53178_17 (by decide) ?_
    refine j_sub [1, 2, 0, 3] rfl ?_
    exact h
set_option maxRecDepth 100000 in
set_option maxHeartbeats 4000000 in
theorem B_X9_leavesLater_0 {post : Int → ax_M → Prop} {M : ax_M} {x1 x2 x3 : Int} (h : (0 ≤ x3 ∧ x3 < 12) ∧ (((¬ (M 39 x3) = (-1)) → ax_Ti Y_X9_lastInto [aR 33, aI x1, aI (M 39 x3)] SH M (fun z2 u1 => (0 ≤ x2 ∧ x2 < 12) ∧ ((((u1 39 x2) < z2) → post 1 (ax_up u1 39 x2 z2)) ∧ ((z2 ≤ (u1 39 x2)) → post 0 u1)))) ∧ (((M 39 x3) = (-1)) → post 0 M))) : ax_J Y_X9_leavesLater (ax_Ki Y_X9_leavesLater SH post) 0 0 0 [(0, aR 33), (1, aI x1), (2, aI x2), (3, aI x3)] [] SH M := by
  refine j_aload_n 0 dX9_leavesLater_0 rfl ?_
  refine j_getc 39 dX9_leavesLater_1 f_X9_27 sh_33 rfl ?_
  refine j_iload_n 3 dX9_leavesLater_4 rfl ?_
  obtain ⟨o1, h⟩ := h
  refine j_iald dX9_leavesLater_5 sh_39 o1.1 o1.2 (fun _ => ?_)
  refine j_iconst (x := (-1)) dX9_leavesLater_6 rfl (i32_c rfl) ?_
  refine j_icmp_ne (tgt := 12) dX9_leavesLater_7 (by decide) (fun c2 => ?_) (fun c2 => ?_)
  · replace h := h.1 c2
    refine j_aload_n 0 dX9_leavesLater_12 rfl ?_
    refine j_iload_n 1 dX9_leavesLater_13 rfl ?_
    refine j_aload_n 0 dX9_leavesLater_14 rfl ?_
    refine j_getc 39 dX9_leavesLater_15 f_X9_27 sh_33 rfl ?_
    refine j_iload_n 3 dX9_leavesLater_18 rfl ?_
    refine j_iald dX9_leavesLater_19 sh_39 o1.1 o1.2 (fun _ => ?_)
    refine j_calliV (Yc := Y_X9_lastInto) (as := [aI x1, aI (M 39 x3)]) (rest := []) dX9_leavesLater_20 q_X9_83 ⟨Nat.le_of_ble_eq_true rfl, Nat.le_of_ble_eq_true rfl, Nat.le_of_ble_eq_true rfl, Nat.le_of_ble_eq_true rfl⟩ sh_33 rfl (Nat.le_of_ble_eq_true rfl) rfl (ti_mono h (fun z2 u1 h => ?_))
    refine j_istore (ll' := [(4, aI z2), (0, aR 33), (1, aI x1), (2, aI x2), (3, aI x3)]) dX9_leavesLater_23 (Nat.le_of_ble_eq_true rfl) rfl ?_
    refine j_iload 0 dX9_leavesLater_25 rfl ?_
    refine j_aload_n 1 dX9_leavesLater_27 rfl ?_
    refine j_getc 39 dX9_leavesLater_28 f_X9_27 sh_33 rfl ?_
    refine j_iload_n 3 dX9_leavesLater_31 rfl ?_
    obtain ⟨o3, h⟩ := h
    refine j_iald dX9_leavesLater_32 sh_39 o3.1 o3.2 (fun _ => ?_)
    refine j_icmp_gt (tgt := 38) dX9_leavesLater_33 (by decide) (fun c4 => ?_) (fun c4 => ?_)
    · replace h := h.1 c4
      refine j_aload_n 1 dX9_leavesLater_38 rfl ?_
      refine j_getc 39 dX9_leavesLater_39 f_X9_27 sh_33 rfl ?_
      refine j_iload_n 3 dX9_leavesLater_42 rfl ?_
      refine j_iload 0 dX9_leavesLater_43 rfl ?_
      refine j_iast dX9_leavesLater_45 sh_39 o3.1 o3.2 ?_
      refine j_iconst (x := 1) dX9_leavesLater_46 rfl (i32_c rfl) ?_
      exact j_zret dX9_leavesLater_47 rfl ⟨Nat.le_of_ble_eq_true rfl, Nat.le_of_ble_eq_true rfl⟩ (by decide) h
    · replace h := h.2 c4
      refine j_iconst (x := 0) dX9_leavesLater_36 rfl (i32_c rfl) ?_
      exact j_zret dX9_leavesLater_37 rfl ⟨Nat.le_of_ble_eq_true rfl, Nat.le_of_ble_eq_true rfl⟩ (by decide) h
  · replace h := h.2 c2
    refine j_iconst (x := 0) dX9_leavesLater_10 rfl (i32_c rfl) ?_
    exact j_zret dX9_leavesLater_11 rfl ⟨Nat.le_of_ble_eq_true rfl, Nat.le_of_ble_eq_true rfl⟩ (by decide) h
theorem E_X9_leavesLater {post : Int → ax_M → Prop} {M : ax_M} {x1 x2 x3 : Int} (h : ax_mr SH M → (0 ≤ x3 ∧ x3 < 12) ∧ (((¬ (M 39 x3) = (-1)) → ax_Ti Y_X9_lastInto [aR 33, aI x1, aI (M 39 x3)] SH M (fun z2 u1 => (0 ≤ x2 ∧ x2 < 12) ∧ ((((u1 39 x2) < z2) → post 1 (ax_up u1 39 x2 z2)) ∧ ((z2 ≤ (u1 39 x2)) → post 0 u1)))) ∧ (((M 39 x3) = (-1)) → post 0 M))) : ax_Ti Y_X9_leavesLater [aR 33, aI x1, aI x2, aI x3] SH M post :=
  ti_of rfl (Nat.le_of_ble_eq_true rfl) rfl (fun q => B_X9_leavesLater_0 (h q))
set_option maxRecDepth 100000 in
set_option maxHeartbeats 4000000 in
theorem B_J7_fill_53178_39_0 {post : ax_M → Prop} {M : ax_M} {x1 : Int} (h : ax_J Y_J7_fill_53178 (ax_Kv Y_J7_fill_53178 SH post) 0 0 5 [(0, aR 39), (1, aI x1), (2, aI 0), (3, aI 12)] [] SH M) : ax_J Y_J7_fill_53178 (ax_Kv Y_J7_fill_53178 SH post) 0 0 0 [(0, aR 39), (1, aI x1)] [] SH M := by
  refine j_iconst (x := 0) dJ7_fill_53178_0 rfl (i32_c rfl) ?_
  refine j_istore_n (ll' := [(2, aI 0), (0, aR 39), (1, aI x1)]) dJ7_fill_53178_1 (Nat.le_of_ble_eq_true rfl) rfl ?_
  refine j_aload_n 1 dJ7_fill_53178_2 rfl ?_
  refine j_alen (v := 12) dJ7_fill_53178_3 sh_39 (by decide) (by decide) rfl ?_
  refine j_istore_n (ll' := [(3, aI 12), (2, aI 0), (0, aR 39), (1, aI x1)]) dJ7_fill_53178_4 (Nat.le_of_ble_eq_true rfl) rfl ?_
  refine j_sub [2, 3, 1, 0] rfl ?_
  exact h
theorem E_J7_fill_53178_39 {post : ax_M → Prop} {M : ax_M} {x1 : Int} (h : ax_mr SH M → ax_J Y_J7_fill_53178 (ax_Kv Y_J7_fill_53178 SH post) 0 0 5 [(0, aR 39), (1, aI x1), (2, aI 0), (3, aI 12)] [] SH M) : ax_Tv Y_J7_fill_53178 [aR 39, aI x1] SH M post :=
  tv_of rfl (Nat.le_of_ble_eq_true rfl) rfl (fun q => B_J7_fill_53178_39_0 (h q))
set_option maxRecDepth 100000 in
set_option maxHeartbeats 4000000 in
theorem B_J7_fill_53178_39_5 {post : ax_M → Prop} {M : ax_M} {x1 x2 x3 : Int} (h : (((x3 ≤ x2) → post M) ∧ ((x2 < x3) → (0 ≤ x2 ∧ x2 < 12) ∧ (-2147483648 ≤ (x2 + 1) ∧ (x2 + 1) ≤ 2147483647) ∧ ax_J Y_J7_fill_53178 (ax_Kv Y_J7_fill_53178 SH post) 0 0 5 [(0, aR 39), (1, aI x1), (2, aI (x2 + 1)), (3, aI x3)] [] SH (ax_up M 39 x2 x1)))) : ax_J Y_J7_fill_53178 (ax_Kv Y_J7_fill_53178 SH post) 0 0 5 [(0, aR 39), (1, aI x1), (2, aI x2), (3, aI x3)] [] SH M := by
  refine j_iload_n 2 dJ7_fill_53178_5 rfl ?_
  refine j_iload_n 3 dJ7_fill_53178_6 rfl ?_
  refine j_icmp_ge (tgt := 20) dJ7_fill_53178_7 (by decide) (fun c1 => ?_) (fun c1 => ?_)
  · replace h := h.1 c1
    exact j_vret dJ7_fill_53178_20 rfl ⟨Nat.le_of_ble_eq_true rfl, Nat.le_of_ble_eq_true rfl⟩ h
  · replace h := h.2 c1
    refine j_aload_n 0 dJ7_fill_53178_10 rfl ?_
    refine j_iload_n 2 dJ7_fill_53178_11 rfl ?_
    refine j_iload_n 1 dJ7_fill_53178_12 rfl ?_
    obtain ⟨o2, h⟩ := h
    refine j_iast dJ7_fill_53178_13 sh_39 o2.1 o2.2 ?_
    obtain ⟨o3, h⟩ := h
    refine j_iinc (ll' := [(2, aI (x2 + 1)), (0, aR 39), (1, aI x1), (3, aI x3)]) 2 dJ7_fill_53178_14 rfl (Nat.le_of_ble_eq_true rfl) o3 rfl ?_
    refine j_goto (tgt := 5) dJ7_fill_53178_17 (by decide) ?_
    refine j_sub [1, 2, 0, 3] rfl ?_
    exact h
set_option maxRecDepth 100000 in
set_option maxHeartbeats 4000000 in
theorem B_X2_findNear_0 {post : ax_M → Prop} {M : ax_M} (h : ax_Tv Y_J7_fill_53178 [aR 45, aI 0] SH M (fun u1 => ax_J Y_X2_findNear (ax_Kv Y_X2_findNear SH post) 0 0 10 [(0, aR 40), (1, aI 0)] [] SH u1)) : ax_J Y_X2_findNear (ax_Kv Y_X2_findNear SH post) 0 0 0 [(0, aR 40)] [] SH M := by
  refine j_aload_n 0 dX2_findNear_0 rfl ?_
  refine j_getc 45 dX2_findNear_1 f_X2_24 sh_40 rfl ?_
  refine j_iconst (x := 0) dX2_findNear_4 rfl (i32_c rfl) ?_
  refine j_callvS (Yc := Y_J7_fill_53178) (as := [aR 45, aI 0]) (rest := []) dX2_findNear_5 q_X2_48 ⟨Nat.le_of_ble_eq_true rfl, Nat.le_of_ble_eq_true rfl, Nat.le_of_ble_eq_true rfl, Nat.le_of_ble_eq_true rfl⟩ rfl (Nat.le_of_ble_eq_true rfl) rfl (tv_mono h (fun u1 h => ?_))
  refine j_iconst (x := 0) dX2_findNear_8 rfl (i32_c rfl) ?_
  refine j_istore_n (ll' := [(1, aI 0), (0, aR 40)]) dX2_findNear_9 (Nat.le_of_ble_eq_true rfl) rfl ?_
  refine j_sub [1, 0] rfl ?_
  exact h
theorem E_X2_findNear {post : ax_M → Prop} {M : ax_M} (h : ax_mr SH M → ax_Tv Y_J7_fill_53178 [aR 45, aI 0] SH M (fun u1 => ax_J Y_X2_findNear (ax_Kv Y_X2_findNear SH post) 0 0 10 [(0, aR 40), (1, aI 0)] [] SH u1)) : ax_Tv Y_X2_findNear [aR 40] SH M post :=
  tv_of rfl (Nat.le_of_ble_eq_true rfl) rfl (fun q => B_X2_findNear_0 (h q))
set_option maxRecDepth 100000 in
set_option maxHeartbeats 4000000 in
theorem B_X2_findNear_10 {post : ax_M → Prop} {M : ax_M} {x1 : Int} (h : ((((M 6 1) ≤ x1) → post M) ∧ ((x1 < (M 6 1)) → (0 ≤ x1 ∧ x1 < 24) ∧ (((¬ (M 14 x1) = 0) → (-2147483648 ≤ (x1 + 1) ∧ (x1 + 1) ≤ 2147483647) ∧ ax_J Y_X2_findNear (ax_Kv Y_X2_findNear SH post) 0 0 10 [(0, aR 40), (1, aI (x1 + 1))] [] SH M) ∧ (((M 14 x1) = 0) → (-2147483648 ≤ (x1 * 7) ∧ (x1 * 7) ≤ 2147483647) ∧ (-2147483648 ≤ ((x1 * 7) + 0) ∧ ((x1 * 7) + 0) ≤ 2147483647) ∧ (0 ≤ ((x1 * 7) + 0) ∧ ((x1 * 7) + 0) < 168) ∧ ax_Tv Y_X2_addNear [aR 40, aI (M 7 ((x1 * 7) + 0)), aI x1] SH M (fun u1 => (-2147483648 ≤ ((x1 * 7) + 1) ∧ ((x1 * 7) + 1) ≤ 2147483647) ∧ (0 ≤ ((x1 * 7) + 1) ∧ ((x1 * 7) + 1) < 168) ∧ ax_Tv Y_X2_addNear [aR 40, aI (u1 7 ((x1 * 7) + 1)), aI x1] SH u1 (fun u2 => (-2147483648 ≤ (x1 + 1) ∧ (x1 + 1) ≤ 2147483647) ∧ ax_J Y_X2_findNear (ax_Kv Y_X2_findNear SH post) 0 0 10 [(0, aR 40), (1, aI (x1 + 1))] [] SH u2))))))) : ax_J Y_X2_findNear (ax_Kv Y_X2_findNear SH post) 0 0 10 [(0, aR 40), (1, aI x1)] [] SH M := by
  refine j_iload_n 1 dX2_findNear_10 rfl ?_
  refine j_aload_n 0 dX2_findNear_11 rfl ?_
  refine j_getc 6 dX2_findNear_12 f_X2_36 sh_40 rfl ?_
  refine j_geti (i := 1) dX2_findNear_15 f_X2_73 sh_6 rfl rfl (fun _ => ?_)
  refine j_icmp_ge (tgt := 67) dX2_findNear_18 (by decide) (fun c1 => ?_) (fun c1 => ?_)
  · replace h := h.1 c1
    exact j_vret dX2_findNear_67 rfl ⟨Nat.le_of_ble_eq_true rfl, Nat.le_of_ble_eq_true rfl⟩ h
  · replace h := h.2 c1
    refine j_aload_n 0 dX2_findNear_21 rfl ?_
    refine j_getc 8 dX2_findNear_22 f_X2_40 sh_40 rfl ?_
    refine j_getc 14 dX2_findNear_25 f_X2_78 sh_8 rfl ?_
    refine j_iload_n 1 dX2_findNear_28 rfl ?_
    obtain ⟨o2, h⟩ := h
    refine j_zald dX2_findNear_29 sh_14 o2.1 o2.2 (fun _ => ?_)
    refine j_if_ne (tgt := 61) dX2_findNear_30 (by decide) (fun c3 => ?_) (fun c3 => ?_)
    · replace h := h.1 c3
      obtain ⟨o4, h⟩ := h
      refine j_iinc (ll' := [(1, aI (x1 + 1)), (0, aR 40)]) 1 dX2_findNear_61 rfl (Nat.le_of_ble_eq_true rfl) o4 rfl ?_
      refine j_goto (tgt := 10) dX2_findNear_64 (by decide) ?_
      refine j_sub [1, 0] rfl ?_
      exact h
    · replace h := h.2 c3
      refine j_aload_n 0 dX2_findNear_33 rfl ?_
      refine j_aload_n 0 dX2_findNear_34 rfl ?_
      refine j_getc 6 dX2_findNear_35 f_X2_36 sh_40 rfl ?_
      refine j_iload_n 1 dX2_findNear_38 rfl ?_
      refine j_iconst (x := 0) dX2_findNear_39 rfl (i32_c rfl) ?_
      refine j_calliV (Yc := Y_X3_fact) (as := [aI x1, aI 0]) (rest := [aR 40]) dX2_findNear_40 q_X2_82 ⟨Nat.le_of_ble_eq_true rfl, Nat.le_of_ble_eq_true rfl, Nat.le_of_ble_eq_true rfl, Nat.le_of_ble_eq_true rfl⟩ sh_6 rfl (Nat.le_of_ble_eq_true rfl) rfl (ti_of (ll := [(0, aR 6), (1, aI x1), (2, aI 0)]) rfl (Nat.le_of_ble_eq_true rfl) rfl (fun _ => ?_))
      refine j_aload_n 0 dX3_fact_0 rfl ?_
      refine j_getc 7 dX3_fact_1 f_X3_15 sh_6 rfl ?_
      refine j_iload_n 1 dX3_fact_4 rfl ?_
      refine j_bipush (x := 7) dX3_fact_5 rfl (i32_c rfl) ?_
      obtain ⟨o5, h⟩ := h
      refine j_imul (z := (x1 * 7)) dX3_fact_7 rfl o5 ?_
      refine j_iload_n 2 dX3_fact_8 rfl ?_
      obtain ⟨o6, h⟩ := h
      refine j_iadd (z := ((x1 * 7) + 0)) dX3_fact_9 rfl o6 ?_
      obtain ⟨o7, h⟩ := h
      refine j_iald dX3_fact_10 sh_7 o7.1 o7.2 (fun _ => ?_)
      refine j_iret dX3_fact_11 rfl ⟨Nat.le_of_ble_eq_true rfl, Nat.le_of_ble_eq_true rfl⟩ (fun _ => ?_)
      refine j_iload_n 1 dX2_findNear_43 rfl ?_
      refine j_callvV (Yc := Y_X2_addNear) (as := [aI (M 7 ((x1 * 7) + 0)), aI x1]) (rest := []) dX2_findNear_44 q_X2_86 ⟨Nat.le_of_ble_eq_true rfl, Nat.le_of_ble_eq_true rfl, Nat.le_of_ble_eq_true rfl, Nat.le_of_ble_eq_true rfl⟩ sh_40 rfl (Nat.le_of_ble_eq_true rfl) rfl (tv_mono h (fun u1 h => ?_))
      refine j_aload_n 0 dX2_findNear_47 rfl ?_
      refine j_aload_n 0 dX2_findNear_48 rfl ?_
      refine j_getc 6 dX2_findNear_49 f_X2_36 sh_40 rfl ?_
      refine j_iload_n 1 dX2_findNear_52 rfl ?_
      refine j_iconst (x := 1) dX2_findNear_53 rfl (i32_c rfl) ?_
      refine j_calliV (Yc := Y_X3_fact) (as := [aI x1, aI 1]) (rest := [aR 40]) dX2_findNear_54 q_X2_82 ⟨Nat.le_of_ble_eq_true rfl, Nat.le_of_ble_eq_true rfl, Nat.le_of_ble_eq_true rfl, Nat.le_of_ble_eq_true rfl⟩ sh_6 rfl (Nat.le_of_ble_eq_true rfl) rfl (ti_of (ll := [(0, aR 6), (1, aI x1), (2, aI 1)]) rfl (Nat.le_of_ble_eq_true rfl) rfl (fun _ => ?_))
      refine j_aload_n 0 dX3_fact_0 rfl ?_
      refine j_getc 7 dX3_fact_1 f_X3_15 sh_6 rfl ?_
      refine j_iload_n 1 dX3_fact_4 rfl ?_
      refine j_bipush (x := 7) dX3_fact_5 rfl (i32_c rfl) ?_
      refine j_imul (z := (x1 * 7)) dX3_fact_7 rfl o5 ?_
      refine j_iload_n 2 dX3_fact_8 rfl ?_
      obtain ⟨o8, h⟩ := h
      refine j_iadd (z := ((x1 * 7) + 1)) dX3_fact_9 rfl o8 ?_
      obtain ⟨o9, h⟩ := h
      refine j_iald dX3_fact_10 sh_7 o9.1 o9.2 (fun _ => ?_)
      refine j_iret dX3_fact_11 rfl ⟨Nat.le_of_ble_eq_true rfl, Nat.le_of_ble_eq_true rfl⟩ (fun _ => ?_)
      refine j_iload_n 1 dX2_findNear_57 rfl ?_
      refine j_callvV (Yc := Y_X2_addNear) (as := [aI (u1 7 ((x1 * 7) + 1)), aI x1]) (rest := []) dX2_findNear_58 q_X2_86 ⟨Nat.le_of_ble_eq_true rfl, Nat.le_of_ble_eq_true rfl, Nat.le_of_ble_eq_true rfl, Nat.le_of_ble_eq_true rfl⟩ sh_40 rfl (Nat.le_of_ble_eq_true rfl) rfl (tv_mono h (fun u2 h => ?_))
      obtain ⟨o10, h⟩ := h
      refine j_iinc (ll' := [(1, aI (x1 + 1)), (0, aR 40)]) 1 dX2_findNear_61 rfl (Nat.le_of_ble_eq_true rfl) o10 rfl ?_
      refine j_goto (tgt := 10) dX2_findNear_64 (by decide) ?_
      refine j_sub [1, 0] rfl ?_
      exact h
set_option maxRecDepth 100000 in
set_option maxHeartbeats 4000000 in
theorem B_X2_search_0 {post : Int → ax_M → Prop} {M : ax_M} (h : ax_Tv Y_J7_fill_53178 [aR 46, aI (-1)] SH M (fun u1 => ax_J Y_X2_search (ax_Ki Y_X2_search SH post) 0 0 15 [(0, aR 40), (1, aI 0)] [] SH (ax_up u1 40 10 0))) : ax_J Y_X2_search (ax_Ki Y_X2_search SH post) 0 0 0 [(0, aR 40)] [] SH M := by
  refine j_aload_n 0 dX2_search_0 rfl ?_
  refine j_getc 46 dX2_search_1 f_X2_27 sh_40 rfl ?_
  refine j_iconst (x := (-1)) dX2_search_4 rfl (i32_c rfl) ?_
  refine j_callvS (Yc := Y_J7_fill_53178) (as := [aR 46, aI (-1)]) (rest := []) dX2_search_5 q_X2_48 ⟨Nat.le_of_ble_eq_true rfl, Nat.le_of_ble_eq_true rfl, Nat.le_of_ble_eq_true rfl, Nat.le_of_ble_eq_true rfl⟩ rfl (Nat.le_of_ble_eq_true rfl) rfl (tv_mono h (fun u1 h => ?_))
  refine j_aload_n 0 dX2_search_8 rfl ?_
  refine j_iconst (x := 0) dX2_search_9 rfl (i32_c rfl) ?_
  refine j_puti (i := 10) dX2_search_10 p_X2_90 (fun h => by cases h) sh_40 rfl rfl ?_
  refine j_iconst (x := 0) dX2_search_13 rfl (i32_c rfl) ?_
  refine j_istore_n (ll' := [(1, aI 0), (0, aR 40)]) dX2_search_14 (Nat.le_of_ble_eq_true rfl) rfl ?_
  refine j_sub [1, 0] rfl ?_
  exact h
theorem E_X2_search {post : Int → ax_M → Prop} {M : ax_M} (h : ax_mr SH M → ax_Tv Y_J7_fill_53178 [aR 46, aI (-1)] SH M (fun u1 => ax_J Y_X2_search (ax_Ki Y_X2_search SH post) 0 0 15 [(0, aR 40), (1, aI 0)] [] SH (ax_up u1 40 10 0))) : ax_Ti Y_X2_search [aR 40] SH M post :=
  ti_of rfl (Nat.le_of_ble_eq_true rfl) rfl (fun q => B_X2_search_0 (h q))
set_option maxRecDepth 100000 in
set_option maxHeartbeats 4000000 in
theorem B_X2_search_15 {post : Int → ax_M → Prop} {M : ax_M} {x1 : Int} (h : ((((M 6 0) ≤ x1) → ax_J Y_X2_search (ax_Ki Y_X2_search SH post) 0 0 54 [(0, aR 40), (1, aI 0)] [] SH M) ∧ ((x1 < (M 6 0)) → (0 ≤ x1 ∧ x1 < 12) ∧ ((((M 43 x1) ≤ 0) → (-2147483648 ≤ (x1 + 1) ∧ (x1 + 1) ≤ 2147483647) ∧ ax_J Y_X2_search (ax_Ki Y_X2_search SH post) 0 0 15 [(0, aR 40), (1, aI (x1 + 1))] [] SH M) ∧ ((0 < (M 43 x1)) → (-2147483648 ≤ (x1 * 61) ∧ (x1 * 61) ≤ 2147483647) ∧ ax_Tv Y_X2_see [aR 40, aI (x1 * 61), aI (-2), aI 0] SH M (fun u1 => (-2147483648 ≤ (x1 + 1) ∧ (x1 + 1) ≤ 2147483647) ∧ ax_J Y_X2_search (ax_Ki Y_X2_search SH post) 0 0 15 [(0, aR 40), (1, aI (x1 + 1))] [] SH u1)))))) : ax_J Y_X2_search (ax_Ki Y_X2_search SH post) 0 0 15 [(0, aR 40), (1, aI x1)] [] SH M := by
  refine j_iload_n 1 dX2_search_15 rfl ?_
  refine j_aload_n 0 dX2_search_16 rfl ?_
  refine j_getc 6 dX2_search_17 f_X2_36 sh_40 rfl ?_
  refine j_geti (i := 0) dX2_search_20 f_X2_93 sh_6 rfl rfl (fun _ => ?_)
  refine j_icmp_ge (tgt := 52) dX2_search_23 (by decide) (fun c1 => ?_) (fun c1 => ?_)
  · replace h := h.1 c1
    refine j_iconst (x := 0) dX2_search_52 rfl (i32_c rfl) ?_
    refine j_istore_n (ll' := [(1, aI 0), (0, aR 40)]) dX2_search_53 (Nat.le_of_ble_eq_true rfl) rfl ?_
    refine j_sub [1, 0] rfl ?_
    exact h
  · replace h := h.2 c1
    refine j_aload_n 0 dX2_search_26 rfl ?_
    refine j_getc 43 dX2_search_27 f_X2_18 sh_40 rfl ?_
    refine j_iload_n 1 dX2_search_30 rfl ?_
    obtain ⟨o2, h⟩ := h
    refine j_iald dX2_search_31 sh_43 o2.1 o2.2 (fun _ => ?_)
    refine j_if_le (tgt := 46) dX2_search_32 (by decide) (fun c3 => ?_) (fun c3 => ?_)
    · replace h := h.1 c3
      obtain ⟨o4, h⟩ := h
      refine j_iinc (ll' := [(1, aI (x1 + 1)), (0, aR 40)]) 1 dX2_search_46 rfl (Nat.le_of_ble_eq_true rfl) o4 rfl ?_
      refine j_goto (tgt := 15) dX2_search_49 (by decide) ?_
      refine j_sub [1, 0] rfl ?_
      exact h
    · replace h := h.2 c3
      refine j_aload_n 0 dX2_search_35 rfl ?_
      refine j_iload_n 1 dX2_search_36 rfl ?_
      refine j_bipush (x := 61) dX2_search_37 rfl (i32_c rfl) ?_
      obtain ⟨o5, h⟩ := h
      refine j_imul (z := (x1 * 61)) dX2_search_39 rfl o5 ?_
      refine j_bipush (x := (-2)) dX2_search_40 rfl (i32_c rfl) ?_
      refine j_iconst (x := 0) dX2_search_42 rfl (i32_c rfl) ?_
      refine j_callvV (Yc := Y_X2_see) (as := [aI (x1 * 61), aI (-2), aI 0]) (rest := []) dX2_search_43 q_X2_96 ⟨Nat.le_of_ble_eq_true rfl, Nat.le_of_ble_eq_true rfl, Nat.le_of_ble_eq_true rfl, Nat.le_of_ble_eq_true rfl⟩ sh_40 rfl (Nat.le_of_ble_eq_true rfl) rfl (tv_mono h (fun u1 h => ?_))
      obtain ⟨o6, h⟩ := h
      refine j_iinc (ll' := [(1, aI (x1 + 1)), (0, aR 40)]) 1 dX2_search_46 rfl (Nat.le_of_ble_eq_true rfl) o6 rfl ?_
      refine j_goto (tgt := 15) dX2_search_49 (by decide) ?_
      refine j_sub [1, 0] rfl ?_
      exact h
set_option maxRecDepth 100000 in
set_option maxHeartbeats 4000000 in
theorem B_X2_search_54 {post : Int → ax_M → Prop} {M : ax_M} {x1 : Int} (h : ((((M 40 10) ≤ x1) → post (-1) M) ∧ ((x1 < (M 40 10)) → (((732 ≤ x1) → post (-1) M) ∧ ((x1 < 732) → (0 ≤ x1 ∧ x1 < 732) ∧ (0 ≤ (M 48 x1)) ∧ (((¬ ((M 48 x1) / 61) = (M 6 2)) → ax_Tv Y_X2_seeByWaiting [aR 40, aI (M 48 x1), aI ((M 48 x1) % 61)] SH M (fun u1 => ax_J Y_X2_search (ax_Ki Y_X2_search SH post) 0 0 127 [(0, aR 40), (1, aI x1), (3, aI ((M 48 x1) / 61)), (4, aI ((M 48 x1) % 61)), (5, aI 0)] [] SH u1)) ∧ ((((M 48 x1) / 61) = (M 6 2)) → (0 ≤ ((M 48 x1) % 61) ∧ ((M 48 x1) % 61) < 61) ∧ ((((M 6 3) ≤ (M 42 ((M 48 x1) % 61))) → ax_Tv Y_X2_seeByWaiting [aR 40, aI (M 48 x1), aI ((M 48 x1) % 61)] SH M (fun u2 => ax_J Y_X2_search (ax_Ki Y_X2_search SH post) 0 0 127 [(0, aR 40), (1, aI x1), (3, aI ((M 48 x1) / 61)), (4, aI ((M 48 x1) % 61)), (5, aI 0)] [] SH u2)) ∧ (((M 42 ((M 48 x1) % 61)) < (M 6 3)) → post (M 48 x1) M))))))))) : ax_J Y_X2_search (ax_Ki Y_X2_search SH post) 0 0 54 [(0, aR 40), (1, aI x1)] [] SH M := by
  refine j_iload_n 1 dX2_search_54 rfl ?_
  refine j_aload_n 0 dX2_search_55 rfl ?_
  refine j_geti (i := 10) dX2_search_56 f_X2_90 sh_40 rfl rfl (fun _ => ?_)
  refine j_icmp_ge (tgt := 169) dX2_search_59 (by decide) (fun c1 => ?_) (fun c1 => ?_)
  · replace h := h.1 c1
    refine j_iconst (x := (-1)) dX2_search_169 rfl (i32_c rfl) ?_
    exact j_iret dX2_search_170 rfl ⟨Nat.le_of_ble_eq_true rfl, Nat.le_of_ble_eq_true rfl⟩ (fun _ => h)
  · replace h := h.2 c1
    refine j_iload_n 1 dX2_search_62 rfl ?_
    refine j_sipush (x := 732) dX2_search_63 rfl (i32_c rfl) ?_
    refine j_icmp_ge (tgt := 169) dX2_search_66 (by decide) (fun c2 => ?_) (fun c2 => ?_)
    · replace h := h.1 c2
      refine j_iconst (x := (-1)) dX2_search_169 rfl (i32_c rfl) ?_
      exact j_iret dX2_search_170 rfl ⟨Nat.le_of_ble_eq_true rfl, Nat.le_of_ble_eq_true rfl⟩ (fun _ => h)
    · replace h := h.2 c2
      refine j_aload_n 0 dX2_search_69 rfl ?_
      refine j_getc 48 dX2_search_70 f_X2_33 sh_40 rfl ?_
      refine j_iload_n 1 dX2_search_73 rfl ?_
      obtain ⟨o3, h⟩ := h
      refine j_iald dX2_search_74 sh_48 o3.1 o3.2 (fun _ => ?_)
      refine j_istore_n (ll' := [(2, aI (M 48 x1)), (0, aR 40), (1, aI x1)]) dX2_search_75 (Nat.le_of_ble_eq_true rfl) rfl ?_
      refine j_iload_n 0 dX2_search_76 rfl ?_
      refine j_bipush (x := 61) dX2_search_77 rfl (i32_c rfl) ?_
      obtain ⟨o4, h⟩ := h
      refine j_idiv (z := ((M 48 x1) / 61)) dX2_search_79 rfl o4 (by decide) ?_
      refine j_istore_n (ll' := [(3, aI ((M 48 x1) / 61)), (2, aI (M 48 x1)), (0, aR 40), (1, aI x1)]) dX2_search_80 (Nat.le_of_ble_eq_true rfl) rfl ?_
      refine j_iload_n 1 dX2_search_81 rfl ?_
      refine j_bipush (x := 61) dX2_search_82 rfl (i32_c rfl) ?_
      refine j_irem (z := ((M 48 x1) % 61)) dX2_search_84 rfl o4 (by decide) ?_
      refine j_istore (ll' := [(4, aI ((M 48 x1) % 61)), (3, aI ((M 48 x1) / 61)), (2, aI (M 48 x1)), (0, aR 40), (1, aI x1)]) dX2_search_85 (Nat.le_of_ble_eq_true rfl) rfl ?_
      refine j_iload_n 1 dX2_search_87 rfl ?_
      refine j_aload_n 3 dX2_search_88 rfl ?_
      refine j_getc 6 dX2_search_89 f_X2_36 sh_40 rfl ?_
      refine j_geti (i := 2) dX2_search_92 f_X2_100 sh_6 rfl rfl (fun _ => ?_)
      refine j_icmp_ne (tgt := 117) dX2_search_95 (by decide) (fun c5 => ?_) (fun c5 => ?_)
      · replace h := h.1 c5
        refine j_aload_n 3 dX2_search_117 rfl ?_
        refine j_iload_n 2 dX2_search_118 rfl ?_
        refine j_iload 0 dX2_search_119 rfl ?_
        refine j_callvV (Yc := Y_X2_seeByWaiting) (as := [aI (M 48 x1), aI ((M 48 x1) % 61)]) (rest := []) dX2_search_121 q_X2_106 ⟨Nat.le_of_ble_eq_true rfl, Nat.le_of_ble_eq_true rfl, Nat.le_of_ble_eq_true rfl, Nat.le_of_ble_eq_true rfl⟩ sh_40 rfl (Nat.le_of_ble_eq_true rfl) rfl (tv_mono h (fun u1 h => ?_))
        refine j_iconst (x := 0) dX2_search_124 rfl (i32_c rfl) ?_
        refine j_istore (ll' := [(5, aI 0), (4, aI ((M 48 x1) % 61)), (3, aI ((M 48 x1) / 61)), (2, aI (M 48 x1)), (0, aR 40), (1, aI x1)]) dX2_search_125 (Nat.le_of_ble_eq_true rfl) rfl ?_
        refine j_sub [4, 5, 2, 1, 0] rfl ?_
        exact h
      · replace h := h.2 c5
        refine j_aload_n 3 dX2_search_98 rfl ?_
        refine j_getc 42 dX2_search_99 f_X2_15 sh_40 rfl ?_
        refine j_iload 0 dX2_search_102 rfl ?_
        obtain ⟨o6, h⟩ := h
        refine j_iald dX2_search_104 sh_42 o6.1 o6.2 (fun _ => ?_)
        refine j_aload_n 3 dX2_search_105 rfl ?_
        refine j_getc 6 dX2_search_106 f_X2_36 sh_40 rfl ?_
        refine j_geti (i := 3) dX2_search_109 f_X2_103 sh_6 rfl rfl (fun _ => ?_)
        refine j_icmp_ge (tgt := 117) dX2_search_112 (by decide) (fun c7 => ?_) (fun c7 => ?_)
        · replace h := h.1 c7
          refine j_aload_n 3 dX2_search_117 rfl ?_
          refine j_iload_n 2 dX2_search_118 rfl ?_
          refine j_iload 0 dX2_search_119 rfl ?_
          refine j_callvV (Yc := Y_X2_seeByWaiting) (as := [aI (M 48 x1), aI ((M 48 x1) % 61)]) (rest := []) dX2_search_121 q_X2_106 ⟨Nat.le_of_ble_eq_true rfl, Nat.le_of_ble_eq_true rfl, Nat.le_of_ble_eq_true rfl, Nat.le_of_ble_eq_true rfl⟩ sh_40 rfl (Nat.le_of_ble_eq_true rfl) rfl (tv_mono h (fun u2 h => ?_))
          refine j_iconst (x := 0) dX2_search_124 rfl (i32_c rfl) ?_
          refine j_istore (ll' := [(5, aI 0), (4, aI ((M 48 x1) % 61)), (3, aI ((M 48 x1) / 61)), (2, aI (M 48 x1)), (0, aR 40), (1, aI x1)]) dX2_search_125 (Nat.le_of_ble_eq_true rfl) rfl ?_
          refine j_sub [4, 5, 2, 1, 0] rfl ?_
          exact h
        · replace h := h.2 c7
          refine j_iload_n 2 dX2_search_115 rfl ?_
          exact j_iret dX2_search_116 rfl ⟨Nat.le_of_ble_eq_true rfl, Nat.le_of_ble_eq_true rfl⟩ (fun _ => h)
set_option maxRecDepth 100000 in
set_option maxHeartbeats 4000000 in
theorem B_X2_search_127 {post : Int → ax_M → Prop} {M : ax_M} {x1 x3 x4 x5 : Int} (h : (0 ≤ x3 ∧ x3 < 12) ∧ ((((M 45 x3) ≤ x5) → (-2147483648 ≤ (x1 + 1) ∧ (x1 + 1) ≤ 2147483647) ∧ ax_J Y_X2_search (ax_Ki Y_X2_search SH post) 0 0 54 [(0, aR 40), (1, aI (x1 + 1))] [] SH M) ∧ ((x5 < (M 45 x3)) → (-2147483648 ≤ (x3 * 24) ∧ (x3 * 24) ≤ 2147483647) ∧ (-2147483648 ≤ ((x3 * 24) + x5) ∧ ((x3 * 24) + x5) ≤ 2147483647) ∧ (0 ≤ ((x3 * 24) + x5) ∧ ((x3 * 24) + x5) < 288) ∧ ax_Tv Y_X2_seeByWay [aR 40, aI (M 44 ((x3 * 24) + x5)), aI x3, aI x4] SH M (fun u1 => (-2147483648 ≤ (x5 + 1) ∧ (x5 + 1) ≤ 2147483647) ∧ ax_J Y_X2_search (ax_Ki Y_X2_search SH post) 0 0 127 [(0, aR 40), (1, aI x1), (3, aI x3), (4, aI x4), (5, aI (x5 + 1))] [] SH u1)))) : ax_J Y_X2_search (ax_Ki Y_X2_search SH post) 0 0 127 [(0, aR 40), (1, aI x1), (3, aI x3), (4, aI x4), (5, aI x5)] [] SH M := by
  refine j_iload 4 dX2_search_127 rfl ?_
  refine j_aload_n 0 dX2_search_129 rfl ?_
  refine j_getc 45 dX2_search_130 f_X2_24 sh_40 rfl ?_
  refine j_iload_n 2 dX2_search_133 rfl ?_
  obtain ⟨o1, h⟩ := h
  refine j_iald dX2_search_134 sh_45 o1.1 o1.2 (fun _ => ?_)
  refine j_icmp_ge (tgt := 163) dX2_search_135 (by decide) (fun c2 => ?_) (fun c2 => ?_)
  · replace h := h.1 c2
    obtain ⟨o3, h⟩ := h
    refine j_iinc (ll' := [(1, aI (x1 + 1)), (0, aR 40), (3, aI x3), (4, aI x4), (5, aI x5)]) 1 dX2_search_163 rfl (Nat.le_of_ble_eq_true rfl) o3 rfl ?_
    refine j_goto (tgt := 54) dX2_search_166 (by decide) ?_
    refine j_sub [1, 0] rfl ?_
    exact h
  · replace h := h.2 c2
    refine j_aload_n 0 dX2_search_138 rfl ?_
    refine j_aload_n 0 dX2_search_139 rfl ?_
    refine j_getc 44 dX2_search_140 f_X2_21 sh_40 rfl ?_
    refine j_iload_n 2 dX2_search_143 rfl ?_
    refine j_bipush (x := 24) dX2_search_144 rfl (i32_c rfl) ?_
    obtain ⟨o4, h⟩ := h
    refine j_imul (z := (x3 * 24)) dX2_search_146 rfl o4 ?_
    refine j_iload 4 dX2_search_147 rfl ?_
    obtain ⟨o5, h⟩ := h
    refine j_iadd (z := ((x3 * 24) + x5)) dX2_search_149 rfl o5 ?_
    obtain ⟨o6, h⟩ := h
    refine j_iald dX2_search_150 sh_44 o6.1 o6.2 (fun _ => ?_)
    refine j_iload_n 2 dX2_search_151 rfl ?_
    refine j_iload 3 dX2_search_152 rfl ?_
    refine j_callvV (Yc := Y_X2_seeByWay) (as := [aI (M 44 ((x3 * 24) + x5)), aI x3, aI x4]) (rest := []) dX2_search_154 q_X2_109 ⟨Nat.le_of_ble_eq_true rfl, Nat.le_of_ble_eq_true rfl, Nat.le_of_ble_eq_true rfl, Nat.le_of_ble_eq_true rfl⟩ sh_40 rfl (Nat.le_of_ble_eq_true rfl) rfl (tv_mono h (fun u1 h => ?_))
    obtain ⟨o7, h⟩ := h
    refine j_iinc (ll' := [(5, aI (x5 + 1)), (0, aR 40), (1, aI x1), (3, aI x3), (4, aI x4)]) 4 dX2_search_157 rfl (Nat.le_of_ble_eq_true rfl) o7 rfl ?_
    refine j_goto (tgt := 127) dX2_search_160 (by decide) ?_
    refine j_sub [1, 2, 3, 4, 0] rfl ?_
    exact h
set_option maxRecDepth 100000 in
set_option maxHeartbeats 4000000 in
theorem B_X2_send_0 {post : ax_M → Prop} {M : ax_M} {x1 : Int} (h : (0 ≤ x1) ∧ (0 ≤ (x1 % 61) ∧ (x1 % 61) < 61) ∧ (-2147483648 ≤ ((M 42 (x1 % 61)) + 1) ∧ ((M 42 (x1 % 61)) + 1) ≤ 2147483647) ∧ ax_J Y_X2_send (ax_Kv Y_X2_send SH post) 0 0 17 [(0, aR 40), (2, aI x1), (3, aI 0)] [] SH (ax_up M 42 (x1 % 61) ((M 42 (x1 % 61)) + 1))) : ax_J Y_X2_send (ax_Kv Y_X2_send SH post) 0 0 0 [(0, aR 40), (1, aI x1)] [] SH M := by
  refine j_aload_n 0 dX2_send_0 rfl ?_
  refine j_getc 42 dX2_send_1 f_X2_15 sh_40 rfl ?_
  refine j_iload_n 1 dX2_send_4 rfl ?_
  refine j_bipush (x := 61) dX2_send_5 rfl (i32_c rfl) ?_
  obtain ⟨o1, h⟩ := h
  refine j_irem (z := (x1 % 61)) dX2_send_7 rfl o1 (by decide) ?_
  refine j_dup2 dX2_send_8 rfl rfl ?_
  obtain ⟨o2, h⟩ := h
  refine j_iald dX2_send_9 sh_42 o2.1 o2.2 (fun _ => ?_)
  refine j_iconst (x := 1) dX2_send_10 rfl (i32_c rfl) ?_
  obtain ⟨o3, h⟩ := h
  refine j_iadd (z := ((M 42 (x1 % 61)) + 1)) dX2_send_11 rfl o3 ?_
  refine j_iast dX2_send_12 sh_42 o2.1 o2.2 ?_
  refine j_iload_n 1 dX2_send_13 rfl ?_
  refine j_istore_n (ll' := [(2, aI x1), (0, aR 40), (1, aI x1)]) dX2_send_14 (Nat.le_of_ble_eq_true rfl) rfl ?_
  refine j_iconst (x := 0) dX2_send_15 rfl (i32_c rfl) ?_
  refine j_istore_n (ll' := [(3, aI 0), (2, aI x1), (0, aR 40), (1, aI x1)]) dX2_send_16 (Nat.le_of_ble_eq_true rfl) rfl ?_
  refine j_sub [2, 1, 0] rfl ?_
  exact h
theorem E_X2_send {post : ax_M → Prop} {M : ax_M} {x1 : Int} (h : ax_mr SH M → (0 ≤ x1) ∧ (0 ≤ (x1 % 61) ∧ (x1 % 61) < 61) ∧ (-2147483648 ≤ ((M 42 (x1 % 61)) + 1) ∧ ((M 42 (x1 % 61)) + 1) ≤ 2147483647) ∧ ax_J Y_X2_send (ax_Kv Y_X2_send SH post) 0 0 17 [(0, aR 40), (2, aI x1), (3, aI 0)] [] SH (ax_up M 42 (x1 % 61) ((M 42 (x1 % 61)) + 1))) : ax_Tv Y_X2_send [aR 40, aI x1] SH M post :=
  tv_of rfl (Nat.le_of_ble_eq_true rfl) rfl (fun q => B_X2_send_0 (h q))
set_option maxRecDepth 100000 in
set_option maxHeartbeats 4000000 in
theorem B_X2_send_17 {post : ax_M → Prop} {M : ax_M} {x2 x3 : Int} (h : (((732 ≤ x3) → (0 ≤ x2) ∧ (0 ≤ (x2 / 61) ∧ (x2 / 61) < 12) ∧ (-2147483648 ≤ ((M 43 (x2 / 61)) - 1) ∧ ((M 43 (x2 / 61)) - 1) ≤ 2147483647) ∧ post (ax_up M 43 (x2 / 61) ((M 43 (x2 / 61)) - 1))) ∧ ((x3 < 732) → (0 ≤ x2 ∧ x2 < 732) ∧ ((((M 46 x2) < 0) → (0 ≤ x2) ∧ (0 ≤ (x2 / 61) ∧ (x2 / 61) < 12) ∧ (-2147483648 ≤ ((M 43 (x2 / 61)) - 1) ∧ ((M 43 (x2 / 61)) - 1) ≤ 2147483647) ∧ post (ax_up M 43 (x2 / 61) ((M 43 (x2 / 61)) - 1))) ∧ ((0 ≤ (M 46 x2)) → ((((M 47 x2) < 0) → (-2147483648 ≤ ((-1) - (M 47 x2)) ∧ ((-1) - (M 47 x2)) ≤ 2147483647) ∧ (0 ≤ ((-1) - (M 47 x2)) ∧ ((-1) - (M 47 x2)) < 3660) ∧ (-2147483648 ≤ ((M 41 ((-1) - (M 47 x2))) - 1) ∧ ((M 41 ((-1) - (M 47 x2))) - 1) ≤ 2147483647) ∧ (-2147483648 ≤ (x3 + 1) ∧ (x3 + 1) ≤ 2147483647) ∧ ax_J Y_X2_send (ax_Kv Y_X2_send SH post) 0 0 17 [(0, aR 40), (2, aI (M 46 x2)), (3, aI (x3 + 1))] [] SH (ax_up M 41 ((-1) - (M 47 x2)) ((M 41 ((-1) - (M 47 x2))) - 1))) ∧ ((0 ≤ (M 47 x2)) → (0 ≤ (M 47 x2) ∧ (M 47 x2) < 3660) ∧ (-2147483648 ≤ ((M 41 (M 47 x2)) + 1) ∧ ((M 41 (M 47 x2)) + 1) ≤ 2147483647) ∧ (-2147483648 ≤ (x3 + 1) ∧ (x3 + 1) ≤ 2147483647) ∧ ax_J Y_X2_send (ax_Kv Y_X2_send SH post) 0 0 17 [(0, aR 40), (2, aI (M 46 x2)), (3, aI (x3 + 1))] [] SH (ax_up M 41 (M 47 x2) ((M 41 (M 47 x2)) + 1))))))))) : ax_J Y_X2_send (ax_Kv Y_X2_send SH post) 0 0 17 [(0, aR 40), (2, aI x2), (3, aI x3)] [] SH M := by
  refine j_iload_n 2 dX2_send_17 rfl ?_
  refine j_sipush (x := 732) dX2_send_18 rfl (i32_c rfl) ?_
  refine j_icmp_ge (tgt := 86) dX2_send_21 (by decide) (fun c1 => ?_) (fun c1 => ?_)
  · replace h := h.1 c1
    refine j_aload_n 0 dX2_send_86 rfl ?_
    refine j_getc 43 dX2_send_87 f_X2_18 sh_40 rfl ?_
    refine j_iload_n 1 dX2_send_90 rfl ?_
    refine j_bipush (x := 61) dX2_send_91 rfl (i32_c rfl) ?_
    obtain ⟨o2, h⟩ := h
    refine j_idiv (z := (x2 / 61)) dX2_send_93 rfl o2 (by decide) ?_
    refine j_dup2 dX2_send_94 rfl rfl ?_
    obtain ⟨o3, h⟩ := h
    refine j_iald dX2_send_95 sh_43 o3.1 o3.2 (fun _ => ?_)
    refine j_iconst (x := 1) dX2_send_96 rfl (i32_c rfl) ?_
    obtain ⟨o4, h⟩ := h
    refine j_isub (z := ((M 43 (x2 / 61)) - 1)) dX2_send_97 rfl o4 ?_
    refine j_iast dX2_send_98 sh_43 o3.1 o3.2 ?_
    exact j_vret dX2_send_99 rfl ⟨Nat.le_of_ble_eq_true rfl, Nat.le_of_ble_eq_true rfl⟩ h
  · replace h := h.2 c1
    refine j_aload_n 0 dX2_send_24 rfl ?_
    refine j_getc 46 dX2_send_25 f_X2_27 sh_40 rfl ?_
    refine j_iload_n 1 dX2_send_28 rfl ?_
    obtain ⟨o5, h⟩ := h
    refine j_iald dX2_send_29 sh_46 o5.1 o5.2 (fun _ => ?_)
    refine j_if_lt (tgt := 86) dX2_send_30 (by decide) (fun c6 => ?_) (fun c6 => ?_)
    · replace h := h.1 c6
      refine j_aload_n 0 dX2_send_86 rfl ?_
      refine j_getc 43 dX2_send_87 f_X2_18 sh_40 rfl ?_
      refine j_iload_n 1 dX2_send_90 rfl ?_
      refine j_bipush (x := 61) dX2_send_91 rfl (i32_c rfl) ?_
      obtain ⟨o7, h⟩ := h
      refine j_idiv (z := (x2 / 61)) dX2_send_93 rfl o7 (by decide) ?_
      refine j_dup2 dX2_send_94 rfl rfl ?_
      obtain ⟨o8, h⟩ := h
      refine j_iald dX2_send_95 sh_43 o8.1 o8.2 (fun _ => ?_)
      refine j_iconst (x := 1) dX2_send_96 rfl (i32_c rfl) ?_
      obtain ⟨o9, h⟩ := h
      refine j_isub (z := ((M 43 (x2 / 61)) - 1)) dX2_send_97 rfl o9 ?_
      refine j_iast dX2_send_98 sh_43 o8.1 o8.2 ?_
      exact j_vret dX2_send_99 rfl ⟨Nat.le_of_ble_eq_true rfl, Nat.le_of_ble_eq_true rfl⟩ h
    · replace h := h.2 c6
      refine j_aload_n 0 dX2_send_33 rfl ?_
      refine j_getc 47 dX2_send_34 f_X2_30 sh_40 rfl ?_
      refine j_iload_n 1 dX2_send_37 rfl ?_
      refine j_iald dX2_send_38 sh_47 o5.1 o5.2 (fun _ => ?_)
      refine j_istore (ll' := [(4, aI (M 47 x2)), (0, aR 40), (2, aI x2), (3, aI x3)]) dX2_send_39 (Nat.le_of_ble_eq_true rfl) rfl ?_
      refine j_iload 0 dX2_send_41 rfl ?_
      refine j_if_lt (tgt := 60) dX2_send_43 (by decide) (fun c10 => ?_) (fun c10 => ?_)
      · replace h := h.1 c10
        refine j_aload_n 1 dX2_send_60 rfl ?_
        refine j_getc 41 dX2_send_61 f_X2_11 sh_40 rfl ?_
        refine j_iconst (x := (-1)) dX2_send_64 rfl (i32_c rfl) ?_
        refine j_iload 0 dX2_send_65 rfl ?_
        obtain ⟨o11, h⟩ := h
        refine j_isub (z := ((-1) - (M 47 x2))) dX2_send_67 rfl o11 ?_
        refine j_dup2 dX2_send_68 rfl rfl ?_
        obtain ⟨o12, h⟩ := h
        refine j_iald dX2_send_69 sh_41 o12.1 o12.2 (fun _ => ?_)
        refine j_iconst (x := 1) dX2_send_70 rfl (i32_c rfl) ?_
        obtain ⟨o13, h⟩ := h
        refine j_isub (z := ((M 41 ((-1) - (M 47 x2))) - 1)) dX2_send_71 rfl o13 ?_
        refine j_iast dX2_send_72 sh_41 o12.1 o12.2 ?_
        refine j_aload_n 1 dX2_send_73 rfl ?_
        refine j_getc 46 dX2_send_74 f_X2_27 sh_40 rfl ?_
        refine j_iload_n 2 dX2_send_77 rfl ?_
        refine j_iald dX2_send_78 sh_46 o5.1 o5.2 (fun _ => ?_)
        refine j_istore_n (ll' := [(2, aI (M 46 x2)), (4, aI (M 47 x2)), (0, aR 40), (3, aI x3)]) dX2_send_79 (Nat.le_of_ble_eq_true rfl) rfl ?_
        obtain ⟨o14, h⟩ := h
        refine j_iinc (ll' := [(3, aI (x3 + 1)), (2, aI (M 46 x2)), (4, aI (M 47 x2)), (0, aR 40)]) 3 dX2_send_80 rfl (Nat.le_of_ble_eq_true rfl) o14 rfl ?_
        refine j_goto (tgt := 17) dX2_send_83 (by decide) ?_
        refine j_sub [3, 1, 0] rfl ?_
        exact h
      · replace h := h.2 c10
        refine j_aload_n 1 dX2_send_46 rfl ?_
        refine j_getc 41 dX2_send_47 f_X2_11 sh_40 rfl ?_
        refine j_iload 0 dX2_send_50 rfl ?_
        refine j_dup2 dX2_send_52 rfl rfl ?_
        obtain ⟨o15, h⟩ := h
        refine j_iald dX2_send_53 sh_41 o15.1 o15.2 (fun _ => ?_)
        refine j_iconst (x := 1) dX2_send_54 rfl (i32_c rfl) ?_
        obtain ⟨o16, h⟩ := h
        refine j_iadd (z := ((M 41 (M 47 x2)) + 1)) dX2_send_55 rfl o16 ?_
        refine j_iast dX2_send_56 sh_41 o15.1 o15.2 ?_
        refine j_goto (tgt := 73) dX2_send_57 (by decide) ?_
        refine j_aload_n 1 dX2_send_73 rfl ?_
        refine j_getc 46 dX2_send_74 f_X2_27 sh_40 rfl ?_
        refine j_iload_n 2 dX2_send_77 rfl ?_
        refine j_iald dX2_send_78 sh_46 o5.1 o5.2 (fun _ => ?_)
        refine j_istore_n (ll' := [(2, aI (M 46 x2)), (4, aI (M 47 x2)), (0, aR 40), (3, aI x3)]) dX2_send_79 (Nat.le_of_ble_eq_true rfl) rfl ?_
        obtain ⟨o17, h⟩ := h
        refine j_iinc (ll' := [(3, aI (x3 + 1)), (2, aI (M 46 x2)), (4, aI (M 47 x2)), (0, aR 40)]) 3 dX2_send_80 rfl (Nat.le_of_ble_eq_true rfl) o17 rfl ?_
        refine j_goto (tgt := 17) dX2_send_83 (by decide) ?_
        refine j_sub [3, 1, 0] rfl ?_
        exact h
set_option maxRecDepth 100000 in
set_option maxHeartbeats 4000000 in
theorem B_J7_fill_53178_41_0 {post : ax_M → Prop} {M : ax_M} {x1 : Int} (h : ax_J Y_J7_fill_53178 (ax_Kv Y_J7_fill_53178 SH post) 0 0 5 [(0, aR 41), (1, aI x1), (2, aI 0), (3, aI 3660)] [] SH M) : ax_J Y_J7_fill_53178 (ax_Kv Y_J7_fill_53178 SH post) 0 0 0 [(0, aR 41), (1, aI x1)] [] SH M := by
  refine j_iconst (x := 0) dJ7_fill_53178_0 rfl (i32_c rfl) ?_
  refine j_istore_n (ll' := [(2, aI 0), (0, aR 41), (1, aI x1)]) dJ7_fill_53178_1 (Nat.le_of_ble_eq_true rfl) rfl ?_
  refine j_aload_n 1 dJ7_fill_53178_2 rfl ?_
  refine j_alen (v := 3660) dJ7_fill_53178_3 sh_41 (by decide) (by decide) rfl ?_
  refine j_istore_n (ll' := [(3, aI 3660), (2, aI 0), (0, aR 41), (1, aI x1)]) dJ7_fill_53178_4 (Nat.le_of_ble_eq_true rfl) rfl ?_
  refine j_sub [2, 3, 1, 0] rfl ?_
  exact h
theorem E_J7_fill_53178_41 {post : ax_M → Prop} {M : ax_M} {x1 : Int} (h : ax_mr SH M → ax_J Y_J7_fill_53178 (ax_Kv Y_J7_fill_53178 SH post) 0 0 5 [(0, aR 41), (1, aI x1), (2, aI 0), (3, aI 3660)] [] SH M) : ax_Tv Y_J7_fill_53178 [aR 41, aI x1] SH M post :=
  tv_of rfl (Nat.le_of_ble_eq_true rfl) rfl (fun q => B_J7_fill_53178_41_0 (h q))
set_option maxRecDepth 100000 in
set_option maxHeartbeats 4000000 in
theorem B_J7_fill_53178_41_5 {post : ax_M → Prop} {M : ax_M} {x1 x2 x3 : Int} (h : (((x3 ≤ x2) → post M) ∧ ((x2 < x3) → (0 ≤ x2 ∧ x2 < 3660) ∧ (-2147483648 ≤ (x2 + 1) ∧ (x2 + 1) ≤ 2147483647) ∧ ax_J Y_J7_fill_53178 (ax_Kv Y_J7_fill_53178 SH post) 0 0 5 [(0, aR 41), (1, aI x1), (2, aI (x2 + 1)), (3, aI x3)] [] SH (ax_up M 41 x2 x1)))) : ax_J Y_J7_fill_53178 (ax_Kv Y_J7_fill_53178 SH post) 0 0 5 [(0, aR 41), (1, aI x1), (2, aI x2), (3, aI x3)] [] SH M := by
  refine j_iload_n 2 dJ7_fill_53178_5 rfl ?_
  refine j_iload_n 3 dJ7_fill_53178_6 rfl ?_
  refine j_icmp_ge (tgt := 20) dJ7_fill_53178_7 (by decide) (fun c1 => ?_) (fun c1 => ?_)
  · replace h := h.1 c1
    exact j_vret dJ7_fill_53178_20 rfl ⟨Nat.le_of_ble_eq_true rfl, Nat.le_of_ble_eq_true rfl⟩ h
  · replace h := h.2 c1
    refine j_aload_n 0 dJ7_fill_53178_10 rfl ?_
    refine j_iload_n 2 dJ7_fill_53178_11 rfl ?_
    refine j_iload_n 1 dJ7_fill_53178_12 rfl ?_
    obtain ⟨o2, h⟩ := h
    refine j_iast dJ7_fill_53178_13 sh_41 o2.1 o2.2 ?_
    obtain ⟨o3, h⟩ := h
    refine j_iinc (ll' := [(2, aI (x2 + 1)), (0, aR 41), (1, aI x1), (3, aI x3)]) 2 dJ7_fill_53178_14 rfl (Nat.le_of_ble_eq_true rfl) o3 rfl ?_
    refine j_goto (tgt := 5) dJ7_fill_53178_17 (by decide) ?_
    refine j_sub [1, 2, 0, 3] rfl ?_
    exact h
set_option maxRecDepth 100000 in
set_option maxHeartbeats 4000000 in
theorem B_J7_fill_53178_42_0 {post : ax_M → Prop} {M : ax_M} {x1 : Int} (h : ax_J Y_J7_fill_53178 (ax_Kv Y_J7_fill_53178 SH post) 0 0 5 [(0, aR 42), (1, aI x1), (2, aI 0), (3, aI 61)] [] SH M) : ax_J Y_J7_fill_53178 (ax_Kv Y_J7_fill_53178 SH post) 0 0 0 [(0, aR 42), (1, aI x1)] [] SH M := by
  refine j_iconst (x := 0) dJ7_fill_53178_0 rfl (i32_c rfl) ?_
  refine j_istore_n (ll' := [(2, aI 0), (0, aR 42), (1, aI x1)]) dJ7_fill_53178_1 (Nat.le_of_ble_eq_true rfl) rfl ?_
  refine j_aload_n 1 dJ7_fill_53178_2 rfl ?_
  refine j_alen (v := 61) dJ7_fill_53178_3 sh_42 (by decide) (by decide) rfl ?_
  refine j_istore_n (ll' := [(3, aI 61), (2, aI 0), (0, aR 42), (1, aI x1)]) dJ7_fill_53178_4 (Nat.le_of_ble_eq_true rfl) rfl ?_
  refine j_sub [2, 3, 1, 0] rfl ?_
  exact h
theorem E_J7_fill_53178_42 {post : ax_M → Prop} {M : ax_M} {x1 : Int} (h : ax_mr SH M → ax_J Y_J7_fill_53178 (ax_Kv Y_J7_fill_53178 SH post) 0 0 5 [(0, aR 42), (1, aI x1), (2, aI 0), (3, aI 61)] [] SH M) : ax_Tv Y_J7_fill_53178 [aR 42, aI x1] SH M post :=
  tv_of rfl (Nat.le_of_ble_eq_true rfl) rfl (fun q => B_J7_fill_53178_42_0 (h q))
set_option maxRecDepth 100000 in
set_option maxHeartbeats 4000000 in
theorem B_J7_fill_53178_42_5 {post : ax_M → Prop} {M : ax_M} {x1 x2 x3 : Int} (h : (((x3 ≤ x2) → post M) ∧ ((x2 < x3) → (0 ≤ x2 ∧ x2 < 61) ∧ (-2147483648 ≤ (x2 + 1) ∧ (x2 + 1) ≤ 2147483647) ∧ ax_J Y_J7_fill_53178 (ax_Kv Y_J7_fill_53178 SH post) 0 0 5 [(0, aR 42), (1, aI x1), (2, aI (x2 + 1)), (3, aI x3)] [] SH (ax_up M 42 x2 x1)))) : ax_J Y_J7_fill_53178 (ax_Kv Y_J7_fill_53178 SH post) 0 0 5 [(0, aR 42), (1, aI x1), (2, aI x2), (3, aI x3)] [] SH M := by
  refine j_iload_n 2 dJ7_fill_53178_5 rfl ?_
  refine j_iload_n 3 dJ7_fill_53178_6 rfl ?_
  refine j_icmp_ge (tgt := 20) dJ7_fill_53178_7 (by decide) (fun c1 => ?_) (fun c1 => ?_)
  · replace h := h.1 c1
    exact j_vret dJ7_fill_53178_20 rfl ⟨Nat.le_of_ble_eq_true rfl, Nat.le_of_ble_eq_true rfl⟩ h
  · replace h := h.2 c1
    refine j_aload_n 0 dJ7_fill_53178_10 rfl ?_
    refine j_iload_n 2 dJ7_fill_53178_11 rfl ?_
    refine j_iload_n 1 dJ7_fill_53178_12 rfl ?_
    obtain ⟨o2, h⟩ := h
    refine j_iast dJ7_fill_53178_13 sh_42 o2.1 o2.2 ?_
    obtain ⟨o3, h⟩ := h
    refine j_iinc (ll' := [(2, aI (x2 + 1)), (0, aR 42), (1, aI x1), (3, aI x3)]) 2 dJ7_fill_53178_14 rfl (Nat.le_of_ble_eq_true rfl) o3 rfl ?_
    refine j_goto (tgt := 5) dJ7_fill_53178_17 (by decide) ?_
    refine j_sub [1, 2, 0, 3] rfl ?_
    exact h
set_option maxRecDepth 100000 in
set_option maxHeartbeats 4000000 in
theorem B_J7_fill_53178_43_0 {post : ax_M → Prop} {M : ax_M} {x1 : Int} (h : ax_J Y_J7_fill_53178 (ax_Kv Y_J7_fill_53178 SH post) 0 0 5 [(0, aR 43), (1, aI x1), (2, aI 0), (3, aI 12)] [] SH M) : ax_J Y_J7_fill_53178 (ax_Kv Y_J7_fill_53178 SH post) 0 0 0 [(0, aR 43), (1, aI x1)] [] SH M := by
  refine j_iconst (x := 0) dJ7_fill_53178_0 rfl (i32_c rfl) ?_
  refine j_istore_n (ll' := [(2, aI 0), (0, aR 43), (1, aI x1)]) dJ7_fill_53178_1 (Nat.le_of_ble_eq_true rfl) rfl ?_
  refine j_aload_n 1 dJ7_fill_53178_2 rfl ?_
  refine j_alen (v := 12) dJ7_fill_53178_3 sh_43 (by decide) (by decide) rfl ?_
  refine j_istore_n (ll' := [(3, aI 12), (2, aI 0), (0, aR 43), (1, aI x1)]) dJ7_fill_53178_4 (Nat.le_of_ble_eq_true rfl) rfl ?_
  refine j_sub [2, 3, 1, 0] rfl ?_
  exact h
theorem E_J7_fill_53178_43 {post : ax_M → Prop} {M : ax_M} {x1 : Int} (h : ax_mr SH M → ax_J Y_J7_fill_53178 (ax_Kv Y_J7_fill_53178 SH post) 0 0 5 [(0, aR 43), (1, aI x1), (2, aI 0), (3, aI 12)] [] SH M) : ax_Tv Y_J7_fill_53178 [aR 43, aI x1] SH M post :=
  tv_of rfl (Nat.le_of_ble_eq_true rfl) rfl (fun q => B_J7_fill_53178_43_0 (h q))
set_option maxRecDepth 100000 in
set_option maxHeartbeats 4000000 in
theorem B_J7_fill_53178_43_5 {post : ax_M → Prop} {M : ax_M} {x1 x2 x3 : Int} (h : (((x3 ≤ x2) → post M) ∧ ((x2 < x3) → (0 ≤ x2 ∧ x2 < 12) ∧ (-2147483648 ≤ (x2 + 1) ∧ (x2 + 1) ≤ 2147483647) ∧ ax_J Y_J7_fill_53178 (ax_Kv Y_J7_fill_53178 SH post) 0 0 5 [(0, aR 43), (1, aI x1), (2, aI (x2 + 1)), (3, aI x3)] [] SH (ax_up M 43 x2 x1)))) : ax_J Y_J7_fill_53178 (ax_Kv Y_J7_fill_53178 SH post) 0 0 5 [(0, aR 43), (1, aI x1), (2, aI x2), (3, aI x3)] [] SH M := by
  refine j_iload_n 2 dJ7_fill_53178_5 rfl ?_
  refine j_iload_n 3 dJ7_fill_53178_6 rfl ?_
  refine j_icmp_ge (tgt := 20) dJ7_fill_53178_7 (by decide) (fun c1 => ?_) (fun c1 => ?_)
  · replace h := h.1 c1
    exact j_vret dJ7_fill_53178_20 rfl ⟨Nat.le_of_ble_eq_true rfl, Nat.le_of_ble_eq_true rfl⟩ h
  · replace h := h.2 c1
    refine j_aload_n 0 dJ7_fill_53178_10 rfl ?_
    refine j_iload_n 2 dJ7_fill_53178_11 rfl ?_
    refine j_iload_n 1 dJ7_fill_53178_12 rfl ?_
    obtain ⟨o2, h⟩ := h
    refine j_iast dJ7_fill_53178_13 sh_43 o2.1 o2.2 ?_
    obtain ⟨o3, h⟩ := h
    refine j_iinc (ll' := [(2, aI (x2 + 1)), (0, aR 43), (1, aI x1), (3, aI x3)]) 2 dJ7_fill_53178_14 rfl (Nat.le_of_ble_eq_true rfl) o3 rfl ?_
    refine j_goto (tgt := 5) dJ7_fill_53178_17 (by decide) ?_
    refine j_sub [1, 2, 0, 3] rfl ?_
    exact h
set_option maxRecDepth 100000 in
set_option maxHeartbeats 4000000 in
theorem B_X1_comesUp_0 {post : Int → ax_M → Prop} {M : ax_M} {x1 x2 x3 : Int} (h : ax_Tv Y_X9_prepareMarked [aR 33, aI x2, aI x3, aI (M 49 6), aI (M 49 7)] SH M (fun u1 => ax_Tv Y_X9_gather [aR 33, aI (u1 6 2), aI 99] SH u1 (fun u2 => (0 ≤ x1 ∧ x1 < 12) ∧ ((((u2 39 x1) = (-1)) → post 0 u2) ∧ ((¬ (u2 39 x1) = (-1)) → post 1 u2))))) : ax_J Y_X1_comesUp (ax_Ki Y_X1_comesUp SH post) 0 0 0 [(0, aR 49), (1, aI x1), (2, aI x2), (3, aI x3)] [] SH M := by
  refine j_aload_n 0 dX1_comesUp_0 rfl ?_
  refine j_getc 33 dX1_comesUp_1 f_X1_33 sh_49 rfl ?_
  refine j_iload_n 2 dX1_comesUp_4 rfl ?_
  refine j_iload_n 3 dX1_comesUp_5 rfl ?_
  refine j_aload_n 0 dX1_comesUp_6 rfl ?_
  refine j_geti (i := 6) dX1_comesUp_7 f_X1_19 sh_49 rfl rfl (fun _ => ?_)
  refine j_aload_n 0 dX1_comesUp_10 rfl ?_
  refine j_geti (i := 7) dX1_comesUp_11 f_X1_22 sh_49 rfl rfl (fun _ => ?_)
  refine j_callvV (Yc := Y_X9_prepareMarked) (as := [aI x2, aI x3, aI (M 49 6), aI (M 49 7)]) (rest := []) dX1_comesUp_14 q_X1_90 ⟨Nat.le_of_ble_eq_true rfl, Nat.le_of_ble_eq_true rfl, Nat.le_of_ble_eq_true rfl, Nat.le_of_ble_eq_true rfl⟩ sh_33 rfl (Nat.le_of_ble_eq_true rfl) rfl (tv_mono h (fun u1 h => ?_))
  refine j_aload_n 0 dX1_comesUp_17 rfl ?_
  refine j_getc 33 dX1_comesUp_18 f_X1_33 sh_49 rfl ?_
  refine j_aload_n 0 dX1_comesUp_21 rfl ?_
  refine j_getc 6 dX1_comesUp_22 f_X1_25 sh_49 rfl ?_
  refine j_geti (i := 2) dX1_comesUp_25 f_X1_96 sh_6 rfl rfl (fun _ => ?_)
  refine j_bipush (x := 99) dX1_comesUp_28 rfl (i32_c rfl) ?_
  refine j_callvV (Yc := Y_X9_gather) (as := [aI (u1 6 2), aI 99]) (rest := []) dX1_comesUp_30 q_X1_99 ⟨Nat.le_of_ble_eq_true rfl, Nat.le_of_ble_eq_true rfl, Nat.le_of_ble_eq_true rfl, Nat.le_of_ble_eq_true rfl⟩ sh_33 rfl (Nat.le_of_ble_eq_true rfl) rfl (tv_mono h (fun u2 h => ?_))
  refine j_aload_n 0 dX1_comesUp_33 rfl ?_
  refine j_getc 33 dX1_comesUp_34 f_X1_33 sh_49 rfl ?_
  refine j_getc 39 dX1_comesUp_37 f_X1_103 sh_33 rfl ?_
  refine j_iload_n 1 dX1_comesUp_40 rfl ?_
  obtain ⟨o1, h⟩ := h
  refine j_iald dX1_comesUp_41 sh_39 o1.1 o1.2 (fun _ => ?_)
  refine j_iconst (x := (-1)) dX1_comesUp_42 rfl (i32_c rfl) ?_
  refine j_icmp_eq (tgt := 50) dX1_comesUp_43 (by decide) (fun c2 => ?_) (fun c2 => ?_)
  · replace h := h.1 c2
    refine j_iconst (x := 0) dX1_comesUp_50 rfl (i32_c rfl) ?_
    exact j_zret dX1_comesUp_51 rfl ⟨Nat.le_of_ble_eq_true rfl, Nat.le_of_ble_eq_true rfl⟩ (by decide) h
  · replace h := h.2 c2
    refine j_iconst (x := 1) dX1_comesUp_46 rfl (i32_c rfl) ?_
    refine j_goto (tgt := 51) dX1_comesUp_47 (by decide) ?_
    exact j_zret dX1_comesUp_51 rfl ⟨Nat.le_of_ble_eq_true rfl, Nat.le_of_ble_eq_true rfl⟩ (by decide) h
theorem E_X1_comesUp {post : Int → ax_M → Prop} {M : ax_M} {x1 x2 x3 : Int} (h : ax_mr SH M → ax_Tv Y_X9_prepareMarked [aR 33, aI x2, aI x3, aI (M 49 6), aI (M 49 7)] SH M (fun u1 => ax_Tv Y_X9_gather [aR 33, aI (u1 6 2), aI 99] SH u1 (fun u2 => (0 ≤ x1 ∧ x1 < 12) ∧ ((((u2 39 x1) = (-1)) → post 0 u2) ∧ ((¬ (u2 39 x1) = (-1)) → post 1 u2))))) : ax_Ti Y_X1_comesUp [aR 49, aI x1, aI x2, aI x3] SH M post :=
  ti_of rfl (Nat.le_of_ble_eq_true rfl) rfl (fun q => B_X1_comesUp_0 (h q))
set_option maxRecDepth 100000 in
set_option maxHeartbeats 4000000 in
theorem B_X1_lineUp_0 {post : ax_M → Prop} {M : ax_M} {x1 x2 : Int} (h : ax_J Y_X1_lineUp (ax_Kv Y_X1_lineUp SH post) 0 0 2 [(0, aR 49), (1, aI x1), (2, aI x2), (3, aI 0)] [] SH M) : ax_J Y_X1_lineUp (ax_Kv Y_X1_lineUp SH post) 0 0 0 [(0, aR 49), (1, aI x1), (2, aI x2)] [] SH M := by
  refine j_iconst (x := 0) dX1_lineUp_0 rfl (i32_c rfl) ?_
  refine j_istore_n (ll' := [(3, aI 0), (0, aR 49), (1, aI x1), (2, aI x2)]) dX1_lineUp_1 (Nat.le_of_ble_eq_true rfl) rfl ?_
  refine j_sub [1, 2, 3, 0] rfl ?_
  exact h
theorem E_X1_lineUp {post : ax_M → Prop} {M : ax_M} {x1 x2 : Int} (h : ax_mr SH M → ax_J Y_X1_lineUp (ax_Kv Y_X1_lineUp SH post) 0 0 2 [(0, aR 49), (1, aI x1), (2, aI x2), (3, aI 0)] [] SH M) : ax_Tv Y_X1_lineUp [aR 49, aI x1, aI x2] SH M post :=
  tv_of rfl (Nat.le_of_ble_eq_true rfl) rfl (fun q => B_X1_lineUp_0 (h q))
set_option maxRecDepth 100000 in
set_option maxHeartbeats 4000000 in
theorem B_X1_lineUp_2 {post : ax_M → Prop} {M : ax_M} {x1 x2 x3 : Int} (h : ((((M 8 0) ≤ x3) → post M) ∧ ((x3 < (M 8 0)) → (0 ≤ x3 ∧ x3 < 8) ∧ (((¬ (M 9 x3) = x1) → (-2147483648 ≤ (x3 + 1) ∧ (x3 + 1) ≤ 2147483647) ∧ ax_J Y_X1_lineUp (ax_Kv Y_X1_lineUp SH post) 0 0 2 [(0, aR 49), (1, aI x1), (2, aI x2), (3, aI (x3 + 1))] [] SH M) ∧ (((M 9 x3) = x1) → ((((M 10 x3) = 0) → (-2147483648 ≤ (x3 + 1) ∧ (x3 + 1) ≤ 2147483647) ∧ ax_J Y_X1_lineUp (ax_Kv Y_X1_lineUp SH post) 0 0 2 [(0, aR 49), (1, aI x1), (2, aI x2), (3, aI (x3 + 1))] [] SH M) ∧ ((¬ (M 10 x3) = 0) → (((¬ (M 11 x3) = x2) → (-2147483648 ≤ (x3 + 1) ∧ (x3 + 1) ≤ 2147483647) ∧ ax_J Y_X1_lineUp (ax_Kv Y_X1_lineUp SH post) 0 0 2 [(0, aR 49), (1, aI x1), (2, aI x2), (3, aI (x3 + 1))] [] SH M) ∧ (((M 11 x3) = x2) → (0 ≤ (M 49 4) ∧ (M 49 4) < 8) ∧ (-2147483648 ≤ ((M 49 4) + 1) ∧ ((M 49 4) + 1) ≤ 2147483647) ∧ (-2147483648 ≤ (x3 + 1) ∧ (x3 + 1) ≤ 2147483647) ∧ ax_J Y_X1_lineUp (ax_Kv Y_X1_lineUp SH post) 0 0 2 [(0, aR 49), (1, aI x1), (2, aI x2), (3, aI (x3 + 1))] [] SH (ax_up (ax_up M 50 (M 49 4) x3) 49 4 ((M 49 4) + 1))))))))))) : ax_J Y_X1_lineUp (ax_Kv Y_X1_lineUp SH post) 0 0 2 [(0, aR 49), (1, aI x1), (2, aI x2), (3, aI x3)] [] SH M := by
  refine j_iload_n 3 dX1_lineUp_2 rfl ?_
  refine j_aload_n 0 dX1_lineUp_3 rfl ?_
  refine j_getc 8 dX1_lineUp_4 f_X1_29 sh_49 rfl ?_
  refine j_geti (i := 0) dX1_lineUp_7 f_X1_81 sh_8 rfl rfl (fun _ => ?_)
  refine j_icmp_ge (tgt := 77) dX1_lineUp_10 (by decide) (fun c1 => ?_) (fun c1 => ?_)
  · replace h := h.1 c1
    exact j_vret dX1_lineUp_77 rfl ⟨Nat.le_of_ble_eq_true rfl, Nat.le_of_ble_eq_true rfl⟩ h
  · replace h := h.2 c1
    refine j_aload_n 0 dX1_lineUp_13 rfl ?_
    refine j_getc 8 dX1_lineUp_14 f_X1_29 sh_49 rfl ?_
    refine j_getc 9 dX1_lineUp_17 f_X1_84 sh_8 rfl ?_
    refine j_iload_n 3 dX1_lineUp_20 rfl ?_
    obtain ⟨o2, h⟩ := h
    refine j_iald dX1_lineUp_21 sh_9 o2.1 o2.2 (fun _ => ?_)
    refine j_iload_n 1 dX1_lineUp_22 rfl ?_
    refine j_icmp_ne (tgt := 71) dX1_lineUp_23 (by decide) (fun c3 => ?_) (fun c3 => ?_)
    · replace h := h.1 c3
      obtain ⟨o4, h⟩ := h
      refine j_iinc (ll' := [(3, aI (x3 + 1)), (0, aR 49), (1, aI x1), (2, aI x2)]) 3 dX1_lineUp_71 rfl (Nat.le_of_ble_eq_true rfl) o4 rfl ?_
      refine j_goto (tgt := 2) dX1_lineUp_74 (by decide) ?_
      refine j_sub [1, 2, 3, 0] rfl ?_
      exact h
    · replace h := h.2 c3
      refine j_aload_n 0 dX1_lineUp_26 rfl ?_
      refine j_getc 8 dX1_lineUp_27 f_X1_29 sh_49 rfl ?_
      refine j_getc 10 dX1_lineUp_30 f_X1_87 sh_8 rfl ?_
      refine j_iload_n 3 dX1_lineUp_33 rfl ?_
      refine j_zald dX1_lineUp_34 sh_10 o2.1 o2.2 (fun _ => ?_)
      refine j_if_eq (tgt := 71) dX1_lineUp_35 (by decide) (fun c5 => ?_) (fun c5 => ?_)
      · replace h := h.1 c5
        obtain ⟨o6, h⟩ := h
        refine j_iinc (ll' := [(3, aI (x3 + 1)), (0, aR 49), (1, aI x1), (2, aI x2)]) 3 dX1_lineUp_71 rfl (Nat.le_of_ble_eq_true rfl) o6 rfl ?_
        refine j_goto (tgt := 2) dX1_lineUp_74 (by decide) ?_
        refine j_sub [1, 2, 3, 0] rfl ?_
        exact h
      · replace h := h.2 c5
        refine j_aload_n 0 dX1_lineUp_38 rfl ?_
        refine j_getc 8 dX1_lineUp_39 f_X1_29 sh_49 rfl ?_
        refine j_getc 11 dX1_lineUp_42 f_X1_69 sh_8 rfl ?_
        refine j_iload_n 3 dX1_lineUp_45 rfl ?_
        refine j_zald dX1_lineUp_46 sh_11 o2.1 o2.2 (fun _ => ?_)
        refine j_iload_n 2 dX1_lineUp_47 rfl ?_
        refine j_icmp_ne (tgt := 71) dX1_lineUp_48 (by decide) (fun c7 => ?_) (fun c7 => ?_)
        · replace h := h.1 c7
          obtain ⟨o8, h⟩ := h
          refine j_iinc (ll' := [(3, aI (x3 + 1)), (0, aR 49), (1, aI x1), (2, aI x2)]) 3 dX1_lineUp_71 rfl (Nat.le_of_ble_eq_true rfl) o8 rfl ?_
          refine j_goto (tgt := 2) dX1_lineUp_74 (by decide) ?_
          refine j_sub [1, 2, 3, 0] rfl ?_
          exact h
        · replace h := h.2 c7
          refine j_aload_n 0 dX1_lineUp_51 rfl ?_
          refine j_getc 50 dX1_lineUp_52 f_X1_9 sh_49 rfl ?_
          refine j_aload_n 0 dX1_lineUp_55 rfl ?_
          refine j_geti (i := 4) dX1_lineUp_56 f_X1_51 sh_49 rfl rfl (fun _ => ?_)
          refine j_iload_n 3 dX1_lineUp_59 rfl ?_
          obtain ⟨o9, h⟩ := h
          refine j_iast dX1_lineUp_60 sh_50 o9.1 o9.2 ?_
          refine j_aload_n 0 dX1_lineUp_61 rfl ?_
          refine j_dup dX1_lineUp_62 rfl ?_
          refine j_geti (i := 4) dX1_lineUp_63 f_X1_51 sh_49 rfl rfl (fun _ => ?_)
          refine j_iconst (x := 1) dX1_lineUp_66 rfl (i32_c rfl) ?_
          obtain ⟨o10, h⟩ := h
          refine j_iadd (z := ((M 49 4) + 1)) dX1_lineUp_67 rfl o10 ?_
          refine j_puti (i := 4) dX1_lineUp_68 p_X1_51 (fun h => by cases h) sh_49 rfl rfl ?_
          obtain ⟨o11, h⟩ := h
          refine j_iinc (ll' := [(3, aI (x3 + 1)), (0, aR 49), (1, aI x1), (2, aI x2)]) 3 dX1_lineUp_71 rfl (Nat.le_of_ble_eq_true rfl) o11 rfl ?_
          refine j_goto (tgt := 2) dX1_lineUp_74 (by decide) ?_
          refine j_sub [1, 2, 3, 0] rfl ?_
          exact h
set_option maxRecDepth 100000 in
set_option maxHeartbeats 4000000 in
theorem B_X0_someSlowAt_0 {post : Int → ax_M → Prop} {M : ax_M} {x1 : Int} (h : ax_J Y_X0_someSlowAt (ax_Ki Y_X0_someSlowAt SH post) 0 0 2 [(0, aR 8), (1, aI x1), (2, aI 0)] [] SH M) : ax_J Y_X0_someSlowAt (ax_Ki Y_X0_someSlowAt SH post) 0 0 0 [(0, aR 8), (1, aI x1)] [] SH M := by
  refine j_iconst (x := 0) dX0_someSlowAt_0 rfl (i32_c rfl) ?_
  refine j_istore_n (ll' := [(2, aI 0), (0, aR 8), (1, aI x1)]) dX0_someSlowAt_1 (Nat.le_of_ble_eq_true rfl) rfl ?_
  refine j_sub [1, 2, 0] rfl ?_
  exact h
theorem E_X0_someSlowAt {post : Int → ax_M → Prop} {M : ax_M} {x1 : Int} (h : ax_mr SH M → ax_J Y_X0_someSlowAt (ax_Ki Y_X0_someSlowAt SH post) 0 0 2 [(0, aR 8), (1, aI x1), (2, aI 0)] [] SH M) : ax_Ti Y_X0_someSlowAt [aR 8, aI x1] SH M post :=
  ti_of rfl (Nat.le_of_ble_eq_true rfl) rfl (fun q => B_X0_someSlowAt_0 (h q))
set_option maxRecDepth 100000 in
set_option maxHeartbeats 4000000 in
theorem B_X0_someSlowAt_2 {post : Int → ax_M → Prop} {M : ax_M} {x1 x2 : Int} (h : ((((M 8 0) ≤ x2) → post 0 M) ∧ ((x2 < (M 8 0)) → (0 ≤ x2 ∧ x2 < 8) ∧ (((¬ (M 9 x2) = x1) → (-2147483648 ≤ (x2 + 1) ∧ (x2 + 1) ≤ 2147483647) ∧ ax_J Y_X0_someSlowAt (ax_Ki Y_X0_someSlowAt SH post) 0 0 2 [(0, aR 8), (1, aI x1), (2, aI (x2 + 1))] [] SH M) ∧ (((M 9 x2) = x1) → ((((M 11 x2) = 0) → (-2147483648 ≤ (x2 + 1) ∧ (x2 + 1) ≤ 2147483647) ∧ ax_J Y_X0_someSlowAt (ax_Ki Y_X0_someSlowAt SH post) 0 0 2 [(0, aR 8), (1, aI x1), (2, aI (x2 + 1))] [] SH M) ∧ ((¬ (M 11 x2) = 0) → post 1 M))))))) : ax_J Y_X0_someSlowAt (ax_Ki Y_X0_someSlowAt SH post) 0 0 2 [(0, aR 8), (1, aI x1), (2, aI x2)] [] SH M := by
  refine j_iload_n 2 dX0_someSlowAt_2 rfl ?_
  refine j_aload_n 0 dX0_someSlowAt_3 rfl ?_
  refine j_geti (i := 0) dX0_someSlowAt_4 f_X0_31 sh_8 rfl rfl (fun _ => ?_)
  refine j_icmp_ge (tgt := 37) dX0_someSlowAt_7 (by decide) (fun c1 => ?_) (fun c1 => ?_)
  · replace h := h.1 c1
    refine j_iconst (x := 0) dX0_someSlowAt_37 rfl (i32_c rfl) ?_
    exact j_zret dX0_someSlowAt_38 rfl ⟨Nat.le_of_ble_eq_true rfl, Nat.le_of_ble_eq_true rfl⟩ (by decide) h
  · replace h := h.2 c1
    refine j_aload_n 0 dX0_someSlowAt_10 rfl ?_
    refine j_getc 9 dX0_someSlowAt_11 f_X0_9 sh_8 rfl ?_
    refine j_iload_n 2 dX0_someSlowAt_14 rfl ?_
    obtain ⟨o2, h⟩ := h
    refine j_iald dX0_someSlowAt_15 sh_9 o2.1 o2.2 (fun _ => ?_)
    refine j_iload_n 1 dX0_someSlowAt_16 rfl ?_
    refine j_icmp_ne (tgt := 31) dX0_someSlowAt_17 (by decide) (fun c3 => ?_) (fun c3 => ?_)
    · replace h := h.1 c3
      obtain ⟨o4, h⟩ := h
      refine j_iinc (ll' := [(2, aI (x2 + 1)), (0, aR 8), (1, aI x1)]) 2 dX0_someSlowAt_31 rfl (Nat.le_of_ble_eq_true rfl) o4 rfl ?_
      refine j_goto (tgt := 2) dX0_someSlowAt_34 (by decide) ?_
      refine j_sub [1, 2, 0] rfl ?_
      exact h
    · replace h := h.2 c3
      refine j_aload_n 0 dX0_someSlowAt_20 rfl ?_
      refine j_getc 11 dX0_someSlowAt_21 f_X0_19 sh_8 rfl ?_
      refine j_iload_n 2 dX0_someSlowAt_24 rfl ?_
      refine j_zald dX0_someSlowAt_25 sh_11 o2.1 o2.2 (fun _ => ?_)
      refine j_if_eq (tgt := 31) dX0_someSlowAt_26 (by decide) (fun c5 => ?_) (fun c5 => ?_)
      · replace h := h.1 c5
        obtain ⟨o6, h⟩ := h
        refine j_iinc (ll' := [(2, aI (x2 + 1)), (0, aR 8), (1, aI x1)]) 2 dX0_someSlowAt_31 rfl (Nat.le_of_ble_eq_true rfl) o6 rfl ?_
        refine j_goto (tgt := 2) dX0_someSlowAt_34 (by decide) ?_
        refine j_sub [1, 2, 0] rfl ?_
        exact h
      · replace h := h.2 c5
        refine j_iconst (x := 1) dX0_someSlowAt_29 rfl (i32_c rfl) ?_
        exact j_zret dX0_someSlowAt_30 rfl ⟨Nat.le_of_ble_eq_true rfl, Nat.le_of_ble_eq_true rfl⟩ (by decide) h
set_option maxRecDepth 100000 in
set_option maxHeartbeats 4000000 in
theorem B_X7_findLast_51_53_0 {post : ax_M → Prop} {M : ax_M} {x1 x2 : Int} (h : ax_Tv Y_X9_prepareMarked [aR 33, aI x1, aI x2, aI (-1), aI (-1)] SH M (fun u1 => ax_Tv Y_X9_gather [aR 33, aI (u1 6 2), aI 99] SH u1 (fun u2 => post (ax_cp u2 39 53 0 0 12)))) : ax_J Y_X7_findLast (ax_Kv Y_X7_findLast SH post) 0 0 0 [(0, aR 51), (1, aI x1), (2, aI x2), (3, aR 53)] [] SH M := by
  refine j_aload_n 0 dX7_findLast_0 rfl ?_
  refine j_getc 33 dX7_findLast_1 f_X7_47 sh_51 rfl ?_
  refine j_iload_n 1 dX7_findLast_4 rfl ?_
  refine j_iload_n 2 dX7_findLast_5 rfl ?_
  refine j_callvV (Yc := Y_X9_prepare) (as := [aI x1, aI x2]) (rest := []) dX7_findLast_6 q_X7_65 ⟨Nat.le_of_ble_eq_true rfl, Nat.le_of_ble_eq_true rfl, Nat.le_of_ble_eq_true rfl, Nat.le_of_ble_eq_true rfl⟩ sh_33 rfl (Nat.le_of_ble_eq_true rfl) rfl (tv_of (ll := [(0, aR 33), (1, aI x1), (2, aI x2)]) rfl (Nat.le_of_ble_eq_true rfl) rfl (fun _ => ?_))
  refine j_aload_n 0 dX9_prepare_0 rfl ?_
  refine j_iload_n 1 dX9_prepare_1 rfl ?_
  refine j_iload_n 2 dX9_prepare_2 rfl ?_
  refine j_iconst (x := (-1)) dX9_prepare_3 rfl (i32_c rfl) ?_
  refine j_iconst (x := (-1)) dX9_prepare_4 rfl (i32_c rfl) ?_
  refine j_callvV (Yc := Y_X9_prepareMarked) (as := [aI x1, aI x2, aI (-1), aI (-1)]) (rest := []) dX9_prepare_5 q_X9_38 ⟨Nat.le_of_ble_eq_true rfl, Nat.le_of_ble_eq_true rfl, Nat.le_of_ble_eq_true rfl, Nat.le_of_ble_eq_true rfl⟩ sh_33 rfl (Nat.le_of_ble_eq_true rfl) rfl (tv_mono h (fun u1 h => ?_))
  refine j_vret dX9_prepare_8 rfl ⟨Nat.le_of_ble_eq_true rfl, Nat.le_of_ble_eq_true rfl⟩ ?_
  refine j_aload_n 0 dX7_findLast_9 rfl ?_
  refine j_getc 33 dX7_findLast_10 f_X7_47 sh_51 rfl ?_
  refine j_aload_n 0 dX7_findLast_13 rfl ?_
  refine j_getc 6 dX7_findLast_14 f_X7_39 sh_51 rfl ?_
  refine j_geti (i := 2) dX7_findLast_17 f_X7_71 sh_6 rfl rfl (fun _ => ?_)
  refine j_bipush (x := 99) dX7_findLast_20 rfl (i32_c rfl) ?_
  refine j_callvV (Yc := Y_X9_gather) (as := [aI (u1 6 2), aI 99]) (rest := []) dX7_findLast_22 q_X7_76 ⟨Nat.le_of_ble_eq_true rfl, Nat.le_of_ble_eq_true rfl, Nat.le_of_ble_eq_true rfl, Nat.le_of_ble_eq_true rfl⟩ sh_33 rfl (Nat.le_of_ble_eq_true rfl) rfl (tv_mono h (fun u2 h => ?_))
  refine j_aload_n 0 dX7_findLast_25 rfl ?_
  refine j_getc 33 dX7_findLast_26 f_X7_47 sh_51 rfl ?_
  refine j_getc 39 dX7_findLast_29 f_X7_80 sh_33 rfl ?_
  refine j_iconst (x := 0) dX7_findLast_32 rfl (i32_c rfl) ?_
  refine j_aload_n 3 dX7_findLast_33 rfl ?_
  refine j_iconst (x := 0) dX7_findLast_34 rfl (i32_c rfl) ?_
  refine j_bipush (x := 12) dX7_findLast_35 rfl (i32_c rfl) ?_
  refine j_copy 0 (by decide) dX7_findLast_37 (ax_in 954 (by decide +kernel) rfl) (ax_in 674 (by decide +kernel) rfl) (ax_in 673 (by decide +kernel) rfl) (ax_in 133 (by decide +kernel) rfl) sh_39 sh_53 (by decide) (by decide) (by decide) (by decide) (by decide) (Nat.le_of_ble_eq_true rfl) (Nat.le_of_ble_eq_true rfl) ?_
  exact j_vret dX7_findLast_40 rfl ⟨Nat.le_of_ble_eq_true rfl, Nat.le_of_ble_eq_true rfl⟩ h
theorem E_X7_findLast_51_53 {post : ax_M → Prop} {M : ax_M} {x1 x2 : Int} (h : ax_mr SH M → ax_Tv Y_X9_prepareMarked [aR 33, aI x1, aI x2, aI (-1), aI (-1)] SH M (fun u1 => ax_Tv Y_X9_gather [aR 33, aI (u1 6 2), aI 99] SH u1 (fun u2 => post (ax_cp u2 39 53 0 0 12)))) : ax_Tv Y_X7_findLast [aR 51, aI x1, aI x2, aR 53] SH M post :=
  tv_of rfl (Nat.le_of_ble_eq_true rfl) rfl (fun q => B_X7_findLast_51_53_0 (h q))
set_option maxRecDepth 100000 in
set_option maxHeartbeats 4000000 in
theorem B_X7_findLast_51_54_0 {post : ax_M → Prop} {M : ax_M} {x1 x2 : Int} (h : ax_Tv Y_X9_prepareMarked [aR 33, aI x1, aI x2, aI (-1), aI (-1)] SH M (fun u1 => ax_Tv Y_X9_gather [aR 33, aI (u1 6 2), aI 99] SH u1 (fun u2 => post (ax_cp u2 39 54 0 0 12)))) : ax_J Y_X7_findLast (ax_Kv Y_X7_findLast SH post) 0 0 0 [(0, aR 51), (1, aI x1), (2, aI x2), (3, aR 54)] [] SH M := by
  refine j_aload_n 0 dX7_findLast_0 rfl ?_
  refine j_getc 33 dX7_findLast_1 f_X7_47 sh_51 rfl ?_
  refine j_iload_n 1 dX7_findLast_4 rfl ?_
  refine j_iload_n 2 dX7_findLast_5 rfl ?_
  refine j_callvV (Yc := Y_X9_prepare) (as := [aI x1, aI x2]) (rest := []) dX7_findLast_6 q_X7_65 ⟨Nat.le_of_ble_eq_true rfl, Nat.le_of_ble_eq_true rfl, Nat.le_of_ble_eq_true rfl, Nat.le_of_ble_eq_true rfl⟩ sh_33 rfl (Nat.le_of_ble_eq_true rfl) rfl (tv_of (ll := [(0, aR 33), (1, aI x1), (2, aI x2)]) rfl (Nat.le_of_ble_eq_true rfl) rfl (fun _ => ?_))
  refine j_aload_n 0 dX9_prepare_0 rfl ?_
  refine j_iload_n 1 dX9_prepare_1 rfl ?_
  refine j_iload_n 2 dX9_prepare_2 rfl ?_
  refine j_iconst (x := (-1)) dX9_prepare_3 rfl (i32_c rfl) ?_
  refine j_iconst (x := (-1)) dX9_prepare_4 rfl (i32_c rfl) ?_
  refine j_callvV (Yc := Y_X9_prepareMarked) (as := [aI x1, aI x2, aI (-1), aI (-1)]) (rest := []) dX9_prepare_5 q_X9_38 ⟨Nat.le_of_ble_eq_true rfl, Nat.le_of_ble_eq_true rfl, Nat.le_of_ble_eq_true rfl, Nat.le_of_ble_eq_true rfl⟩ sh_33 rfl (Nat.le_of_ble_eq_true rfl) rfl (tv_mono h (fun u1 h => ?_))
  refine j_vret dX9_prepare_8 rfl ⟨Nat.le_of_ble_eq_true rfl, Nat.le_of_ble_eq_true rfl⟩ ?_
  refine j_aload_n 0 dX7_findLast_9 rfl ?_
  refine j_getc 33 dX7_findLast_10 f_X7_47 sh_51 rfl ?_
  refine j_aload_n 0 dX7_findLast_13 rfl ?_
  refine j_getc 6 dX7_findLast_14 f_X7_39 sh_51 rfl ?_
  refine j_geti (i := 2) dX7_findLast_17 f_X7_71 sh_6 rfl rfl (fun _ => ?_)
  refine j_bipush (x := 99) dX7_findLast_20 rfl (i32_c rfl) ?_
  refine j_callvV (Yc := Y_X9_gather) (as := [aI (u1 6 2), aI 99]) (rest := []) dX7_findLast_22 q_X7_76 ⟨Nat.le_of_ble_eq_true rfl, Nat.le_of_ble_eq_true rfl, Nat.le_of_ble_eq_true rfl, Nat.le_of_ble_eq_true rfl⟩ sh_33 rfl (Nat.le_of_ble_eq_true rfl) rfl (tv_mono h (fun u2 h => ?_))
  refine j_aload_n 0 dX7_findLast_25 rfl ?_
  refine j_getc 33 dX7_findLast_26 f_X7_47 sh_51 rfl ?_
  refine j_getc 39 dX7_findLast_29 f_X7_80 sh_33 rfl ?_
  refine j_iconst (x := 0) dX7_findLast_32 rfl (i32_c rfl) ?_
  refine j_aload_n 3 dX7_findLast_33 rfl ?_
  refine j_iconst (x := 0) dX7_findLast_34 rfl (i32_c rfl) ?_
  refine j_bipush (x := 12) dX7_findLast_35 rfl (i32_c rfl) ?_
  refine j_copy 0 (by decide) dX7_findLast_37 (ax_in 954 (by decide +kernel) rfl) (ax_in 674 (by decide +kernel) rfl) (ax_in 673 (by decide +kernel) rfl) (ax_in 133 (by decide +kernel) rfl) sh_39 sh_54 (by decide) (by decide) (by decide) (by decide) (by decide) (Nat.le_of_ble_eq_true rfl) (Nat.le_of_ble_eq_true rfl) ?_
  exact j_vret dX7_findLast_40 rfl ⟨Nat.le_of_ble_eq_true rfl, Nat.le_of_ble_eq_true rfl⟩ h
theorem E_X7_findLast_51_54 {post : ax_M → Prop} {M : ax_M} {x1 x2 : Int} (h : ax_mr SH M → ax_Tv Y_X9_prepareMarked [aR 33, aI x1, aI x2, aI (-1), aI (-1)] SH M (fun u1 => ax_Tv Y_X9_gather [aR 33, aI (u1 6 2), aI 99] SH u1 (fun u2 => post (ax_cp u2 39 54 0 0 12)))) : ax_Tv Y_X7_findLast [aR 51, aI x1, aI x2, aR 54] SH M post :=
  tv_of rfl (Nat.le_of_ble_eq_true rfl) rfl (fun q => B_X7_findLast_51_54_0 (h q))
set_option maxRecDepth 100000 in
set_option maxHeartbeats 4000000 in
theorem B_X7_findLast_51_55_0 {post : ax_M → Prop} {M : ax_M} {x1 x2 : Int} (h : ax_Tv Y_X9_prepareMarked [aR 33, aI x1, aI x2, aI (-1), aI (-1)] SH M (fun u1 => ax_Tv Y_X9_gather [aR 33, aI (u1 6 2), aI 99] SH u1 (fun u2 => post (ax_cp u2 39 55 0 0 12)))) : ax_J Y_X7_findLast (ax_Kv Y_X7_findLast SH post) 0 0 0 [(0, aR 51), (1, aI x1), (2, aI x2), (3, aR 55)] [] SH M := by
  refine j_aload_n 0 dX7_findLast_0 rfl ?_
  refine j_getc 33 dX7_findLast_1 f_X7_47 sh_51 rfl ?_
  refine j_iload_n 1 dX7_findLast_4 rfl ?_
  refine j_iload_n 2 dX7_findLast_5 rfl ?_
  refine j_callvV (Yc := Y_X9_prepare) (as := [aI x1, aI x2]) (rest := []) dX7_findLast_6 q_X7_65 ⟨Nat.le_of_ble_eq_true rfl, Nat.le_of_ble_eq_true rfl, Nat.le_of_ble_eq_true rfl, Nat.le_of_ble_eq_true rfl⟩ sh_33 rfl (Nat.le_of_ble_eq_true rfl) rfl (tv_of (ll := [(0, aR 33), (1, aI x1), (2, aI x2)]) rfl (Nat.le_of_ble_eq_true rfl) rfl (fun _ => ?_))
  refine j_aload_n 0 dX9_prepare_0 rfl ?_
  refine j_iload_n 1 dX9_prepare_1 rfl ?_
  refine j_iload_n 2 dX9_prepare_2 rfl ?_
  refine j_iconst (x := (-1)) dX9_prepare_3 rfl (i32_c rfl) ?_
  refine j_iconst (x := (-1)) dX9_prepare_4 rfl (i32_c rfl) ?_
  refine j_callvV (Yc := Y_X9_prepareMarked) (as := [aI x1, aI x2, aI (-1), aI (-1)]) (rest := []) dX9_prepare_5 q_X9_38 ⟨Nat.le_of_ble_eq_true rfl, Nat.le_of_ble_eq_true rfl, Nat.le_of_ble_eq_true rfl, Nat.le_of_ble_eq_true rfl⟩ sh_33 rfl (Nat.le_of_ble_eq_true rfl) rfl (tv_mono h (fun u1 h => ?_))
  refine j_vret dX9_prepare_8 rfl ⟨Nat.le_of_ble_eq_true rfl, Nat.le_of_ble_eq_true rfl⟩ ?_
  refine j_aload_n 0 dX7_findLast_9 rfl ?_
  refine j_getc 33 dX7_findLast_10 f_X7_47 sh_51 rfl ?_
  refine j_aload_n 0 dX7_findLast_13 rfl ?_
  refine j_getc 6 dX7_findLast_14 f_X7_39 sh_51 rfl ?_
  refine j_geti (i := 2) dX7_findLast_17 f_X7_71 sh_6 rfl rfl (fun _ => ?_)
  refine j_bipush (x := 99) dX7_findLast_20 rfl (i32_c rfl) ?_
  refine j_callvV (Yc := Y_X9_gather) (as := [aI (u1 6 2), aI 99]) (rest := []) dX7_findLast_22 q_X7_76 ⟨Nat.le_of_ble_eq_true rfl, Nat.le_of_ble_eq_true rfl, Nat.le_of_ble_eq_true rfl, Nat.le_of_ble_eq_true rfl⟩ sh_33 rfl (Nat.le_of_ble_eq_true rfl) rfl (tv_mono h (fun u2 h => ?_))
  refine j_aload_n 0 dX7_findLast_25 rfl ?_
  refine j_getc 33 dX7_findLast_26 f_X7_47 sh_51 rfl ?_
  refine j_getc 39 dX7_findLast_29 f_X7_80 sh_33 rfl ?_
  refine j_iconst (x := 0) dX7_findLast_32 rfl (i32_c rfl) ?_
  refine j_aload_n 3 dX7_findLast_33 rfl ?_
  refine j_iconst (x := 0) dX7_findLast_34 rfl (i32_c rfl) ?_
  refine j_bipush (x := 12) dX7_findLast_35 rfl (i32_c rfl) ?_
  refine j_copy 0 (by decide) dX7_findLast_37 (ax_in 954 (by decide +kernel) rfl) (ax_in 674 (by decide +kernel) rfl) (ax_in 673 (by decide +kernel) rfl) (ax_in 133 (by decide +kernel) rfl) sh_39 sh_55 (by decide) (by decide) (by decide) (by decide) (by decide) (Nat.le_of_ble_eq_true rfl) (Nat.le_of_ble_eq_true rfl) ?_
  exact j_vret dX7_findLast_40 rfl ⟨Nat.le_of_ble_eq_true rfl, Nat.le_of_ble_eq_true rfl⟩ h
theorem E_X7_findLast_51_55 {post : ax_M → Prop} {M : ax_M} {x1 x2 : Int} (h : ax_mr SH M → ax_Tv Y_X9_prepareMarked [aR 33, aI x1, aI x2, aI (-1), aI (-1)] SH M (fun u1 => ax_Tv Y_X9_gather [aR 33, aI (u1 6 2), aI 99] SH u1 (fun u2 => post (ax_cp u2 39 55 0 0 12)))) : ax_Tv Y_X7_findLast [aR 51, aI x1, aI x2, aR 55] SH M post :=
  tv_of rfl (Nat.le_of_ble_eq_true rfl) rfl (fun q => B_X7_findLast_51_55_0 (h q))
set_option maxRecDepth 100000 in
set_option maxHeartbeats 4000000 in
theorem B_X7_goOnFrom_56_0 {r : Nat} {post : ax_M → Prop} {M : ax_M} {x1 x2 x3 x4 x5 : Int} (h : ((M 51 13) = 56) ∧ (0 ≤ x3 ∧ x3 < 64) ∧ (((x3 = (M 51 14)) → post (ax_up M 56 x3 (max (M 56 x3) x4))) ∧ ((¬ x3 = (M 51 14)) → (((x5 < (M 51 4)) → ax_Ti Y_X7_soonestRow [aR 51, aI x1, aI x2] SH (ax_up M 56 x3 (max (M 56 x3) x4)) (fun z2 u1 => ax_J (Y_X7_goOnFrom (r + 1)) (ax_Kv (Y_X7_goOnFrom (r + 1)) SH post) 0 0 46 [(0, aR 51), (3, aI x3), (4, aI x4), (5, aI x5), (6, aI z2), (7, aI 0)] [] SH u1)) ∧ (((M 51 4) ≤ x5) → post (ax_up M 56 x3 (max (M 56 x3) x4))))))) : ax_J (Y_X7_goOnFrom (r + 1)) (ax_Kv (Y_X7_goOnFrom (r + 1)) SH post) 0 0 0 [(0, aR 51), (1, aI x1), (2, aI x2), (3, aI x3), (4, aI x4), (5, aI x5)] [] SH M := by
  refine j_aload_n 0 dX7_goOnFrom_0 rfl ?_
  obtain ⟨o1, h⟩ := h
  refine j_getr 56 (i := 13) dX7_goOnFrom_1 f_X7_36 sh_51 rfl rfl o1 ?_
  refine j_iload_n 3 dX7_goOnFrom_4 rfl ?_
  refine j_aload_n 0 dX7_goOnFrom_5 rfl ?_
  refine j_getr 56 (i := 13) dX7_goOnFrom_6 f_X7_36 sh_51 rfl rfl o1 ?_
  refine j_iload_n 3 dX7_goOnFrom_9 rfl ?_
  obtain ⟨o2, h⟩ := h
  refine j_iald dX7_goOnFrom_10 sh_56 o2.1 o2.2 (fun _ => ?_)
  refine j_iload 4 dX7_goOnFrom_11 rfl ?_
  refine j_mmax dX7_goOnFrom_13 (show Cond.methodLink RX7 112 Lib.Math.max.name ∈ ax_tb from ax_in 967 (by decide +kernel) rfl) ⟨Nat.le_of_ble_eq_true rfl, Nat.le_of_ble_eq_true rfl⟩ (Nat.le_trans (Nat.le_of_ble_eq_true rfl) (Nat.le_add_right _ _)) (Nat.le_of_ble_eq_true rfl) ?_
  refine j_iast dX7_goOnFrom_16 sh_56 o2.1 o2.2 ?_
  refine j_iload_n 3 dX7_goOnFrom_17 rfl ?_
  refine j_aload_n 0 dX7_goOnFrom_18 rfl ?_
  refine j_geti (i := 14) dX7_goOnFrom_19 f_X7_89 sh_51 rfl rfl (fun _ => ?_)
  refine j_icmp_eq (tgt := 34) dX7_goOnFrom_22 (by decide) (fun c3 => ?_) (fun c3 => ?_)
  · replace h := h.1 c3
    exact j_vret dX7_goOnFrom_34 rfl ⟨Nat.le_of_ble_eq_true rfl, Nat.le_of_ble_eq_true rfl⟩ h
  · replace h := h.2 c3
    refine j_iload 5 dX7_goOnFrom_25 rfl ?_
    refine j_aload_n 0 dX7_goOnFrom_27 rfl ?_
    refine j_geti (i := 4) dX7_goOnFrom_28 f_X7_57 sh_51 rfl rfl (fun _ => ?_)
    refine j_icmp_lt (tgt := 35) dX7_goOnFrom_31 (by decide) (fun c4 => ?_) (fun c4 => ?_)
    · replace h := h.1 c4
      refine j_aload_n 0 dX7_goOnFrom_35 rfl ?_
      refine j_iload_n 1 dX7_goOnFrom_36 rfl ?_
      refine j_iload_n 2 dX7_goOnFrom_37 rfl ?_
      refine j_calliV (Yc := Y_X7_soonestRow) (as := [aI x1, aI x2]) (rest := []) dX7_goOnFrom_38 q_X7_118 ⟨show 4 + 1 ≤ 5 + (r + 1) by omega, Nat.le_of_ble_eq_true rfl, Nat.le_of_ble_eq_true rfl, Nat.le_of_ble_eq_true rfl⟩ sh_51 rfl (Nat.le_of_ble_eq_true rfl) rfl (ti_mono h (fun z2 u1 h => ?_))
      refine j_istore (ll' := [(6, aI z2), (0, aR 51), (1, aI x1), (2, aI x2), (3, aI x3), (4, aI x4), (5, aI x5)]) dX7_goOnFrom_41 (Nat.le_of_ble_eq_true rfl) rfl ?_
      refine j_iconst (x := 0) dX7_goOnFrom_43 rfl (i32_c rfl) ?_
      refine j_istore (ll' := [(7, aI 0), (6, aI z2), (0, aR 51), (1, aI x1), (2, aI x2), (3, aI x3), (4, aI x4), (5, aI x5)]) dX7_goOnFrom_44 (Nat.le_of_ble_eq_true rfl) rfl ?_
      refine j_sub [2, 5, 6, 7, 1, 0] rfl ?_
      exact h
    · replace h := h.2 c4
      exact j_vret dX7_goOnFrom_34 rfl ⟨Nat.le_of_ble_eq_true rfl, Nat.le_of_ble_eq_true rfl⟩ h
theorem E_X7_goOnFrom_56 {r : Nat} {post : ax_M → Prop} {M : ax_M} {x1 x2 x3 x4 x5 : Int} (h : ax_mr SH M → ((M 51 13) = 56) ∧ (0 ≤ x3 ∧ x3 < 64) ∧ (((x3 = (M 51 14)) → post (ax_up M 56 x3 (max (M 56 x3) x4))) ∧ ((¬ x3 = (M 51 14)) → (((x5 < (M 51 4)) → ax_Ti Y_X7_soonestRow [aR 51, aI x1, aI x2] SH (ax_up M 56 x3 (max (M 56 x3) x4)) (fun z2 u1 => ax_J (Y_X7_goOnFrom (r + 1)) (ax_Kv (Y_X7_goOnFrom (r + 1)) SH post) 0 0 46 [(0, aR 51), (3, aI x3), (4, aI x4), (5, aI x5), (6, aI z2), (7, aI 0)] [] SH u1)) ∧ (((M 51 4) ≤ x5) → post (ax_up M 56 x3 (max (M 56 x3) x4))))))) : ax_Tv (Y_X7_goOnFrom (r + 1)) [aR 51, aI x1, aI x2, aI x3, aI x4, aI x5] SH M post :=
  tv_of rfl (Nat.le_of_ble_eq_true rfl) rfl (fun q => B_X7_goOnFrom_56_0 (h q))
set_option maxRecDepth 100000 in
set_option maxHeartbeats 4000000 in
theorem B_X7_goOnFrom_56_46 {r : Nat} {post : ax_M → Prop} {M : ax_M} {x3 x4 x5 x6 x7 : Int} (h : ((((M 51 4) ≤ x7) → post M) ∧ ((x7 < (M 51 4)) → (-2147483648 ≤ (x6 + x7) ∧ (x6 + x7) ≤ 2147483647) ∧ (0 ≤ (x6 + x7) ∧ (x6 + x7) < 4200) ∧ ((((bo_or x3 (bo_shl 1 x7)) = x3) → (-2147483648 ≤ (x7 + 1) ∧ (x7 + 1) ≤ 2147483647) ∧ ax_J (Y_X7_goOnFrom (r + 1)) (ax_Kv (Y_X7_goOnFrom (r + 1)) SH post) 0 0 46 [(0, aR 51), (3, aI x3), (4, aI x4), (5, aI x5), (6, aI x6), (7, aI (x7 + 1))] [] SH M) ∧ ((¬ (bo_or x3 (bo_shl 1 x7)) = x3) → (((¬ (bo_and (bo_or x3 (bo_shl 1 x7)) (bo_xor (M 51 14) (-1))) = 0) → (-2147483648 ≤ (x7 + 1) ∧ (x7 + 1) ≤ 2147483647) ∧ ax_J (Y_X7_goOnFrom (r + 1)) (ax_Kv (Y_X7_goOnFrom (r + 1)) SH post) 0 0 46 [(0, aR 51), (3, aI x3), (4, aI x4), (5, aI x5), (6, aI x6), (7, aI (x7 + 1))] [] SH M) ∧ (((bo_and (bo_or x3 (bo_shl 1 x7)) (bo_xor (M 51 14) (-1))) = 0) → (((¬ (M 58 (x6 + x7)) = (-1)) → (0 ≤ x7 ∧ x7 < 7) ∧ (0 ≤ (M 52 x7) ∧ (M 52 x7) < 12) ∧ ((((M 55 (M 52 x7)) < (M 58 (x6 + x7))) → (-2147483648 ≤ (x7 + 1) ∧ (x7 + 1) ≤ 2147483647) ∧ ax_J (Y_X7_goOnFrom (r + 1)) (ax_Kv (Y_X7_goOnFrom (r + 1)) SH post) 0 0 46 [(0, aR 51), (3, aI x3), (4, aI x4), (5, aI x5), (6, aI x6), (7, aI (x7 + 1))] [] SH M) ∧ (((M 58 (x6 + x7)) ≤ (M 55 (M 52 x7))) → ax_Ti Y_X7_upWhenTold [aR 51, aI (M 52 x7), aI (M 58 (x6 + x7))] SH M (fun z2 u1 => (-2147483648 ≤ (x4 + z2) ∧ (x4 + z2) ≤ 2147483647) ∧ (-2147483648 ≤ (x5 + 1) ∧ (x5 + 1) ≤ 2147483647) ∧ ax_Tv (Y_X7_goOnFrom r) [aR 51, aI x7, aI (M 58 (x6 + x7)), aI (bo_or x3 (bo_shl 1 x7)), aI (x4 + z2), aI (x5 + 1)] SH u1 (fun u3 => (-2147483648 ≤ (x7 + 1) ∧ (x7 + 1) ≤ 2147483647) ∧ ax_J (Y_X7_goOnFrom (r + 1)) (ax_Kv (Y_X7_goOnFrom (r + 1)) SH post) 0 0 46 [(0, aR 51), (3, aI x3), (4, aI x4), (5, aI x5), (6, aI x6), (7, aI (x7 + 1))] [] SH u3))))) ∧ (((M 58 (x6 + x7)) = (-1)) → (-2147483648 ≤ (x7 + 1) ∧ (x7 + 1) ≤ 2147483647) ∧ ax_J (Y_X7_goOnFrom (r + 1)) (ax_Kv (Y_X7_goOnFrom (r + 1)) SH post) 0 0 46 [(0, aR 51), (3, aI x3), (4, aI x4), (5, aI x5), (6, aI x6), (7, aI (x7 + 1))] [] SH M))))))))) : ax_J (Y_X7_goOnFrom (r + 1)) (ax_Kv (Y_X7_goOnFrom (r + 1)) SH post) 0 0 46 [(0, aR 51), (3, aI x3), (4, aI x4), (5, aI x5), (6, aI x6), (7, aI x7)] [] SH M := by
  refine j_iload 5 dX7_goOnFrom_46 rfl ?_
  refine j_aload_n 0 dX7_goOnFrom_48 rfl ?_
  refine j_geti (i := 4) dX7_goOnFrom_49 f_X7_57 sh_51 rfl rfl (fun _ => ?_)
  refine j_icmp_ge (tgt := 155) dX7_goOnFrom_52 (by decide) (fun c1 => ?_) (fun c1 => ?_)
  · replace h := h.1 c1
    exact j_vret dX7_goOnFrom_155 rfl ⟨Nat.le_of_ble_eq_true rfl, Nat.le_of_ble_eq_true rfl⟩ h
  · replace h := h.2 c1
    refine j_iload_n 1 dX7_goOnFrom_55 rfl ?_
    refine j_iconst (x := 1) dX7_goOnFrom_56 rfl (i32_c rfl) ?_
    refine j_iload 5 dX7_goOnFrom_57 rfl ?_
    refine j_ishl (z := (bo_shl 1 x7)) dX7_goOnFrom_59 rfl ?_
    refine j_ior (z := (bo_or x3 (bo_shl 1 x7))) dX7_goOnFrom_60 rfl ?_
    refine j_istore (ll' := [(8, aI (bo_or x3 (bo_shl 1 x7))), (0, aR 51), (3, aI x3), (4, aI x4), (5, aI x5), (6, aI x6), (7, aI x7)]) dX7_goOnFrom_61 (Nat.le_of_ble_eq_true rfl) rfl ?_
    refine j_aload_n 1 dX7_goOnFrom_63 rfl ?_
    refine j_getc 58 dX7_goOnFrom_64 f_X7_30 sh_51 rfl ?_
    refine j_iload 5 dX7_goOnFrom_67 rfl ?_
    refine j_iload 6 dX7_goOnFrom_69 rfl ?_
    obtain ⟨o2, h⟩ := h
    refine j_iadd (z := (x6 + x7)) dX7_goOnFrom_71 rfl o2 ?_
    obtain ⟨o3, h⟩ := h
    refine j_iald dX7_goOnFrom_72 sh_58 o3.1 o3.2 (fun _ => ?_)
    refine j_istore (ll' := [(9, aI (M 58 (x6 + x7))), (8, aI (bo_or x3 (bo_shl 1 x7))), (0, aR 51), (3, aI x3), (4, aI x4), (5, aI x5), (6, aI x6), (7, aI x7)]) dX7_goOnFrom_73 (Nat.le_of_ble_eq_true rfl) rfl ?_
    refine j_iload 1 dX7_goOnFrom_75 rfl ?_
    refine j_iload_n 3 dX7_goOnFrom_77 rfl ?_
    refine j_icmp_eq (tgt := 149) dX7_goOnFrom_78 (by decide) (fun c4 => ?_) (fun c4 => ?_)
    · replace h := h.1 c4
      obtain ⟨o5, h⟩ := h
      refine j_iinc (ll' := [(7, aI (x7 + 1)), (9, aI (M 58 (x6 + x7))), (8, aI (bo_or x3 (bo_shl 1 x7))), (0, aR 51), (3, aI x3), (4, aI x4), (5, aI x5), (6, aI x6)]) 7 dX7_goOnFrom_149 rfl (Nat.le_of_ble_eq_true rfl) o5 rfl ?_
      refine j_goto (tgt := 46) dX7_goOnFrom_152 (by decide) ?_
      refine j_sub [3, 4, 5, 6, 7, 0] rfl ?_
      exact h
    · replace h := h.2 c4
      refine j_iload 1 dX7_goOnFrom_81 rfl ?_
      refine j_aload_n 2 dX7_goOnFrom_83 rfl ?_
      refine j_geti (i := 14) dX7_goOnFrom_84 f_X7_89 sh_51 rfl rfl (fun _ => ?_)
      refine j_iconst (x := (-1)) dX7_goOnFrom_87 rfl (i32_c rfl) ?_
      refine j_ixor (z := (bo_xor (M 51 14) (-1))) dX7_goOnFrom_88 rfl ?_
      refine j_iand (z := (bo_and (bo_or x3 (bo_shl 1 x7)) (bo_xor (M 51 14) (-1)))) dX7_goOnFrom_89 rfl ?_
      refine j_if_ne (tgt := 149) dX7_goOnFrom_90 (by decide) (fun c6 => ?_) (fun c6 => ?_)
      · replace h := h.1 c6
        obtain ⟨o7, h⟩ := h
        refine j_iinc (ll' := [(7, aI (x7 + 1)), (9, aI (M 58 (x6 + x7))), (8, aI (bo_or x3 (bo_shl 1 x7))), (0, aR 51), (3, aI x3), (4, aI x4), (5, aI x5), (6, aI x6)]) 7 dX7_goOnFrom_149 rfl (Nat.le_of_ble_eq_true rfl) o7 rfl ?_
        refine j_goto (tgt := 46) dX7_goOnFrom_152 (by decide) ?_
        refine j_sub [3, 4, 5, 6, 7, 0] rfl ?_
        exact h
      · replace h := h.2 c6
        refine j_iload 0 dX7_goOnFrom_93 rfl ?_
        refine j_iconst (x := (-1)) dX7_goOnFrom_95 rfl (i32_c rfl) ?_
        refine j_icmp_ne (tgt := 102) dX7_goOnFrom_96 (by decide) (fun c8 => ?_) (fun c8 => ?_)
        · replace h := h.1 c8
          refine j_iload 0 dX7_goOnFrom_102 rfl ?_
          refine j_aload_n 2 dX7_goOnFrom_104 rfl ?_
          refine j_getc 55 dX7_goOnFrom_105 f_X7_21 sh_51 rfl ?_
          refine j_aload_n 2 dX7_goOnFrom_108 rfl ?_
          refine j_getc 52 dX7_goOnFrom_109 f_X7_9 sh_51 rfl ?_
          refine j_iload 7 dX7_goOnFrom_112 rfl ?_
          obtain ⟨o9, h⟩ := h
          refine j_iald dX7_goOnFrom_114 sh_52 o9.1 o9.2 (fun _ => ?_)
          obtain ⟨o10, h⟩ := h
          refine j_iald dX7_goOnFrom_115 sh_55 o10.1 o10.2 (fun _ => ?_)
          refine j_icmp_gt (tgt := 149) dX7_goOnFrom_116 (by decide) (fun c11 => ?_) (fun c11 => ?_)
          · replace h := h.1 c11
            obtain ⟨o12, h⟩ := h
            refine j_iinc (ll' := [(7, aI (x7 + 1)), (9, aI (M 58 (x6 + x7))), (8, aI (bo_or x3 (bo_shl 1 x7))), (0, aR 51), (3, aI x3), (4, aI x4), (5, aI x5), (6, aI x6)]) 7 dX7_goOnFrom_149 rfl (Nat.le_of_ble_eq_true rfl) o12 rfl ?_
            refine j_goto (tgt := 46) dX7_goOnFrom_152 (by decide) ?_
            refine j_sub [3, 4, 5, 6, 7, 0] rfl ?_
            exact h
          · replace h := h.2 c11
            refine j_aload_n 2 dX7_goOnFrom_119 rfl ?_
            refine j_iload 7 dX7_goOnFrom_120 rfl ?_
            refine j_iload 0 dX7_goOnFrom_122 rfl ?_
            refine j_iload 1 dX7_goOnFrom_124 rfl ?_
            refine j_iload 4 dX7_goOnFrom_126 rfl ?_
            refine j_aload_n 2 dX7_goOnFrom_128 rfl ?_
            refine j_aload_n 2 dX7_goOnFrom_129 rfl ?_
            refine j_getc 52 dX7_goOnFrom_130 f_X7_9 sh_51 rfl ?_
            refine j_iload 7 dX7_goOnFrom_133 rfl ?_
            refine j_iald dX7_goOnFrom_135 sh_52 o9.1 o9.2 (fun _ => ?_)
            refine j_iload 0 dX7_goOnFrom_136 rfl ?_
            refine j_calliV (Yc := Y_X7_upWhenTold) (as := [aI (M 52 x7), aI (M 58 (x6 + x7))]) (rest := [aI x4, aI (bo_or x3 (bo_shl 1 x7)), aI (M 58 (x6 + x7)), aI x7, aR 51]) dX7_goOnFrom_138 q_X7_121 ⟨show 2 + 1 ≤ 5 + (r + 1) by omega, Nat.le_of_ble_eq_true rfl, Nat.le_of_ble_eq_true rfl, Nat.le_of_ble_eq_true rfl⟩ sh_51 rfl (Nat.le_of_ble_eq_true rfl) rfl (ti_mono h (fun z2 u1 h => ?_))
            obtain ⟨o13, h⟩ := h
            refine j_iadd (z := (x4 + z2)) dX7_goOnFrom_141 rfl o13 ?_
            refine j_iload 5 dX7_goOnFrom_142 rfl ?_
            refine j_iconst (x := 1) dX7_goOnFrom_144 rfl (i32_c rfl) ?_
            obtain ⟨o14, h⟩ := h
            refine j_iadd (z := (x5 + 1)) dX7_goOnFrom_145 rfl o14 ?_
            refine j_callvS (Yc := (Y_X7_goOnFrom r)) (as := [aR 51, aI x7, aI (M 58 (x6 + x7)), aI (bo_or x3 (bo_shl 1 x7)), aI (x4 + z2), aI (x5 + 1)]) (rest := []) dX7_goOnFrom_146 q_X7_108 ⟨Nat.le_refl _, Nat.le_of_ble_eq_true rfl, Nat.le_of_ble_eq_true rfl, Nat.le_of_ble_eq_true rfl⟩ rfl (Nat.le_of_ble_eq_true rfl) rfl (tv_mono h (fun u3 h => ?_))
            obtain ⟨o15, h⟩ := h
            refine j_iinc (ll' := [(7, aI (x7 + 1)), (9, aI (M 58 (x6 + x7))), (8, aI (bo_or x3 (bo_shl 1 x7))), (0, aR 51), (3, aI x3), (4, aI x4), (5, aI x5), (6, aI x6)]) 7 dX7_goOnFrom_149 rfl (Nat.le_of_ble_eq_true rfl) o15 rfl ?_
            refine j_goto (tgt := 46) dX7_goOnFrom_152 (by decide) ?_
            refine j_sub [3, 4, 5, 6, 7, 0] rfl ?_
            exact h
        · replace h := h.2 c8
          refine j_goto (tgt := 149) dX7_goOnFrom_99 (by decide) ?_
          obtain ⟨o16, h⟩ := h
          refine j_iinc (ll' := [(7, aI (x7 + 1)), (9, aI (M 58 (x6 + x7))), (8, aI (bo_or x3 (bo_shl 1 x7))), (0, aR 51), (3, aI x3), (4, aI x4), (5, aI x5), (6, aI x6)]) 7 dX7_goOnFrom_149 rfl (Nat.le_of_ble_eq_true rfl) o16 rfl ?_
          refine j_goto (tgt := 46) dX7_goOnFrom_152 (by decide) ?_
          refine j_sub [3, 4, 5, 6, 7, 0] rfl ?_
          exact h
set_option maxRecDepth 100000 in
set_option maxHeartbeats 4000000 in
theorem B_X7_goOnFrom_57_0 {r : Nat} {post : ax_M → Prop} {M : ax_M} {x1 x2 x3 x4 x5 : Int} (h : ((M 51 13) = 57) ∧ (0 ≤ x3 ∧ x3 < 64) ∧ (((x3 = (M 51 14)) → post (ax_up M 57 x3 (max (M 57 x3) x4))) ∧ ((¬ x3 = (M 51 14)) → (((x5 < (M 51 4)) → ax_Ti Y_X7_soonestRow [aR 51, aI x1, aI x2] SH (ax_up M 57 x3 (max (M 57 x3) x4)) (fun z2 u1 => ax_J (Y_X7_goOnFrom (r + 1)) (ax_Kv (Y_X7_goOnFrom (r + 1)) SH post) 0 0 46 [(0, aR 51), (3, aI x3), (4, aI x4), (5, aI x5), (6, aI z2), (7, aI 0)] [] SH u1)) ∧ (((M 51 4) ≤ x5) → post (ax_up M 57 x3 (max (M 57 x3) x4))))))) : ax_J (Y_X7_goOnFrom (r + 1)) (ax_Kv (Y_X7_goOnFrom (r + 1)) SH post) 0 0 0 [(0, aR 51), (1, aI x1), (2, aI x2), (3, aI x3), (4, aI x4), (5, aI x5)] [] SH M := by
  refine j_aload_n 0 dX7_goOnFrom_0 rfl ?_
  obtain ⟨o1, h⟩ := h
  refine j_getr 57 (i := 13) dX7_goOnFrom_1 f_X7_36 sh_51 rfl rfl o1 ?_
  refine j_iload_n 3 dX7_goOnFrom_4 rfl ?_
  refine j_aload_n 0 dX7_goOnFrom_5 rfl ?_
  refine j_getr 57 (i := 13) dX7_goOnFrom_6 f_X7_36 sh_51 rfl rfl o1 ?_
  refine j_iload_n 3 dX7_goOnFrom_9 rfl ?_
  obtain ⟨o2, h⟩ := h
  refine j_iald dX7_goOnFrom_10 sh_57 o2.1 o2.2 (fun _ => ?_)
  refine j_iload 4 dX7_goOnFrom_11 rfl ?_
  refine j_mmax dX7_goOnFrom_13 (show Cond.methodLink RX7 112 Lib.Math.max.name ∈ ax_tb from ax_in 967 (by decide +kernel) rfl) ⟨Nat.le_of_ble_eq_true rfl, Nat.le_of_ble_eq_true rfl⟩ (Nat.le_trans (Nat.le_of_ble_eq_true rfl) (Nat.le_add_right _ _)) (Nat.le_of_ble_eq_true rfl) ?_
  refine j_iast dX7_goOnFrom_16 sh_57 o2.1 o2.2 ?_
  refine j_iload_n 3 dX7_goOnFrom_17 rfl ?_
  refine j_aload_n 0 dX7_goOnFrom_18 rfl ?_
  refine j_geti (i := 14) dX7_goOnFrom_19 f_X7_89 sh_51 rfl rfl (fun _ => ?_)
  refine j_icmp_eq (tgt := 34) dX7_goOnFrom_22 (by decide) (fun c3 => ?_) (fun c3 => ?_)
  · replace h := h.1 c3
    exact j_vret dX7_goOnFrom_34 rfl ⟨Nat.le_of_ble_eq_true rfl, Nat.le_of_ble_eq_true rfl⟩ h
  · replace h := h.2 c3
    refine j_iload 5 dX7_goOnFrom_25 rfl ?_
    refine j_aload_n 0 dX7_goOnFrom_27 rfl ?_
    refine j_geti (i := 4) dX7_goOnFrom_28 f_X7_57 sh_51 rfl rfl (fun _ => ?_)
    refine j_icmp_lt (tgt := 35) dX7_goOnFrom_31 (by decide) (fun c4 => ?_) (fun c4 => ?_)
    · replace h := h.1 c4
      refine j_aload_n 0 dX7_goOnFrom_35 rfl ?_
      refine j_iload_n 1 dX7_goOnFrom_36 rfl ?_
      refine j_iload_n 2 dX7_goOnFrom_37 rfl ?_
      refine j_calliV (Yc := Y_X7_soonestRow) (as := [aI x1, aI x2]) (rest := []) dX7_goOnFrom_38 q_X7_118 ⟨show 4 + 1 ≤ 5 + (r + 1) by omega, Nat.le_of_ble_eq_true rfl, Nat.le_of_ble_eq_true rfl, Nat.le_of_ble_eq_true rfl⟩ sh_51 rfl (Nat.le_of_ble_eq_true rfl) rfl (ti_mono h (fun z2 u1 h => ?_))
      refine j_istore (ll' := [(6, aI z2), (0, aR 51), (1, aI x1), (2, aI x2), (3, aI x3), (4, aI x4), (5, aI x5)]) dX7_goOnFrom_41 (Nat.le_of_ble_eq_true rfl) rfl ?_
      refine j_iconst (x := 0) dX7_goOnFrom_43 rfl (i32_c rfl) ?_
      refine j_istore (ll' := [(7, aI 0), (6, aI z2), (0, aR 51), (1, aI x1), (2, aI x2), (3, aI x3), (4, aI x4), (5, aI x5)]) dX7_goOnFrom_44 (Nat.le_of_ble_eq_true rfl) rfl ?_
      refine j_sub [2, 5, 6, 7, 1, 0] rfl ?_
      exact h
    · replace h := h.2 c4
      exact j_vret dX7_goOnFrom_34 rfl ⟨Nat.le_of_ble_eq_true rfl, Nat.le_of_ble_eq_true rfl⟩ h
theorem E_X7_goOnFrom_57 {r : Nat} {post : ax_M → Prop} {M : ax_M} {x1 x2 x3 x4 x5 : Int} (h : ax_mr SH M → ((M 51 13) = 57) ∧ (0 ≤ x3 ∧ x3 < 64) ∧ (((x3 = (M 51 14)) → post (ax_up M 57 x3 (max (M 57 x3) x4))) ∧ ((¬ x3 = (M 51 14)) → (((x5 < (M 51 4)) → ax_Ti Y_X7_soonestRow [aR 51, aI x1, aI x2] SH (ax_up M 57 x3 (max (M 57 x3) x4)) (fun z2 u1 => ax_J (Y_X7_goOnFrom (r + 1)) (ax_Kv (Y_X7_goOnFrom (r + 1)) SH post) 0 0 46 [(0, aR 51), (3, aI x3), (4, aI x4), (5, aI x5), (6, aI z2), (7, aI 0)] [] SH u1)) ∧ (((M 51 4) ≤ x5) → post (ax_up M 57 x3 (max (M 57 x3) x4))))))) : ax_Tv (Y_X7_goOnFrom (r + 1)) [aR 51, aI x1, aI x2, aI x3, aI x4, aI x5] SH M post :=
  tv_of rfl (Nat.le_of_ble_eq_true rfl) rfl (fun q => B_X7_goOnFrom_57_0 (h q))
set_option maxRecDepth 100000 in
set_option maxHeartbeats 4000000 in
theorem B_X7_goOnFrom_57_46 {r : Nat} {post : ax_M → Prop} {M : ax_M} {x3 x4 x5 x6 x7 : Int} (h : ((((M 51 4) ≤ x7) → post M) ∧ ((x7 < (M 51 4)) → (-2147483648 ≤ (x6 + x7) ∧ (x6 + x7) ≤ 2147483647) ∧ (0 ≤ (x6 + x7) ∧ (x6 + x7) < 4200) ∧ ((((bo_or x3 (bo_shl 1 x7)) = x3) → (-2147483648 ≤ (x7 + 1) ∧ (x7 + 1) ≤ 2147483647) ∧ ax_J (Y_X7_goOnFrom (r + 1)) (ax_Kv (Y_X7_goOnFrom (r + 1)) SH post) 0 0 46 [(0, aR 51), (3, aI x3), (4, aI x4), (5, aI x5), (6, aI x6), (7, aI (x7 + 1))] [] SH M) ∧ ((¬ (bo_or x3 (bo_shl 1 x7)) = x3) → (((¬ (bo_and (bo_or x3 (bo_shl 1 x7)) (bo_xor (M 51 14) (-1))) = 0) → (-2147483648 ≤ (x7 + 1) ∧ (x7 + 1) ≤ 2147483647) ∧ ax_J (Y_X7_goOnFrom (r + 1)) (ax_Kv (Y_X7_goOnFrom (r + 1)) SH post) 0 0 46 [(0, aR 51), (3, aI x3), (4, aI x4), (5, aI x5), (6, aI x6), (7, aI (x7 + 1))] [] SH M) ∧ (((bo_and (bo_or x3 (bo_shl 1 x7)) (bo_xor (M 51 14) (-1))) = 0) → (((¬ (M 58 (x6 + x7)) = (-1)) → (0 ≤ x7 ∧ x7 < 7) ∧ (0 ≤ (M 52 x7) ∧ (M 52 x7) < 12) ∧ ((((M 55 (M 52 x7)) < (M 58 (x6 + x7))) → (-2147483648 ≤ (x7 + 1) ∧ (x7 + 1) ≤ 2147483647) ∧ ax_J (Y_X7_goOnFrom (r + 1)) (ax_Kv (Y_X7_goOnFrom (r + 1)) SH post) 0 0 46 [(0, aR 51), (3, aI x3), (4, aI x4), (5, aI x5), (6, aI x6), (7, aI (x7 + 1))] [] SH M) ∧ (((M 58 (x6 + x7)) ≤ (M 55 (M 52 x7))) → ax_Ti Y_X7_upWhenTold [aR 51, aI (M 52 x7), aI (M 58 (x6 + x7))] SH M (fun z2 u1 => (-2147483648 ≤ (x4 + z2) ∧ (x4 + z2) ≤ 2147483647) ∧ (-2147483648 ≤ (x5 + 1) ∧ (x5 + 1) ≤ 2147483647) ∧ ax_Tv (Y_X7_goOnFrom r) [aR 51, aI x7, aI (M 58 (x6 + x7)), aI (bo_or x3 (bo_shl 1 x7)), aI (x4 + z2), aI (x5 + 1)] SH u1 (fun u3 => (-2147483648 ≤ (x7 + 1) ∧ (x7 + 1) ≤ 2147483647) ∧ ax_J (Y_X7_goOnFrom (r + 1)) (ax_Kv (Y_X7_goOnFrom (r + 1)) SH post) 0 0 46 [(0, aR 51), (3, aI x3), (4, aI x4), (5, aI x5), (6, aI x6), (7, aI (x7 + 1))] [] SH u3))))) ∧ (((M 58 (x6 + x7)) = (-1)) → (-2147483648 ≤ (x7 + 1) ∧ (x7 + 1) ≤ 2147483647) ∧ ax_J (Y_X7_goOnFrom (r + 1)) (ax_Kv (Y_X7_goOnFrom (r + 1)) SH post) 0 0 46 [(0, aR 51), (3, aI x3), (4, aI x4), (5, aI x5), (6, aI x6), (7, aI (x7 + 1))] [] SH M))))))))) : ax_J (Y_X7_goOnFrom (r + 1)) (ax_Kv (Y_X7_goOnFrom (r + 1)) SH post) 0 0 46 [(0, aR 51), (3, aI x3), (4, aI x4), (5, aI x5), (6, aI x6), (7, aI x7)] [] SH M := by
  refine j_iload 5 dX7_goOnFrom_46 rfl ?_
  refine j_aload_n 0 dX7_goOnFrom_48 rfl ?_
  refine j_geti (i := 4) dX7_goOnFrom_49 f_X7_57 sh_51 rfl rfl (fun _ => ?_)
  refine j_icmp_ge (tgt := 155) dX7_goOnFrom_52 (by decide) (fun c1 => ?_) (fun c1 => ?_)
  · replace h := h.1 c1
    exact j_vret dX7_goOnFrom_155 rfl ⟨Nat.le_of_ble_eq_true rfl, Nat.le_of_ble_eq_true rfl⟩ h
  · replace h := h.2 c1
    refine j_iload_n 1 dX7_goOnFrom_55 rfl ?_
    refine j_iconst (x := 1) dX7_goOnFrom_56 rfl (i32_c rfl) ?_
    refine j_iload 5 dX7_goOnFrom_57 rfl ?_
    refine j_ishl (z := (bo_shl 1 x7)) dX7_goOnFrom_59 rfl ?_
    refine j_ior (z := (bo_or x3 (bo_shl 1 x7))) dX7_goOnFrom_60 rfl ?_
    refine j_istore (ll' := [(8, aI (bo_or x3 (bo_shl 1 x7))), (0, aR 51), (3, aI x3), (4, aI x4), (5, aI x5), (6, aI x6), (7, aI x7)]) dX7_goOnFrom_61 (Nat.le_of_ble_eq_true rfl) rfl ?_
    refine j_aload_n 1 dX7_goOnFrom_63 rfl ?_
    refine j_getc 58 dX7_goOnFrom_64 f_X7_30 sh_51 rfl ?_
    refine j_iload 5 dX7_goOnFrom_67 rfl ?_
    refine j_iload 6 dX7_goOnFrom_69 rfl ?_
    obtain ⟨o2, h⟩ := h
    refine j_iadd (z := (x6 + x7)) dX7_goOnFrom_71 rfl o2 ?_
    obtain ⟨o3, h⟩ := h
    refine j_iald dX7_goOnFrom_72 sh_58 o3.1 o3.2 (fun _ => ?_)
    refine j_istore (ll' := [(9, aI (M 58 (x6 + x7))), (8, aI (bo_or x3 (bo_shl 1 x7))), (0, aR 51), (3, aI x3), (4, aI x4), (5, aI x5), (6, aI x6), (7, aI x7)]) dX7_goOnFrom_73 (Nat.le_of_ble_eq_true rfl) rfl ?_
    refine j_iload 1 dX7_goOnFrom_75 rfl ?_
    refine j_iload_n 3 dX7_goOnFrom_77 rfl ?_
    refine j_icmp_eq (tgt := 149) dX7_goOnFrom_78 (by decide) (fun c4 => ?_) (fun c4 => ?_)
    · replace h := h.1 c4
      obtain ⟨o5, h⟩ := h
      refine j_iinc (ll' := [(7, aI (x7 + 1)), (9, aI (M 58 (x6 + x7))), (8, aI (bo_or x3 (bo_shl 1 x7))), (0, aR 51), (3, aI x3), (4, aI x4), (5, aI x5), (6, aI x6)]) 7 dX7_goOnFrom_149 rfl (Nat.le_of_ble_eq_true rfl) o5 rfl ?_
      refine j_goto (tgt := 46) dX7_goOnFrom_152 (by decide) ?_
      refine j_sub [3, 4, 5, 6, 7, 0] rfl ?_
      exact h
    · replace h := h.2 c4
      refine j_iload 1 dX7_goOnFrom_81 rfl ?_
      refine j_aload_n 2 dX7_goOnFrom_83 rfl ?_
      refine j_geti (i := 14) dX7_goOnFrom_84 f_X7_89 sh_51 rfl rfl (fun _ => ?_)
      refine j_iconst (x := (-1)) dX7_goOnFrom_87 rfl (i32_c rfl) ?_
      refine j_ixor (z := (bo_xor (M 51 14) (-1))) dX7_goOnFrom_88 rfl ?_
      refine j_iand (z := (bo_and (bo_or x3 (bo_shl 1 x7)) (bo_xor (M 51 14) (-1)))) dX7_goOnFrom_89 rfl ?_
      refine j_if_ne (tgt := 149) dX7_goOnFrom_90 (by decide) (fun c6 => ?_) (fun c6 => ?_)
      · replace h := h.1 c6
        obtain ⟨o7, h⟩ := h
        refine j_iinc (ll' := [(7, aI (x7 + 1)), (9, aI (M 58 (x6 + x7))), (8, aI (bo_or x3 (bo_shl 1 x7))), (0, aR 51), (3, aI x3), (4, aI x4), (5, aI x5), (6, aI x6)]) 7 dX7_goOnFrom_149 rfl (Nat.le_of_ble_eq_true rfl) o7 rfl ?_
        refine j_goto (tgt := 46) dX7_goOnFrom_152 (by decide) ?_
        refine j_sub [3, 4, 5, 6, 7, 0] rfl ?_
        exact h
      · replace h := h.2 c6
        refine j_iload 0 dX7_goOnFrom_93 rfl ?_
        refine j_iconst (x := (-1)) dX7_goOnFrom_95 rfl (i32_c rfl) ?_
        refine j_icmp_ne (tgt := 102) dX7_goOnFrom_96 (by decide) (fun c8 => ?_) (fun c8 => ?_)
        · replace h := h.1 c8
          refine j_iload 0 dX7_goOnFrom_102 rfl ?_
          refine j_aload_n 2 dX7_goOnFrom_104 rfl ?_
          refine j_getc 55 dX7_goOnFrom_105 f_X7_21 sh_51 rfl ?_
          refine j_aload_n 2 dX7_goOnFrom_108 rfl ?_
          refine j_getc 52 dX7_goOnFrom_109 f_X7_9 sh_51 rfl ?_
          refine j_iload 7 dX7_goOnFrom_112 rfl ?_
          obtain ⟨o9, h⟩ := h
          refine j_iald dX7_goOnFrom_114 sh_52 o9.1 o9.2 (fun _ => ?_)
          obtain ⟨o10, h⟩ := h
          refine j_iald dX7_goOnFrom_115 sh_55 o10.1 o10.2 (fun _ => ?_)
          refine j_icmp_gt (tgt := 149) dX7_goOnFrom_116 (by decide) (fun c11 => ?_) (fun c11 => ?_)
          · replace h := h.1 c11
            obtain ⟨o12, h⟩ := h
            refine j_iinc (ll' := [(7, aI (x7 + 1)), (9, aI (M 58 (x6 + x7))), (8, aI (bo_or x3 (bo_shl 1 x7))), (0, aR 51), (3, aI x3), (4, aI x4), (5, aI x5), (6, aI x6)]) 7 dX7_goOnFrom_149 rfl (Nat.le_of_ble_eq_true rfl) o12 rfl ?_
            refine j_goto (tgt := 46) dX7_goOnFrom_152 (by decide) ?_
            refine j_sub [3, 4, 5, 6, 7, 0] rfl ?_
            exact h
          · replace h := h.2 c11
            refine j_aload_n 2 dX7_goOnFrom_119 rfl ?_
            refine j_iload 7 dX7_goOnFrom_120 rfl ?_
            refine j_iload 0 dX7_goOnFrom_122 rfl ?_
            refine j_iload 1 dX7_goOnFrom_124 rfl ?_
            refine j_iload 4 dX7_goOnFrom_126 rfl ?_
            refine j_aload_n 2 dX7_goOnFrom_128 rfl ?_
            refine j_aload_n 2 dX7_goOnFrom_129 rfl ?_
            refine j_getc 52 dX7_goOnFrom_130 f_X7_9 sh_51 rfl ?_
            refine j_iload 7 dX7_goOnFrom_133 rfl ?_
            refine j_iald dX7_goOnFrom_135 sh_52 o9.1 o9.2 (fun _ => ?_)
            refine j_iload 0 dX7_goOnFrom_136 rfl ?_
            refine j_calliV (Yc := Y_X7_upWhenTold) (as := [aI (M 52 x7), aI (M 58 (x6 + x7))]) (rest := [aI x4, aI (bo_or x3 (bo_shl 1 x7)), aI (M 58 (x6 + x7)), aI x7, aR 51]) dX7_goOnFrom_138 q_X7_121 ⟨show 2 + 1 ≤ 5 + (r + 1) by omega, Nat.le_of_ble_eq_true rfl, Nat.le_of_ble_eq_true rfl, Nat.le_of_ble_eq_true rfl⟩ sh_51 rfl (Nat.le_of_ble_eq_true rfl) rfl (ti_mono h (fun z2 u1 h => ?_))
            obtain ⟨o13, h⟩ := h
            refine j_iadd (z := (x4 + z2)) dX7_goOnFrom_141 rfl o13 ?_
            refine j_iload 5 dX7_goOnFrom_142 rfl ?_
            refine j_iconst (x := 1) dX7_goOnFrom_144 rfl (i32_c rfl) ?_
            obtain ⟨o14, h⟩ := h
            refine j_iadd (z := (x5 + 1)) dX7_goOnFrom_145 rfl o14 ?_
            refine j_callvS (Yc := (Y_X7_goOnFrom r)) (as := [aR 51, aI x7, aI (M 58 (x6 + x7)), aI (bo_or x3 (bo_shl 1 x7)), aI (x4 + z2), aI (x5 + 1)]) (rest := []) dX7_goOnFrom_146 q_X7_108 ⟨Nat.le_refl _, Nat.le_of_ble_eq_true rfl, Nat.le_of_ble_eq_true rfl, Nat.le_of_ble_eq_true rfl⟩ rfl (Nat.le_of_ble_eq_true rfl) rfl (tv_mono h (fun u3 h => ?_))
            obtain ⟨o15, h⟩ := h
            refine j_iinc (ll' := [(7, aI (x7 + 1)), (9, aI (M 58 (x6 + x7))), (8, aI (bo_or x3 (bo_shl 1 x7))), (0, aR 51), (3, aI x3), (4, aI x4), (5, aI x5), (6, aI x6)]) 7 dX7_goOnFrom_149 rfl (Nat.le_of_ble_eq_true rfl) o15 rfl ?_
            refine j_goto (tgt := 46) dX7_goOnFrom_152 (by decide) ?_
            refine j_sub [3, 4, 5, 6, 7, 0] rfl ?_
            exact h
        · replace h := h.2 c8
          refine j_goto (tgt := 149) dX7_goOnFrom_99 (by decide) ?_
          obtain ⟨o16, h⟩ := h
          refine j_iinc (ll' := [(7, aI (x7 + 1)), (9, aI (M 58 (x6 + x7))), (8, aI (bo_or x3 (bo_shl 1 x7))), (0, aR 51), (3, aI x3), (4, aI x4), (5, aI x5), (6, aI x6)]) 7 dX7_goOnFrom_149 rfl (Nat.le_of_ble_eq_true rfl) o16 rfl ?_
          refine j_goto (tgt := 46) dX7_goOnFrom_152 (by decide) ?_
          refine j_sub [3, 4, 5, 6, 7, 0] rfl ?_
          exact h
set_option maxRecDepth 100000 in
set_option maxHeartbeats 4000000 in
theorem B_J7_fill_53178_56_0 {post : ax_M → Prop} {M : ax_M} {x1 : Int} (h : ax_J Y_J7_fill_53178 (ax_Kv Y_J7_fill_53178 SH post) 0 0 5 [(0, aR 56), (1, aI x1), (2, aI 0), (3, aI 64)] [] SH M) : ax_J Y_J7_fill_53178 (ax_Kv Y_J7_fill_53178 SH post) 0 0 0 [(0, aR 56), (1, aI x1)] [] SH M := by
  refine j_iconst (x := 0) dJ7_fill_53178_0 rfl (i32_c rfl) ?_
  refine j_istore_n (ll' := [(2, aI 0), (0, aR 56), (1, aI x1)]) dJ7_fill_53178_1 (Nat.le_of_ble_eq_true rfl) rfl ?_
  refine j_aload_n 1 dJ7_fill_53178_2 rfl ?_
  refine j_alen (v := 64) dJ7_fill_53178_3 sh_56 (by decide) (by decide) rfl ?_
  refine j_istore_n (ll' := [(3, aI 64), (2, aI 0), (0, aR 56), (1, aI x1)]) dJ7_fill_53178_4 (Nat.le_of_ble_eq_true rfl) rfl ?_
  refine j_sub [2, 3, 1, 0] rfl ?_
  exact h
theorem E_J7_fill_53178_56 {post : ax_M → Prop} {M : ax_M} {x1 : Int} (h : ax_mr SH M → ax_J Y_J7_fill_53178 (ax_Kv Y_J7_fill_53178 SH post) 0 0 5 [(0, aR 56), (1, aI x1), (2, aI 0), (3, aI 64)] [] SH M) : ax_Tv Y_J7_fill_53178 [aR 56, aI x1] SH M post :=
  tv_of rfl (Nat.le_of_ble_eq_true rfl) rfl (fun q => B_J7_fill_53178_56_0 (h q))
set_option maxRecDepth 100000 in
set_option maxHeartbeats 4000000 in
theorem B_J7_fill_53178_56_5 {post : ax_M → Prop} {M : ax_M} {x1 x2 x3 : Int} (h : (((x3 ≤ x2) → post M) ∧ ((x2 < x3) → (0 ≤ x2 ∧ x2 < 64) ∧ (-2147483648 ≤ (x2 + 1) ∧ (x2 + 1) ≤ 2147483647) ∧ ax_J Y_J7_fill_53178 (ax_Kv Y_J7_fill_53178 SH post) 0 0 5 [(0, aR 56), (1, aI x1), (2, aI (x2 + 1)), (3, aI x3)] [] SH (ax_up M 56 x2 x1)))) : ax_J Y_J7_fill_53178 (ax_Kv Y_J7_fill_53178 SH post) 0 0 5 [(0, aR 56), (1, aI x1), (2, aI x2), (3, aI x3)] [] SH M := by
  refine j_iload_n 2 dJ7_fill_53178_5 rfl ?_
  refine j_iload_n 3 dJ7_fill_53178_6 rfl ?_
  refine j_icmp_ge (tgt := 20) dJ7_fill_53178_7 (by decide) (fun c1 => ?_) (fun c1 => ?_)
  · replace h := h.1 c1
    exact j_vret dJ7_fill_53178_20 rfl ⟨Nat.le_of_ble_eq_true rfl, Nat.le_of_ble_eq_true rfl⟩ h
  · replace h := h.2 c1
    refine j_aload_n 0 dJ7_fill_53178_10 rfl ?_
    refine j_iload_n 2 dJ7_fill_53178_11 rfl ?_
    refine j_iload_n 1 dJ7_fill_53178_12 rfl ?_
    obtain ⟨o2, h⟩ := h
    refine j_iast dJ7_fill_53178_13 sh_56 o2.1 o2.2 ?_
    obtain ⟨o3, h⟩ := h
    refine j_iinc (ll' := [(2, aI (x2 + 1)), (0, aR 56), (1, aI x1), (3, aI x3)]) 2 dJ7_fill_53178_14 rfl (Nat.le_of_ble_eq_true rfl) o3 rfl ?_
    refine j_goto (tgt := 5) dJ7_fill_53178_17 (by decide) ?_
    refine j_sub [1, 2, 0, 3] rfl ?_
    exact h
set_option maxRecDepth 100000 in
set_option maxHeartbeats 4000000 in
theorem B_J6_bitCount_0f7a4_0 {post : Int → ax_M → Prop} {M : ax_M} {x0 : Int} (h : (-2147483648 ≤ (x0 - (bo_and (bo_ushr x0 1) 1431655765)) ∧ (x0 - (bo_and (bo_ushr x0 1) 1431655765)) ≤ 2147483647) ∧ (-2147483648 ≤ ((bo_and (x0 - (bo_and (bo_ushr x0 1) 1431655765)) 858993459) + (bo_and (bo_ushr (x0 - (bo_and (bo_ushr x0 1) 1431655765)) 2) 858993459)) ∧ ((bo_and (x0 - (bo_and (bo_ushr x0 1) 1431655765)) 858993459) + (bo_and (bo_ushr (x0 - (bo_and (bo_ushr x0 1) 1431655765)) 2) 858993459)) ≤ 2147483647) ∧ (-2147483648 ≤ (((bo_and (x0 - (bo_and (bo_ushr x0 1) 1431655765)) 858993459) + (bo_and (bo_ushr (x0 - (bo_and (bo_ushr x0 1) 1431655765)) 2) 858993459)) + (bo_ushr ((bo_and (x0 - (bo_and (bo_ushr x0 1) 1431655765)) 858993459) + (bo_and (bo_ushr (x0 - (bo_and (bo_ushr x0 1) 1431655765)) 2) 858993459)) 4)) ∧ (((bo_and (x0 - (bo_and (bo_ushr x0 1) 1431655765)) 858993459) + (bo_and (bo_ushr (x0 - (bo_and (bo_ushr x0 1) 1431655765)) 2) 858993459)) + (bo_ushr ((bo_and (x0 - (bo_and (bo_ushr x0 1) 1431655765)) 858993459) + (bo_and (bo_ushr (x0 - (bo_and (bo_ushr x0 1) 1431655765)) 2) 858993459)) 4)) ≤ 2147483647) ∧ (-2147483648 ≤ ((bo_and (((bo_and (x0 - (bo_and (bo_ushr x0 1) 1431655765)) 858993459) + (bo_and (bo_ushr (x0 - (bo_and (bo_ushr x0 1) 1431655765)) 2) 858993459)) + (bo_ushr ((bo_and (x0 - (bo_and (bo_ushr x0 1) 1431655765)) 858993459) + (bo_and (bo_ushr (x0 - (bo_and (bo_ushr x0 1) 1431655765)) 2) 858993459)) 4)) 252645135) + (bo_ushr (bo_and (((bo_and (x0 - (bo_and (bo_ushr x0 1) 1431655765)) 858993459) + (bo_and (bo_ushr (x0 - (bo_and (bo_ushr x0 1) 1431655765)) 2) 858993459)) + (bo_ushr ((bo_and (x0 - (bo_and (bo_ushr x0 1) 1431655765)) 858993459) + (bo_and (bo_ushr (x0 - (bo_and (bo_ushr x0 1) 1431655765)) 2) 858993459)) 4)) 252645135) 8)) ∧ ((bo_and (((bo_and (x0 - (bo_and (bo_ushr x0 1) 1431655765)) 858993459) + (bo_and (bo_ushr (x0 - (bo_and (bo_ushr x0 1) 1431655765)) 2) 858993459)) + (bo_ushr ((bo_and (x0 - (bo_and (bo_ushr x0 1) 1431655765)) 858993459) + (bo_and (bo_ushr (x0 - (bo_and (bo_ushr x0 1) 1431655765)) 2) 858993459)) 4)) 252645135) + (bo_ushr (bo_and (((bo_and (x0 - (bo_and (bo_ushr x0 1) 1431655765)) 858993459) + (bo_and (bo_ushr (x0 - (bo_and (bo_ushr x0 1) 1431655765)) 2) 858993459)) + (bo_ushr ((bo_and (x0 - (bo_and (bo_ushr x0 1) 1431655765)) 858993459) + (bo_and (bo_ushr (x0 - (bo_and (bo_ushr x0 1) 1431655765)) 2) 858993459)) 4)) 252645135) 8)) ≤ 2147483647) ∧ (-2147483648 ≤ (((bo_and (((bo_and (x0 - (bo_and (bo_ushr x0 1) 1431655765)) 858993459) + (bo_and (bo_ushr (x0 - (bo_and (bo_ushr x0 1) 1431655765)) 2) 858993459)) + (bo_ushr ((bo_and (x0 - (bo_and (bo_ushr x0 1) 1431655765)) 858993459) + (bo_and (bo_ushr (x0 - (bo_and (bo_ushr x0 1) 1431655765)) 2) 858993459)) 4)) 252645135) + (bo_ushr (bo_and (((bo_and (x0 - (bo_and (bo_ushr x0 1) 1431655765)) 858993459) + (bo_and (bo_ushr (x0 - (bo_and (bo_ushr x0 1) 1431655765)) 2) 858993459)) + (bo_ushr ((bo_and (x0 - (bo_and (bo_ushr x0 1) 1431655765)) 858993459) + (bo_and (bo_ushr (x0 - (bo_and (bo_ushr x0 1) 1431655765)) 2) 858993459)) 4)) 252645135) 8)) + (bo_ushr ((bo_and (((bo_and (x0 - (bo_and (bo_ushr x0 1) 1431655765)) 858993459) + (bo_and (bo_ushr (x0 - (bo_and (bo_ushr x0 1) 1431655765)) 2) 858993459)) + (bo_ushr ((bo_and (x0 - (bo_and (bo_ushr x0 1) 1431655765)) 858993459) + (bo_and (bo_ushr (x0 - (bo_and (bo_ushr x0 1) 1431655765)) 2) 858993459)) 4)) 252645135) + (bo_ushr (bo_and (((bo_and (x0 - (bo_and (bo_ushr x0 1) 1431655765)) 858993459) + (bo_and (bo_ushr (x0 - (bo_and (bo_ushr x0 1) 1431655765)) 2) 858993459)) + (bo_ushr ((bo_and (x0 - (bo_and (bo_ushr x0 1) 1431655765)) 858993459) + (bo_and (bo_ushr (x0 - (bo_and (bo_ushr x0 1) 1431655765)) 2) 858993459)) 4)) 252645135) 8)) 16)) ∧ (((bo_and (((bo_and (x0 - (bo_and (bo_ushr x0 1) 1431655765)) 858993459) + (bo_and (bo_ushr (x0 - (bo_and (bo_ushr x0 1) 1431655765)) 2) 858993459)) + (bo_ushr ((bo_and (x0 - (bo_and (bo_ushr x0 1) 1431655765)) 858993459) + (bo_and (bo_ushr (x0 - (bo_and (bo_ushr x0 1) 1431655765)) 2) 858993459)) 4)) 252645135) + (bo_ushr (bo_and (((bo_and (x0 - (bo_and (bo_ushr x0 1) 1431655765)) 858993459) + (bo_and (bo_ushr (x0 - (bo_and (bo_ushr x0 1) 1431655765)) 2) 858993459)) + (bo_ushr ((bo_and (x0 - (bo_and (bo_ushr x0 1) 1431655765)) 858993459) + (bo_and (bo_ushr (x0 - (bo_and (bo_ushr x0 1) 1431655765)) 2) 858993459)) 4)) 252645135) 8)) + (bo_ushr ((bo_and (((bo_and (x0 - (bo_and (bo_ushr x0 1) 1431655765)) 858993459) + (bo_and (bo_ushr (x0 - (bo_and (bo_ushr x0 1) 1431655765)) 2) 858993459)) + (bo_ushr ((bo_and (x0 - (bo_and (bo_ushr x0 1) 1431655765)) 858993459) + (bo_and (bo_ushr (x0 - (bo_and (bo_ushr x0 1) 1431655765)) 2) 858993459)) 4)) 252645135) + (bo_ushr (bo_and (((bo_and (x0 - (bo_and (bo_ushr x0 1) 1431655765)) 858993459) + (bo_and (bo_ushr (x0 - (bo_and (bo_ushr x0 1) 1431655765)) 2) 858993459)) + (bo_ushr ((bo_and (x0 - (bo_and (bo_ushr x0 1) 1431655765)) 858993459) + (bo_and (bo_ushr (x0 - (bo_and (bo_ushr x0 1) 1431655765)) 2) 858993459)) 4)) 252645135) 8)) 16)) ≤ 2147483647) ∧ post (bo_and (((bo_and (((bo_and (x0 - (bo_and (bo_ushr x0 1) 1431655765)) 858993459) + (bo_and (bo_ushr (x0 - (bo_and (bo_ushr x0 1) 1431655765)) 2) 858993459)) + (bo_ushr ((bo_and (x0 - (bo_and (bo_ushr x0 1) 1431655765)) 858993459) + (bo_and (bo_ushr (x0 - (bo_and (bo_ushr x0 1) 1431655765)) 2) 858993459)) 4)) 252645135) + (bo_ushr (bo_and (((bo_and (x0 - (bo_and (bo_ushr x0 1) 1431655765)) 858993459) + (bo_and (bo_ushr (x0 - (bo_and (bo_ushr x0 1) 1431655765)) 2) 858993459)) + (bo_ushr ((bo_and (x0 - (bo_and (bo_ushr x0 1) 1431655765)) 858993459) + (bo_and (bo_ushr (x0 - (bo_and (bo_ushr x0 1) 1431655765)) 2) 858993459)) 4)) 252645135) 8)) + (bo_ushr ((bo_and (((bo_and (x0 - (bo_and (bo_ushr x0 1) 1431655765)) 858993459) + (bo_and (bo_ushr (x0 - (bo_and (bo_ushr x0 1) 1431655765)) 2) 858993459)) + (bo_ushr ((bo_and (x0 - (bo_and (bo_ushr x0 1) 1431655765)) 858993459) + (bo_and (bo_ushr (x0 - (bo_and (bo_ushr x0 1) 1431655765)) 2) 858993459)) 4)) 252645135) + (bo_ushr (bo_and (((bo_and (x0 - (bo_and (bo_ushr x0 1) 1431655765)) 858993459) + (bo_and (bo_ushr (x0 - (bo_and (bo_ushr x0 1) 1431655765)) 2) 858993459)) + (bo_ushr ((bo_and (x0 - (bo_and (bo_ushr x0 1) 1431655765)) 858993459) + (bo_and (bo_ushr (x0 - (bo_and (bo_ushr x0 1) 1431655765)) 2) 858993459)) 4)) 252645135) 8)) 16)) 63) M) : ax_J Y_J6_bitCount_0f7a4 (ax_Ki Y_J6_bitCount_0f7a4 SH post) 0 0 0 [(0, aI x0)] [] SH M := by
  refine j_iload_n 0 dJ6_bitCount_0f7a4_0 rfl ?_
  refine j_iload_n 0 dJ6_bitCount_0f7a4_1 rfl ?_
  refine j_iconst (x := 1) dJ6_bitCount_0f7a4_2 rfl (i32_c rfl) ?_
  refine j_iushr dJ6_bitCount_0f7a4_3 ?_
  refine j_ldcw (x := 1431655765) dJ6_bitCount_0f7a4_4 (ax_in 940 (by decide +kernel) rfl) (i32_c rfl) ?_
  refine j_iand (z := (bo_and (bo_ushr x0 1) 1431655765)) dJ6_bitCount_0f7a4_7 rfl ?_
  obtain ⟨o1, h⟩ := h
  refine j_isub (z := (x0 - (bo_and (bo_ushr x0 1) 1431655765))) dJ6_bitCount_0f7a4_8 rfl o1 ?_
  refine j_istore_n (ll' := [(0, aI (x0 - (bo_and (bo_ushr x0 1) 1431655765)))]) dJ6_bitCount_0f7a4_9 (Nat.le_of_ble_eq_true rfl) rfl ?_
  refine j_iload_n 0 dJ6_bitCount_0f7a4_10 rfl ?_
  refine j_ldcw (x := 858993459) dJ6_bitCount_0f7a4_11 (ax_in 941 (by decide +kernel) rfl) (i32_c rfl) ?_
  refine j_iand (z := (bo_and (x0 - (bo_and (bo_ushr x0 1) 1431655765)) 858993459)) dJ6_bitCount_0f7a4_14 rfl ?_
  refine j_iload_n 0 dJ6_bitCount_0f7a4_15 rfl ?_
  refine j_iconst (x := 2) dJ6_bitCount_0f7a4_16 rfl (i32_c rfl) ?_
  refine j_iushr dJ6_bitCount_0f7a4_17 ?_
  refine j_ldcw (x := 858993459) dJ6_bitCount_0f7a4_18 (ax_in 941 (by decide +kernel) rfl) (i32_c rfl) ?_
  refine j_iand (z := (bo_and (bo_ushr (x0 - (bo_and (bo_ushr x0 1) 1431655765)) 2) 858993459)) dJ6_bitCount_0f7a4_21 rfl ?_
  obtain ⟨o2, h⟩ := h
  refine j_iadd (z := ((bo_and (x0 - (bo_and (bo_ushr x0 1) 1431655765)) 858993459) + (bo_and (bo_ushr (x0 - (bo_and (bo_ushr x0 1) 1431655765)) 2) 858993459))) dJ6_bitCount_0f7a4_22 rfl o2 ?_
  refine j_istore_n (ll' := [(0, aI ((bo_and (x0 - (bo_and (bo_ushr x0 1) 1431655765)) 858993459) + (bo_and (bo_ushr (x0 - (bo_and (bo_ushr x0 1) 1431655765)) 2) 858993459)))]) dJ6_bitCount_0f7a4_23 (Nat.le_of_ble_eq_true rfl) rfl ?_
  refine j_iload_n 0 dJ6_bitCount_0f7a4_24 rfl ?_
  refine j_iload_n 0 dJ6_bitCount_0f7a4_25 rfl ?_
  refine j_iconst (x := 4) dJ6_bitCount_0f7a4_26 rfl (i32_c rfl) ?_
  refine j_iushr dJ6_bitCount_0f7a4_27 ?_
  obtain ⟨o3, h⟩ := h
  refine j_iadd (z := (((bo_and (x0 - (bo_and (bo_ushr x0 1) 1431655765)) 858993459) + (bo_and (bo_ushr (x0 - (bo_and (bo_ushr x0 1) 1431655765)) 2) 858993459)) + (bo_ushr ((bo_and (x0 - (bo_and (bo_ushr x0 1) 1431655765)) 858993459) + (bo_and (bo_ushr (x0 - (bo_and (bo_ushr x0 1) 1431655765)) 2) 858993459)) 4))) dJ6_bitCount_0f7a4_28 rfl o3 ?_
  refine j_ldcw (x := 252645135) dJ6_bitCount_0f7a4_29 (ax_in 942 (by decide +kernel) rfl) (i32_c rfl) ?_
  refine j_iand (z := (bo_and (((bo_and (x0 - (bo_and (bo_ushr x0 1) 1431655765)) 858993459) + (bo_and (bo_ushr (x0 - (bo_and (bo_ushr x0 1) 1431655765)) 2) 858993459)) + (bo_ushr ((bo_and (x0 - (bo_and (bo_ushr x0 1) 1431655765)) 858993459) + (bo_and (bo_ushr (x0 - (bo_and (bo_ushr x0 1) 1431655765)) 2) 858993459)) 4)) 252645135)) dJ6_bitCount_0f7a4_32 rfl ?_
  refine j_istore_n (ll' := [(0, aI (bo_and (((bo_and (x0 - (bo_and (bo_ushr x0 1) 1431655765)) 858993459) + (bo_and (bo_ushr (x0 - (bo_and (bo_ushr x0 1) 1431655765)) 2) 858993459)) + (bo_ushr ((bo_and (x0 - (bo_and (bo_ushr x0 1) 1431655765)) 858993459) + (bo_and (bo_ushr (x0 - (bo_and (bo_ushr x0 1) 1431655765)) 2) 858993459)) 4)) 252645135))]) dJ6_bitCount_0f7a4_33 (Nat.le_of_ble_eq_true rfl) rfl ?_
  refine j_iload_n 0 dJ6_bitCount_0f7a4_34 rfl ?_
  refine j_iload_n 0 dJ6_bitCount_0f7a4_35 rfl ?_
  refine j_bipush (x := 8) dJ6_bitCount_0f7a4_36 rfl (i32_c rfl) ?_
  refine j_iushr dJ6_bitCount_0f7a4_38 ?_
  obtain ⟨o4, h⟩ := h
  refine j_iadd (z := ((bo_and (((bo_and (x0 - (bo_and (bo_ushr x0 1) 1431655765)) 858993459) + (bo_and (bo_ushr (x0 - (bo_and (bo_ushr x0 1) 1431655765)) 2) 858993459)) + (bo_ushr ((bo_and (x0 - (bo_and (bo_ushr x0 1) 1431655765)) 858993459) + (bo_and (bo_ushr (x0 - (bo_and (bo_ushr x0 1) 1431655765)) 2) 858993459)) 4)) 252645135) + (bo_ushr (bo_and (((bo_and (x0 - (bo_and (bo_ushr x0 1) 1431655765)) 858993459) + (bo_and (bo_ushr (x0 - (bo_and (bo_ushr x0 1) 1431655765)) 2) 858993459)) + (bo_ushr ((bo_and (x0 - (bo_and (bo_ushr x0 1) 1431655765)) 858993459) + (bo_and (bo_ushr (x0 - (bo_and (bo_ushr x0 1) 1431655765)) 2) 858993459)) 4)) 252645135) 8))) dJ6_bitCount_0f7a4_39 rfl o4 ?_
  refine j_istore_n (ll' := [(0, aI ((bo_and (((bo_and (x0 - (bo_and (bo_ushr x0 1) 1431655765)) 858993459) + (bo_and (bo_ushr (x0 - (bo_and (bo_ushr x0 1) 1431655765)) 2) 858993459)) + (bo_ushr ((bo_and (x0 - (bo_and (bo_ushr x0 1) 1431655765)) 858993459) + (bo_and (bo_ushr (x0 - (bo_and (bo_ushr x0 1) 1431655765)) 2) 858993459)) 4)) 252645135) + (bo_ushr (bo_and (((bo_and (x0 - (bo_and (bo_ushr x0 1) 1431655765)) 858993459) + (bo_and (bo_ushr (x0 - (bo_and (bo_ushr x0 1) 1431655765)) 2) 858993459)) + (bo_ushr ((bo_and (x0 - (bo_and (bo_ushr x0 1) 1431655765)) 858993459) + (bo_and (bo_ushr (x0 - (bo_and (bo_ushr x0 1) 1431655765)) 2) 858993459)) 4)) 252645135) 8)))]) dJ6_bitCount_0f7a4_40 (Nat.le_of_ble_eq_true rfl) rfl ?_
  refine j_iload_n 0 dJ6_bitCount_0f7a4_41 rfl ?_
  refine j_iload_n 0 dJ6_bitCount_0f7a4_42 rfl ?_
  refine j_bipush (x := 16) dJ6_bitCount_0f7a4_43 rfl (i32_c rfl) ?_
  refine j_iushr dJ6_bitCount_0f7a4_45 ?_
  obtain ⟨o5, h⟩ := h
  refine j_iadd (z := (((bo_and (((bo_and (x0 - (bo_and (bo_ushr x0 1) 1431655765)) 858993459) + (bo_and (bo_ushr (x0 - (bo_and (bo_ushr x0 1) 1431655765)) 2) 858993459)) + (bo_ushr ((bo_and (x0 - (bo_and (bo_ushr x0 1) 1431655765)) 858993459) + (bo_and (bo_ushr (x0 - (bo_and (bo_ushr x0 1) 1431655765)) 2) 858993459)) 4)) 252645135) + (bo_ushr (bo_and (((bo_and (x0 - (bo_and (bo_ushr x0 1) 1431655765)) 858993459) + (bo_and (bo_ushr (x0 - (bo_and (bo_ushr x0 1) 1431655765)) 2) 858993459)) + (bo_ushr ((bo_and (x0 - (bo_and (bo_ushr x0 1) 1431655765)) 858993459) + (bo_and (bo_ushr (x0 - (bo_and (bo_ushr x0 1) 1431655765)) 2) 858993459)) 4)) 252645135) 8)) + (bo_ushr ((bo_and (((bo_and (x0 - (bo_and (bo_ushr x0 1) 1431655765)) 858993459) + (bo_and (bo_ushr (x0 - (bo_and (bo_ushr x0 1) 1431655765)) 2) 858993459)) + (bo_ushr ((bo_and (x0 - (bo_and (bo_ushr x0 1) 1431655765)) 858993459) + (bo_and (bo_ushr (x0 - (bo_and (bo_ushr x0 1) 1431655765)) 2) 858993459)) 4)) 252645135) + (bo_ushr (bo_and (((bo_and (x0 - (bo_and (bo_ushr x0 1) 1431655765)) 858993459) + (bo_and (bo_ushr (x0 - (bo_and (bo_ushr x0 1) 1431655765)) 2) 858993459)) + (bo_ushr ((bo_and (x0 - (bo_and (bo_ushr x0 1) 1431655765)) 858993459) + (bo_and (bo_ushr (x0 - (bo_and (bo_ushr x0 1) 1431655765)) 2) 858993459)) 4)) 252645135) 8)) 16))) dJ6_bitCount_0f7a4_46 rfl o5 ?_
  refine j_istore_n (ll' := [(0, aI (((bo_and (((bo_and (x0 - (bo_and (bo_ushr x0 1) 1431655765)) 858993459) + (bo_and (bo_ushr (x0 - (bo_and (bo_ushr x0 1) 1431655765)) 2) 858993459)) + (bo_ushr ((bo_and (x0 - (bo_and (bo_ushr x0 1) 1431655765)) 858993459) + (bo_and (bo_ushr (x0 - (bo_and (bo_ushr x0 1) 1431655765)) 2) 858993459)) 4)) 252645135) + (bo_ushr (bo_and (((bo_and (x0 - (bo_and (bo_ushr x0 1) 1431655765)) 858993459) + (bo_and (bo_ushr (x0 - (bo_and (bo_ushr x0 1) 1431655765)) 2) 858993459)) + (bo_ushr ((bo_and (x0 - (bo_and (bo_ushr x0 1) 1431655765)) 858993459) + (bo_and (bo_ushr (x0 - (bo_and (bo_ushr x0 1) 1431655765)) 2) 858993459)) 4)) 252645135) 8)) + (bo_ushr ((bo_and (((bo_and (x0 - (bo_and (bo_ushr x0 1) 1431655765)) 858993459) + (bo_and (bo_ushr (x0 - (bo_and (bo_ushr x0 1) 1431655765)) 2) 858993459)) + (bo_ushr ((bo_and (x0 - (bo_and (bo_ushr x0 1) 1431655765)) 858993459) + (bo_and (bo_ushr (x0 - (bo_and (bo_ushr x0 1) 1431655765)) 2) 858993459)) 4)) 252645135) + (bo_ushr (bo_and (((bo_and (x0 - (bo_and (bo_ushr x0 1) 1431655765)) 858993459) + (bo_and (bo_ushr (x0 - (bo_and (bo_ushr x0 1) 1431655765)) 2) 858993459)) + (bo_ushr ((bo_and (x0 - (bo_and (bo_ushr x0 1) 1431655765)) 858993459) + (bo_and (bo_ushr (x0 - (bo_and (bo_ushr x0 1) 1431655765)) 2) 858993459)) 4)) 252645135) 8)) 16)))]) dJ6_bitCount_0f7a4_47 (Nat.le_of_ble_eq_true rfl) rfl ?_
  refine j_iload_n 0 dJ6_bitCount_0f7a4_48 rfl ?_
  refine j_bipush (x := 63) dJ6_bitCount_0f7a4_49 rfl (i32_c rfl) ?_
  refine j_iand (z := (bo_and (((bo_and (((bo_and (x0 - (bo_and (bo_ushr x0 1) 1431655765)) 858993459) + (bo_and (bo_ushr (x0 - (bo_and (bo_ushr x0 1) 1431655765)) 2) 858993459)) + (bo_ushr ((bo_and (x0 - (bo_and (bo_ushr x0 1) 1431655765)) 858993459) + (bo_and (bo_ushr (x0 - (bo_and (bo_ushr x0 1) 1431655765)) 2) 858993459)) 4)) 252645135) + (bo_ushr (bo_and (((bo_and (x0 - (bo_and (bo_ushr x0 1) 1431655765)) 858993459) + (bo_and (bo_ushr (x0 - (bo_and (bo_ushr x0 1) 1431655765)) 2) 858993459)) + (bo_ushr ((bo_and (x0 - (bo_and (bo_ushr x0 1) 1431655765)) 858993459) + (bo_and (bo_ushr (x0 - (bo_and (bo_ushr x0 1) 1431655765)) 2) 858993459)) 4)) 252645135) 8)) + (bo_ushr ((bo_and (((bo_and (x0 - (bo_and (bo_ushr x0 1) 1431655765)) 858993459) + (bo_and (bo_ushr (x0 - (bo_and (bo_ushr x0 1) 1431655765)) 2) 858993459)) + (bo_ushr ((bo_and (x0 - (bo_and (bo_ushr x0 1) 1431655765)) 858993459) + (bo_and (bo_ushr (x0 - (bo_and (bo_ushr x0 1) 1431655765)) 2) 858993459)) 4)) 252645135) + (bo_ushr (bo_and (((bo_and (x0 - (bo_and (bo_ushr x0 1) 1431655765)) 858993459) + (bo_and (bo_ushr (x0 - (bo_and (bo_ushr x0 1) 1431655765)) 2) 858993459)) + (bo_ushr ((bo_and (x0 - (bo_and (bo_ushr x0 1) 1431655765)) 858993459) + (bo_and (bo_ushr (x0 - (bo_and (bo_ushr x0 1) 1431655765)) 2) 858993459)) 4)) 252645135) 8)) 16)) 63)) dJ6_bitCount_0f7a4_51 rfl ?_
  exact j_iret dJ6_bitCount_0f7a4_52 rfl ⟨Nat.le_of_ble_eq_true rfl, Nat.le_of_ble_eq_true rfl⟩ (fun _ => h)
theorem E_J6_bitCount_0f7a4 {post : Int → ax_M → Prop} {M : ax_M} {x0 : Int} (h : ax_mr SH M → (-2147483648 ≤ (x0 - (bo_and (bo_ushr x0 1) 1431655765)) ∧ (x0 - (bo_and (bo_ushr x0 1) 1431655765)) ≤ 2147483647) ∧ (-2147483648 ≤ ((bo_and (x0 - (bo_and (bo_ushr x0 1) 1431655765)) 858993459) + (bo_and (bo_ushr (x0 - (bo_and (bo_ushr x0 1) 1431655765)) 2) 858993459)) ∧ ((bo_and (x0 - (bo_and (bo_ushr x0 1) 1431655765)) 858993459) + (bo_and (bo_ushr (x0 - (bo_and (bo_ushr x0 1) 1431655765)) 2) 858993459)) ≤ 2147483647) ∧ (-2147483648 ≤ (((bo_and (x0 - (bo_and (bo_ushr x0 1) 1431655765)) 858993459) + (bo_and (bo_ushr (x0 - (bo_and (bo_ushr x0 1) 1431655765)) 2) 858993459)) + (bo_ushr ((bo_and (x0 - (bo_and (bo_ushr x0 1) 1431655765)) 858993459) + (bo_and (bo_ushr (x0 - (bo_and (bo_ushr x0 1) 1431655765)) 2) 858993459)) 4)) ∧ (((bo_and (x0 - (bo_and (bo_ushr x0 1) 1431655765)) 858993459) + (bo_and (bo_ushr (x0 - (bo_and (bo_ushr x0 1) 1431655765)) 2) 858993459)) + (bo_ushr ((bo_and (x0 - (bo_and (bo_ushr x0 1) 1431655765)) 858993459) + (bo_and (bo_ushr (x0 - (bo_and (bo_ushr x0 1) 1431655765)) 2) 858993459)) 4)) ≤ 2147483647) ∧ (-2147483648 ≤ ((bo_and (((bo_and (x0 - (bo_and (bo_ushr x0 1) 1431655765)) 858993459) + (bo_and (bo_ushr (x0 - (bo_and (bo_ushr x0 1) 1431655765)) 2) 858993459)) + (bo_ushr ((bo_and (x0 - (bo_and (bo_ushr x0 1) 1431655765)) 858993459) + (bo_and (bo_ushr (x0 - (bo_and (bo_ushr x0 1) 1431655765)) 2) 858993459)) 4)) 252645135) + (bo_ushr (bo_and (((bo_and (x0 - (bo_and (bo_ushr x0 1) 1431655765)) 858993459) + (bo_and (bo_ushr (x0 - (bo_and (bo_ushr x0 1) 1431655765)) 2) 858993459)) + (bo_ushr ((bo_and (x0 - (bo_and (bo_ushr x0 1) 1431655765)) 858993459) + (bo_and (bo_ushr (x0 - (bo_and (bo_ushr x0 1) 1431655765)) 2) 858993459)) 4)) 252645135) 8)) ∧ ((bo_and (((bo_and (x0 - (bo_and (bo_ushr x0 1) 1431655765)) 858993459) + (bo_and (bo_ushr (x0 - (bo_and (bo_ushr x0 1) 1431655765)) 2) 858993459)) + (bo_ushr ((bo_and (x0 - (bo_and (bo_ushr x0 1) 1431655765)) 858993459) + (bo_and (bo_ushr (x0 - (bo_and (bo_ushr x0 1) 1431655765)) 2) 858993459)) 4)) 252645135) + (bo_ushr (bo_and (((bo_and (x0 - (bo_and (bo_ushr x0 1) 1431655765)) 858993459) + (bo_and (bo_ushr (x0 - (bo_and (bo_ushr x0 1) 1431655765)) 2) 858993459)) + (bo_ushr ((bo_and (x0 - (bo_and (bo_ushr x0 1) 1431655765)) 858993459) + (bo_and (bo_ushr (x0 - (bo_and (bo_ushr x0 1) 1431655765)) 2) 858993459)) 4)) 252645135) 8)) ≤ 2147483647) ∧ (-2147483648 ≤ (((bo_and (((bo_and (x0 - (bo_and (bo_ushr x0 1) 1431655765)) 858993459) + (bo_and (bo_ushr (x0 - (bo_and (bo_ushr x0 1) 1431655765)) 2) 858993459)) + (bo_ushr ((bo_and (x0 - (bo_and (bo_ushr x0 1) 1431655765)) 858993459) + (bo_and (bo_ushr (x0 - (bo_and (bo_ushr x0 1) 1431655765)) 2) 858993459)) 4)) 252645135) + (bo_ushr (bo_and (((bo_and (x0 - (bo_and (bo_ushr x0 1) 1431655765)) 858993459) + (bo_and (bo_ushr (x0 - (bo_and (bo_ushr x0 1) 1431655765)) 2) 858993459)) + (bo_ushr ((bo_and (x0 - (bo_and (bo_ushr x0 1) 1431655765)) 858993459) + (bo_and (bo_ushr (x0 - (bo_and (bo_ushr x0 1) 1431655765)) 2) 858993459)) 4)) 252645135) 8)) + (bo_ushr ((bo_and (((bo_and (x0 - (bo_and (bo_ushr x0 1) 1431655765)) 858993459) + (bo_and (bo_ushr (x0 - (bo_and (bo_ushr x0 1) 1431655765)) 2) 858993459)) + (bo_ushr ((bo_and (x0 - (bo_and (bo_ushr x0 1) 1431655765)) 858993459) + (bo_and (bo_ushr (x0 - (bo_and (bo_ushr x0 1) 1431655765)) 2) 858993459)) 4)) 252645135) + (bo_ushr (bo_and (((bo_and (x0 - (bo_and (bo_ushr x0 1) 1431655765)) 858993459) + (bo_and (bo_ushr (x0 - (bo_and (bo_ushr x0 1) 1431655765)) 2) 858993459)) + (bo_ushr ((bo_and (x0 - (bo_and (bo_ushr x0 1) 1431655765)) 858993459) + (bo_and (bo_ushr (x0 - (bo_and (bo_ushr x0 1) 1431655765)) 2) 858993459)) 4)) 252645135) 8)) 16)) ∧ (((bo_and (((bo_and (x0 - (bo_and (bo_ushr x0 1) 1431655765)) 858993459) + (bo_and (bo_ushr (x0 - (bo_and (bo_ushr x0 1) 1431655765)) 2) 858993459)) + (bo_ushr ((bo_and (x0 - (bo_and (bo_ushr x0 1) 1431655765)) 858993459) + (bo_and (bo_ushr (x0 - (bo_and (bo_ushr x0 1) 1431655765)) 2) 858993459)) 4)) 252645135) + (bo_ushr (bo_and (((bo_and (x0 - (bo_and (bo_ushr x0 1) 1431655765)) 858993459) + (bo_and (bo_ushr (x0 - (bo_and (bo_ushr x0 1) 1431655765)) 2) 858993459)) + (bo_ushr ((bo_and (x0 - (bo_and (bo_ushr x0 1) 1431655765)) 858993459) + (bo_and (bo_ushr (x0 - (bo_and (bo_ushr x0 1) 1431655765)) 2) 858993459)) 4)) 252645135) 8)) + (bo_ushr ((bo_and (((bo_and (x0 - (bo_and (bo_ushr x0 1) 1431655765)) 858993459) + (bo_and (bo_ushr (x0 - (bo_and (bo_ushr x0 1) 1431655765)) 2) 858993459)) + (bo_ushr ((bo_and (x0 - (bo_and (bo_ushr x0 1) 1431655765)) 858993459) + (bo_and (bo_ushr (x0 - (bo_and (bo_ushr x0 1) 1431655765)) 2) 858993459)) 4)) 252645135) + (bo_ushr (bo_and (((bo_and (x0 - (bo_and (bo_ushr x0 1) 1431655765)) 858993459) + (bo_and (bo_ushr (x0 - (bo_and (bo_ushr x0 1) 1431655765)) 2) 858993459)) + (bo_ushr ((bo_and (x0 - (bo_and (bo_ushr x0 1) 1431655765)) 858993459) + (bo_and (bo_ushr (x0 - (bo_and (bo_ushr x0 1) 1431655765)) 2) 858993459)) 4)) 252645135) 8)) 16)) ≤ 2147483647) ∧ post (bo_and (((bo_and (((bo_and (x0 - (bo_and (bo_ushr x0 1) 1431655765)) 858993459) + (bo_and (bo_ushr (x0 - (bo_and (bo_ushr x0 1) 1431655765)) 2) 858993459)) + (bo_ushr ((bo_and (x0 - (bo_and (bo_ushr x0 1) 1431655765)) 858993459) + (bo_and (bo_ushr (x0 - (bo_and (bo_ushr x0 1) 1431655765)) 2) 858993459)) 4)) 252645135) + (bo_ushr (bo_and (((bo_and (x0 - (bo_and (bo_ushr x0 1) 1431655765)) 858993459) + (bo_and (bo_ushr (x0 - (bo_and (bo_ushr x0 1) 1431655765)) 2) 858993459)) + (bo_ushr ((bo_and (x0 - (bo_and (bo_ushr x0 1) 1431655765)) 858993459) + (bo_and (bo_ushr (x0 - (bo_and (bo_ushr x0 1) 1431655765)) 2) 858993459)) 4)) 252645135) 8)) + (bo_ushr ((bo_and (((bo_and (x0 - (bo_and (bo_ushr x0 1) 1431655765)) 858993459) + (bo_and (bo_ushr (x0 - (bo_and (bo_ushr x0 1) 1431655765)) 2) 858993459)) + (bo_ushr ((bo_and (x0 - (bo_and (bo_ushr x0 1) 1431655765)) 858993459) + (bo_and (bo_ushr (x0 - (bo_and (bo_ushr x0 1) 1431655765)) 2) 858993459)) 4)) 252645135) + (bo_ushr (bo_and (((bo_and (x0 - (bo_and (bo_ushr x0 1) 1431655765)) 858993459) + (bo_and (bo_ushr (x0 - (bo_and (bo_ushr x0 1) 1431655765)) 2) 858993459)) + (bo_ushr ((bo_and (x0 - (bo_and (bo_ushr x0 1) 1431655765)) 858993459) + (bo_and (bo_ushr (x0 - (bo_and (bo_ushr x0 1) 1431655765)) 2) 858993459)) 4)) 252645135) 8)) 16)) 63) M) : ax_Ti Y_J6_bitCount_0f7a4 [aI x0] SH M post :=
  ti_of rfl (Nat.le_of_ble_eq_true rfl) rfl (fun q => B_J6_bitCount_0f7a4_0 (h q))
set_option maxRecDepth 100000 in
set_option maxHeartbeats 4000000 in
theorem B_J7_fill_53178_57_0 {post : ax_M → Prop} {M : ax_M} {x1 : Int} (h : ax_J Y_J7_fill_53178 (ax_Kv Y_J7_fill_53178 SH post) 0 0 5 [(0, aR 57), (1, aI x1), (2, aI 0), (3, aI 64)] [] SH M) : ax_J Y_J7_fill_53178 (ax_Kv Y_J7_fill_53178 SH post) 0 0 0 [(0, aR 57), (1, aI x1)] [] SH M := by
  refine j_iconst (x := 0) dJ7_fill_53178_0 rfl (i32_c rfl) ?_
  refine j_istore_n (ll' := [(2, aI 0), (0, aR 57), (1, aI x1)]) dJ7_fill_53178_1 (Nat.le_of_ble_eq_true rfl) rfl ?_
  refine j_aload_n 1 dJ7_fill_53178_2 rfl ?_
  refine j_alen (v := 64) dJ7_fill_53178_3 sh_57 (by decide) (by decide) rfl ?_
  refine j_istore_n (ll' := [(3, aI 64), (2, aI 0), (0, aR 57), (1, aI x1)]) dJ7_fill_53178_4 (Nat.le_of_ble_eq_true rfl) rfl ?_
  refine j_sub [2, 3, 1, 0] rfl ?_
  exact h
theorem E_J7_fill_53178_57 {post : ax_M → Prop} {M : ax_M} {x1 : Int} (h : ax_mr SH M → ax_J Y_J7_fill_53178 (ax_Kv Y_J7_fill_53178 SH post) 0 0 5 [(0, aR 57), (1, aI x1), (2, aI 0), (3, aI 64)] [] SH M) : ax_Tv Y_J7_fill_53178 [aR 57, aI x1] SH M post :=
  tv_of rfl (Nat.le_of_ble_eq_true rfl) rfl (fun q => B_J7_fill_53178_57_0 (h q))
set_option maxRecDepth 100000 in
set_option maxHeartbeats 4000000 in
theorem B_J7_fill_53178_57_5 {post : ax_M → Prop} {M : ax_M} {x1 x2 x3 : Int} (h : (((x3 ≤ x2) → post M) ∧ ((x2 < x3) → (0 ≤ x2 ∧ x2 < 64) ∧ (-2147483648 ≤ (x2 + 1) ∧ (x2 + 1) ≤ 2147483647) ∧ ax_J Y_J7_fill_53178 (ax_Kv Y_J7_fill_53178 SH post) 0 0 5 [(0, aR 57), (1, aI x1), (2, aI (x2 + 1)), (3, aI x3)] [] SH (ax_up M 57 x2 x1)))) : ax_J Y_J7_fill_53178 (ax_Kv Y_J7_fill_53178 SH post) 0 0 5 [(0, aR 57), (1, aI x1), (2, aI x2), (3, aI x3)] [] SH M := by
  refine j_iload_n 2 dJ7_fill_53178_5 rfl ?_
  refine j_iload_n 3 dJ7_fill_53178_6 rfl ?_
  refine j_icmp_ge (tgt := 20) dJ7_fill_53178_7 (by decide) (fun c1 => ?_) (fun c1 => ?_)
  · replace h := h.1 c1
    exact j_vret dJ7_fill_53178_20 rfl ⟨Nat.le_of_ble_eq_true rfl, Nat.le_of_ble_eq_true rfl⟩ h
  · replace h := h.2 c1
    refine j_aload_n 0 dJ7_fill_53178_10 rfl ?_
    refine j_iload_n 2 dJ7_fill_53178_11 rfl ?_
    refine j_iload_n 1 dJ7_fill_53178_12 rfl ?_
    obtain ⟨o2, h⟩ := h
    refine j_iast dJ7_fill_53178_13 sh_57 o2.1 o2.2 ?_
    obtain ⟨o3, h⟩ := h
    refine j_iinc (ll' := [(2, aI (x2 + 1)), (0, aR 57), (1, aI x1), (3, aI x3)]) 2 dJ7_fill_53178_14 rfl (Nat.le_of_ble_eq_true rfl) o3 rfl ?_
    refine j_goto (tgt := 5) dJ7_fill_53178_17 (by decide) ?_
    refine j_sub [1, 2, 0, 3] rfl ?_
    exact h
set_option maxRecDepth 100000 in
set_option maxHeartbeats 4000000 in
theorem B_X9_choice_0 {post : Int → ax_M → Prop} {M : ax_M} {x1 x2 x3 : Int} (h : ax_J Y_X9_choice (ax_Ki Y_X9_choice SH post) 0 0 9 [(0, aR 33), (1, aI x1), (2, aI x2), (3, aI x3), (4, aI (-1)), (5, aI (-1)), (6, aI 0)] [] SH M) : ax_J Y_X9_choice (ax_Ki Y_X9_choice SH post) 0 0 0 [(0, aR 33), (1, aI x1), (2, aI x2), (3, aI x3)] [] SH M := by
  refine j_iconst (x := (-1)) dX9_choice_0 rfl (i32_c rfl) ?_
  refine j_istore (ll' := [(4, aI (-1)), (0, aR 33), (1, aI x1), (2, aI x2), (3, aI x3)]) dX9_choice_1 (Nat.le_of_ble_eq_true rfl) rfl ?_
  refine j_iconst (x := (-1)) dX9_choice_3 rfl (i32_c rfl) ?_
  refine j_istore (ll' := [(5, aI (-1)), (4, aI (-1)), (0, aR 33), (1, aI x1), (2, aI x2), (3, aI x3)]) dX9_choice_4 (Nat.le_of_ble_eq_true rfl) rfl ?_
  refine j_iconst (x := 0) dX9_choice_6 rfl (i32_c rfl) ?_
  refine j_istore (ll' := [(6, aI 0), (5, aI (-1)), (4, aI (-1)), (0, aR 33), (1, aI x1), (2, aI x2), (3, aI x3)]) dX9_choice_7 (Nat.le_of_ble_eq_true rfl) rfl ?_
  refine j_sub [3, 4, 5, 6, 2, 1, 0] rfl ?_
  exact h
theorem E_X9_choice {post : Int → ax_M → Prop} {M : ax_M} {x1 x2 x3 : Int} (h : ax_mr SH M → ax_J Y_X9_choice (ax_Ki Y_X9_choice SH post) 0 0 9 [(0, aR 33), (1, aI x1), (2, aI x2), (3, aI x3), (4, aI (-1)), (5, aI (-1)), (6, aI 0)] [] SH M) : ax_Ti Y_X9_choice [aR 33, aI x1, aI x2, aI x3] SH M post :=
  ti_of rfl (Nat.le_of_ble_eq_true rfl) rfl (fun q => B_X9_choice_0 (h q))
set_option maxRecDepth 100000 in
set_option maxHeartbeats 4000000 in
theorem B_X9_choice_9 {post : Int → ax_M → Prop} {M : ax_M} {x1 x2 x3 x4 x5 x6 : Int} (h : ((((M 6 1) ≤ x6) → post x4 M) ∧ ((x6 < (M 6 1)) → ax_Ti Y_X3_touches [aR 6, aI x6, aI x1] SH M (fun z2 u1 => (((z2 = 0) → (-2147483648 ≤ (x6 + 1) ∧ (x6 + 1) ≤ 2147483647) ∧ ax_J Y_X9_choice (ax_Ki Y_X9_choice SH post) 0 0 9 [(0, aR 33), (1, aI x1), (2, aI x2), (3, aI x3), (4, aI x4), (5, aI x5), (6, aI (x6 + 1))] [] SH u1) ∧ ((¬ z2 = 0) → ax_Ti Y_X3_beyond [aR 6, aI x6, aI x1] SH u1 (fun z4 u3 => (((z4 = x2) → ax_Ti Y_X9_through [aR 33, aI x6, aI x3] SH u3 (fun z6 u5 => (((z6 = (-1)) → (-2147483648 ≤ (x6 + 1) ∧ (x6 + 1) ≤ 2147483647) ∧ ax_J Y_X9_choice (ax_Ki Y_X9_choice SH post) 0 0 9 [(0, aR 33), (1, aI x1), (2, aI x2), (3, aI x3), (4, aI x4), (5, aI x5), (6, aI (x6 + 1))] [] SH u5) ∧ ((¬ z6 = (-1)) → (((x4 = (-1)) → (-2147483648 ≤ (x6 + 1) ∧ (x6 + 1) ≤ 2147483647) ∧ ax_J Y_X9_choice (ax_Ki Y_X9_choice SH post) 0 0 9 [(0, aR 33), (1, aI x1), (2, aI x2), (3, aI x3), (4, aI x6), (5, aI z6), (6, aI (x6 + 1))] [] SH u5) ∧ ((¬ x4 = (-1)) → (((x5 ≤ z6) → (-2147483648 ≤ (x6 + 1) ∧ (x6 + 1) ≤ 2147483647) ∧ ax_J Y_X9_choice (ax_Ki Y_X9_choice SH post) 0 0 9 [(0, aR 33), (1, aI x1), (2, aI x2), (3, aI x3), (4, aI x4), (5, aI x5), (6, aI (x6 + 1))] [] SH u5) ∧ ((z6 < x5) → (-2147483648 ≤ (x6 + 1) ∧ (x6 + 1) ≤ 2147483647) ∧ ax_J Y_X9_choice (ax_Ki Y_X9_choice SH post) 0 0 9 [(0, aR 33), (1, aI x1), (2, aI x2), (3, aI x3), (4, aI x6), (5, aI z6), (6, aI (x6 + 1))] [] SH u5)))))))) ∧ ((¬ z4 = x2) → (-2147483648 ≤ (x6 + 1) ∧ (x6 + 1) ≤ 2147483647) ∧ ax_J Y_X9_choice (ax_Ki Y_X9_choice SH post) 0 0 9 [(0, aR 33), (1, aI x1), (2, aI x2), (3, aI x3), (4, aI x4), (5, aI x5), (6, aI (x6 + 1))] [] SH u3))))))))) : ax_J Y_X9_choice (ax_Ki Y_X9_choice SH post) 0 0 9 [(0, aR 33), (1, aI x1), (2, aI x2), (3, aI x3), (4, aI x4), (5, aI x5), (6, aI x6)] [] SH M := by
  refine j_iload 6 dX9_choice_9 rfl ?_
  refine j_aload_n 0 dX9_choice_11 rfl ?_
  refine j_getc 6 dX9_choice_12 f_X9_30 sh_33 rfl ?_
  refine j_geti (i := 1) dX9_choice_15 f_X9_42 sh_6 rfl rfl (fun _ => ?_)
  refine j_icmp_ge (tgt := 93) dX9_choice_18 (by decide) (fun c1 => ?_) (fun c1 => ?_)
  · replace h := h.1 c1
    refine j_iload 4 dX9_choice_93 rfl ?_
    exact j_iret dX9_choice_95 rfl ⟨Nat.le_of_ble_eq_true rfl, Nat.le_of_ble_eq_true rfl⟩ (fun _ => h)
  · replace h := h.2 c1
    refine j_aload_n 0 dX9_choice_21 rfl ?_
    refine j_getc 6 dX9_choice_22 f_X9_30 sh_33 rfl ?_
    refine j_iload 6 dX9_choice_25 rfl ?_
    refine j_iload_n 1 dX9_choice_27 rfl ?_
    refine j_calliV (Yc := Y_X3_touches) (as := [aI x6, aI x1]) (rest := []) dX9_choice_28 q_X9_52 ⟨Nat.le_of_ble_eq_true rfl, Nat.le_of_ble_eq_true rfl, Nat.le_of_ble_eq_true rfl, Nat.le_of_ble_eq_true rfl⟩ sh_6 rfl (Nat.le_of_ble_eq_true rfl) rfl (ti_mono h (fun z2 u1 h => ?_))
    refine j_if_eq (tgt := 87) dX9_choice_31 (by decide) (fun c2 => ?_) (fun c2 => ?_)
    · replace h := h.1 c2
      obtain ⟨o3, h⟩ := h
      refine j_iinc (ll' := [(6, aI (x6 + 1)), (0, aR 33), (1, aI x1), (2, aI x2), (3, aI x3), (4, aI x4), (5, aI x5)]) 6 dX9_choice_87 rfl (Nat.le_of_ble_eq_true rfl) o3 rfl ?_
      refine j_goto (tgt := 9) dX9_choice_90 (by decide) ?_
      refine j_sub [1, 2, 3, 4, 5, 6, 0] rfl ?_
      exact h
    · replace h := h.2 c2
      refine j_aload_n 0 dX9_choice_34 rfl ?_
      refine j_getc 6 dX9_choice_35 f_X9_30 sh_33 rfl ?_
      refine j_iload 6 dX9_choice_38 rfl ?_
      refine j_iload_n 1 dX9_choice_40 rfl ?_
      refine j_calliV (Yc := Y_X3_beyond) (as := [aI x6, aI x1]) (rest := []) dX9_choice_41 q_X9_86 ⟨Nat.le_of_ble_eq_true rfl, Nat.le_of_ble_eq_true rfl, Nat.le_of_ble_eq_true rfl, Nat.le_of_ble_eq_true rfl⟩ sh_6 rfl (Nat.le_of_ble_eq_true rfl) rfl (ti_mono h (fun z4 u3 h => ?_))
      refine j_iload_n 2 dX9_choice_44 rfl ?_
      refine j_icmp_eq (tgt := 51) dX9_choice_45 (by decide) (fun c4 => ?_) (fun c4 => ?_)
      · replace h := h.1 c4
        refine j_aload_n 0 dX9_choice_51 rfl ?_
        refine j_iload 6 dX9_choice_52 rfl ?_
        refine j_iload_n 3 dX9_choice_54 rfl ?_
        refine j_calliV (Yc := Y_X9_through) (as := [aI x6, aI x3]) (rest := []) dX9_choice_55 q_X9_77 ⟨Nat.le_of_ble_eq_true rfl, Nat.le_of_ble_eq_true rfl, Nat.le_of_ble_eq_true rfl, Nat.le_of_ble_eq_true rfl⟩ sh_33 rfl (Nat.le_of_ble_eq_true rfl) rfl (ti_mono h (fun z6 u5 h => ?_))
        refine j_istore (ll' := [(7, aI z6), (0, aR 33), (1, aI x1), (2, aI x2), (3, aI x3), (4, aI x4), (5, aI x5), (6, aI x6)]) dX9_choice_58 (Nat.le_of_ble_eq_true rfl) rfl ?_
        refine j_iload 0 dX9_choice_60 rfl ?_
        refine j_iconst (x := (-1)) dX9_choice_62 rfl (i32_c rfl) ?_
        refine j_icmp_eq (tgt := 87) dX9_choice_63 (by decide) (fun c5 => ?_) (fun c5 => ?_)
        · replace h := h.1 c5
          obtain ⟨o6, h⟩ := h
          refine j_iinc (ll' := [(6, aI (x6 + 1)), (7, aI z6), (0, aR 33), (1, aI x1), (2, aI x2), (3, aI x3), (4, aI x4), (5, aI x5)]) 7 dX9_choice_87 rfl (Nat.le_of_ble_eq_true rfl) o6 rfl ?_
          refine j_goto (tgt := 9) dX9_choice_90 (by decide) ?_
          refine j_sub [2, 3, 4, 5, 6, 7, 0] rfl ?_
          exact h
        · replace h := h.2 c5
          refine j_iload 5 dX9_choice_66 rfl ?_
          refine j_iconst (x := (-1)) dX9_choice_68 rfl (i32_c rfl) ?_
          refine j_icmp_eq (tgt := 79) dX9_choice_69 (by decide) (fun c7 => ?_) (fun c7 => ?_)
          · replace h := h.1 c7
            refine j_iload 7 dX9_choice_79 rfl ?_
            refine j_istore (ll' := [(4, aI x6), (7, aI z6), (0, aR 33), (1, aI x1), (2, aI x2), (3, aI x3), (5, aI x5), (6, aI x6)]) dX9_choice_81 (Nat.le_of_ble_eq_true rfl) rfl ?_
            refine j_iload 1 dX9_choice_83 rfl ?_
            refine j_istore (ll' := [(5, aI z6), (4, aI x6), (7, aI z6), (0, aR 33), (1, aI x1), (2, aI x2), (3, aI x3), (6, aI x6)]) dX9_choice_85 (Nat.le_of_ble_eq_true rfl) rfl ?_
            obtain ⟨o8, h⟩ := h
            refine j_iinc (ll' := [(6, aI (x6 + 1)), (5, aI z6), (4, aI x6), (7, aI z6), (0, aR 33), (1, aI x1), (2, aI x2), (3, aI x3)]) 7 dX9_choice_87 rfl (Nat.le_of_ble_eq_true rfl) o8 rfl ?_
            refine j_goto (tgt := 9) dX9_choice_90 (by decide) ?_
            refine j_sub [4, 5, 6, 7, 2, 1, 0] rfl ?_
            exact h
          · replace h := h.2 c7
            refine j_iload 0 dX9_choice_72 rfl ?_
            refine j_iload 6 dX9_choice_74 rfl ?_
            refine j_icmp_ge (tgt := 87) dX9_choice_76 (by decide) (fun c9 => ?_) (fun c9 => ?_)
            · replace h := h.1 c9
              obtain ⟨o10, h⟩ := h
              refine j_iinc (ll' := [(6, aI (x6 + 1)), (7, aI z6), (0, aR 33), (1, aI x1), (2, aI x2), (3, aI x3), (4, aI x4), (5, aI x5)]) 7 dX9_choice_87 rfl (Nat.le_of_ble_eq_true rfl) o10 rfl ?_
              refine j_goto (tgt := 9) dX9_choice_90 (by decide) ?_
              refine j_sub [2, 3, 4, 5, 6, 7, 0] rfl ?_
              exact h
            · replace h := h.2 c9
              refine j_iload 7 dX9_choice_79 rfl ?_
              refine j_istore (ll' := [(4, aI x6), (7, aI z6), (0, aR 33), (1, aI x1), (2, aI x2), (3, aI x3), (5, aI x5), (6, aI x6)]) dX9_choice_81 (Nat.le_of_ble_eq_true rfl) rfl ?_
              refine j_iload 1 dX9_choice_83 rfl ?_
              refine j_istore (ll' := [(5, aI z6), (4, aI x6), (7, aI z6), (0, aR 33), (1, aI x1), (2, aI x2), (3, aI x3), (6, aI x6)]) dX9_choice_85 (Nat.le_of_ble_eq_true rfl) rfl ?_
              obtain ⟨o11, h⟩ := h
              refine j_iinc (ll' := [(6, aI (x6 + 1)), (5, aI z6), (4, aI x6), (7, aI z6), (0, aR 33), (1, aI x1), (2, aI x2), (3, aI x3)]) 7 dX9_choice_87 rfl (Nat.le_of_ble_eq_true rfl) o11 rfl ?_
              refine j_goto (tgt := 9) dX9_choice_90 (by decide) ?_
              refine j_sub [4, 5, 6, 7, 2, 1, 0] rfl ?_
              exact h
      · replace h := h.2 c4
        refine j_goto (tgt := 87) dX9_choice_48 (by decide) ?_
        obtain ⟨o12, h⟩ := h
        refine j_iinc (ll' := [(6, aI (x6 + 1)), (0, aR 33), (1, aI x1), (2, aI x2), (3, aI x3), (4, aI x4), (5, aI x5)]) 6 dX9_choice_87 rfl (Nat.le_of_ble_eq_true rfl) o12 rfl ?_
        refine j_goto (tgt := 9) dX9_choice_90 (by decide) ?_
        refine j_sub [1, 2, 3, 4, 5, 6, 0] rfl ?_
        exact h
set_option maxRecDepth 100000 in
set_option maxHeartbeats 4000000 in
theorem B_X9_through_0 {post : Int → ax_M → Prop} {M : ax_M} {x1 x2 : Int} (h : (0 ≤ x1 ∧ x1 < 24) ∧ (-2147483648 ≤ (x2 + (M 34 x1)) ∧ (x2 + (M 34 x1)) ≤ 2147483647) ∧ ((((x2 + (M 34 x1)) ≤ (M 36 x1)) → ((((M 37 x1) < (x2 + (M 34 x1))) → post (-1) M) ∧ (((x2 + (M 34 x1)) ≤ (M 37 x1)) → post (x2 + (M 34 x1)) M))) ∧ (((M 36 x1) < (x2 + (M 34 x1))) → (((¬ (M 35 x1) = (-1)) → (-2147483648 ≤ (x2 + (M 35 x1)) ∧ (x2 + (M 35 x1)) ≤ 2147483647) ∧ ((((M 37 x1) < (x2 + (M 35 x1))) → post (-1) M) ∧ (((x2 + (M 35 x1)) ≤ (M 37 x1)) → post (x2 + (M 35 x1)) M))) ∧ (((M 35 x1) = (-1)) → post (-1) M))))) : ax_J Y_X9_through (ax_Ki Y_X9_through SH post) 0 0 0 [(0, aR 33), (1, aI x1), (2, aI x2)] [] SH M := by
  refine j_iload_n 2 dX9_through_0 rfl ?_
  refine j_aload_n 0 dX9_through_1 rfl ?_
  refine j_getc 34 dX9_through_2 f_X9_9 sh_33 rfl ?_
  refine j_iload_n 1 dX9_through_5 rfl ?_
  obtain ⟨o1, h⟩ := h
  refine j_iald dX9_through_6 sh_34 o1.1 o1.2 (fun _ => ?_)
  obtain ⟨o2, h⟩ := h
  refine j_iadd (z := (x2 + (M 34 x1))) dX9_through_7 rfl o2 ?_
  refine j_istore_n (ll' := [(3, aI (x2 + (M 34 x1))), (0, aR 33), (1, aI x1), (2, aI x2)]) dX9_through_8 (Nat.le_of_ble_eq_true rfl) rfl ?_
  refine j_iload_n 0 dX9_through_9 rfl ?_
  refine j_aload_n 1 dX9_through_10 rfl ?_
  refine j_getc 36 dX9_through_11 f_X9_18 sh_33 rfl ?_
  refine j_iload_n 2 dX9_through_14 rfl ?_
  refine j_iald dX9_through_15 sh_36 o1.1 o1.2 (fun _ => ?_)
  refine j_icmp_le (tgt := 40) dX9_through_16 (by decide) (fun c3 => ?_) (fun c3 => ?_)
  · replace h := h.1 c3
    refine j_iload_n 0 dX9_through_40 rfl ?_
    refine j_aload_n 1 dX9_through_41 rfl ?_
    refine j_getc 37 dX9_through_42 f_X9_21 sh_33 rfl ?_
    refine j_iload_n 2 dX9_through_45 rfl ?_
    refine j_iald dX9_through_46 sh_37 o1.1 o1.2 (fun _ => ?_)
    refine j_icmp_gt (tgt := 54) dX9_through_47 (by decide) (fun c4 => ?_) (fun c4 => ?_)
    · replace h := h.1 c4
      refine j_iconst (x := (-1)) dX9_through_54 rfl (i32_c rfl) ?_
      exact j_iret dX9_through_55 rfl ⟨Nat.le_of_ble_eq_true rfl, Nat.le_of_ble_eq_true rfl⟩ (fun _ => h)
    · replace h := h.2 c4
      refine j_iload_n 0 dX9_through_50 rfl ?_
      refine j_goto (tgt := 55) dX9_through_51 (by decide) ?_
      exact j_iret dX9_through_55 rfl ⟨Nat.le_of_ble_eq_true rfl, Nat.le_of_ble_eq_true rfl⟩ (fun _ => h)
  · replace h := h.2 c3
    refine j_aload_n 1 dX9_through_19 rfl ?_
    refine j_getc 35 dX9_through_20 f_X9_15 sh_33 rfl ?_
    refine j_iload_n 2 dX9_through_23 rfl ?_
    refine j_iald dX9_through_24 sh_35 o1.1 o1.2 (fun _ => ?_)
    refine j_iconst (x := (-1)) dX9_through_25 rfl (i32_c rfl) ?_
    refine j_icmp_ne (tgt := 31) dX9_through_26 (by decide) (fun c5 => ?_) (fun c5 => ?_)
    · replace h := h.1 c5
      refine j_iload_n 3 dX9_through_31 rfl ?_
      refine j_aload_n 1 dX9_through_32 rfl ?_
      refine j_getc 35 dX9_through_33 f_X9_15 sh_33 rfl ?_
      refine j_iload_n 2 dX9_through_36 rfl ?_
      refine j_iald dX9_through_37 sh_35 o1.1 o1.2 (fun _ => ?_)
      obtain ⟨o6, h⟩ := h
      refine j_iadd (z := (x2 + (M 35 x1))) dX9_through_38 rfl o6 ?_
      refine j_istore_n (ll' := [(3, aI (x2 + (M 35 x1))), (0, aR 33), (1, aI x1), (2, aI x2)]) dX9_through_39 (Nat.le_of_ble_eq_true rfl) rfl ?_
      refine j_iload_n 0 dX9_through_40 rfl ?_
      refine j_aload_n 1 dX9_through_41 rfl ?_
      refine j_getc 37 dX9_through_42 f_X9_21 sh_33 rfl ?_
      refine j_iload_n 2 dX9_through_45 rfl ?_
      refine j_iald dX9_through_46 sh_37 o1.1 o1.2 (fun _ => ?_)
      refine j_icmp_gt (tgt := 54) dX9_through_47 (by decide) (fun c7 => ?_) (fun c7 => ?_)
      · replace h := h.1 c7
        refine j_iconst (x := (-1)) dX9_through_54 rfl (i32_c rfl) ?_
        exact j_iret dX9_through_55 rfl ⟨Nat.le_of_ble_eq_true rfl, Nat.le_of_ble_eq_true rfl⟩ (fun _ => h)
      · replace h := h.2 c7
        refine j_iload_n 0 dX9_through_50 rfl ?_
        refine j_goto (tgt := 55) dX9_through_51 (by decide) ?_
        exact j_iret dX9_through_55 rfl ⟨Nat.le_of_ble_eq_true rfl, Nat.le_of_ble_eq_true rfl⟩ (fun _ => h)
    · replace h := h.2 c5
      refine j_iconst (x := (-1)) dX9_through_29 rfl (i32_c rfl) ?_
      exact j_iret dX9_through_30 rfl ⟨Nat.le_of_ble_eq_true rfl, Nat.le_of_ble_eq_true rfl⟩ (fun _ => h)
theorem E_X9_through {post : Int → ax_M → Prop} {M : ax_M} {x1 x2 : Int} (h : ax_mr SH M → (0 ≤ x1 ∧ x1 < 24) ∧ (-2147483648 ≤ (x2 + (M 34 x1)) ∧ (x2 + (M 34 x1)) ≤ 2147483647) ∧ ((((x2 + (M 34 x1)) ≤ (M 36 x1)) → ((((M 37 x1) < (x2 + (M 34 x1))) → post (-1) M) ∧ (((x2 + (M 34 x1)) ≤ (M 37 x1)) → post (x2 + (M 34 x1)) M))) ∧ (((M 36 x1) < (x2 + (M 34 x1))) → (((¬ (M 35 x1) = (-1)) → (-2147483648 ≤ (x2 + (M 35 x1)) ∧ (x2 + (M 35 x1)) ≤ 2147483647) ∧ ((((M 37 x1) < (x2 + (M 35 x1))) → post (-1) M) ∧ (((x2 + (M 35 x1)) ≤ (M 37 x1)) → post (x2 + (M 35 x1)) M))) ∧ (((M 35 x1) = (-1)) → post (-1) M))))) : ax_Ti Y_X9_through [aR 33, aI x1, aI x2] SH M post :=
  ti_of rfl (Nat.le_of_ble_eq_true rfl) rfl (fun q => B_X9_through_0 (h q))
set_option maxRecDepth 100000 in
set_option maxHeartbeats 4000000 in
theorem B_X4_goOnFrom_0 {r : Nat} {post : ax_M → Prop} {M : ax_M} {x1 x2 x3 x4 x5 : Int} (h : (((¬ x1 = (M 6 2)) → (((x5 < 7) → ax_J (Y_X4_goOnFrom (r + 1)) (ax_Kv (Y_X4_goOnFrom (r + 1)) SH post) 0 0 35 [(0, aR 60), (1, aI x1), (2, aI x2), (3, aI x3), (4, aI x4), (5, aI x5), (6, aI 0)] [] SH M) ∧ ((7 ≤ x5) → post M))) ∧ ((x1 = (M 6 2)) → post (ax_up M 60 6 (max (M 60 6) x3))))) : ax_J (Y_X4_goOnFrom (r + 1)) (ax_Kv (Y_X4_goOnFrom (r + 1)) SH post) 0 0 0 [(0, aR 60), (1, aI x1), (2, aI x2), (3, aI x3), (4, aI x4), (5, aI x5)] [] SH M := by
  refine j_iload_n 1 dX4_goOnFrom_0 rfl ?_
  refine j_aload_n 0 dX4_goOnFrom_1 rfl ?_
  refine j_getc 6 dX4_goOnFrom_2 f_X4_9 sh_60 rfl ?_
  refine j_geti (i := 2) dX4_goOnFrom_5 f_X4_70 sh_6 rfl rfl (fun _ => ?_)
  refine j_icmp_ne (tgt := 24) dX4_goOnFrom_8 (by decide) (fun c1 => ?_) (fun c1 => ?_)
  · replace h := h.1 c1
    refine j_iload 5 dX4_goOnFrom_24 rfl ?_
    refine j_bipush (x := 7) dX4_goOnFrom_26 rfl (i32_c rfl) ?_
    refine j_icmp_lt (tgt := 32) dX4_goOnFrom_28 (by decide) (fun c2 => ?_) (fun c2 => ?_)
    · replace h := h.1 c2
      refine j_iconst (x := 0) dX4_goOnFrom_32 rfl (i32_c rfl) ?_
      refine j_istore (ll' := [(6, aI 0), (0, aR 60), (1, aI x1), (2, aI x2), (3, aI x3), (4, aI x4), (5, aI x5)]) dX4_goOnFrom_33 (Nat.le_of_ble_eq_true rfl) rfl ?_
      refine j_sub [1, 2, 3, 4, 5, 6, 0] rfl ?_
      exact h
    · replace h := h.2 c2
      exact j_vret dX4_goOnFrom_31 rfl ⟨Nat.le_of_ble_eq_true rfl, Nat.le_of_ble_eq_true rfl⟩ h
  · replace h := h.2 c1
    refine j_aload_n 0 dX4_goOnFrom_11 rfl ?_
    refine j_aload_n 0 dX4_goOnFrom_12 rfl ?_
    refine j_geti (i := 6) dX4_goOnFrom_13 f_X4_63 sh_60 rfl rfl (fun _ => ?_)
    refine j_iload_n 3 dX4_goOnFrom_16 rfl ?_
    refine j_mmax dX4_goOnFrom_17 (show Cond.methodLink RX4 73 Lib.Math.max.name ∈ ax_tb from ax_in 1068 (by decide +kernel) rfl) ⟨Nat.le_of_ble_eq_true rfl, Nat.le_of_ble_eq_true rfl⟩ (Nat.le_trans (Nat.le_of_ble_eq_true rfl) (Nat.le_add_right _ _)) (Nat.le_of_ble_eq_true rfl) ?_
    refine j_puti (i := 6) dX4_goOnFrom_20 p_X4_63 (fun h => by cases h) sh_60 rfl rfl ?_
    exact j_vret dX4_goOnFrom_23 rfl ⟨Nat.le_of_ble_eq_true rfl, Nat.le_of_ble_eq_true rfl⟩ h
theorem E_X4_goOnFrom {r : Nat} {post : ax_M → Prop} {M : ax_M} {x1 x2 x3 x4 x5 : Int} (h : ax_mr SH M → (((¬ x1 = (M 6 2)) → (((x5 < 7) → ax_J (Y_X4_goOnFrom (r + 1)) (ax_Kv (Y_X4_goOnFrom (r + 1)) SH post) 0 0 35 [(0, aR 60), (1, aI x1), (2, aI x2), (3, aI x3), (4, aI x4), (5, aI x5), (6, aI 0)] [] SH M) ∧ ((7 ≤ x5) → post M))) ∧ ((x1 = (M 6 2)) → post (ax_up M 60 6 (max (M 60 6) x3))))) : ax_Tv (Y_X4_goOnFrom (r + 1)) [aR 60, aI x1, aI x2, aI x3, aI x4, aI x5] SH M post :=
  tv_of rfl (Nat.le_of_ble_eq_true rfl) rfl (fun q => B_X4_goOnFrom_0 (h q))
set_option maxRecDepth 100000 in
set_option maxHeartbeats 4000000 in
theorem B_X4_goOnFrom_35 {r : Nat} {post : ax_M → Prop} {M : ax_M} {x1 x2 x3 x4 x5 x6 : Int} (h : ((((M 6 1) ≤ x6) → post M) ∧ ((x6 < (M 6 1)) → ax_Ti Y_X3_touches [aR 6, aI x6, aI x1] SH M (fun z2 u1 => (((¬ z2 = 0) → ax_Ti Y_X3_beyond [aR 6, aI x6, aI x1] SH u1 (fun z4 u3 => (((¬ (bo_and (bo_shr x4 z4) 1) = 0) → (-2147483648 ≤ (x6 + 1) ∧ (x6 + 1) ≤ 2147483647) ∧ ax_J (Y_X4_goOnFrom (r + 1)) (ax_Kv (Y_X4_goOnFrom (r + 1)) SH post) 0 0 35 [(0, aR 60), (1, aI x1), (2, aI x2), (3, aI x3), (4, aI x4), (5, aI x5), (6, aI (x6 + 1))] [] SH u3) ∧ (((bo_and (bo_shr x4 z4) 1) = 0) → ax_Ti Y_X9_choice [aR 33, aI x1, aI z4, aI x2] SH u3 (fun z6 u5 => (((z6 = x6) → ax_Ti Y_X9_through [aR 33, aI x6, aI x2] SH u5 (fun z8 u7 => ax_Ti Y_X3_notBad [aR 6, aI x6, aI z8] SH u7 (fun z10 u9 => (-9223372036854775808 ≤ (x3 * z10) ∧ (x3 * z10) ≤ 9223372036854775807) ∧ (0 ≤ (x3 * z10)) ∧ (-2147483648 ≤ ((x3 * z10) / 1000000) ∧ ((x3 * z10) / 1000000) ≤ 2147483647) ∧ (((((x3 * z10) / 1000000) ≤ (u9 60 6)) → (-2147483648 ≤ (x6 + 1) ∧ (x6 + 1) ≤ 2147483647) ∧ ax_J (Y_X4_goOnFrom (r + 1)) (ax_Kv (Y_X4_goOnFrom (r + 1)) SH post) 0 0 35 [(0, aR 60), (1, aI x1), (2, aI x2), (3, aI x3), (4, aI x4), (5, aI x5), (6, aI (x6 + 1))] [] SH u9) ∧ (((u9 60 6) < ((x3 * z10) / 1000000)) → (-2147483648 ≤ (x5 + 1) ∧ (x5 + 1) ≤ 2147483647) ∧ ax_Tv (Y_X4_goOnFrom r) [aR 60, aI z4, aI z8, aI ((x3 * z10) / 1000000), aI (bo_or x4 (bo_shl 1 z4)), aI (x5 + 1)] SH u9 (fun u11 => (-2147483648 ≤ (x6 + 1) ∧ (x6 + 1) ≤ 2147483647) ∧ ax_J (Y_X4_goOnFrom (r + 1)) (ax_Kv (Y_X4_goOnFrom (r + 1)) SH post) 0 0 35 [(0, aR 60), (1, aI x1), (2, aI x2), (3, aI x3), (4, aI x4), (5, aI x5), (6, aI (x6 + 1))] [] SH u11)))))) ∧ ((¬ z6 = x6) → (-2147483648 ≤ (x6 + 1) ∧ (x6 + 1) ≤ 2147483647) ∧ ax_J (Y_X4_goOnFrom (r + 1)) (ax_Kv (Y_X4_goOnFrom (r + 1)) SH post) 0 0 35 [(0, aR 60), (1, aI x1), (2, aI x2), (3, aI x3), (4, aI x4), (5, aI x5), (6, aI (x6 + 1))] [] SH u5))))))) ∧ ((z2 = 0) → (-2147483648 ≤ (x6 + 1) ∧ (x6 + 1) ≤ 2147483647) ∧ ax_J (Y_X4_goOnFrom (r + 1)) (ax_Kv (Y_X4_goOnFrom (r + 1)) SH post) 0 0 35 [(0, aR 60), (1, aI x1), (2, aI x2), (3, aI x3), (4, aI x4), (5, aI x5), (6, aI (x6 + 1))] [] SH u1)))))) : ax_J (Y_X4_goOnFrom (r + 1)) (ax_Kv (Y_X4_goOnFrom (r + 1)) SH post) 0 0 35 [(0, aR 60), (1, aI x1), (2, aI x2), (3, aI x3), (4, aI x4), (5, aI x5), (6, aI x6)] [] SH M := by
  refine j_iload 6 dX4_goOnFrom_35 rfl ?_
  refine j_aload_n 0 dX4_goOnFrom_37 rfl ?_
  refine j_getc 6 dX4_goOnFrom_38 f_X4_9 sh_60 rfl ?_
  refine j_geti (i := 1) dX4_goOnFrom_41 f_X4_78 sh_6 rfl rfl (fun _ => ?_)
  refine j_icmp_ge (tgt := 169) dX4_goOnFrom_44 (by decide) (fun c1 => ?_) (fun c1 => ?_)
  · replace h := h.1 c1
    exact j_vret dX4_goOnFrom_169 rfl ⟨Nat.le_of_ble_eq_true rfl, Nat.le_of_ble_eq_true rfl⟩ h
  · replace h := h.2 c1
    refine j_aload_n 0 dX4_goOnFrom_47 rfl ?_
    refine j_getc 6 dX4_goOnFrom_48 f_X4_9 sh_60 rfl ?_
    refine j_iload 6 dX4_goOnFrom_51 rfl ?_
    refine j_iload_n 1 dX4_goOnFrom_53 rfl ?_
    refine j_calliV (Yc := Y_X3_touches) (as := [aI x6, aI x1]) (rest := []) dX4_goOnFrom_54 q_X4_81 ⟨show 2 + 1 ≤ 4 + (r + 1) by omega, Nat.le_of_ble_eq_true rfl, Nat.le_of_ble_eq_true rfl, Nat.le_of_ble_eq_true rfl⟩ sh_6 rfl (Nat.le_of_ble_eq_true rfl) rfl (ti_mono h (fun z2 u1 h => ?_))
    refine j_if_ne (tgt := 63) dX4_goOnFrom_57 (by decide) (fun c2 => ?_) (fun c2 => ?_)
    · replace h := h.1 c2
      refine j_aload_n 0 dX4_goOnFrom_63 rfl ?_
      refine j_getc 6 dX4_goOnFrom_64 f_X4_9 sh_60 rfl ?_
      refine j_iload 6 dX4_goOnFrom_67 rfl ?_
      refine j_iload_n 1 dX4_goOnFrom_69 rfl ?_
      refine j_calliV (Yc := Y_X3_beyond) (as := [aI x6, aI x1]) (rest := []) dX4_goOnFrom_70 q_X4_85 ⟨show 2 + 1 ≤ 4 + (r + 1) by omega, Nat.le_of_ble_eq_true rfl, Nat.le_of_ble_eq_true rfl, Nat.le_of_ble_eq_true rfl⟩ sh_6 rfl (Nat.le_of_ble_eq_true rfl) rfl (ti_mono h (fun z4 u3 h => ?_))
      refine j_istore (ll' := [(7, aI z4), (0, aR 60), (1, aI x1), (2, aI x2), (3, aI x3), (4, aI x4), (5, aI x5), (6, aI x6)]) dX4_goOnFrom_73 (Nat.le_of_ble_eq_true rfl) rfl ?_
      refine j_iload 5 dX4_goOnFrom_75 rfl ?_
      refine j_iload 0 dX4_goOnFrom_77 rfl ?_
      refine j_ishr (z := (bo_shr x4 z4)) dX4_goOnFrom_79 rfl ?_
      refine j_iconst (x := 1) dX4_goOnFrom_80 rfl (i32_c rfl) ?_
      refine j_iand (z := (bo_and (bo_shr x4 z4) 1)) dX4_goOnFrom_81 rfl ?_
      refine j_if_ne (tgt := 163) dX4_goOnFrom_82 (by decide) (fun c3 => ?_) (fun c3 => ?_)
      · replace h := h.1 c3
        obtain ⟨o4, h⟩ := h
        refine j_iinc (ll' := [(6, aI (x6 + 1)), (7, aI z4), (0, aR 60), (1, aI x1), (2, aI x2), (3, aI x3), (4, aI x4), (5, aI x5)]) 7 dX4_goOnFrom_163 rfl (Nat.le_of_ble_eq_true rfl) o4 rfl ?_
        refine j_goto (tgt := 35) dX4_goOnFrom_166 (by decide) ?_
        refine j_sub [2, 3, 4, 5, 6, 7, 0] rfl ?_
        exact h
      · replace h := h.2 c3
        refine j_aload_n 1 dX4_goOnFrom_85 rfl ?_
        refine j_getc 33 dX4_goOnFrom_86 f_X4_19 sh_60 rfl ?_
        refine j_iload_n 2 dX4_goOnFrom_89 rfl ?_
        refine j_iload 0 dX4_goOnFrom_90 rfl ?_
        refine j_iload_n 3 dX4_goOnFrom_92 rfl ?_
        refine j_calliV (Yc := Y_X9_choice) (as := [aI x1, aI z4, aI x2]) (rest := []) dX4_goOnFrom_93 q_X4_43 ⟨show 3 + 1 ≤ 4 + (r + 1) by omega, Nat.le_of_ble_eq_true rfl, Nat.le_of_ble_eq_true rfl, Nat.le_of_ble_eq_true rfl⟩ sh_33 rfl (Nat.le_of_ble_eq_true rfl) rfl (ti_mono h (fun z6 u5 h => ?_))
        refine j_iload 7 dX4_goOnFrom_96 rfl ?_
        refine j_icmp_eq (tgt := 104) dX4_goOnFrom_98 (by decide) (fun c5 => ?_) (fun c5 => ?_)
        · replace h := h.1 c5
          refine j_aload_n 1 dX4_goOnFrom_104 rfl ?_
          refine j_getc 33 dX4_goOnFrom_105 f_X4_19 sh_60 rfl ?_
          refine j_iload 7 dX4_goOnFrom_108 rfl ?_
          refine j_iload_n 3 dX4_goOnFrom_110 rfl ?_
          refine j_calliV (Yc := Y_X9_through) (as := [aI x6, aI x2]) (rest := []) dX4_goOnFrom_111 q_X4_49 ⟨show 1 + 1 ≤ 4 + (r + 1) by omega, Nat.le_of_ble_eq_true rfl, Nat.le_of_ble_eq_true rfl, Nat.le_of_ble_eq_true rfl⟩ sh_33 rfl (Nat.le_of_ble_eq_true rfl) rfl (ti_mono h (fun z8 u7 h => ?_))
          refine j_istore (ll' := [(8, aI z8), (7, aI z4), (0, aR 60), (1, aI x1), (2, aI x2), (3, aI x3), (4, aI x4), (5, aI x5), (6, aI x6)]) dX4_goOnFrom_114 (Nat.le_of_ble_eq_true rfl) rfl ?_
          refine j_iload_n 5 dX4_goOnFrom_116 rfl ?_
          refine j_aload_n 2 dX4_goOnFrom_117 rfl ?_
          refine j_getc 6 dX4_goOnFrom_118 f_X4_9 sh_60 rfl ?_
          refine j_iload 8 dX4_goOnFrom_121 rfl ?_
          refine j_iload 0 dX4_goOnFrom_123 rfl ?_
          refine j_calliV (Yc := Y_X3_notBad) (as := [aI x6, aI z8]) (rest := [aI x3]) dX4_goOnFrom_125 q_X4_53 ⟨show 2 + 1 ≤ 4 + (r + 1) by omega, Nat.le_of_ble_eq_true rfl, Nat.le_of_ble_eq_true rfl, Nat.le_of_ble_eq_true rfl⟩ sh_6 rfl (Nat.le_of_ble_eq_true rfl) rfl (ti_mono h (fun z10 u9 h => ?_))
          refine j_calliS (Yc := Y_X4_both) (as := [aI x3, aI z10]) (rest := []) dX4_goOnFrom_128 q_X4_58 ⟨show 1 + 1 ≤ 4 + (r + 1) by omega, Nat.le_of_ble_eq_true rfl, Nat.le_of_ble_eq_true rfl, Nat.le_of_ble_eq_true rfl⟩ rfl (Nat.le_of_ble_eq_true rfl) rfl (ti_of (ll := [(0, aI x3), (1, aI z10)]) rfl (Nat.le_of_ble_eq_true rfl) rfl (fun _ => ?_))
          refine j_iload_n 0 dX4_both_0 rfl ?_
          refine j_i2l dX4_both_1 ?_
          refine j_iload_n 1 dX4_both_2 rfl ?_
          refine j_i2l dX4_both_3 ?_
          obtain ⟨o6, h⟩ := h
          refine j_lmul (z := (x3 * z10)) dX4_both_4 rfl o6 ?_
          refine j_ldc2 (x := 1000000) dX4_both_5 (ax_in 1047 (by decide +kernel) rfl) (i64_c rfl) ?_
          obtain ⟨o7, h⟩ := h
          refine j_ldiv (z := ((x3 * z10) / 1000000)) dX4_both_8 rfl o7 (by decide) ?_
          obtain ⟨o8, h⟩ := h
          refine j_l2i dX4_both_9 o8 ?_
          refine j_iret dX4_both_10 rfl ⟨Nat.le_of_ble_eq_true rfl, Nat.le_of_ble_eq_true rfl⟩ (fun _ => ?_)
          refine j_istore (ll' := [(9, aI ((x3 * z10) / 1000000)), (8, aI z8), (7, aI z4), (0, aR 60), (1, aI x1), (2, aI x2), (3, aI x3), (4, aI x4), (5, aI x5), (6, aI x6)]) dX4_goOnFrom_131 (Nat.le_of_ble_eq_true rfl) rfl ?_
          refine j_iload 0 dX4_goOnFrom_133 rfl ?_
          refine j_aload_n 3 dX4_goOnFrom_135 rfl ?_
          refine j_geti (i := 6) dX4_goOnFrom_136 f_X4_63 sh_60 rfl rfl (fun _ => ?_)
          refine j_icmp_le (tgt := 163) dX4_goOnFrom_139 (by decide) (fun c9 => ?_) (fun c9 => ?_)
          · replace h := h.1 c9
            obtain ⟨o10, h⟩ := h
            refine j_iinc (ll' := [(6, aI (x6 + 1)), (9, aI ((x3 * z10) / 1000000)), (8, aI z8), (7, aI z4), (0, aR 60), (1, aI x1), (2, aI x2), (3, aI x3), (4, aI x4), (5, aI x5)]) 9 dX4_goOnFrom_163 rfl (Nat.le_of_ble_eq_true rfl) o10 rfl ?_
            refine j_goto (tgt := 35) dX4_goOnFrom_166 (by decide) ?_
            refine j_sub [4, 5, 6, 7, 8, 9, 0] rfl ?_
            exact h
          · replace h := h.2 c9
            refine j_aload_n 3 dX4_goOnFrom_142 rfl ?_
            refine j_iload 2 dX4_goOnFrom_143 rfl ?_
            refine j_iload 1 dX4_goOnFrom_145 rfl ?_
            refine j_iload 0 dX4_goOnFrom_147 rfl ?_
            refine j_iload 7 dX4_goOnFrom_149 rfl ?_
            refine j_iconst (x := 1) dX4_goOnFrom_151 rfl (i32_c rfl) ?_
            refine j_iload 2 dX4_goOnFrom_152 rfl ?_
            refine j_ishl (z := (bo_shl 1 z4)) dX4_goOnFrom_154 rfl ?_
            refine j_ior (z := (bo_or x4 (bo_shl 1 z4))) dX4_goOnFrom_155 rfl ?_
            refine j_iload 8 dX4_goOnFrom_156 rfl ?_
            refine j_iconst (x := 1) dX4_goOnFrom_158 rfl (i32_c rfl) ?_
            obtain ⟨o11, h⟩ := h
            refine j_iadd (z := (x5 + 1)) dX4_goOnFrom_159 rfl o11 ?_
            refine j_callvS (Yc := (Y_X4_goOnFrom r)) (as := [aR 60, aI z4, aI z8, aI ((x3 * z10) / 1000000), aI (bo_or x4 (bo_shl 1 z4)), aI (x5 + 1)]) (rest := []) dX4_goOnFrom_160 q_X4_66 ⟨Nat.le_refl _, Nat.le_of_ble_eq_true rfl, Nat.le_of_ble_eq_true rfl, Nat.le_of_ble_eq_true rfl⟩ rfl (Nat.le_of_ble_eq_true rfl) rfl (tv_mono h (fun u11 h => ?_))
            obtain ⟨o12, h⟩ := h
            refine j_iinc (ll' := [(6, aI (x6 + 1)), (9, aI ((x3 * z10) / 1000000)), (8, aI z8), (7, aI z4), (0, aR 60), (1, aI x1), (2, aI x2), (3, aI x3), (4, aI x4), (5, aI x5)]) 9 dX4_goOnFrom_163 rfl (Nat.le_of_ble_eq_true rfl) o12 rfl ?_
            refine j_goto (tgt := 35) dX4_goOnFrom_166 (by decide) ?_
            refine j_sub [4, 5, 6, 7, 8, 9, 0] rfl ?_
            exact h
        · replace h := h.2 c5
          refine j_goto (tgt := 163) dX4_goOnFrom_101 (by decide) ?_
          obtain ⟨o13, h⟩ := h
          refine j_iinc (ll' := [(6, aI (x6 + 1)), (7, aI z4), (0, aR 60), (1, aI x1), (2, aI x2), (3, aI x3), (4, aI x4), (5, aI x5)]) 7 dX4_goOnFrom_163 rfl (Nat.le_of_ble_eq_true rfl) o13 rfl ?_
          refine j_goto (tgt := 35) dX4_goOnFrom_166 (by decide) ?_
          refine j_sub [2, 3, 4, 5, 6, 7, 0] rfl ?_
          exact h
    · replace h := h.2 c2
      refine j_goto (tgt := 163) dX4_goOnFrom_60 (by decide) ?_
      obtain ⟨o14, h⟩ := h
      refine j_iinc (ll' := [(6, aI (x6 + 1)), (0, aR 60), (1, aI x1), (2, aI x2), (3, aI x3), (4, aI x4), (5, aI x5)]) 6 dX4_goOnFrom_163 rfl (Nat.le_of_ble_eq_true rfl) o14 rfl ?_
      refine j_goto (tgt := 35) dX4_goOnFrom_166 (by decide) ?_
      refine j_sub [1, 2, 3, 4, 5, 6, 0] rfl ?_
      exact h
set_option maxRecDepth 100000 in
set_option maxHeartbeats 4000000 in
theorem B_X0_copy_10_18_0 {post : ax_M → Prop} {M : ax_M} (h : ax_J Y_X0_copy (ax_Kv Y_X0_copy SH post) 0 0 2 [(0, aR 10), (1, aR 18), (2, aI 0)] [] SH M) : ax_J Y_X0_copy (ax_Kv Y_X0_copy SH post) 0 0 0 [(0, aR 10), (1, aR 18)] [] SH M := by
  refine j_iconst (x := 0) dX0_copy_0 rfl (i32_c rfl) ?_
  refine j_istore_n (ll' := [(2, aI 0), (0, aR 10), (1, aR 18)]) dX0_copy_1 (Nat.le_of_ble_eq_true rfl) rfl ?_
  refine j_sub [1, 2, 0] rfl ?_
  exact h
theorem E_X0_copy_10_18 {post : ax_M → Prop} {M : ax_M} (h : ax_mr SH M → ax_J Y_X0_copy (ax_Kv Y_X0_copy SH post) 0 0 2 [(0, aR 10), (1, aR 18), (2, aI 0)] [] SH M) : ax_Tv Y_X0_copy [aR 10, aR 18] SH M post :=
  tv_of rfl (Nat.le_of_ble_eq_true rfl) rfl (fun q => B_X0_copy_10_18_0 (h q))
set_option maxRecDepth 100000 in
set_option maxHeartbeats 4000000 in
theorem B_X0_copy_10_18_2 {post : ax_M → Prop} {M : ax_M} {x2 : Int} (h : (((8 ≤ x2) → post M) ∧ ((x2 < 8) → (0 ≤ x2 ∧ x2 < 8) ∧ ((M 10 x2) = 0 ∨ (M 10 x2) = 1) ∧ (-2147483648 ≤ (x2 + 1) ∧ (x2 + 1) ≤ 2147483647) ∧ ax_J Y_X0_copy (ax_Kv Y_X0_copy SH post) 0 0 2 [(0, aR 10), (1, aR 18), (2, aI (x2 + 1))] [] SH (ax_up M 18 x2 (M 10 x2))))) : ax_J Y_X0_copy (ax_Kv Y_X0_copy SH post) 0 0 2 [(0, aR 10), (1, aR 18), (2, aI x2)] [] SH M := by
  refine j_iload_n 2 dX0_copy_2 rfl ?_
  refine j_aload_n 0 dX0_copy_3 rfl ?_
  refine j_alen (v := 8) dX0_copy_4 sh_10 (by decide) (by decide) rfl ?_
  refine j_icmp_ge (tgt := 26) dX0_copy_5 (by decide) (fun c1 => ?_) (fun c1 => ?_)
  · replace h := h.1 c1
    exact j_vret dX0_copy_26 rfl ⟨Nat.le_of_ble_eq_true rfl, Nat.le_of_ble_eq_true rfl⟩ h
  · replace h := h.2 c1
    refine j_iload_n 2 dX0_copy_8 rfl ?_
    refine j_aload_n 1 dX0_copy_9 rfl ?_
    refine j_alen (v := 8) dX0_copy_10 sh_18 (by decide) (by decide) rfl ?_
    refine j_icmp_ge (tgt := 26) dX0_copy_11 (by decide) (fun c => by have := c1; omega) (fun _ => ?_)
    refine j_aload_n 1 dX0_copy_14 rfl ?_
    refine j_iload_n 2 dX0_copy_15 rfl ?_
    refine j_aload_n 0 dX0_copy_16 rfl ?_
    refine j_iload_n 2 dX0_copy_17 rfl ?_
    obtain ⟨o2, h⟩ := h
    refine j_zald dX0_copy_18 sh_10 o2.1 o2.2 (fun _ => ?_)
    obtain ⟨o3, h⟩ := h
    refine j_zast dX0_copy_19 sh_18 o2.1 o2.2 o3 ?_
    obtain ⟨o4, h⟩ := h
    refine j_iinc (ll' := [(2, aI (x2 + 1)), (0, aR 10), (1, aR 18)]) 2 dX0_copy_20 rfl (Nat.le_of_ble_eq_true rfl) o4 rfl ?_
    refine j_goto (tgt := 2) dX0_copy_23 (by decide) ?_
    refine j_sub [1, 2, 0] rfl ?_
    exact h
set_option maxRecDepth 100000 in
set_option maxHeartbeats 4000000 in
theorem B_X0_copy_11_19_0 {post : ax_M → Prop} {M : ax_M} (h : ax_J Y_X0_copy (ax_Kv Y_X0_copy SH post) 0 0 2 [(0, aR 11), (1, aR 19), (2, aI 0)] [] SH M) : ax_J Y_X0_copy (ax_Kv Y_X0_copy SH post) 0 0 0 [(0, aR 11), (1, aR 19)] [] SH M := by
  refine j_iconst (x := 0) dX0_copy_0 rfl (i32_c rfl) ?_
  refine j_istore_n (ll' := [(2, aI 0), (0, aR 11), (1, aR 19)]) dX0_copy_1 (Nat.le_of_ble_eq_true rfl) rfl ?_
  refine j_sub [1, 2, 0] rfl ?_
  exact h
theorem E_X0_copy_11_19 {post : ax_M → Prop} {M : ax_M} (h : ax_mr SH M → ax_J Y_X0_copy (ax_Kv Y_X0_copy SH post) 0 0 2 [(0, aR 11), (1, aR 19), (2, aI 0)] [] SH M) : ax_Tv Y_X0_copy [aR 11, aR 19] SH M post :=
  tv_of rfl (Nat.le_of_ble_eq_true rfl) rfl (fun q => B_X0_copy_11_19_0 (h q))
set_option maxRecDepth 100000 in
set_option maxHeartbeats 4000000 in
theorem B_X0_copy_11_19_2 {post : ax_M → Prop} {M : ax_M} {x2 : Int} (h : (((8 ≤ x2) → post M) ∧ ((x2 < 8) → (0 ≤ x2 ∧ x2 < 8) ∧ ((M 11 x2) = 0 ∨ (M 11 x2) = 1) ∧ (-2147483648 ≤ (x2 + 1) ∧ (x2 + 1) ≤ 2147483647) ∧ ax_J Y_X0_copy (ax_Kv Y_X0_copy SH post) 0 0 2 [(0, aR 11), (1, aR 19), (2, aI (x2 + 1))] [] SH (ax_up M 19 x2 (M 11 x2))))) : ax_J Y_X0_copy (ax_Kv Y_X0_copy SH post) 0 0 2 [(0, aR 11), (1, aR 19), (2, aI x2)] [] SH M := by
  refine j_iload_n 2 dX0_copy_2 rfl ?_
  refine j_aload_n 0 dX0_copy_3 rfl ?_
  refine j_alen (v := 8) dX0_copy_4 sh_11 (by decide) (by decide) rfl ?_
  refine j_icmp_ge (tgt := 26) dX0_copy_5 (by decide) (fun c1 => ?_) (fun c1 => ?_)
  · replace h := h.1 c1
    exact j_vret dX0_copy_26 rfl ⟨Nat.le_of_ble_eq_true rfl, Nat.le_of_ble_eq_true rfl⟩ h
  · replace h := h.2 c1
    refine j_iload_n 2 dX0_copy_8 rfl ?_
    refine j_aload_n 1 dX0_copy_9 rfl ?_
    refine j_alen (v := 8) dX0_copy_10 sh_19 (by decide) (by decide) rfl ?_
    refine j_icmp_ge (tgt := 26) dX0_copy_11 (by decide) (fun c => by have := c1; omega) (fun _ => ?_)
    refine j_aload_n 1 dX0_copy_14 rfl ?_
    refine j_iload_n 2 dX0_copy_15 rfl ?_
    refine j_aload_n 0 dX0_copy_16 rfl ?_
    refine j_iload_n 2 dX0_copy_17 rfl ?_
    obtain ⟨o2, h⟩ := h
    refine j_zald dX0_copy_18 sh_11 o2.1 o2.2 (fun _ => ?_)
    obtain ⟨o3, h⟩ := h
    refine j_zast dX0_copy_19 sh_19 o2.1 o2.2 o3 ?_
    obtain ⟨o4, h⟩ := h
    refine j_iinc (ll' := [(2, aI (x2 + 1)), (0, aR 11), (1, aR 19)]) 2 dX0_copy_20 rfl (Nat.le_of_ble_eq_true rfl) o4 rfl ?_
    refine j_goto (tgt := 2) dX0_copy_23 (by decide) ?_
    refine j_sub [1, 2, 0] rfl ?_
    exact h
set_option maxRecDepth 100000 in
set_option maxHeartbeats 4000000 in
theorem B_X0_copy_14_22_0 {post : ax_M → Prop} {M : ax_M} (h : ax_J Y_X0_copy (ax_Kv Y_X0_copy SH post) 0 0 2 [(0, aR 14), (1, aR 22), (2, aI 0)] [] SH M) : ax_J Y_X0_copy (ax_Kv Y_X0_copy SH post) 0 0 0 [(0, aR 14), (1, aR 22)] [] SH M := by
  refine j_iconst (x := 0) dX0_copy_0 rfl (i32_c rfl) ?_
  refine j_istore_n (ll' := [(2, aI 0), (0, aR 14), (1, aR 22)]) dX0_copy_1 (Nat.le_of_ble_eq_true rfl) rfl ?_
  refine j_sub [1, 2, 0] rfl ?_
  exact h
theorem E_X0_copy_14_22 {post : ax_M → Prop} {M : ax_M} (h : ax_mr SH M → ax_J Y_X0_copy (ax_Kv Y_X0_copy SH post) 0 0 2 [(0, aR 14), (1, aR 22), (2, aI 0)] [] SH M) : ax_Tv Y_X0_copy [aR 14, aR 22] SH M post :=
  tv_of rfl (Nat.le_of_ble_eq_true rfl) rfl (fun q => B_X0_copy_14_22_0 (h q))
set_option maxRecDepth 100000 in
set_option maxHeartbeats 4000000 in
theorem B_X0_copy_14_22_2 {post : ax_M → Prop} {M : ax_M} {x2 : Int} (h : (((24 ≤ x2) → post M) ∧ ((x2 < 24) → (0 ≤ x2 ∧ x2 < 24) ∧ ((M 14 x2) = 0 ∨ (M 14 x2) = 1) ∧ (-2147483648 ≤ (x2 + 1) ∧ (x2 + 1) ≤ 2147483647) ∧ ax_J Y_X0_copy (ax_Kv Y_X0_copy SH post) 0 0 2 [(0, aR 14), (1, aR 22), (2, aI (x2 + 1))] [] SH (ax_up M 22 x2 (M 14 x2))))) : ax_J Y_X0_copy (ax_Kv Y_X0_copy SH post) 0 0 2 [(0, aR 14), (1, aR 22), (2, aI x2)] [] SH M := by
  refine j_iload_n 2 dX0_copy_2 rfl ?_
  refine j_aload_n 0 dX0_copy_3 rfl ?_
  refine j_alen (v := 24) dX0_copy_4 sh_14 (by decide) (by decide) rfl ?_
  refine j_icmp_ge (tgt := 26) dX0_copy_5 (by decide) (fun c1 => ?_) (fun c1 => ?_)
  · replace h := h.1 c1
    exact j_vret dX0_copy_26 rfl ⟨Nat.le_of_ble_eq_true rfl, Nat.le_of_ble_eq_true rfl⟩ h
  · replace h := h.2 c1
    refine j_iload_n 2 dX0_copy_8 rfl ?_
    refine j_aload_n 1 dX0_copy_9 rfl ?_
    refine j_alen (v := 24) dX0_copy_10 sh_22 (by decide) (by decide) rfl ?_
    refine j_icmp_ge (tgt := 26) dX0_copy_11 (by decide) (fun c => by have := c1; omega) (fun _ => ?_)
    refine j_aload_n 1 dX0_copy_14 rfl ?_
    refine j_iload_n 2 dX0_copy_15 rfl ?_
    refine j_aload_n 0 dX0_copy_16 rfl ?_
    refine j_iload_n 2 dX0_copy_17 rfl ?_
    obtain ⟨o2, h⟩ := h
    refine j_zald dX0_copy_18 sh_14 o2.1 o2.2 (fun _ => ?_)
    obtain ⟨o3, h⟩ := h
    refine j_zast dX0_copy_19 sh_22 o2.1 o2.2 o3 ?_
    obtain ⟨o4, h⟩ := h
    refine j_iinc (ll' := [(2, aI (x2 + 1)), (0, aR 14), (1, aR 22)]) 2 dX0_copy_20 rfl (Nat.le_of_ble_eq_true rfl) o4 rfl ?_
    refine j_goto (tgt := 2) dX0_copy_23 (by decide) ?_
    refine j_sub [1, 2, 0] rfl ?_
    exact h
set_option maxRecDepth 100000 in
set_option maxHeartbeats 4000000 in
theorem B_X0_copy_10_25_0 {post : ax_M → Prop} {M : ax_M} (h : ax_J Y_X0_copy (ax_Kv Y_X0_copy SH post) 0 0 2 [(0, aR 10), (1, aR 25), (2, aI 0)] [] SH M) : ax_J Y_X0_copy (ax_Kv Y_X0_copy SH post) 0 0 0 [(0, aR 10), (1, aR 25)] [] SH M := by
  refine j_iconst (x := 0) dX0_copy_0 rfl (i32_c rfl) ?_
  refine j_istore_n (ll' := [(2, aI 0), (0, aR 10), (1, aR 25)]) dX0_copy_1 (Nat.le_of_ble_eq_true rfl) rfl ?_
  refine j_sub [1, 2, 0] rfl ?_
  exact h
theorem E_X0_copy_10_25 {post : ax_M → Prop} {M : ax_M} (h : ax_mr SH M → ax_J Y_X0_copy (ax_Kv Y_X0_copy SH post) 0 0 2 [(0, aR 10), (1, aR 25), (2, aI 0)] [] SH M) : ax_Tv Y_X0_copy [aR 10, aR 25] SH M post :=
  tv_of rfl (Nat.le_of_ble_eq_true rfl) rfl (fun q => B_X0_copy_10_25_0 (h q))
set_option maxRecDepth 100000 in
set_option maxHeartbeats 4000000 in
theorem B_X0_copy_10_25_2 {post : ax_M → Prop} {M : ax_M} {x2 : Int} (h : (((8 ≤ x2) → post M) ∧ ((x2 < 8) → (0 ≤ x2 ∧ x2 < 8) ∧ ((M 10 x2) = 0 ∨ (M 10 x2) = 1) ∧ (-2147483648 ≤ (x2 + 1) ∧ (x2 + 1) ≤ 2147483647) ∧ ax_J Y_X0_copy (ax_Kv Y_X0_copy SH post) 0 0 2 [(0, aR 10), (1, aR 25), (2, aI (x2 + 1))] [] SH (ax_up M 25 x2 (M 10 x2))))) : ax_J Y_X0_copy (ax_Kv Y_X0_copy SH post) 0 0 2 [(0, aR 10), (1, aR 25), (2, aI x2)] [] SH M := by
  refine j_iload_n 2 dX0_copy_2 rfl ?_
  refine j_aload_n 0 dX0_copy_3 rfl ?_
  refine j_alen (v := 8) dX0_copy_4 sh_10 (by decide) (by decide) rfl ?_
  refine j_icmp_ge (tgt := 26) dX0_copy_5 (by decide) (fun c1 => ?_) (fun c1 => ?_)
  · replace h := h.1 c1
    exact j_vret dX0_copy_26 rfl ⟨Nat.le_of_ble_eq_true rfl, Nat.le_of_ble_eq_true rfl⟩ h
  · replace h := h.2 c1
    refine j_iload_n 2 dX0_copy_8 rfl ?_
    refine j_aload_n 1 dX0_copy_9 rfl ?_
    refine j_alen (v := 8) dX0_copy_10 sh_25 (by decide) (by decide) rfl ?_
    refine j_icmp_ge (tgt := 26) dX0_copy_11 (by decide) (fun c => by have := c1; omega) (fun _ => ?_)
    refine j_aload_n 1 dX0_copy_14 rfl ?_
    refine j_iload_n 2 dX0_copy_15 rfl ?_
    refine j_aload_n 0 dX0_copy_16 rfl ?_
    refine j_iload_n 2 dX0_copy_17 rfl ?_
    obtain ⟨o2, h⟩ := h
    refine j_zald dX0_copy_18 sh_10 o2.1 o2.2 (fun _ => ?_)
    obtain ⟨o3, h⟩ := h
    refine j_zast dX0_copy_19 sh_25 o2.1 o2.2 o3 ?_
    obtain ⟨o4, h⟩ := h
    refine j_iinc (ll' := [(2, aI (x2 + 1)), (0, aR 10), (1, aR 25)]) 2 dX0_copy_20 rfl (Nat.le_of_ble_eq_true rfl) o4 rfl ?_
    refine j_goto (tgt := 2) dX0_copy_23 (by decide) ?_
    refine j_sub [1, 2, 0] rfl ?_
    exact h
set_option maxRecDepth 100000 in
set_option maxHeartbeats 4000000 in
theorem B_X0_copy_11_26_0 {post : ax_M → Prop} {M : ax_M} (h : ax_J Y_X0_copy (ax_Kv Y_X0_copy SH post) 0 0 2 [(0, aR 11), (1, aR 26), (2, aI 0)] [] SH M) : ax_J Y_X0_copy (ax_Kv Y_X0_copy SH post) 0 0 0 [(0, aR 11), (1, aR 26)] [] SH M := by
  refine j_iconst (x := 0) dX0_copy_0 rfl (i32_c rfl) ?_
  refine j_istore_n (ll' := [(2, aI 0), (0, aR 11), (1, aR 26)]) dX0_copy_1 (Nat.le_of_ble_eq_true rfl) rfl ?_
  refine j_sub [1, 2, 0] rfl ?_
  exact h
theorem E_X0_copy_11_26 {post : ax_M → Prop} {M : ax_M} (h : ax_mr SH M → ax_J Y_X0_copy (ax_Kv Y_X0_copy SH post) 0 0 2 [(0, aR 11), (1, aR 26), (2, aI 0)] [] SH M) : ax_Tv Y_X0_copy [aR 11, aR 26] SH M post :=
  tv_of rfl (Nat.le_of_ble_eq_true rfl) rfl (fun q => B_X0_copy_11_26_0 (h q))
set_option maxRecDepth 100000 in
set_option maxHeartbeats 4000000 in
theorem B_X0_copy_11_26_2 {post : ax_M → Prop} {M : ax_M} {x2 : Int} (h : (((8 ≤ x2) → post M) ∧ ((x2 < 8) → (0 ≤ x2 ∧ x2 < 8) ∧ ((M 11 x2) = 0 ∨ (M 11 x2) = 1) ∧ (-2147483648 ≤ (x2 + 1) ∧ (x2 + 1) ≤ 2147483647) ∧ ax_J Y_X0_copy (ax_Kv Y_X0_copy SH post) 0 0 2 [(0, aR 11), (1, aR 26), (2, aI (x2 + 1))] [] SH (ax_up M 26 x2 (M 11 x2))))) : ax_J Y_X0_copy (ax_Kv Y_X0_copy SH post) 0 0 2 [(0, aR 11), (1, aR 26), (2, aI x2)] [] SH M := by
  refine j_iload_n 2 dX0_copy_2 rfl ?_
  refine j_aload_n 0 dX0_copy_3 rfl ?_
  refine j_alen (v := 8) dX0_copy_4 sh_11 (by decide) (by decide) rfl ?_
  refine j_icmp_ge (tgt := 26) dX0_copy_5 (by decide) (fun c1 => ?_) (fun c1 => ?_)
  · replace h := h.1 c1
    exact j_vret dX0_copy_26 rfl ⟨Nat.le_of_ble_eq_true rfl, Nat.le_of_ble_eq_true rfl⟩ h
  · replace h := h.2 c1
    refine j_iload_n 2 dX0_copy_8 rfl ?_
    refine j_aload_n 1 dX0_copy_9 rfl ?_
    refine j_alen (v := 8) dX0_copy_10 sh_26 (by decide) (by decide) rfl ?_
    refine j_icmp_ge (tgt := 26) dX0_copy_11 (by decide) (fun c => by have := c1; omega) (fun _ => ?_)
    refine j_aload_n 1 dX0_copy_14 rfl ?_
    refine j_iload_n 2 dX0_copy_15 rfl ?_
    refine j_aload_n 0 dX0_copy_16 rfl ?_
    refine j_iload_n 2 dX0_copy_17 rfl ?_
    obtain ⟨o2, h⟩ := h
    refine j_zald dX0_copy_18 sh_11 o2.1 o2.2 (fun _ => ?_)
    obtain ⟨o3, h⟩ := h
    refine j_zast dX0_copy_19 sh_26 o2.1 o2.2 o3 ?_
    obtain ⟨o4, h⟩ := h
    refine j_iinc (ll' := [(2, aI (x2 + 1)), (0, aR 11), (1, aR 26)]) 2 dX0_copy_20 rfl (Nat.le_of_ble_eq_true rfl) o4 rfl ?_
    refine j_goto (tgt := 2) dX0_copy_23 (by decide) ?_
    refine j_sub [1, 2, 0] rfl ?_
    exact h
set_option maxRecDepth 100000 in
set_option maxHeartbeats 4000000 in
theorem B_X0_copy_14_29_0 {post : ax_M → Prop} {M : ax_M} (h : ax_J Y_X0_copy (ax_Kv Y_X0_copy SH post) 0 0 2 [(0, aR 14), (1, aR 29), (2, aI 0)] [] SH M) : ax_J Y_X0_copy (ax_Kv Y_X0_copy SH post) 0 0 0 [(0, aR 14), (1, aR 29)] [] SH M := by
  refine j_iconst (x := 0) dX0_copy_0 rfl (i32_c rfl) ?_
  refine j_istore_n (ll' := [(2, aI 0), (0, aR 14), (1, aR 29)]) dX0_copy_1 (Nat.le_of_ble_eq_true rfl) rfl ?_
  refine j_sub [1, 2, 0] rfl ?_
  exact h
theorem E_X0_copy_14_29 {post : ax_M → Prop} {M : ax_M} (h : ax_mr SH M → ax_J Y_X0_copy (ax_Kv Y_X0_copy SH post) 0 0 2 [(0, aR 14), (1, aR 29), (2, aI 0)] [] SH M) : ax_Tv Y_X0_copy [aR 14, aR 29] SH M post :=
  tv_of rfl (Nat.le_of_ble_eq_true rfl) rfl (fun q => B_X0_copy_14_29_0 (h q))
set_option maxRecDepth 100000 in
set_option maxHeartbeats 4000000 in
theorem B_X0_copy_14_29_2 {post : ax_M → Prop} {M : ax_M} {x2 : Int} (h : (((24 ≤ x2) → post M) ∧ ((x2 < 24) → (0 ≤ x2 ∧ x2 < 24) ∧ ((M 14 x2) = 0 ∨ (M 14 x2) = 1) ∧ (-2147483648 ≤ (x2 + 1) ∧ (x2 + 1) ≤ 2147483647) ∧ ax_J Y_X0_copy (ax_Kv Y_X0_copy SH post) 0 0 2 [(0, aR 14), (1, aR 29), (2, aI (x2 + 1))] [] SH (ax_up M 29 x2 (M 14 x2))))) : ax_J Y_X0_copy (ax_Kv Y_X0_copy SH post) 0 0 2 [(0, aR 14), (1, aR 29), (2, aI x2)] [] SH M := by
  refine j_iload_n 2 dX0_copy_2 rfl ?_
  refine j_aload_n 0 dX0_copy_3 rfl ?_
  refine j_alen (v := 24) dX0_copy_4 sh_14 (by decide) (by decide) rfl ?_
  refine j_icmp_ge (tgt := 26) dX0_copy_5 (by decide) (fun c1 => ?_) (fun c1 => ?_)
  · replace h := h.1 c1
    exact j_vret dX0_copy_26 rfl ⟨Nat.le_of_ble_eq_true rfl, Nat.le_of_ble_eq_true rfl⟩ h
  · replace h := h.2 c1
    refine j_iload_n 2 dX0_copy_8 rfl ?_
    refine j_aload_n 1 dX0_copy_9 rfl ?_
    refine j_alen (v := 24) dX0_copy_10 sh_29 (by decide) (by decide) rfl ?_
    refine j_icmp_ge (tgt := 26) dX0_copy_11 (by decide) (fun c => by have := c1; omega) (fun _ => ?_)
    refine j_aload_n 1 dX0_copy_14 rfl ?_
    refine j_iload_n 2 dX0_copy_15 rfl ?_
    refine j_aload_n 0 dX0_copy_16 rfl ?_
    refine j_iload_n 2 dX0_copy_17 rfl ?_
    obtain ⟨o2, h⟩ := h
    refine j_zald dX0_copy_18 sh_14 o2.1 o2.2 (fun _ => ?_)
    obtain ⟨o3, h⟩ := h
    refine j_zast dX0_copy_19 sh_29 o2.1 o2.2 o3 ?_
    obtain ⟨o4, h⟩ := h
    refine j_iinc (ll' := [(2, aI (x2 + 1)), (0, aR 14), (1, aR 29)]) 2 dX0_copy_20 rfl (Nat.le_of_ble_eq_true rfl) o4 rfl ?_
    refine j_goto (tgt := 2) dX0_copy_23 (by decide) ?_
    refine j_sub [1, 2, 0] rfl ?_
    exact h
set_option maxRecDepth 100000 in
set_option maxHeartbeats 4000000 in
theorem B_X0_copy_18_10_0 {post : ax_M → Prop} {M : ax_M} (h : ax_J Y_X0_copy (ax_Kv Y_X0_copy SH post) 0 0 2 [(0, aR 18), (1, aR 10), (2, aI 0)] [] SH M) : ax_J Y_X0_copy (ax_Kv Y_X0_copy SH post) 0 0 0 [(0, aR 18), (1, aR 10)] [] SH M := by
  refine j_iconst (x := 0) dX0_copy_0 rfl (i32_c rfl) ?_
  refine j_istore_n (ll' := [(2, aI 0), (0, aR 18), (1, aR 10)]) dX0_copy_1 (Nat.le_of_ble_eq_true rfl) rfl ?_
  refine j_sub [1, 2, 0] rfl ?_
  exact h
theorem E_X0_copy_18_10 {post : ax_M → Prop} {M : ax_M} (h : ax_mr SH M → ax_J Y_X0_copy (ax_Kv Y_X0_copy SH post) 0 0 2 [(0, aR 18), (1, aR 10), (2, aI 0)] [] SH M) : ax_Tv Y_X0_copy [aR 18, aR 10] SH M post :=
  tv_of rfl (Nat.le_of_ble_eq_true rfl) rfl (fun q => B_X0_copy_18_10_0 (h q))
set_option maxRecDepth 100000 in
set_option maxHeartbeats 4000000 in
theorem B_X0_copy_18_10_2 {post : ax_M → Prop} {M : ax_M} {x2 : Int} (h : (((8 ≤ x2) → post M) ∧ ((x2 < 8) → (0 ≤ x2 ∧ x2 < 8) ∧ ((M 18 x2) = 0 ∨ (M 18 x2) = 1) ∧ (-2147483648 ≤ (x2 + 1) ∧ (x2 + 1) ≤ 2147483647) ∧ ax_J Y_X0_copy (ax_Kv Y_X0_copy SH post) 0 0 2 [(0, aR 18), (1, aR 10), (2, aI (x2 + 1))] [] SH (ax_up M 10 x2 (M 18 x2))))) : ax_J Y_X0_copy (ax_Kv Y_X0_copy SH post) 0 0 2 [(0, aR 18), (1, aR 10), (2, aI x2)] [] SH M := by
  refine j_iload_n 2 dX0_copy_2 rfl ?_
  refine j_aload_n 0 dX0_copy_3 rfl ?_
  refine j_alen (v := 8) dX0_copy_4 sh_18 (by decide) (by decide) rfl ?_
  refine j_icmp_ge (tgt := 26) dX0_copy_5 (by decide) (fun c1 => ?_) (fun c1 => ?_)
  · replace h := h.1 c1
    exact j_vret dX0_copy_26 rfl ⟨Nat.le_of_ble_eq_true rfl, Nat.le_of_ble_eq_true rfl⟩ h
  · replace h := h.2 c1
    refine j_iload_n 2 dX0_copy_8 rfl ?_
    refine j_aload_n 1 dX0_copy_9 rfl ?_
    refine j_alen (v := 8) dX0_copy_10 sh_10 (by decide) (by decide) rfl ?_
    refine j_icmp_ge (tgt := 26) dX0_copy_11 (by decide) (fun c => by have := c1; omega) (fun _ => ?_)
    refine j_aload_n 1 dX0_copy_14 rfl ?_
    refine j_iload_n 2 dX0_copy_15 rfl ?_
    refine j_aload_n 0 dX0_copy_16 rfl ?_
    refine j_iload_n 2 dX0_copy_17 rfl ?_
    obtain ⟨o2, h⟩ := h
    refine j_zald dX0_copy_18 sh_18 o2.1 o2.2 (fun _ => ?_)
    obtain ⟨o3, h⟩ := h
    refine j_zast dX0_copy_19 sh_10 o2.1 o2.2 o3 ?_
    obtain ⟨o4, h⟩ := h
    refine j_iinc (ll' := [(2, aI (x2 + 1)), (0, aR 18), (1, aR 10)]) 2 dX0_copy_20 rfl (Nat.le_of_ble_eq_true rfl) o4 rfl ?_
    refine j_goto (tgt := 2) dX0_copy_23 (by decide) ?_
    refine j_sub [1, 2, 0] rfl ?_
    exact h
set_option maxRecDepth 100000 in
set_option maxHeartbeats 4000000 in
theorem B_X0_copy_19_11_0 {post : ax_M → Prop} {M : ax_M} (h : ax_J Y_X0_copy (ax_Kv Y_X0_copy SH post) 0 0 2 [(0, aR 19), (1, aR 11), (2, aI 0)] [] SH M) : ax_J Y_X0_copy (ax_Kv Y_X0_copy SH post) 0 0 0 [(0, aR 19), (1, aR 11)] [] SH M := by
  refine j_iconst (x := 0) dX0_copy_0 rfl (i32_c rfl) ?_
  refine j_istore_n (ll' := [(2, aI 0), (0, aR 19), (1, aR 11)]) dX0_copy_1 (Nat.le_of_ble_eq_true rfl) rfl ?_
  refine j_sub [1, 2, 0] rfl ?_
  exact h
theorem E_X0_copy_19_11 {post : ax_M → Prop} {M : ax_M} (h : ax_mr SH M → ax_J Y_X0_copy (ax_Kv Y_X0_copy SH post) 0 0 2 [(0, aR 19), (1, aR 11), (2, aI 0)] [] SH M) : ax_Tv Y_X0_copy [aR 19, aR 11] SH M post :=
  tv_of rfl (Nat.le_of_ble_eq_true rfl) rfl (fun q => B_X0_copy_19_11_0 (h q))
set_option maxRecDepth 100000 in
set_option maxHeartbeats 4000000 in
theorem B_X0_copy_19_11_2 {post : ax_M → Prop} {M : ax_M} {x2 : Int} (h : (((8 ≤ x2) → post M) ∧ ((x2 < 8) → (0 ≤ x2 ∧ x2 < 8) ∧ ((M 19 x2) = 0 ∨ (M 19 x2) = 1) ∧ (-2147483648 ≤ (x2 + 1) ∧ (x2 + 1) ≤ 2147483647) ∧ ax_J Y_X0_copy (ax_Kv Y_X0_copy SH post) 0 0 2 [(0, aR 19), (1, aR 11), (2, aI (x2 + 1))] [] SH (ax_up M 11 x2 (M 19 x2))))) : ax_J Y_X0_copy (ax_Kv Y_X0_copy SH post) 0 0 2 [(0, aR 19), (1, aR 11), (2, aI x2)] [] SH M := by
  refine j_iload_n 2 dX0_copy_2 rfl ?_
  refine j_aload_n 0 dX0_copy_3 rfl ?_
  refine j_alen (v := 8) dX0_copy_4 sh_19 (by decide) (by decide) rfl ?_
  refine j_icmp_ge (tgt := 26) dX0_copy_5 (by decide) (fun c1 => ?_) (fun c1 => ?_)
  · replace h := h.1 c1
    exact j_vret dX0_copy_26 rfl ⟨Nat.le_of_ble_eq_true rfl, Nat.le_of_ble_eq_true rfl⟩ h
  · replace h := h.2 c1
    refine j_iload_n 2 dX0_copy_8 rfl ?_
    refine j_aload_n 1 dX0_copy_9 rfl ?_
    refine j_alen (v := 8) dX0_copy_10 sh_11 (by decide) (by decide) rfl ?_
    refine j_icmp_ge (tgt := 26) dX0_copy_11 (by decide) (fun c => by have := c1; omega) (fun _ => ?_)
    refine j_aload_n 1 dX0_copy_14 rfl ?_
    refine j_iload_n 2 dX0_copy_15 rfl ?_
    refine j_aload_n 0 dX0_copy_16 rfl ?_
    refine j_iload_n 2 dX0_copy_17 rfl ?_
    obtain ⟨o2, h⟩ := h
    refine j_zald dX0_copy_18 sh_19 o2.1 o2.2 (fun _ => ?_)
    obtain ⟨o3, h⟩ := h
    refine j_zast dX0_copy_19 sh_11 o2.1 o2.2 o3 ?_
    obtain ⟨o4, h⟩ := h
    refine j_iinc (ll' := [(2, aI (x2 + 1)), (0, aR 19), (1, aR 11)]) 2 dX0_copy_20 rfl (Nat.le_of_ble_eq_true rfl) o4 rfl ?_
    refine j_goto (tgt := 2) dX0_copy_23 (by decide) ?_
    refine j_sub [1, 2, 0] rfl ?_
    exact h
set_option maxRecDepth 100000 in
set_option maxHeartbeats 4000000 in
theorem B_X0_copy_22_14_0 {post : ax_M → Prop} {M : ax_M} (h : ax_J Y_X0_copy (ax_Kv Y_X0_copy SH post) 0 0 2 [(0, aR 22), (1, aR 14), (2, aI 0)] [] SH M) : ax_J Y_X0_copy (ax_Kv Y_X0_copy SH post) 0 0 0 [(0, aR 22), (1, aR 14)] [] SH M := by
  refine j_iconst (x := 0) dX0_copy_0 rfl (i32_c rfl) ?_
  refine j_istore_n (ll' := [(2, aI 0), (0, aR 22), (1, aR 14)]) dX0_copy_1 (Nat.le_of_ble_eq_true rfl) rfl ?_
  refine j_sub [1, 2, 0] rfl ?_
  exact h
theorem E_X0_copy_22_14 {post : ax_M → Prop} {M : ax_M} (h : ax_mr SH M → ax_J Y_X0_copy (ax_Kv Y_X0_copy SH post) 0 0 2 [(0, aR 22), (1, aR 14), (2, aI 0)] [] SH M) : ax_Tv Y_X0_copy [aR 22, aR 14] SH M post :=
  tv_of rfl (Nat.le_of_ble_eq_true rfl) rfl (fun q => B_X0_copy_22_14_0 (h q))
set_option maxRecDepth 100000 in
set_option maxHeartbeats 4000000 in
theorem B_X0_copy_22_14_2 {post : ax_M → Prop} {M : ax_M} {x2 : Int} (h : (((24 ≤ x2) → post M) ∧ ((x2 < 24) → (0 ≤ x2 ∧ x2 < 24) ∧ ((M 22 x2) = 0 ∨ (M 22 x2) = 1) ∧ (-2147483648 ≤ (x2 + 1) ∧ (x2 + 1) ≤ 2147483647) ∧ ax_J Y_X0_copy (ax_Kv Y_X0_copy SH post) 0 0 2 [(0, aR 22), (1, aR 14), (2, aI (x2 + 1))] [] SH (ax_up M 14 x2 (M 22 x2))))) : ax_J Y_X0_copy (ax_Kv Y_X0_copy SH post) 0 0 2 [(0, aR 22), (1, aR 14), (2, aI x2)] [] SH M := by
  refine j_iload_n 2 dX0_copy_2 rfl ?_
  refine j_aload_n 0 dX0_copy_3 rfl ?_
  refine j_alen (v := 24) dX0_copy_4 sh_22 (by decide) (by decide) rfl ?_
  refine j_icmp_ge (tgt := 26) dX0_copy_5 (by decide) (fun c1 => ?_) (fun c1 => ?_)
  · replace h := h.1 c1
    exact j_vret dX0_copy_26 rfl ⟨Nat.le_of_ble_eq_true rfl, Nat.le_of_ble_eq_true rfl⟩ h
  · replace h := h.2 c1
    refine j_iload_n 2 dX0_copy_8 rfl ?_
    refine j_aload_n 1 dX0_copy_9 rfl ?_
    refine j_alen (v := 24) dX0_copy_10 sh_14 (by decide) (by decide) rfl ?_
    refine j_icmp_ge (tgt := 26) dX0_copy_11 (by decide) (fun c => by have := c1; omega) (fun _ => ?_)
    refine j_aload_n 1 dX0_copy_14 rfl ?_
    refine j_iload_n 2 dX0_copy_15 rfl ?_
    refine j_aload_n 0 dX0_copy_16 rfl ?_
    refine j_iload_n 2 dX0_copy_17 rfl ?_
    obtain ⟨o2, h⟩ := h
    refine j_zald dX0_copy_18 sh_22 o2.1 o2.2 (fun _ => ?_)
    obtain ⟨o3, h⟩ := h
    refine j_zast dX0_copy_19 sh_14 o2.1 o2.2 o3 ?_
    obtain ⟨o4, h⟩ := h
    refine j_iinc (ll' := [(2, aI (x2 + 1)), (0, aR 22), (1, aR 14)]) 2 dX0_copy_20 rfl (Nat.le_of_ble_eq_true rfl) o4 rfl ?_
    refine j_goto (tgt := 2) dX0_copy_23 (by decide) ?_
    refine j_sub [1, 2, 0] rfl ?_
    exact h
set_option maxRecDepth 100000 in
set_option maxHeartbeats 4000000 in
theorem B_X0_copy_25_10_0 {post : ax_M → Prop} {M : ax_M} (h : ax_J Y_X0_copy (ax_Kv Y_X0_copy SH post) 0 0 2 [(0, aR 25), (1, aR 10), (2, aI 0)] [] SH M) : ax_J Y_X0_copy (ax_Kv Y_X0_copy SH post) 0 0 0 [(0, aR 25), (1, aR 10)] [] SH M := by
  refine j_iconst (x := 0) dX0_copy_0 rfl (i32_c rfl) ?_
  refine j_istore_n (ll' := [(2, aI 0), (0, aR 25), (1, aR 10)]) dX0_copy_1 (Nat.le_of_ble_eq_true rfl) rfl ?_
  refine j_sub [1, 2, 0] rfl ?_
  exact h
theorem E_X0_copy_25_10 {post : ax_M → Prop} {M : ax_M} (h : ax_mr SH M → ax_J Y_X0_copy (ax_Kv Y_X0_copy SH post) 0 0 2 [(0, aR 25), (1, aR 10), (2, aI 0)] [] SH M) : ax_Tv Y_X0_copy [aR 25, aR 10] SH M post :=
  tv_of rfl (Nat.le_of_ble_eq_true rfl) rfl (fun q => B_X0_copy_25_10_0 (h q))
set_option maxRecDepth 100000 in
set_option maxHeartbeats 4000000 in
theorem B_X0_copy_25_10_2 {post : ax_M → Prop} {M : ax_M} {x2 : Int} (h : (((8 ≤ x2) → post M) ∧ ((x2 < 8) → (0 ≤ x2 ∧ x2 < 8) ∧ ((M 25 x2) = 0 ∨ (M 25 x2) = 1) ∧ (-2147483648 ≤ (x2 + 1) ∧ (x2 + 1) ≤ 2147483647) ∧ ax_J Y_X0_copy (ax_Kv Y_X0_copy SH post) 0 0 2 [(0, aR 25), (1, aR 10), (2, aI (x2 + 1))] [] SH (ax_up M 10 x2 (M 25 x2))))) : ax_J Y_X0_copy (ax_Kv Y_X0_copy SH post) 0 0 2 [(0, aR 25), (1, aR 10), (2, aI x2)] [] SH M := by
  refine j_iload_n 2 dX0_copy_2 rfl ?_
  refine j_aload_n 0 dX0_copy_3 rfl ?_
  refine j_alen (v := 8) dX0_copy_4 sh_25 (by decide) (by decide) rfl ?_
  refine j_icmp_ge (tgt := 26) dX0_copy_5 (by decide) (fun c1 => ?_) (fun c1 => ?_)
  · replace h := h.1 c1
    exact j_vret dX0_copy_26 rfl ⟨Nat.le_of_ble_eq_true rfl, Nat.le_of_ble_eq_true rfl⟩ h
  · replace h := h.2 c1
    refine j_iload_n 2 dX0_copy_8 rfl ?_
    refine j_aload_n 1 dX0_copy_9 rfl ?_
    refine j_alen (v := 8) dX0_copy_10 sh_10 (by decide) (by decide) rfl ?_
    refine j_icmp_ge (tgt := 26) dX0_copy_11 (by decide) (fun c => by have := c1; omega) (fun _ => ?_)
    refine j_aload_n 1 dX0_copy_14 rfl ?_
    refine j_iload_n 2 dX0_copy_15 rfl ?_
    refine j_aload_n 0 dX0_copy_16 rfl ?_
    refine j_iload_n 2 dX0_copy_17 rfl ?_
    obtain ⟨o2, h⟩ := h
    refine j_zald dX0_copy_18 sh_25 o2.1 o2.2 (fun _ => ?_)
    obtain ⟨o3, h⟩ := h
    refine j_zast dX0_copy_19 sh_10 o2.1 o2.2 o3 ?_
    obtain ⟨o4, h⟩ := h
    refine j_iinc (ll' := [(2, aI (x2 + 1)), (0, aR 25), (1, aR 10)]) 2 dX0_copy_20 rfl (Nat.le_of_ble_eq_true rfl) o4 rfl ?_
    refine j_goto (tgt := 2) dX0_copy_23 (by decide) ?_
    refine j_sub [1, 2, 0] rfl ?_
    exact h
set_option maxRecDepth 100000 in
set_option maxHeartbeats 4000000 in
theorem B_X0_copy_26_11_0 {post : ax_M → Prop} {M : ax_M} (h : ax_J Y_X0_copy (ax_Kv Y_X0_copy SH post) 0 0 2 [(0, aR 26), (1, aR 11), (2, aI 0)] [] SH M) : ax_J Y_X0_copy (ax_Kv Y_X0_copy SH post) 0 0 0 [(0, aR 26), (1, aR 11)] [] SH M := by
  refine j_iconst (x := 0) dX0_copy_0 rfl (i32_c rfl) ?_
  refine j_istore_n (ll' := [(2, aI 0), (0, aR 26), (1, aR 11)]) dX0_copy_1 (Nat.le_of_ble_eq_true rfl) rfl ?_
  refine j_sub [1, 2, 0] rfl ?_
  exact h
theorem E_X0_copy_26_11 {post : ax_M → Prop} {M : ax_M} (h : ax_mr SH M → ax_J Y_X0_copy (ax_Kv Y_X0_copy SH post) 0 0 2 [(0, aR 26), (1, aR 11), (2, aI 0)] [] SH M) : ax_Tv Y_X0_copy [aR 26, aR 11] SH M post :=
  tv_of rfl (Nat.le_of_ble_eq_true rfl) rfl (fun q => B_X0_copy_26_11_0 (h q))
set_option maxRecDepth 100000 in
set_option maxHeartbeats 4000000 in
theorem B_X0_copy_26_11_2 {post : ax_M → Prop} {M : ax_M} {x2 : Int} (h : (((8 ≤ x2) → post M) ∧ ((x2 < 8) → (0 ≤ x2 ∧ x2 < 8) ∧ ((M 26 x2) = 0 ∨ (M 26 x2) = 1) ∧ (-2147483648 ≤ (x2 + 1) ∧ (x2 + 1) ≤ 2147483647) ∧ ax_J Y_X0_copy (ax_Kv Y_X0_copy SH post) 0 0 2 [(0, aR 26), (1, aR 11), (2, aI (x2 + 1))] [] SH (ax_up M 11 x2 (M 26 x2))))) : ax_J Y_X0_copy (ax_Kv Y_X0_copy SH post) 0 0 2 [(0, aR 26), (1, aR 11), (2, aI x2)] [] SH M := by
  refine j_iload_n 2 dX0_copy_2 rfl ?_
  refine j_aload_n 0 dX0_copy_3 rfl ?_
  refine j_alen (v := 8) dX0_copy_4 sh_26 (by decide) (by decide) rfl ?_
  refine j_icmp_ge (tgt := 26) dX0_copy_5 (by decide) (fun c1 => ?_) (fun c1 => ?_)
  · replace h := h.1 c1
    exact j_vret dX0_copy_26 rfl ⟨Nat.le_of_ble_eq_true rfl, Nat.le_of_ble_eq_true rfl⟩ h
  · replace h := h.2 c1
    refine j_iload_n 2 dX0_copy_8 rfl ?_
    refine j_aload_n 1 dX0_copy_9 rfl ?_
    refine j_alen (v := 8) dX0_copy_10 sh_11 (by decide) (by decide) rfl ?_
    refine j_icmp_ge (tgt := 26) dX0_copy_11 (by decide) (fun c => by have := c1; omega) (fun _ => ?_)
    refine j_aload_n 1 dX0_copy_14 rfl ?_
    refine j_iload_n 2 dX0_copy_15 rfl ?_
    refine j_aload_n 0 dX0_copy_16 rfl ?_
    refine j_iload_n 2 dX0_copy_17 rfl ?_
    obtain ⟨o2, h⟩ := h
    refine j_zald dX0_copy_18 sh_26 o2.1 o2.2 (fun _ => ?_)
    obtain ⟨o3, h⟩ := h
    refine j_zast dX0_copy_19 sh_11 o2.1 o2.2 o3 ?_
    obtain ⟨o4, h⟩ := h
    refine j_iinc (ll' := [(2, aI (x2 + 1)), (0, aR 26), (1, aR 11)]) 2 dX0_copy_20 rfl (Nat.le_of_ble_eq_true rfl) o4 rfl ?_
    refine j_goto (tgt := 2) dX0_copy_23 (by decide) ?_
    refine j_sub [1, 2, 0] rfl ?_
    exact h
set_option maxRecDepth 100000 in
set_option maxHeartbeats 4000000 in
theorem B_X0_copy_29_14_0 {post : ax_M → Prop} {M : ax_M} (h : ax_J Y_X0_copy (ax_Kv Y_X0_copy SH post) 0 0 2 [(0, aR 29), (1, aR 14), (2, aI 0)] [] SH M) : ax_J Y_X0_copy (ax_Kv Y_X0_copy SH post) 0 0 0 [(0, aR 29), (1, aR 14)] [] SH M := by
  refine j_iconst (x := 0) dX0_copy_0 rfl (i32_c rfl) ?_
  refine j_istore_n (ll' := [(2, aI 0), (0, aR 29), (1, aR 14)]) dX0_copy_1 (Nat.le_of_ble_eq_true rfl) rfl ?_
  refine j_sub [1, 2, 0] rfl ?_
  exact h
theorem E_X0_copy_29_14 {post : ax_M → Prop} {M : ax_M} (h : ax_mr SH M → ax_J Y_X0_copy (ax_Kv Y_X0_copy SH post) 0 0 2 [(0, aR 29), (1, aR 14), (2, aI 0)] [] SH M) : ax_Tv Y_X0_copy [aR 29, aR 14] SH M post :=
  tv_of rfl (Nat.le_of_ble_eq_true rfl) rfl (fun q => B_X0_copy_29_14_0 (h q))
set_option maxRecDepth 100000 in
set_option maxHeartbeats 4000000 in
theorem B_X0_copy_29_14_2 {post : ax_M → Prop} {M : ax_M} {x2 : Int} (h : (((24 ≤ x2) → post M) ∧ ((x2 < 24) → (0 ≤ x2 ∧ x2 < 24) ∧ ((M 29 x2) = 0 ∨ (M 29 x2) = 1) ∧ (-2147483648 ≤ (x2 + 1) ∧ (x2 + 1) ≤ 2147483647) ∧ ax_J Y_X0_copy (ax_Kv Y_X0_copy SH post) 0 0 2 [(0, aR 29), (1, aR 14), (2, aI (x2 + 1))] [] SH (ax_up M 14 x2 (M 29 x2))))) : ax_J Y_X0_copy (ax_Kv Y_X0_copy SH post) 0 0 2 [(0, aR 29), (1, aR 14), (2, aI x2)] [] SH M := by
  refine j_iload_n 2 dX0_copy_2 rfl ?_
  refine j_aload_n 0 dX0_copy_3 rfl ?_
  refine j_alen (v := 24) dX0_copy_4 sh_29 (by decide) (by decide) rfl ?_
  refine j_icmp_ge (tgt := 26) dX0_copy_5 (by decide) (fun c1 => ?_) (fun c1 => ?_)
  · replace h := h.1 c1
    exact j_vret dX0_copy_26 rfl ⟨Nat.le_of_ble_eq_true rfl, Nat.le_of_ble_eq_true rfl⟩ h
  · replace h := h.2 c1
    refine j_iload_n 2 dX0_copy_8 rfl ?_
    refine j_aload_n 1 dX0_copy_9 rfl ?_
    refine j_alen (v := 24) dX0_copy_10 sh_14 (by decide) (by decide) rfl ?_
    refine j_icmp_ge (tgt := 26) dX0_copy_11 (by decide) (fun c => by have := c1; omega) (fun _ => ?_)
    refine j_aload_n 1 dX0_copy_14 rfl ?_
    refine j_iload_n 2 dX0_copy_15 rfl ?_
    refine j_aload_n 0 dX0_copy_16 rfl ?_
    refine j_iload_n 2 dX0_copy_17 rfl ?_
    obtain ⟨o2, h⟩ := h
    refine j_zald dX0_copy_18 sh_29 o2.1 o2.2 (fun _ => ?_)
    obtain ⟨o3, h⟩ := h
    refine j_zast dX0_copy_19 sh_14 o2.1 o2.2 o3 ?_
    obtain ⟨o4, h⟩ := h
    refine j_iinc (ll' := [(2, aI (x2 + 1)), (0, aR 29), (1, aR 14)]) 2 dX0_copy_20 rfl (Nat.le_of_ble_eq_true rfl) o4 rfl ?_
    refine j_goto (tgt := 2) dX0_copy_23 (by decide) ?_
    refine j_sub [1, 2, 0] rfl ?_
    exact h
set_option maxRecDepth 100000 in
set_option maxHeartbeats 4000000 in
theorem B_X5_readOut_0 {post : ax_M → Prop} {M : ax_M} {x1 : Int} (h : ((((M 4 2) = (-1)) → (-2147483648 ≤ ((M 4 0) - 1) ∧ ((M 4 0) - 1) ≤ 2147483647) ∧ ax_Ti Y_X5_number [aR 3, aI 0, aI ((M 4 0) - 1)] SH M (fun z2 u1 => ax_Ti Y_X5_number [aR 3, aI 1, aI 9] SH (ax_up u1 4 2 z2) (fun z4 u3 => ax_Tv Y_X5_takeClauseEnd [aR 3] SH (ax_up u3 4 3 z4) (fun u5 => post u5)))) ∧ ((¬ (M 4 2) = (-1)) → (((¬ (M 3 4) = 0) → post M) ∧ (((M 3 4) = 0) → post (ax_up (ax_up M 3 4 3) 3 5 x1)))))) : ax_J Y_X5_readOut (ax_Kv Y_X5_readOut SH post) 0 0 0 [(0, aR 3), (1, aI x1)] [] SH M := by
  refine j_aload_n 0 dX5_readOut_0 rfl ?_
  refine j_getc 4 dX5_readOut_1 f_X5_12 sh_3 rfl ?_
  refine j_geti (i := 2) dX5_readOut_4 f_X5_45 sh_4 rfl rfl (fun _ => ?_)
  refine j_iconst (x := (-1)) dX5_readOut_7 rfl (i32_c rfl) ?_
  refine j_icmp_eq (tgt := 18) dX5_readOut_8 (by decide) (fun c1 => ?_) (fun c1 => ?_)
  · replace h := h.1 c1
    refine j_aload_n 0 dX5_readOut_18 rfl ?_
    refine j_getc 4 dX5_readOut_19 f_X5_12 sh_3 rfl ?_
    refine j_aload_n 0 dX5_readOut_22 rfl ?_
    refine j_iconst (x := 0) dX5_readOut_23 rfl (i32_c rfl) ?_
    refine j_aload_n 0 dX5_readOut_24 rfl ?_
    refine j_getc 4 dX5_readOut_25 f_X5_12 sh_3 rfl ?_
    refine j_geti (i := 0) dX5_readOut_28 f_X5_62 sh_4 rfl rfl (fun _ => ?_)
    refine j_iconst (x := 1) dX5_readOut_31 rfl (i32_c rfl) ?_
    obtain ⟨o2, h⟩ := h
    refine j_isub (z := ((M 4 0) - 1)) dX5_readOut_32 rfl o2 ?_
    refine j_calliV (Yc := Y_X5_number) (as := [aI 0, aI ((M 4 0) - 1)]) (rest := [aR 4]) dX5_readOut_33 q_X5_58 ⟨Nat.le_of_ble_eq_true rfl, Nat.le_of_ble_eq_true rfl, Nat.le_of_ble_eq_true rfl, Nat.le_of_ble_eq_true rfl⟩ sh_3 rfl (Nat.le_of_ble_eq_true rfl) rfl (ti_mono h (fun z2 u1 h => ?_))
    refine j_puti (i := 2) dX5_readOut_36 p_X5_45 (fun h => by cases h) sh_4 rfl rfl ?_
    refine j_aload_n 0 dX5_readOut_39 rfl ?_
    refine j_getc 4 dX5_readOut_40 f_X5_12 sh_3 rfl ?_
    refine j_aload_n 0 dX5_readOut_43 rfl ?_
    refine j_iconst (x := 1) dX5_readOut_44 rfl (i32_c rfl) ?_
    refine j_bipush (x := 9) dX5_readOut_45 rfl (i32_c rfl) ?_
    refine j_calliV (Yc := Y_X5_number) (as := [aI 1, aI 9]) (rest := [aR 4]) dX5_readOut_47 q_X5_58 ⟨Nat.le_of_ble_eq_true rfl, Nat.le_of_ble_eq_true rfl, Nat.le_of_ble_eq_true rfl, Nat.le_of_ble_eq_true rfl⟩ sh_3 rfl (Nat.le_of_ble_eq_true rfl) rfl (ti_mono h (fun z4 u3 h => ?_))
    refine j_puti (i := 3) dX5_readOut_50 p_X5_78 (fun h => by cases h) sh_4 rfl rfl ?_
    refine j_aload_n 0 dX5_readOut_53 rfl ?_
    refine j_callvV (Yc := Y_X5_takeClauseEnd) (as := []) (rest := []) dX5_readOut_54 q_X5_64 ⟨Nat.le_of_ble_eq_true rfl, Nat.le_of_ble_eq_true rfl, Nat.le_of_ble_eq_true rfl, Nat.le_of_ble_eq_true rfl⟩ sh_3 rfl (Nat.le_of_ble_eq_true rfl) rfl (tv_mono h (fun u5 h => ?_))
    exact j_vret dX5_readOut_57 rfl ⟨Nat.le_of_ble_eq_true rfl, Nat.le_of_ble_eq_true rfl⟩ h
  · replace h := h.2 c1
    refine j_aload_n 0 dX5_readOut_11 rfl ?_
    refine j_iconst (x := 3) dX5_readOut_12 rfl (i32_c rfl) ?_
    refine j_iload_n 1 dX5_readOut_13 rfl ?_
    refine j_callvV (Yc := Y_X5_blame) (as := [aI 3, aI x1]) (rest := []) dX5_readOut_14 q_X5_48 ⟨Nat.le_of_ble_eq_true rfl, Nat.le_of_ble_eq_true rfl, Nat.le_of_ble_eq_true rfl, Nat.le_of_ble_eq_true rfl⟩ sh_3 rfl (Nat.le_of_ble_eq_true rfl) rfl (tv_of (ll := [(0, aR 3), (1, aI 3), (2, aI x1)]) rfl (Nat.le_of_ble_eq_true rfl) rfl (fun _ => ?_))
    refine j_aload_n 0 dX5_blame_0 rfl ?_
    refine j_geti (i := 4) dX5_blame_1 f_X5_29 sh_3 rfl rfl (fun _ => ?_)
    refine j_if_ne (tgt := 17) dX5_blame_4 (by decide) (fun c3 => ?_) (fun c3 => ?_)
    · replace h := h.1 c3
      refine j_vret dX5_blame_17 rfl ⟨Nat.le_of_ble_eq_true rfl, Nat.le_of_ble_eq_true rfl⟩ ?_
      exact j_vret dX5_readOut_17 rfl ⟨Nat.le_of_ble_eq_true rfl, Nat.le_of_ble_eq_true rfl⟩ h
    · replace h := h.2 c3
      refine j_aload_n 0 dX5_blame_7 rfl ?_
      refine j_iload_n 1 dX5_blame_8 rfl ?_
      refine j_puti (i := 4) dX5_blame_9 p_X5_29 (fun h => by cases h) sh_3 rfl rfl ?_
      refine j_aload_n 0 dX5_blame_12 rfl ?_
      refine j_iload_n 2 dX5_blame_13 rfl ?_
      refine j_puti (i := 5) dX5_blame_14 p_X5_18 (fun h => by cases h) sh_3 rfl rfl ?_
      refine j_vret dX5_blame_17 rfl ⟨Nat.le_of_ble_eq_true rfl, Nat.le_of_ble_eq_true rfl⟩ ?_
      exact j_vret dX5_readOut_17 rfl ⟨Nat.le_of_ble_eq_true rfl, Nat.le_of_ble_eq_true rfl⟩ h
theorem E_X5_readOut {post : ax_M → Prop} {M : ax_M} {x1 : Int} (h : ax_mr SH M → ((((M 4 2) = (-1)) → (-2147483648 ≤ ((M 4 0) - 1) ∧ ((M 4 0) - 1) ≤ 2147483647) ∧ ax_Ti Y_X5_number [aR 3, aI 0, aI ((M 4 0) - 1)] SH M (fun z2 u1 => ax_Ti Y_X5_number [aR 3, aI 1, aI 9] SH (ax_up u1 4 2 z2) (fun z4 u3 => ax_Tv Y_X5_takeClauseEnd [aR 3] SH (ax_up u3 4 3 z4) (fun u5 => post u5)))) ∧ ((¬ (M 4 2) = (-1)) → (((¬ (M 3 4) = 0) → post M) ∧ (((M 3 4) = 0) → post (ax_up (ax_up M 3 4 3) 3 5 x1)))))) : ax_Tv Y_X5_readOut [aR 3, aI x1] SH M post :=
  tv_of rfl (Nat.le_of_ble_eq_true rfl) rfl (fun q => B_X5_readOut_0 (h q))
set_option maxRecDepth 100000 in
set_option maxHeartbeats 4000000 in
theorem B_X5_readWay_0 {post : ax_M → Prop} {M : ax_M} {x1 : Int} (h : ((((M 4 1) < 24) → (-2147483648 ≤ ((M 4 0) - 1) ∧ ((M 4 0) - 1) ≤ 2147483647) ∧ ax_Ti Y_X5_number [aR 3, aI 0, aI ((M 4 0) - 1)] SH M (fun z2 u1 => (-2147483648 ≤ ((u1 4 0) - 1) ∧ ((u1 4 0) - 1) ≤ 2147483647) ∧ ax_Ti Y_X5_number [aR 3, aI 0, aI ((u1 4 0) - 1)] SH u1 (fun z4 u3 => (((¬ z2 = z4) → ax_J Y_X5_readWay (ax_Kv Y_X5_readWay SH post) 0 0 67 [(0, aR 3), (2, aI (M 4 1)), (3, aI z2), (4, aI z4)] [] SH u3) ∧ ((z2 = z4) → (((¬ (u3 3 4) = 0) → ax_J Y_X5_readWay (ax_Kv Y_X5_readWay SH post) 0 0 67 [(0, aR 3), (2, aI (M 4 1)), (3, aI z2), (4, aI z4)] [] SH u3) ∧ (((u3 3 4) = 0) → ax_J Y_X5_readWay (ax_Kv Y_X5_readWay SH post) 0 0 67 [(0, aR 3), (2, aI (M 4 1)), (3, aI z2), (4, aI z4)] [] SH (ax_up (ax_up u3 3 4 5) 3 5 (u3 3 3))))))))) ∧ ((24 ≤ (M 4 1)) → (((¬ (M 3 4) = 0) → post M) ∧ (((M 3 4) = 0) → post (ax_up (ax_up M 3 4 4) 3 5 x1)))))) : ax_J Y_X5_readWay (ax_Kv Y_X5_readWay SH post) 0 0 0 [(0, aR 3), (1, aI x1)] [] SH M := by
  refine j_aload_n 0 dX5_readWay_0 rfl ?_
  refine j_getc 4 dX5_readWay_1 f_X5_12 sh_3 rfl ?_
  refine j_geti (i := 1) dX5_readWay_4 f_X5_81 sh_4 rfl rfl (fun _ => ?_)
  refine j_istore_n (ll' := [(2, aI (M 4 1)), (0, aR 3), (1, aI x1)]) dX5_readWay_7 (Nat.le_of_ble_eq_true rfl) rfl ?_
  refine j_iload_n 0 dX5_readWay_8 rfl ?_
  refine j_bipush (x := 24) dX5_readWay_9 rfl (i32_c rfl) ?_
  refine j_icmp_lt (tgt := 21) dX5_readWay_11 (by decide) (fun c1 => ?_) (fun c1 => ?_)
  · replace h := h.1 c1
    refine j_aload_n 1 dX5_readWay_21 rfl ?_
    refine j_iconst (x := 0) dX5_readWay_22 rfl (i32_c rfl) ?_
    refine j_aload_n 1 dX5_readWay_23 rfl ?_
    refine j_getc 4 dX5_readWay_24 f_X5_12 sh_3 rfl ?_
    refine j_geti (i := 0) dX5_readWay_27 f_X5_62 sh_4 rfl rfl (fun _ => ?_)
    refine j_iconst (x := 1) dX5_readWay_30 rfl (i32_c rfl) ?_
    obtain ⟨o2, h⟩ := h
    refine j_isub (z := ((M 4 0) - 1)) dX5_readWay_31 rfl o2 ?_
    refine j_calliV (Yc := Y_X5_number) (as := [aI 0, aI ((M 4 0) - 1)]) (rest := []) dX5_readWay_32 q_X5_58 ⟨Nat.le_of_ble_eq_true rfl, Nat.le_of_ble_eq_true rfl, Nat.le_of_ble_eq_true rfl, Nat.le_of_ble_eq_true rfl⟩ sh_3 rfl (Nat.le_of_ble_eq_true rfl) rfl (ti_mono h (fun z2 u1 h => ?_))
    refine j_istore_n (ll' := [(3, aI z2), (2, aI (M 4 1)), (0, aR 3), (1, aI x1)]) dX5_readWay_35 (Nat.le_of_ble_eq_true rfl) rfl ?_
    refine j_aload_n 2 dX5_readWay_36 rfl ?_
    refine j_iconst (x := 0) dX5_readWay_37 rfl (i32_c rfl) ?_
    refine j_aload_n 2 dX5_readWay_38 rfl ?_
    refine j_getc 4 dX5_readWay_39 f_X5_12 sh_3 rfl ?_
    refine j_geti (i := 0) dX5_readWay_42 f_X5_62 sh_4 rfl rfl (fun _ => ?_)
    refine j_iconst (x := 1) dX5_readWay_45 rfl (i32_c rfl) ?_
    obtain ⟨o3, h⟩ := h
    refine j_isub (z := ((u1 4 0) - 1)) dX5_readWay_46 rfl o3 ?_
    refine j_calliV (Yc := Y_X5_number) (as := [aI 0, aI ((u1 4 0) - 1)]) (rest := []) dX5_readWay_47 q_X5_58 ⟨Nat.le_of_ble_eq_true rfl, Nat.le_of_ble_eq_true rfl, Nat.le_of_ble_eq_true rfl, Nat.le_of_ble_eq_true rfl⟩ sh_3 rfl (Nat.le_of_ble_eq_true rfl) rfl (ti_mono h (fun z4 u3 h => ?_))
    refine j_istore (ll' := [(4, aI z4), (3, aI z2), (2, aI (M 4 1)), (0, aR 3), (1, aI x1)]) dX5_readWay_50 (Nat.le_of_ble_eq_true rfl) rfl ?_
    refine j_iload_n 1 dX5_readWay_52 rfl ?_
    refine j_iload 0 dX5_readWay_53 rfl ?_
    refine j_icmp_ne (tgt := 67) dX5_readWay_55 (by decide) (fun c4 => ?_) (fun c4 => ?_)
    · replace h := h.1 c4
      refine j_sub [3, 2, 1, 0] rfl ?_
      exact h
    · replace h := h.2 c4
      refine j_aload_n 3 dX5_readWay_58 rfl ?_
      refine j_iconst (x := 5) dX5_readWay_59 rfl (i32_c rfl) ?_
      refine j_aload_n 3 dX5_readWay_60 rfl ?_
      refine j_geti (i := 3) dX5_readWay_61 f_X5_84 sh_3 rfl rfl (fun _ => ?_)
      refine j_callvV (Yc := Y_X5_blame) (as := [aI 5, aI (u3 3 3)]) (rest := []) dX5_readWay_64 q_X5_48 ⟨Nat.le_of_ble_eq_true rfl, Nat.le_of_ble_eq_true rfl, Nat.le_of_ble_eq_true rfl, Nat.le_of_ble_eq_true rfl⟩ sh_3 rfl (Nat.le_of_ble_eq_true rfl) rfl (tv_of (ll := [(0, aR 3), (1, aI 5), (2, aI (u3 3 3))]) rfl (Nat.le_of_ble_eq_true rfl) rfl (fun _ => ?_))
      refine j_aload_n 0 dX5_blame_0 rfl ?_
      refine j_geti (i := 4) dX5_blame_1 f_X5_29 sh_3 rfl rfl (fun _ => ?_)
      refine j_if_ne (tgt := 17) dX5_blame_4 (by decide) (fun c5 => ?_) (fun c5 => ?_)
      · replace h := h.1 c5
        refine j_vret dX5_blame_17 rfl ⟨Nat.le_of_ble_eq_true rfl, Nat.le_of_ble_eq_true rfl⟩ ?_
        refine j_sub [3, 2, 1, 0] rfl ?_
        exact h
      · replace h := h.2 c5
        refine j_aload_n 0 dX5_blame_7 rfl ?_
        refine j_iload_n 1 dX5_blame_8 rfl ?_
        refine j_puti (i := 4) dX5_blame_9 p_X5_29 (fun h => by cases h) sh_3 rfl rfl ?_
        refine j_aload_n 0 dX5_blame_12 rfl ?_
        refine j_iload_n 2 dX5_blame_13 rfl ?_
        refine j_puti (i := 5) dX5_blame_14 p_X5_18 (fun h => by cases h) sh_3 rfl rfl ?_
        refine j_vret dX5_blame_17 rfl ⟨Nat.le_of_ble_eq_true rfl, Nat.le_of_ble_eq_true rfl⟩ ?_
        refine j_sub [3, 2, 1, 0] rfl ?_
        exact h
  · replace h := h.2 c1
    refine j_aload_n 1 dX5_readWay_14 rfl ?_
    refine j_iconst (x := 4) dX5_readWay_15 rfl (i32_c rfl) ?_
    refine j_iload_n 2 dX5_readWay_16 rfl ?_
    refine j_callvV (Yc := Y_X5_blame) (as := [aI 4, aI x1]) (rest := []) dX5_readWay_17 q_X5_48 ⟨Nat.le_of_ble_eq_true rfl, Nat.le_of_ble_eq_true rfl, Nat.le_of_ble_eq_true rfl, Nat.le_of_ble_eq_true rfl⟩ sh_3 rfl (Nat.le_of_ble_eq_true rfl) rfl (tv_of (ll := [(0, aR 3), (1, aI 4), (2, aI x1)]) rfl (Nat.le_of_ble_eq_true rfl) rfl (fun _ => ?_))
    refine j_aload_n 0 dX5_blame_0 rfl ?_
    refine j_geti (i := 4) dX5_blame_1 f_X5_29 sh_3 rfl rfl (fun _ => ?_)
    refine j_if_ne (tgt := 17) dX5_blame_4 (by decide) (fun c6 => ?_) (fun c6 => ?_)
    · replace h := h.1 c6
      refine j_vret dX5_blame_17 rfl ⟨Nat.le_of_ble_eq_true rfl, Nat.le_of_ble_eq_true rfl⟩ ?_
      exact j_vret dX5_readWay_20 rfl ⟨Nat.le_of_ble_eq_true rfl, Nat.le_of_ble_eq_true rfl⟩ h
    · replace h := h.2 c6
      refine j_aload_n 0 dX5_blame_7 rfl ?_
      refine j_iload_n 1 dX5_blame_8 rfl ?_
      refine j_puti (i := 4) dX5_blame_9 p_X5_29 (fun h => by cases h) sh_3 rfl rfl ?_
      refine j_aload_n 0 dX5_blame_12 rfl ?_
      refine j_iload_n 2 dX5_blame_13 rfl ?_
      refine j_puti (i := 5) dX5_blame_14 p_X5_18 (fun h => by cases h) sh_3 rfl rfl ?_
      refine j_vret dX5_blame_17 rfl ⟨Nat.le_of_ble_eq_true rfl, Nat.le_of_ble_eq_true rfl⟩ ?_
      exact j_vret dX5_readWay_20 rfl ⟨Nat.le_of_ble_eq_true rfl, Nat.le_of_ble_eq_true rfl⟩ h
theorem E_X5_readWay {post : ax_M → Prop} {M : ax_M} {x1 : Int} (h : ax_mr SH M → ((((M 4 1) < 24) → (-2147483648 ≤ ((M 4 0) - 1) ∧ ((M 4 0) - 1) ≤ 2147483647) ∧ ax_Ti Y_X5_number [aR 3, aI 0, aI ((M 4 0) - 1)] SH M (fun z2 u1 => (-2147483648 ≤ ((u1 4 0) - 1) ∧ ((u1 4 0) - 1) ≤ 2147483647) ∧ ax_Ti Y_X5_number [aR 3, aI 0, aI ((u1 4 0) - 1)] SH u1 (fun z4 u3 => (((¬ z2 = z4) → ax_J Y_X5_readWay (ax_Kv Y_X5_readWay SH post) 0 0 67 [(0, aR 3), (2, aI (M 4 1)), (3, aI z2), (4, aI z4)] [] SH u3) ∧ ((z2 = z4) → (((¬ (u3 3 4) = 0) → ax_J Y_X5_readWay (ax_Kv Y_X5_readWay SH post) 0 0 67 [(0, aR 3), (2, aI (M 4 1)), (3, aI z2), (4, aI z4)] [] SH u3) ∧ (((u3 3 4) = 0) → ax_J Y_X5_readWay (ax_Kv Y_X5_readWay SH post) 0 0 67 [(0, aR 3), (2, aI (M 4 1)), (3, aI z2), (4, aI z4)] [] SH (ax_up (ax_up u3 3 4 5) 3 5 (u3 3 3))))))))) ∧ ((24 ≤ (M 4 1)) → (((¬ (M 3 4) = 0) → post M) ∧ (((M 3 4) = 0) → post (ax_up (ax_up M 3 4 4) 3 5 x1)))))) : ax_Tv Y_X5_readWay [aR 3, aI x1] SH M post :=
  tv_of rfl (Nat.le_of_ble_eq_true rfl) rfl (fun q => B_X5_readWay_0 (h q))
set_option maxRecDepth 100000 in
set_option maxHeartbeats 4000000 in
theorem B_X5_readWay_67 {post : ax_M → Prop} {M : ax_M} {x2 x3 x4 : Int} (h : ax_Ti Y_X5_number [aR 3, aI 1, aI 30] SH M (fun z2 u1 => (-2147483648 ≤ (x2 * 7) ∧ (x2 * 7) ≤ 2147483647) ∧ (-2147483648 ≤ ((x2 * 7) + 0) ∧ ((x2 * 7) + 0) ≤ 2147483647) ∧ (0 ≤ ((x2 * 7) + 0) ∧ ((x2 * 7) + 0) < 168) ∧ (-2147483648 ≤ ((x2 * 7) + 1) ∧ ((x2 * 7) + 1) ≤ 2147483647) ∧ (0 ≤ ((x2 * 7) + 1) ∧ ((x2 * 7) + 1) < 168) ∧ (-2147483648 ≤ ((x2 * 7) + 2) ∧ ((x2 * 7) + 2) ≤ 2147483647) ∧ (0 ≤ ((x2 * 7) + 2) ∧ ((x2 * 7) + 2) < 168) ∧ ax_Ti Y_X5_takeWord [aR 3, aR 1003] SH (ax_up (ax_up (ax_up u1 5 ((x2 * 7) + 0) x3) 5 ((x2 * 7) + 1) x4) 5 ((x2 * 7) + 2) z2) (fun z4 u3 => (((z4 = 0) → ax_J Y_X5_readWay (ax_Kv Y_X5_readWay SH post) 0 0 135 [(0, aR 3), (2, aI x2)] [aI (-1), aI 3, aI x2, aR 4] SH u3) ∧ ((¬ z4 = 0) → ax_Ti Y_X5_number [aR 3, aI z2, aI 60] SH u3 (fun z6 u5 => ax_J Y_X5_readWay (ax_Kv Y_X5_readWay SH post) 0 0 135 [(0, aR 3), (2, aI x2)] [aI z6, aI 3, aI x2, aR 4] SH u5)))))) : ax_J Y_X5_readWay (ax_Kv Y_X5_readWay SH post) 0 0 67 [(0, aR 3), (2, aI x2), (3, aI x3), (4, aI x4)] [] SH M := by
  refine j_aload_n 0 dX5_readWay_67 rfl ?_
  refine j_iconst (x := 1) dX5_readWay_68 rfl (i32_c rfl) ?_
  refine j_bipush (x := 30) dX5_readWay_69 rfl (i32_c rfl) ?_
  refine j_calliV (Yc := Y_X5_number) (as := [aI 1, aI 30]) (rest := []) dX5_readWay_71 q_X5_58 ⟨Nat.le_of_ble_eq_true rfl, Nat.le_of_ble_eq_true rfl, Nat.le_of_ble_eq_true rfl, Nat.le_of_ble_eq_true rfl⟩ sh_3 rfl (Nat.le_of_ble_eq_true rfl) rfl (ti_mono h (fun z2 u1 h => ?_))
  refine j_istore (ll' := [(5, aI z2), (0, aR 3), (2, aI x2), (3, aI x3), (4, aI x4)]) dX5_readWay_74 (Nat.le_of_ble_eq_true rfl) rfl ?_
  refine j_aload_n 1 dX5_readWay_76 rfl ?_
  refine j_getc 4 dX5_readWay_77 f_X5_12 sh_3 rfl ?_
  refine j_iload_n 2 dX5_readWay_80 rfl ?_
  refine j_iconst (x := 0) dX5_readWay_81 rfl (i32_c rfl) ?_
  refine j_iload_n 3 dX5_readWay_82 rfl ?_
  refine j_callvV (Yc := Y_X3_put) (as := [aI x2, aI 0, aI x3]) (rest := []) dX5_readWay_83 q_X5_87 ⟨Nat.le_of_ble_eq_true rfl, Nat.le_of_ble_eq_true rfl, Nat.le_of_ble_eq_true rfl, Nat.le_of_ble_eq_true rfl⟩ sh_4 rfl (Nat.le_of_ble_eq_true rfl) rfl (tv_of (ll := [(0, aR 4), (1, aI x2), (2, aI 0), (3, aI x3)]) rfl (Nat.le_of_ble_eq_true rfl) rfl (fun _ => ?_))
  refine j_aload_n 0 dX3_put_0 rfl ?_
  refine j_getc 5 dX3_put_1 f_X3_15 sh_4 rfl ?_
  refine j_iload_n 1 dX3_put_4 rfl ?_
  refine j_bipush (x := 7) dX3_put_5 rfl (i32_c rfl) ?_
  obtain ⟨o1, h⟩ := h
  refine j_imul (z := (x2 * 7)) dX3_put_7 rfl o1 ?_
  refine j_iload_n 2 dX3_put_8 rfl ?_
  obtain ⟨o2, h⟩ := h
  refine j_iadd (z := ((x2 * 7) + 0)) dX3_put_9 rfl o2 ?_
  refine j_iload_n 3 dX3_put_10 rfl ?_
  obtain ⟨o3, h⟩ := h
  refine j_iast dX3_put_11 sh_5 o3.1 o3.2 ?_
  refine j_vret dX3_put_12 rfl ⟨Nat.le_of_ble_eq_true rfl, Nat.le_of_ble_eq_true rfl⟩ ?_
  refine j_aload_n 1 dX5_readWay_86 rfl ?_
  refine j_getc 4 dX5_readWay_87 f_X5_12 sh_3 rfl ?_
  refine j_iload_n 2 dX5_readWay_90 rfl ?_
  refine j_iconst (x := 1) dX5_readWay_91 rfl (i32_c rfl) ?_
  refine j_iload 4 dX5_readWay_92 rfl ?_
  refine j_callvV (Yc := Y_X3_put) (as := [aI x2, aI 1, aI x4]) (rest := []) dX5_readWay_94 q_X5_87 ⟨Nat.le_of_ble_eq_true rfl, Nat.le_of_ble_eq_true rfl, Nat.le_of_ble_eq_true rfl, Nat.le_of_ble_eq_true rfl⟩ sh_4 rfl (Nat.le_of_ble_eq_true rfl) rfl (tv_of (ll := [(0, aR 4), (1, aI x2), (2, aI 1), (3, aI x4)]) rfl (Nat.le_of_ble_eq_true rfl) rfl (fun _ => ?_))
  refine j_aload_n 0 dX3_put_0 rfl ?_
  refine j_getc 5 dX3_put_1 f_X3_15 sh_4 rfl ?_
  refine j_iload_n 1 dX3_put_4 rfl ?_
  refine j_bipush (x := 7) dX3_put_5 rfl (i32_c rfl) ?_
  refine j_imul (z := (x2 * 7)) dX3_put_7 rfl o1 ?_
  refine j_iload_n 2 dX3_put_8 rfl ?_
  obtain ⟨o4, h⟩ := h
  refine j_iadd (z := ((x2 * 7) + 1)) dX3_put_9 rfl o4 ?_
  refine j_iload_n 3 dX3_put_10 rfl ?_
  obtain ⟨o5, h⟩ := h
  refine j_iast dX3_put_11 sh_5 o5.1 o5.2 ?_
  refine j_vret dX3_put_12 rfl ⟨Nat.le_of_ble_eq_true rfl, Nat.le_of_ble_eq_true rfl⟩ ?_
  refine j_aload_n 1 dX5_readWay_97 rfl ?_
  refine j_getc 4 dX5_readWay_98 f_X5_12 sh_3 rfl ?_
  refine j_iload_n 2 dX5_readWay_101 rfl ?_
  refine j_iconst (x := 2) dX5_readWay_102 rfl (i32_c rfl) ?_
  refine j_iload 0 dX5_readWay_103 rfl ?_
  refine j_callvV (Yc := Y_X3_put) (as := [aI x2, aI 2, aI z2]) (rest := []) dX5_readWay_105 q_X5_87 ⟨Nat.le_of_ble_eq_true rfl, Nat.le_of_ble_eq_true rfl, Nat.le_of_ble_eq_true rfl, Nat.le_of_ble_eq_true rfl⟩ sh_4 rfl (Nat.le_of_ble_eq_true rfl) rfl (tv_of (ll := [(0, aR 4), (1, aI x2), (2, aI 2), (3, aI z2)]) rfl (Nat.le_of_ble_eq_true rfl) rfl (fun _ => ?_))
  refine j_aload_n 0 dX3_put_0 rfl ?_
  refine j_getc 5 dX3_put_1 f_X3_15 sh_4 rfl ?_
  refine j_iload_n 1 dX3_put_4 rfl ?_
  refine j_bipush (x := 7) dX3_put_5 rfl (i32_c rfl) ?_
  refine j_imul (z := (x2 * 7)) dX3_put_7 rfl o1 ?_
  refine j_iload_n 2 dX3_put_8 rfl ?_
  obtain ⟨o6, h⟩ := h
  refine j_iadd (z := ((x2 * 7) + 2)) dX3_put_9 rfl o6 ?_
  refine j_iload_n 3 dX3_put_10 rfl ?_
  obtain ⟨o7, h⟩ := h
  refine j_iast dX3_put_11 sh_5 o7.1 o7.2 ?_
  refine j_vret dX3_put_12 rfl ⟨Nat.le_of_ble_eq_true rfl, Nat.le_of_ble_eq_true rfl⟩ ?_
  refine j_aload_n 1 dX5_readWay_108 rfl ?_
  refine j_getc 4 dX5_readWay_109 f_X5_12 sh_3 rfl ?_
  refine j_iload_n 2 dX5_readWay_112 rfl ?_
  refine j_iconst (x := 3) dX5_readWay_113 rfl (i32_c rfl) ?_
  refine j_aload_n 1 dX5_readWay_114 rfl ?_
  refine j_ldcS (i := 3) dX5_readWay_115 rfl ?_
  refine j_calliV (Yc := Y_X5_takeWord) (as := [aR 1003]) (rest := [aI 3, aI x2, aR 4]) dX5_readWay_117 q_X5_54 ⟨Nat.le_of_ble_eq_true rfl, Nat.le_of_ble_eq_true rfl, Nat.le_of_ble_eq_true rfl, Nat.le_of_ble_eq_true rfl⟩ sh_3 rfl (Nat.le_of_ble_eq_true rfl) rfl (ti_mono h (fun z4 u3 h => ?_))
  refine j_if_eq (tgt := 134) dX5_readWay_120 (by decide) (fun c8 => ?_) (fun c8 => ?_)
  · replace h := h.1 c8
    refine j_iconst (x := (-1)) dX5_readWay_134 rfl (i32_c rfl) ?_
    refine j_sub [1, 2] rfl ?_
    exact h
  · replace h := h.2 c8
    refine j_aload_n 1 dX5_readWay_123 rfl ?_
    refine j_iload 0 dX5_readWay_124 rfl ?_
    refine j_bipush (x := 60) dX5_readWay_126 rfl (i32_c rfl) ?_
    refine j_calliV (Yc := Y_X5_number) (as := [aI z2, aI 60]) (rest := [aI 3, aI x2, aR 4]) dX5_readWay_128 q_X5_58 ⟨Nat.le_of_ble_eq_true rfl, Nat.le_of_ble_eq_true rfl, Nat.le_of_ble_eq_true rfl, Nat.le_of_ble_eq_true rfl⟩ sh_3 rfl (Nat.le_of_ble_eq_true rfl) rfl (ti_mono h (fun z6 u5 h => ?_))
    refine j_goto (tgt := 135) dX5_readWay_131 (by decide) ?_
    refine j_sub [1, 2] rfl ?_
    exact h
set_option maxRecDepth 100000 in
set_option maxHeartbeats 4000000 in
theorem B_X5_readWay_135 {post : ax_M → Prop} {M : ax_M} {s0 s1 s2 x2 : Int} (h : (-2147483648 ≤ (s2 * 7) ∧ (s2 * 7) ≤ 2147483647) ∧ (-2147483648 ≤ ((s2 * 7) + s1) ∧ ((s2 * 7) + s1) ≤ 2147483647) ∧ (0 ≤ ((s2 * 7) + s1) ∧ ((s2 * 7) + s1) < 168) ∧ ax_Ti Y_X5_takeWord [aR 3, aR 1004] SH (ax_up M 5 ((s2 * 7) + s1) s0) (fun z2 u1 => (((z2 = 0) → ax_J Y_X5_readWay (ax_Kv Y_X5_readWay SH post) 0 0 165 [(0, aR 3), (2, aI x2)] [aI 9, aI 4, aI x2, aR 4] SH u1) ∧ ((¬ z2 = 0) → ax_Ti Y_X5_number [aR 3, aI 1, aI 9] SH u1 (fun z4 u3 => ax_J Y_X5_readWay (ax_Kv Y_X5_readWay SH post) 0 0 165 [(0, aR 3), (2, aI x2)] [aI z4, aI 4, aI x2, aR 4] SH u3))))) : ax_J Y_X5_readWay (ax_Kv Y_X5_readWay SH post) 0 0 135 [(0, aR 3), (2, aI x2)] [aI s0, aI s1, aI s2, aR 4] SH M := by
  refine j_callvV (Yc := Y_X3_put) (as := [aI s2, aI s1, aI s0]) (rest := []) dX5_readWay_135 q_X5_87 ⟨Nat.le_of_ble_eq_true rfl, Nat.le_of_ble_eq_true rfl, Nat.le_of_ble_eq_true rfl, Nat.le_of_ble_eq_true rfl⟩ sh_4 rfl (Nat.le_of_ble_eq_true rfl) rfl (tv_of (ll := [(0, aR 4), (1, aI s2), (2, aI s1), (3, aI s0)]) rfl (Nat.le_of_ble_eq_true rfl) rfl (fun _ => ?_))
  refine j_aload_n 0 dX3_put_0 rfl ?_
  refine j_getc 5 dX3_put_1 f_X3_15 sh_4 rfl ?_
  refine j_iload_n 1 dX3_put_4 rfl ?_
  refine j_bipush (x := 7) dX3_put_5 rfl (i32_c rfl) ?_
  obtain ⟨o1, h⟩ := h
  refine j_imul (z := (s2 * 7)) dX3_put_7 rfl o1 ?_
  refine j_iload_n 2 dX3_put_8 rfl ?_
  obtain ⟨o2, h⟩ := h
  refine j_iadd (z := ((s2 * 7) + s1)) dX3_put_9 rfl o2 ?_
  refine j_iload_n 3 dX3_put_10 rfl ?_
  obtain ⟨o3, h⟩ := h
  refine j_iast dX3_put_11 sh_5 o3.1 o3.2 ?_
  refine j_vret dX3_put_12 rfl ⟨Nat.le_of_ble_eq_true rfl, Nat.le_of_ble_eq_true rfl⟩ ?_
  refine j_aload_n 0 dX5_readWay_138 rfl ?_
  refine j_getc 4 dX5_readWay_139 f_X5_12 sh_3 rfl ?_
  refine j_iload_n 1 dX5_readWay_142 rfl ?_
  refine j_iconst (x := 4) dX5_readWay_143 rfl (i32_c rfl) ?_
  refine j_aload_n 0 dX5_readWay_144 rfl ?_
  refine j_ldcS (i := 4) dX5_readWay_145 rfl ?_
  refine j_calliV (Yc := Y_X5_takeWord) (as := [aR 1004]) (rest := [aI 4, aI x2, aR 4]) dX5_readWay_147 q_X5_54 ⟨Nat.le_of_ble_eq_true rfl, Nat.le_of_ble_eq_true rfl, Nat.le_of_ble_eq_true rfl, Nat.le_of_ble_eq_true rfl⟩ sh_3 rfl (Nat.le_of_ble_eq_true rfl) rfl (ti_mono h (fun z2 u1 h => ?_))
  refine j_if_eq (tgt := 163) dX5_readWay_150 (by decide) (fun c4 => ?_) (fun c4 => ?_)
  · replace h := h.1 c4
    refine j_bipush (x := 9) dX5_readWay_163 rfl (i32_c rfl) ?_
    exact h
  · replace h := h.2 c4
    refine j_aload_n 0 dX5_readWay_153 rfl ?_
    refine j_iconst (x := 1) dX5_readWay_154 rfl (i32_c rfl) ?_
    refine j_bipush (x := 9) dX5_readWay_155 rfl (i32_c rfl) ?_
    refine j_calliV (Yc := Y_X5_number) (as := [aI 1, aI 9]) (rest := [aI 4, aI x2, aR 4]) dX5_readWay_157 q_X5_58 ⟨Nat.le_of_ble_eq_true rfl, Nat.le_of_ble_eq_true rfl, Nat.le_of_ble_eq_true rfl, Nat.le_of_ble_eq_true rfl⟩ sh_3 rfl (Nat.le_of_ble_eq_true rfl) rfl (ti_mono h (fun z4 u3 h => ?_))
    refine j_goto (tgt := 165) dX5_readWay_160 (by decide) ?_
    exact h
set_option maxRecDepth 100000 in
set_option maxHeartbeats 4000000 in
theorem B_X5_readWay_165 {post : ax_M → Prop} {M : ax_M} {s0 s1 s2 x2 : Int} (h : (-2147483648 ≤ (s2 * 7) ∧ (s2 * 7) ≤ 2147483647) ∧ (-2147483648 ≤ ((s2 * 7) + s1) ∧ ((s2 * 7) + s1) ≤ 2147483647) ∧ (0 ≤ ((s2 * 7) + s1) ∧ ((s2 * 7) + s1) < 168) ∧ ax_Ti Y_X5_takeWord [aR 3, aR 1005] SH (ax_up M 5 ((s2 * 7) + s1) s0) (fun z2 u1 => (((z2 = 0) → ax_J Y_X5_readWay (ax_Kv Y_X5_readWay SH post) 0 0 195 [(0, aR 3), (2, aI x2)] [aI 99, aI 5, aI x2, aR 4] SH u1) ∧ ((¬ z2 = 0) → ax_Ti Y_X5_number [aR 3, aI 0, aI 99] SH u1 (fun z4 u3 => ax_J Y_X5_readWay (ax_Kv Y_X5_readWay SH post) 0 0 195 [(0, aR 3), (2, aI x2)] [aI z4, aI 5, aI x2, aR 4] SH u3))))) : ax_J Y_X5_readWay (ax_Kv Y_X5_readWay SH post) 0 0 165 [(0, aR 3), (2, aI x2)] [aI s0, aI s1, aI s2, aR 4] SH M := by
  refine j_callvV (Yc := Y_X3_put) (as := [aI s2, aI s1, aI s0]) (rest := []) dX5_readWay_165 q_X5_87 ⟨Nat.le_of_ble_eq_true rfl, Nat.le_of_ble_eq_true rfl, Nat.le_of_ble_eq_true rfl, Nat.le_of_ble_eq_true rfl⟩ sh_4 rfl (Nat.le_of_ble_eq_true rfl) rfl (tv_of (ll := [(0, aR 4), (1, aI s2), (2, aI s1), (3, aI s0)]) rfl (Nat.le_of_ble_eq_true rfl) rfl (fun _ => ?_))
  refine j_aload_n 0 dX3_put_0 rfl ?_
  refine j_getc 5 dX3_put_1 f_X3_15 sh_4 rfl ?_
  refine j_iload_n 1 dX3_put_4 rfl ?_
  refine j_bipush (x := 7) dX3_put_5 rfl (i32_c rfl) ?_
  obtain ⟨o1, h⟩ := h
  refine j_imul (z := (s2 * 7)) dX3_put_7 rfl o1 ?_
  refine j_iload_n 2 dX3_put_8 rfl ?_
  obtain ⟨o2, h⟩ := h
  refine j_iadd (z := ((s2 * 7) + s1)) dX3_put_9 rfl o2 ?_
  refine j_iload_n 3 dX3_put_10 rfl ?_
  obtain ⟨o3, h⟩ := h
  refine j_iast dX3_put_11 sh_5 o3.1 o3.2 ?_
  refine j_vret dX3_put_12 rfl ⟨Nat.le_of_ble_eq_true rfl, Nat.le_of_ble_eq_true rfl⟩ ?_
  refine j_aload_n 0 dX5_readWay_168 rfl ?_
  refine j_getc 4 dX5_readWay_169 f_X5_12 sh_3 rfl ?_
  refine j_iload_n 1 dX5_readWay_172 rfl ?_
  refine j_iconst (x := 5) dX5_readWay_173 rfl (i32_c rfl) ?_
  refine j_aload_n 0 dX5_readWay_174 rfl ?_
  refine j_ldcS (i := 5) dX5_readWay_175 rfl ?_
  refine j_calliV (Yc := Y_X5_takeWord) (as := [aR 1005]) (rest := [aI 5, aI x2, aR 4]) dX5_readWay_177 q_X5_54 ⟨Nat.le_of_ble_eq_true rfl, Nat.le_of_ble_eq_true rfl, Nat.le_of_ble_eq_true rfl, Nat.le_of_ble_eq_true rfl⟩ sh_3 rfl (Nat.le_of_ble_eq_true rfl) rfl (ti_mono h (fun z2 u1 h => ?_))
  refine j_if_eq (tgt := 193) dX5_readWay_180 (by decide) (fun c4 => ?_) (fun c4 => ?_)
  · replace h := h.1 c4
    refine j_bipush (x := 99) dX5_readWay_193 rfl (i32_c rfl) ?_
    exact h
  · replace h := h.2 c4
    refine j_aload_n 0 dX5_readWay_183 rfl ?_
    refine j_iconst (x := 0) dX5_readWay_184 rfl (i32_c rfl) ?_
    refine j_bipush (x := 99) dX5_readWay_185 rfl (i32_c rfl) ?_
    refine j_calliV (Yc := Y_X5_number) (as := [aI 0, aI 99]) (rest := [aI 5, aI x2, aR 4]) dX5_readWay_187 q_X5_58 ⟨Nat.le_of_ble_eq_true rfl, Nat.le_of_ble_eq_true rfl, Nat.le_of_ble_eq_true rfl, Nat.le_of_ble_eq_true rfl⟩ sh_3 rfl (Nat.le_of_ble_eq_true rfl) rfl (ti_mono h (fun z4 u3 h => ?_))
    refine j_goto (tgt := 195) dX5_readWay_190 (by decide) ?_
    exact h
set_option maxRecDepth 100000 in
set_option maxHeartbeats 4000000 in
theorem B_X5_readWay_195 {post : ax_M → Prop} {M : ax_M} {s0 s1 s2 x2 : Int} (h : (-2147483648 ≤ (s2 * 7) ∧ (s2 * 7) ≤ 2147483647) ∧ (-2147483648 ≤ ((s2 * 7) + s1) ∧ ((s2 * 7) + s1) ≤ 2147483647) ∧ (0 ≤ ((s2 * 7) + s1) ∧ ((s2 * 7) + s1) < 168) ∧ ax_Ti Y_X5_takeWord [aR 3, aR 1006] SH (ax_up M 5 ((s2 * 7) + s1) s0) (fun z2 u1 => (((z2 = 0) → ax_J Y_X5_readWay (ax_Kv Y_X5_readWay SH post) 0 0 226 [(0, aR 3), (2, aI x2)] [aI 0, aI 6, aI x2, aR 4] SH u1) ∧ ((¬ z2 = 0) → ax_Ti Y_X5_number [aR 3, aI 0, aI 999] SH u1 (fun z4 u3 => ax_J Y_X5_readWay (ax_Kv Y_X5_readWay SH post) 0 0 226 [(0, aR 3), (2, aI x2)] [aI z4, aI 6, aI x2, aR 4] SH u3))))) : ax_J Y_X5_readWay (ax_Kv Y_X5_readWay SH post) 0 0 195 [(0, aR 3), (2, aI x2)] [aI s0, aI s1, aI s2, aR 4] SH M := by
  refine j_callvV (Yc := Y_X3_put) (as := [aI s2, aI s1, aI s0]) (rest := []) dX5_readWay_195 q_X5_87 ⟨Nat.le_of_ble_eq_true rfl, Nat.le_of_ble_eq_true rfl, Nat.le_of_ble_eq_true rfl, Nat.le_of_ble_eq_true rfl⟩ sh_4 rfl (Nat.le_of_ble_eq_true rfl) rfl (tv_of (ll := [(0, aR 4), (1, aI s2), (2, aI s1), (3, aI s0)]) rfl (Nat.le_of_ble_eq_true rfl) rfl (fun _ => ?_))
  refine j_aload_n 0 dX3_put_0 rfl ?_
  refine j_getc 5 dX3_put_1 f_X3_15 sh_4 rfl ?_
  refine j_iload_n 1 dX3_put_4 rfl ?_
  refine j_bipush (x := 7) dX3_put_5 rfl (i32_c rfl) ?_
  obtain ⟨o1, h⟩ := h
  refine j_imul (z := (s2 * 7)) dX3_put_7 rfl o1 ?_
  refine j_iload_n 2 dX3_put_8 rfl ?_
  obtain ⟨o2, h⟩ := h
  refine j_iadd (z := ((s2 * 7) + s1)) dX3_put_9 rfl o2 ?_
  refine j_iload_n 3 dX3_put_10 rfl ?_
  obtain ⟨o3, h⟩ := h
  refine j_iast dX3_put_11 sh_5 o3.1 o3.2 ?_
  refine j_vret dX3_put_12 rfl ⟨Nat.le_of_ble_eq_true rfl, Nat.le_of_ble_eq_true rfl⟩ ?_
  refine j_aload_n 0 dX5_readWay_198 rfl ?_
  refine j_getc 4 dX5_readWay_199 f_X5_12 sh_3 rfl ?_
  refine j_iload_n 1 dX5_readWay_202 rfl ?_
  refine j_bipush (x := 6) dX5_readWay_203 rfl (i32_c rfl) ?_
  refine j_aload_n 0 dX5_readWay_205 rfl ?_
  refine j_ldcS (i := 6) dX5_readWay_206 rfl ?_
  refine j_calliV (Yc := Y_X5_takeWord) (as := [aR 1006]) (rest := [aI 6, aI x2, aR 4]) dX5_readWay_208 q_X5_54 ⟨Nat.le_of_ble_eq_true rfl, Nat.le_of_ble_eq_true rfl, Nat.le_of_ble_eq_true rfl, Nat.le_of_ble_eq_true rfl⟩ sh_3 rfl (Nat.le_of_ble_eq_true rfl) rfl (ti_mono h (fun z2 u1 h => ?_))
  refine j_if_eq (tgt := 225) dX5_readWay_211 (by decide) (fun c4 => ?_) (fun c4 => ?_)
  · replace h := h.1 c4
    refine j_iconst (x := 0) dX5_readWay_225 rfl (i32_c rfl) ?_
    exact h
  · replace h := h.2 c4
    refine j_aload_n 0 dX5_readWay_214 rfl ?_
    refine j_iconst (x := 0) dX5_readWay_215 rfl (i32_c rfl) ?_
    refine j_sipush (x := 999) dX5_readWay_216 rfl (i32_c rfl) ?_
    refine j_calliV (Yc := Y_X5_number) (as := [aI 0, aI 999]) (rest := [aI 6, aI x2, aR 4]) dX5_readWay_219 q_X5_58 ⟨Nat.le_of_ble_eq_true rfl, Nat.le_of_ble_eq_true rfl, Nat.le_of_ble_eq_true rfl, Nat.le_of_ble_eq_true rfl⟩ sh_3 rfl (Nat.le_of_ble_eq_true rfl) rfl (ti_mono h (fun z4 u3 h => ?_))
    refine j_goto (tgt := 226) dX5_readWay_222 (by decide) ?_
    exact h
set_option maxRecDepth 100000 in
set_option maxHeartbeats 4000000 in
theorem B_X5_readWay_226 {post : ax_M → Prop} {M : ax_M} {s0 s1 s2 x2 : Int} (h : (-2147483648 ≤ (s2 * 7) ∧ (s2 * 7) ≤ 2147483647) ∧ (-2147483648 ≤ ((s2 * 7) + s1) ∧ ((s2 * 7) + s1) ≤ 2147483647) ∧ (0 ≤ ((s2 * 7) + s1) ∧ ((s2 * 7) + s1) < 168) ∧ ax_Tv Y_X5_takeClauseEnd [aR 3] SH (ax_up M 5 ((s2 * 7) + s1) s0) (fun u1 => (-2147483648 ≤ (x2 + 1) ∧ (x2 + 1) ≤ 2147483647) ∧ post (ax_up u1 4 1 (x2 + 1)))) : ax_J Y_X5_readWay (ax_Kv Y_X5_readWay SH post) 0 0 226 [(0, aR 3), (2, aI x2)] [aI s0, aI s1, aI s2, aR 4] SH M := by
  refine j_callvV (Yc := Y_X3_put) (as := [aI s2, aI s1, aI s0]) (rest := []) dX5_readWay_226 q_X5_87 ⟨Nat.le_of_ble_eq_true rfl, Nat.le_of_ble_eq_true rfl, Nat.le_of_ble_eq_true rfl, Nat.le_of_ble_eq_true rfl⟩ sh_4 rfl (Nat.le_of_ble_eq_true rfl) rfl (tv_of (ll := [(0, aR 4), (1, aI s2), (2, aI s1), (3, aI s0)]) rfl (Nat.le_of_ble_eq_true rfl) rfl (fun _ => ?_))
  refine j_aload_n 0 dX3_put_0 rfl ?_
  refine j_getc 5 dX3_put_1 f_X3_15 sh_4 rfl ?_
  refine j_iload_n 1 dX3_put_4 rfl ?_
  refine j_bipush (x := 7) dX3_put_5 rfl (i32_c rfl) ?_
  obtain ⟨o1, h⟩ := h
  refine j_imul (z := (s2 * 7)) dX3_put_7 rfl o1 ?_
  refine j_iload_n 2 dX3_put_8 rfl ?_
  obtain ⟨o2, h⟩ := h
  refine j_iadd (z := ((s2 * 7) + s1)) dX3_put_9 rfl o2 ?_
  refine j_iload_n 3 dX3_put_10 rfl ?_
  obtain ⟨o3, h⟩ := h
  refine j_iast dX3_put_11 sh_5 o3.1 o3.2 ?_
  refine j_vret dX3_put_12 rfl ⟨Nat.le_of_ble_eq_true rfl, Nat.le_of_ble_eq_true rfl⟩ ?_
  refine j_aload_n 0 dX5_readWay_229 rfl ?_
  refine j_callvV (Yc := Y_X5_takeClauseEnd) (as := []) (rest := []) dX5_readWay_230 q_X5_64 ⟨Nat.le_of_ble_eq_true rfl, Nat.le_of_ble_eq_true rfl, Nat.le_of_ble_eq_true rfl, Nat.le_of_ble_eq_true rfl⟩ sh_3 rfl (Nat.le_of_ble_eq_true rfl) rfl (tv_mono h (fun u1 h => ?_))
  refine j_aload_n 0 dX5_readWay_233 rfl ?_
  refine j_getc 4 dX5_readWay_234 f_X5_12 sh_3 rfl ?_
  refine j_iload_n 1 dX5_readWay_237 rfl ?_
  refine j_iconst (x := 1) dX5_readWay_238 rfl (i32_c rfl) ?_
  obtain ⟨o4, h⟩ := h
  refine j_iadd (z := (x2 + 1)) dX5_readWay_239 rfl o4 ?_
  refine j_puti (i := 1) dX5_readWay_240 p_X5_81 (fun h => by cases h) sh_4 rfl rfl ?_
  exact j_vret dX5_readWay_243 rfl ⟨Nat.le_of_ble_eq_true rfl, Nat.le_of_ble_eq_true rfl⟩ h
set_option maxRecDepth 100000 in
set_option maxHeartbeats 4000000 in
theorem B_X5_number_0 {post : Int → ax_M → Prop} {M : ax_M} {x1 x2 : Int} (h : ax_Ti Y_X5_atEnd [aR 3] SH M (fun z2 u1 => ax_J Y_X5_number (ax_Ki Y_X5_number SH post) 0 0 15 [(0, aR 3), (1, aI x1), (2, aI x2), (3, aI 0)] [] SH (ax_up u1 3 3 (u1 3 2)))) : ax_J Y_X5_number (ax_Ki Y_X5_number SH post) 0 0 0 [(0, aR 3), (1, aI x1), (2, aI x2)] [] SH M := by
  refine j_aload_n 0 dX5_number_0 rfl ?_
  refine j_calliV (Yc := Y_X5_atEnd) (as := []) (rest := []) dX5_number_1 q_X5_38 ⟨Nat.le_of_ble_eq_true rfl, Nat.le_of_ble_eq_true rfl, Nat.le_of_ble_eq_true rfl, Nat.le_of_ble_eq_true rfl⟩ sh_3 rfl (Nat.le_of_ble_eq_true rfl) rfl (ti_mono h (fun z2 u1 h => ?_))
  refine j_pop dX5_number_4 rfl ?_
  refine j_aload_n 0 dX5_number_5 rfl ?_
  refine j_aload_n 0 dX5_number_6 rfl ?_
  refine j_geti (i := 2) dX5_number_7 f_X5_26 sh_3 rfl rfl (fun _ => ?_)
  refine j_puti (i := 3) dX5_number_10 p_X5_84 (fun h => by cases h) sh_3 rfl rfl ?_
  refine j_iconst (x := 0) dX5_number_13 rfl (i32_c rfl) ?_
  refine j_istore_n (ll' := [(3, aI 0), (0, aR 3), (1, aI x1), (2, aI x2)]) dX5_number_14 (Nat.le_of_ble_eq_true rfl) rfl ?_
  refine j_sub [1, 2, 3, 0] rfl ?_
  exact h
theorem E_X5_number {post : Int → ax_M → Prop} {M : ax_M} {x1 x2 : Int} (h : ax_mr SH M → ax_Ti Y_X5_atEnd [aR 3] SH M (fun z2 u1 => ax_J Y_X5_number (ax_Ki Y_X5_number SH post) 0 0 15 [(0, aR 3), (1, aI x1), (2, aI x2), (3, aI 0)] [] SH (ax_up u1 3 3 (u1 3 2)))) : ax_Ti Y_X5_number [aR 3, aI x1, aI x2] SH M post :=
  ti_of rfl (Nat.le_of_ble_eq_true rfl) rfl (fun q => B_X5_number_0 (h q))
set_option maxRecDepth 100000 in
set_option maxHeartbeats 4000000 in
theorem B_X5_number_15 {post : Int → ax_M → Prop} {M : ax_M} {x1 x2 x3 : Int} (h : ((((M 1 1) ≤ (M 3 2)) → ax_J Y_X5_number (ax_Ki Y_X5_number SH post) 0 0 87 [(0, aR 3), (1, aI x1), (2, aI x2), (3, aI x3)] [] SH M) ∧ (((M 3 2) < (M 1 1)) → (0 ≤ (M 3 2) ∧ (M 3 2) < 400) ∧ ((((M 2 (M 3 2)) < 48) → ax_J Y_X5_number (ax_Ki Y_X5_number SH post) 0 0 87 [(0, aR 3), (1, aI x1), (2, aI x2), (3, aI x3)] [] SH M) ∧ ((48 ≤ (M 2 (M 3 2))) → (((57 < (M 2 (M 3 2))) → ax_J Y_X5_number (ax_Ki Y_X5_number SH post) 0 0 87 [(0, aR 3), (1, aI x1), (2, aI x2), (3, aI x3)] [] SH M) ∧ (((M 2 (M 3 2)) ≤ 57) → (-2147483648 ≤ ((M 3 2) - (M 3 3)) ∧ ((M 3 2) - (M 3 3)) ≤ 2147483647) ∧ (((3 ≤ ((M 3 2) - (M 3 3))) → ax_J Y_X5_number (ax_Ki Y_X5_number SH post) 0 0 74 [(0, aR 3), (1, aI x1), (2, aI x2), (3, aI x3)] [] SH M) ∧ ((((M 3 2) - (M 3 3)) < 3) → (-2147483648 ≤ (x3 * 10) ∧ (x3 * 10) ≤ 2147483647) ∧ (-2147483648 ≤ ((x3 * 10) + (M 2 (M 3 2))) ∧ ((x3 * 10) + (M 2 (M 3 2))) ≤ 2147483647) ∧ (-2147483648 ≤ (((x3 * 10) + (M 2 (M 3 2))) - 48) ∧ (((x3 * 10) + (M 2 (M 3 2))) - 48) ≤ 2147483647) ∧ ax_J Y_X5_number (ax_Ki Y_X5_number SH post) 0 0 74 [(0, aR 3), (1, aI x1), (2, aI x2), (3, aI (((x3 * 10) + (M 2 (M 3 2))) - 48))] [] SH M))))))))) : ax_J Y_X5_number (ax_Ki Y_X5_number SH post) 0 0 15 [(0, aR 3), (1, aI x1), (2, aI x2), (3, aI x3)] [] SH M := by
  refine j_aload_n 0 dX5_number_15 rfl ?_
  refine j_geti (i := 2) dX5_number_16 f_X5_26 sh_3 rfl rfl (fun _ => ?_)
  refine j_aload_n 0 dX5_number_19 rfl ?_
  refine j_getc 1 dX5_number_20 f_X5_22 sh_3 rfl ?_
  refine j_geti (i := 1) dX5_number_23 f_X5_99 sh_1 rfl rfl (fun _ => ?_)
  refine j_icmp_ge (tgt := 87) dX5_number_26 (by decide) (fun c1 => ?_) (fun c1 => ?_)
  · replace h := h.1 c1
    exact h
  · replace h := h.2 c1
    refine j_aload_n 0 dX5_number_29 rfl ?_
    refine j_aload_n 0 dX5_number_30 rfl ?_
    refine j_geti (i := 2) dX5_number_31 f_X5_26 sh_3 rfl rfl (fun _ => ?_)
    refine j_calliV (Yc := Y_X5_isFigure) (as := [aI (M 3 2)]) (rest := []) dX5_number_34 q_X5_122 ⟨Nat.le_of_ble_eq_true rfl, Nat.le_of_ble_eq_true rfl, Nat.le_of_ble_eq_true rfl, Nat.le_of_ble_eq_true rfl⟩ sh_3 rfl (Nat.le_of_ble_eq_true rfl) rfl (ti_of (ll := [(0, aR 3), (1, aI (M 3 2))]) rfl (Nat.le_of_ble_eq_true rfl) rfl (fun _ => ?_))
    refine j_iload_n 1 dX5_isFigure_0 rfl ?_
    refine j_aload_n 0 dX5_isFigure_1 rfl ?_
    refine j_getc 1 dX5_isFigure_2 f_X5_22 sh_3 rfl ?_
    refine j_geti (i := 1) dX5_isFigure_5 f_X5_99 sh_1 rfl rfl (fun _ => ?_)
    refine j_icmp_ge (tgt := 43) dX5_isFigure_8 (by decide) (fun c => by have := c1; omega) (fun _ => ?_)
    refine j_aload_n 0 dX5_isFigure_11 rfl ?_
    refine j_getc 1 dX5_isFigure_12 f_X5_22 sh_3 rfl ?_
    refine j_getc 2 dX5_isFigure_15 f_X5_104 sh_1 rfl ?_
    refine j_iload_n 1 dX5_isFigure_18 rfl ?_
    obtain ⟨o2, h⟩ := h
    refine j_bald dX5_isFigure_19 sh_2 o2.1 o2.2 (fun _ => ?_)
    refine j_bipush (x := 48) dX5_isFigure_20 rfl (i32_c rfl) ?_
    refine j_icmp_lt (tgt := 43) dX5_isFigure_22 (by decide) (fun c3 => ?_) (fun c3 => ?_)
    · replace h := h.1 c3
      refine j_iconst (x := 0) dX5_isFigure_43 rfl (i32_c rfl) ?_
      refine j_zret dX5_isFigure_44 rfl ⟨Nat.le_of_ble_eq_true rfl, Nat.le_of_ble_eq_true rfl⟩ (by decide) ?_
      refine j_if_eq (tgt := 87) dX5_number_37 (by decide) (fun _ => ?_) (fun c => absurd c (by decide))
      exact h
    · replace h := h.2 c3
      refine j_aload_n 0 dX5_isFigure_25 rfl ?_
      refine j_getc 1 dX5_isFigure_26 f_X5_22 sh_3 rfl ?_
      refine j_getc 2 dX5_isFigure_29 f_X5_104 sh_1 rfl ?_
      refine j_iload_n 1 dX5_isFigure_32 rfl ?_
      refine j_bald dX5_isFigure_33 sh_2 o2.1 o2.2 (fun _ => ?_)
      refine j_bipush (x := 57) dX5_isFigure_34 rfl (i32_c rfl) ?_
      refine j_icmp_gt (tgt := 43) dX5_isFigure_36 (by decide) (fun c4 => ?_) (fun c4 => ?_)
      · replace h := h.1 c4
        refine j_iconst (x := 0) dX5_isFigure_43 rfl (i32_c rfl) ?_
        refine j_zret dX5_isFigure_44 rfl ⟨Nat.le_of_ble_eq_true rfl, Nat.le_of_ble_eq_true rfl⟩ (by decide) ?_
        refine j_if_eq (tgt := 87) dX5_number_37 (by decide) (fun _ => ?_) (fun c => absurd c (by decide))
        exact h
      · replace h := h.2 c4
        refine j_iconst (x := 1) dX5_isFigure_39 rfl (i32_c rfl) ?_
        refine j_goto (tgt := 44) dX5_isFigure_40 (by decide) ?_
        refine j_zret dX5_isFigure_44 rfl ⟨Nat.le_of_ble_eq_true rfl, Nat.le_of_ble_eq_true rfl⟩ (by decide) ?_
        refine j_if_eq (tgt := 87) dX5_number_37 (by decide) (fun c => absurd c (by decide)) (fun _ => ?_)
        refine j_aload_n 0 dX5_number_40 rfl ?_
        refine j_geti (i := 2) dX5_number_41 f_X5_26 sh_3 rfl rfl (fun _ => ?_)
        refine j_aload_n 0 dX5_number_44 rfl ?_
        refine j_geti (i := 3) dX5_number_45 f_X5_84 sh_3 rfl rfl (fun _ => ?_)
        obtain ⟨o5, h⟩ := h
        refine j_isub (z := ((M 3 2) - (M 3 3))) dX5_number_48 rfl o5 ?_
        refine j_iconst (x := 3) dX5_number_49 rfl (i32_c rfl) ?_
        refine j_icmp_ge (tgt := 74) dX5_number_50 (by decide) (fun c6 => ?_) (fun c6 => ?_)
        · replace h := h.1 c6
          exact h
        · replace h := h.2 c6
          refine j_iload_n 3 dX5_number_53 rfl ?_
          refine j_bipush (x := 10) dX5_number_54 rfl (i32_c rfl) ?_
          obtain ⟨o7, h⟩ := h
          refine j_imul (z := (x3 * 10)) dX5_number_56 rfl o7 ?_
          refine j_aload_n 0 dX5_number_57 rfl ?_
          refine j_getc 1 dX5_number_58 f_X5_22 sh_3 rfl ?_
          refine j_getc 2 dX5_number_61 f_X5_104 sh_1 rfl ?_
          refine j_aload_n 0 dX5_number_64 rfl ?_
          refine j_geti (i := 2) dX5_number_65 f_X5_26 sh_3 rfl rfl (fun _ => ?_)
          refine j_bald dX5_number_68 sh_2 o2.1 o2.2 (fun _ => ?_)
          obtain ⟨o8, h⟩ := h
          refine j_iadd (z := ((x3 * 10) + (M 2 (M 3 2)))) dX5_number_69 rfl o8 ?_
          refine j_bipush (x := 48) dX5_number_70 rfl (i32_c rfl) ?_
          obtain ⟨o9, h⟩ := h
          refine j_isub (z := (((x3 * 10) + (M 2 (M 3 2))) - 48)) dX5_number_72 rfl o9 ?_
          refine j_istore_n (ll' := [(3, aI (((x3 * 10) + (M 2 (M 3 2))) - 48)), (0, aR 3), (1, aI x1), (2, aI x2)]) dX5_number_73 (Nat.le_of_ble_eq_true rfl) rfl ?_
          refine j_sub [1, 2, 3, 0] rfl ?_
          exact h
set_option maxRecDepth 100000 in
set_option maxHeartbeats 4000000 in
theorem B_X5_number_74 {post : Int → ax_M → Prop} {M : ax_M} {x1 x2 x3 : Int} (h : (-2147483648 ≤ ((M 3 2) + 1) ∧ ((M 3 2) + 1) ≤ 2147483647) ∧ ax_J Y_X5_number (ax_Ki Y_X5_number SH post) 0 0 15 [(0, aR 3), (1, aI x1), (2, aI x2), (3, aI x3)] [] SH (ax_up M 3 2 ((M 3 2) + 1))) : ax_J Y_X5_number (ax_Ki Y_X5_number SH post) 0 0 74 [(0, aR 3), (1, aI x1), (2, aI x2), (3, aI x3)] [] SH M := by
  refine j_aload_n 0 dX5_number_74 rfl ?_
  refine j_dup dX5_number_75 rfl ?_
  refine j_geti (i := 2) dX5_number_76 f_X5_26 sh_3 rfl rfl (fun _ => ?_)
  refine j_iconst (x := 1) dX5_number_79 rfl (i32_c rfl) ?_
  obtain ⟨o1, h⟩ := h
  refine j_iadd (z := ((M 3 2) + 1)) dX5_number_80 rfl o1 ?_
  refine j_puti (i := 2) dX5_number_81 p_X5_26 (fun h => by cases h) sh_3 rfl rfl ?_
  refine j_goto (tgt := 15) dX5_number_84 (by decide) ?_
  exact h
set_option maxRecDepth 100000 in
set_option maxHeartbeats 4000000 in
theorem B_X5_number_87 {post : Int → ax_M → Prop} {M : ax_M} {x1 x2 x3 : Int} (h : (-2147483648 ≤ ((M 3 2) - (M 3 3)) ∧ ((M 3 2) - (M 3 3)) ≤ 2147483647) ∧ (((¬ ((M 3 2) - (M 3 3)) = 0) → (((3 < ((M 3 2) - (M 3 3))) → ax_J Y_X5_number (ax_Ki Y_X5_number SH post) 0 0 130 [(0, aR 3), (3, aI x3)] [] SH M) ∧ ((((M 3 2) - (M 3 3)) ≤ 3) → (((x3 < x1) → ax_J Y_X5_number (ax_Ki Y_X5_number SH post) 0 0 130 [(0, aR 3), (3, aI x3)] [] SH M) ∧ ((x1 ≤ x3) → (((x2 < x3) → ax_J Y_X5_number (ax_Ki Y_X5_number SH post) 0 0 130 [(0, aR 3), (3, aI x3)] [] SH M) ∧ ((x3 ≤ x2) → ax_J Y_X5_number (ax_Ki Y_X5_number SH post) 0 0 139 [(3, aI x3)] [] SH M))))))) ∧ ((((M 3 2) - (M 3 3)) = 0) → (((¬ (M 3 4) = 0) → ax_J Y_X5_number (ax_Ki Y_X5_number SH post) 0 0 139 [(3, aI x3)] [] SH M) ∧ (((M 3 4) = 0) → ax_J Y_X5_number (ax_Ki Y_X5_number SH post) 0 0 139 [(3, aI x3)] [] SH (ax_up (ax_up M 3 4 1) 3 5 (M 3 3))))))) : ax_J Y_X5_number (ax_Ki Y_X5_number SH post) 0 0 87 [(0, aR 3), (1, aI x1), (2, aI x2), (3, aI x3)] [] SH M := by
  refine j_aload_n 0 dX5_number_87 rfl ?_
  refine j_geti (i := 2) dX5_number_88 f_X5_26 sh_3 rfl rfl (fun _ => ?_)
  refine j_aload_n 0 dX5_number_91 rfl ?_
  refine j_geti (i := 3) dX5_number_92 f_X5_84 sh_3 rfl rfl (fun _ => ?_)
  obtain ⟨o1, h⟩ := h
  refine j_isub (z := ((M 3 2) - (M 3 3))) dX5_number_95 rfl o1 ?_
  refine j_istore (ll' := [(4, aI ((M 3 2) - (M 3 3))), (0, aR 3), (1, aI x1), (2, aI x2), (3, aI x3)]) dX5_number_96 (Nat.le_of_ble_eq_true rfl) rfl ?_
  refine j_iload 0 dX5_number_98 rfl ?_
  refine j_if_ne (tgt := 115) dX5_number_100 (by decide) (fun c2 => ?_) (fun c2 => ?_)
  · replace h := h.1 c2
    refine j_iload 0 dX5_number_115 rfl ?_
    refine j_iconst (x := 3) dX5_number_117 rfl (i32_c rfl) ?_
    refine j_icmp_gt (tgt := 130) dX5_number_118 (by decide) (fun c3 => ?_) (fun c3 => ?_)
    · replace h := h.1 c3
      refine j_sub [1, 4] rfl ?_
      exact h
    · replace h := h.2 c3
      refine j_iload_n 4 dX5_number_121 rfl ?_
      refine j_iload_n 2 dX5_number_122 rfl ?_
      refine j_iload_n 3 dX5_number_123 rfl ?_
      refine j_calliS (Yc := Y_X10_within) (as := [aI x3, aI x1, aI x2]) (rest := []) dX5_number_124 q_X5_125 ⟨Nat.le_of_ble_eq_true rfl, Nat.le_of_ble_eq_true rfl, Nat.le_of_ble_eq_true rfl, Nat.le_of_ble_eq_true rfl⟩ rfl (Nat.le_of_ble_eq_true rfl) rfl (ti_of (ll := [(0, aI x3), (1, aI x1), (2, aI x2)]) rfl (Nat.le_of_ble_eq_true rfl) rfl (fun _ => ?_))
      refine j_iload_n 0 dX10_within_0 rfl ?_
      refine j_iload_n 1 dX10_within_1 rfl ?_
      refine j_icmp_lt (tgt := 14) dX10_within_2 (by decide) (fun c4 => ?_) (fun c4 => ?_)
      · replace h := h.1 c4
        refine j_iconst (x := 0) dX10_within_14 rfl (i32_c rfl) ?_
        refine j_zret dX10_within_15 rfl ⟨Nat.le_of_ble_eq_true rfl, Nat.le_of_ble_eq_true rfl⟩ (by decide) ?_
        refine j_if_ne (tgt := 139) dX5_number_127 (by decide) (fun c => absurd c (by decide)) (fun _ => ?_)
        refine j_sub [1, 4] rfl ?_
        exact h
      · replace h := h.2 c4
        refine j_iload_n 0 dX10_within_5 rfl ?_
        refine j_iload_n 2 dX10_within_6 rfl ?_
        refine j_icmp_gt (tgt := 14) dX10_within_7 (by decide) (fun c5 => ?_) (fun c5 => ?_)
        · replace h := h.1 c5
          refine j_iconst (x := 0) dX10_within_14 rfl (i32_c rfl) ?_
          refine j_zret dX10_within_15 rfl ⟨Nat.le_of_ble_eq_true rfl, Nat.le_of_ble_eq_true rfl⟩ (by decide) ?_
          refine j_if_ne (tgt := 139) dX5_number_127 (by decide) (fun c => absurd c (by decide)) (fun _ => ?_)
          refine j_sub [1, 4] rfl ?_
          exact h
        · replace h := h.2 c5
          refine j_iconst (x := 1) dX10_within_10 rfl (i32_c rfl) ?_
          refine j_goto (tgt := 15) dX10_within_11 (by decide) ?_
          refine j_zret dX10_within_15 rfl ⟨Nat.le_of_ble_eq_true rfl, Nat.le_of_ble_eq_true rfl⟩ (by decide) ?_
          refine j_if_ne (tgt := 139) dX5_number_127 (by decide) (fun _ => ?_) (fun c => absurd c (by decide))
          refine j_sub [4] rfl ?_
          exact h
  · replace h := h.2 c2
    refine j_aload_n 1 dX5_number_103 rfl ?_
    refine j_iconst (x := 1) dX5_number_104 rfl (i32_c rfl) ?_
    refine j_aload_n 1 dX5_number_105 rfl ?_
    refine j_geti (i := 3) dX5_number_106 f_X5_84 sh_3 rfl rfl (fun _ => ?_)
    refine j_callvV (Yc := Y_X5_blame) (as := [aI 1, aI (M 3 3)]) (rest := []) dX5_number_109 q_X5_48 ⟨Nat.le_of_ble_eq_true rfl, Nat.le_of_ble_eq_true rfl, Nat.le_of_ble_eq_true rfl, Nat.le_of_ble_eq_true rfl⟩ sh_3 rfl (Nat.le_of_ble_eq_true rfl) rfl (tv_of (ll := [(0, aR 3), (1, aI 1), (2, aI (M 3 3))]) rfl (Nat.le_of_ble_eq_true rfl) rfl (fun _ => ?_))
    refine j_aload_n 0 dX5_blame_0 rfl ?_
    refine j_geti (i := 4) dX5_blame_1 f_X5_29 sh_3 rfl rfl (fun _ => ?_)
    refine j_if_ne (tgt := 17) dX5_blame_4 (by decide) (fun c6 => ?_) (fun c6 => ?_)
    · replace h := h.1 c6
      refine j_vret dX5_blame_17 rfl ⟨Nat.le_of_ble_eq_true rfl, Nat.le_of_ble_eq_true rfl⟩ ?_
      refine j_goto (tgt := 139) dX5_number_112 (by decide) ?_
      refine j_sub [4] rfl ?_
      exact h
    · replace h := h.2 c6
      refine j_aload_n 0 dX5_blame_7 rfl ?_
      refine j_iload_n 1 dX5_blame_8 rfl ?_
      refine j_puti (i := 4) dX5_blame_9 p_X5_29 (fun h => by cases h) sh_3 rfl rfl ?_
      refine j_aload_n 0 dX5_blame_12 rfl ?_
      refine j_iload_n 2 dX5_blame_13 rfl ?_
      refine j_puti (i := 5) dX5_blame_14 p_X5_18 (fun h => by cases h) sh_3 rfl rfl ?_
      refine j_vret dX5_blame_17 rfl ⟨Nat.le_of_ble_eq_true rfl, Nat.le_of_ble_eq_true rfl⟩ ?_
      refine j_goto (tgt := 139) dX5_number_112 (by decide) ?_
      refine j_sub [4] rfl ?_
      exact h
set_option maxRecDepth 100000 in
set_option maxHeartbeats 4000000 in
theorem B_X5_number_130 {post : Int → ax_M → Prop} {M : ax_M} {x3 : Int} (h : (((¬ (M 3 4) = 0) → ax_J Y_X5_number (ax_Ki Y_X5_number SH post) 0 0 139 [(3, aI x3)] [] SH M) ∧ (((M 3 4) = 0) → ax_J Y_X5_number (ax_Ki Y_X5_number SH post) 0 0 139 [(3, aI x3)] [] SH (ax_up (ax_up M 3 4 2) 3 5 (M 3 3))))) : ax_J Y_X5_number (ax_Ki Y_X5_number SH post) 0 0 130 [(0, aR 3), (3, aI x3)] [] SH M := by
  refine j_aload_n 0 dX5_number_130 rfl ?_
  refine j_iconst (x := 2) dX5_number_131 rfl (i32_c rfl) ?_
  refine j_aload_n 0 dX5_number_132 rfl ?_
  refine j_geti (i := 3) dX5_number_133 f_X5_84 sh_3 rfl rfl (fun _ => ?_)
  refine j_callvV (Yc := Y_X5_blame) (as := [aI 2, aI (M 3 3)]) (rest := []) dX5_number_136 q_X5_48 ⟨Nat.le_of_ble_eq_true rfl, Nat.le_of_ble_eq_true rfl, Nat.le_of_ble_eq_true rfl, Nat.le_of_ble_eq_true rfl⟩ sh_3 rfl (Nat.le_of_ble_eq_true rfl) rfl (tv_of (ll := [(0, aR 3), (1, aI 2), (2, aI (M 3 3))]) rfl (Nat.le_of_ble_eq_true rfl) rfl (fun _ => ?_))
  refine j_aload_n 0 dX5_blame_0 rfl ?_
  refine j_geti (i := 4) dX5_blame_1 f_X5_29 sh_3 rfl rfl (fun _ => ?_)
  refine j_if_ne (tgt := 17) dX5_blame_4 (by decide) (fun c1 => ?_) (fun c1 => ?_)
  · replace h := h.1 c1
    refine j_vret dX5_blame_17 rfl ⟨Nat.le_of_ble_eq_true rfl, Nat.le_of_ble_eq_true rfl⟩ ?_
    refine j_sub [1] rfl ?_
    exact h
  · replace h := h.2 c1
    refine j_aload_n 0 dX5_blame_7 rfl ?_
    refine j_iload_n 1 dX5_blame_8 rfl ?_
    refine j_puti (i := 4) dX5_blame_9 p_X5_29 (fun h => by cases h) sh_3 rfl rfl ?_
    refine j_aload_n 0 dX5_blame_12 rfl ?_
    refine j_iload_n 2 dX5_blame_13 rfl ?_
    refine j_puti (i := 5) dX5_blame_14 p_X5_18 (fun h => by cases h) sh_3 rfl rfl ?_
    refine j_vret dX5_blame_17 rfl ⟨Nat.le_of_ble_eq_true rfl, Nat.le_of_ble_eq_true rfl⟩ ?_
    refine j_sub [1] rfl ?_
    exact h
set_option maxRecDepth 100000 in
set_option maxHeartbeats 4000000 in
theorem B_X5_number_139 {post : Int → ax_M → Prop} {M : ax_M} {x3 : Int} (h : post x3 M) : ax_J Y_X5_number (ax_Ki Y_X5_number SH post) 0 0 139 [(3, aI x3)] [] SH M := by
  refine j_iload_n 0 dX5_number_139 rfl ?_
  exact j_iret dX5_number_140 rfl ⟨Nat.le_of_ble_eq_true rfl, Nat.le_of_ble_eq_true rfl⟩ (fun _ => h)
set_option maxRecDepth 100000 in
set_option maxHeartbeats 4000000 in
theorem B_X5_takeClauseEnd_0 {post : ax_M → Prop} {M : ax_M} (h : ax_Ti Y_X5_atEnd [aR 3] SH M (fun z2 u1 => (((¬ z2 = 0) → (((¬ (u1 3 4) = 0) → post u1) ∧ (((u1 3 4) = 0) → post (ax_up (ax_up u1 3 4 1) 3 5 (u1 3 2))))) ∧ ((z2 = 0) → (0 ≤ (u1 3 2) ∧ (u1 3 2) < 400) ∧ (((¬ (u1 2 (u1 3 2)) = 59) → (((¬ (u1 3 4) = 0) → post u1) ∧ (((u1 3 4) = 0) → post (ax_up (ax_up u1 3 4 1) 3 5 (u1 3 2))))) ∧ (((u1 2 (u1 3 2)) = 59) → (-2147483648 ≤ ((u1 3 2) + 1) ∧ ((u1 3 2) + 1) ≤ 2147483647) ∧ post (ax_up u1 3 2 ((u1 3 2) + 1)))))))) : ax_J Y_X5_takeClauseEnd (ax_Kv Y_X5_takeClauseEnd SH post) 0 0 0 [(0, aR 3)] [] SH M := by
  refine j_aload_n 0 dX5_takeClauseEnd_0 rfl ?_
  refine j_calliV (Yc := Y_X5_atEnd) (as := []) (rest := []) dX5_takeClauseEnd_1 q_X5_38 ⟨Nat.le_of_ble_eq_true rfl, Nat.le_of_ble_eq_true rfl, Nat.le_of_ble_eq_true rfl, Nat.le_of_ble_eq_true rfl⟩ sh_3 rfl (Nat.le_of_ble_eq_true rfl) rfl (ti_mono h (fun z2 u1 h => ?_))
  refine j_if_ne (tgt := 37) dX5_takeClauseEnd_4 (by decide) (fun c1 => ?_) (fun c1 => ?_)
  · replace h := h.1 c1
    refine j_aload_n 0 dX5_takeClauseEnd_37 rfl ?_
    refine j_iconst (x := 1) dX5_takeClauseEnd_38 rfl (i32_c rfl) ?_
    refine j_aload_n 0 dX5_takeClauseEnd_39 rfl ?_
    refine j_geti (i := 2) dX5_takeClauseEnd_40 f_X5_26 sh_3 rfl rfl (fun _ => ?_)
    refine j_callvV (Yc := Y_X5_blame) (as := [aI 1, aI (u1 3 2)]) (rest := []) dX5_takeClauseEnd_43 q_X5_48 ⟨Nat.le_of_ble_eq_true rfl, Nat.le_of_ble_eq_true rfl, Nat.le_of_ble_eq_true rfl, Nat.le_of_ble_eq_true rfl⟩ sh_3 rfl (Nat.le_of_ble_eq_true rfl) rfl (tv_of (ll := [(0, aR 3), (1, aI 1), (2, aI (u1 3 2))]) rfl (Nat.le_of_ble_eq_true rfl) rfl (fun _ => ?_))
    refine j_aload_n 0 dX5_blame_0 rfl ?_
    refine j_geti (i := 4) dX5_blame_1 f_X5_29 sh_3 rfl rfl (fun _ => ?_)
    refine j_if_ne (tgt := 17) dX5_blame_4 (by decide) (fun c2 => ?_) (fun c2 => ?_)
    · replace h := h.1 c2
      refine j_vret dX5_blame_17 rfl ⟨Nat.le_of_ble_eq_true rfl, Nat.le_of_ble_eq_true rfl⟩ ?_
      exact j_vret dX5_takeClauseEnd_46 rfl ⟨Nat.le_of_ble_eq_true rfl, Nat.le_of_ble_eq_true rfl⟩ h
    · replace h := h.2 c2
      refine j_aload_n 0 dX5_blame_7 rfl ?_
      refine j_iload_n 1 dX5_blame_8 rfl ?_
      refine j_puti (i := 4) dX5_blame_9 p_X5_29 (fun h => by cases h) sh_3 rfl rfl ?_
      refine j_aload_n 0 dX5_blame_12 rfl ?_
      refine j_iload_n 2 dX5_blame_13 rfl ?_
      refine j_puti (i := 5) dX5_blame_14 p_X5_18 (fun h => by cases h) sh_3 rfl rfl ?_
      refine j_vret dX5_blame_17 rfl ⟨Nat.le_of_ble_eq_true rfl, Nat.le_of_ble_eq_true rfl⟩ ?_
      exact j_vret dX5_takeClauseEnd_46 rfl ⟨Nat.le_of_ble_eq_true rfl, Nat.le_of_ble_eq_true rfl⟩ h
  · replace h := h.2 c1
    refine j_aload_n 0 dX5_takeClauseEnd_7 rfl ?_
    refine j_getc 1 dX5_takeClauseEnd_8 f_X5_22 sh_3 rfl ?_
    refine j_getc 2 dX5_takeClauseEnd_11 f_X5_104 sh_1 rfl ?_
    refine j_aload_n 0 dX5_takeClauseEnd_14 rfl ?_
    refine j_geti (i := 2) dX5_takeClauseEnd_15 f_X5_26 sh_3 rfl rfl (fun _ => ?_)
    obtain ⟨o3, h⟩ := h
    refine j_bald dX5_takeClauseEnd_18 sh_2 o3.1 o3.2 (fun _ => ?_)
    refine j_bipush (x := 59) dX5_takeClauseEnd_19 rfl (i32_c rfl) ?_
    refine j_icmp_ne (tgt := 37) dX5_takeClauseEnd_21 (by decide) (fun c4 => ?_) (fun c4 => ?_)
    · replace h := h.1 c4
      refine j_aload_n 0 dX5_takeClauseEnd_37 rfl ?_
      refine j_iconst (x := 1) dX5_takeClauseEnd_38 rfl (i32_c rfl) ?_
      refine j_aload_n 0 dX5_takeClauseEnd_39 rfl ?_
      refine j_geti (i := 2) dX5_takeClauseEnd_40 f_X5_26 sh_3 rfl rfl (fun _ => ?_)
      refine j_callvV (Yc := Y_X5_blame) (as := [aI 1, aI (u1 3 2)]) (rest := []) dX5_takeClauseEnd_43 q_X5_48 ⟨Nat.le_of_ble_eq_true rfl, Nat.le_of_ble_eq_true rfl, Nat.le_of_ble_eq_true rfl, Nat.le_of_ble_eq_true rfl⟩ sh_3 rfl (Nat.le_of_ble_eq_true rfl) rfl (tv_of (ll := [(0, aR 3), (1, aI 1), (2, aI (u1 3 2))]) rfl (Nat.le_of_ble_eq_true rfl) rfl (fun _ => ?_))
      refine j_aload_n 0 dX5_blame_0 rfl ?_
      refine j_geti (i := 4) dX5_blame_1 f_X5_29 sh_3 rfl rfl (fun _ => ?_)
      refine j_if_ne (tgt := 17) dX5_blame_4 (by decide) (fun c5 => ?_) (fun c5 => ?_)
      · replace h := h.1 c5
        refine j_vret dX5_blame_17 rfl ⟨Nat.le_of_ble_eq_true rfl, Nat.le_of_ble_eq_true rfl⟩ ?_
        exact j_vret dX5_takeClauseEnd_46 rfl ⟨Nat.le_of_ble_eq_true rfl, Nat.le_of_ble_eq_true rfl⟩ h
      · replace h := h.2 c5
        refine j_aload_n 0 dX5_blame_7 rfl ?_
        refine j_iload_n 1 dX5_blame_8 rfl ?_
        refine j_puti (i := 4) dX5_blame_9 p_X5_29 (fun h => by cases h) sh_3 rfl rfl ?_
        refine j_aload_n 0 dX5_blame_12 rfl ?_
        refine j_iload_n 2 dX5_blame_13 rfl ?_
        refine j_puti (i := 5) dX5_blame_14 p_X5_18 (fun h => by cases h) sh_3 rfl rfl ?_
        refine j_vret dX5_blame_17 rfl ⟨Nat.le_of_ble_eq_true rfl, Nat.le_of_ble_eq_true rfl⟩ ?_
        exact j_vret dX5_takeClauseEnd_46 rfl ⟨Nat.le_of_ble_eq_true rfl, Nat.le_of_ble_eq_true rfl⟩ h
    · replace h := h.2 c4
      refine j_aload_n 0 dX5_takeClauseEnd_24 rfl ?_
      refine j_dup dX5_takeClauseEnd_25 rfl ?_
      refine j_geti (i := 2) dX5_takeClauseEnd_26 f_X5_26 sh_3 rfl rfl (fun _ => ?_)
      refine j_iconst (x := 1) dX5_takeClauseEnd_29 rfl (i32_c rfl) ?_
      obtain ⟨o6, h⟩ := h
      refine j_iadd (z := ((u1 3 2) + 1)) dX5_takeClauseEnd_30 rfl o6 ?_
      refine j_puti (i := 2) dX5_takeClauseEnd_31 p_X5_26 (fun h => by cases h) sh_3 rfl rfl ?_
      refine j_goto (tgt := 46) dX5_takeClauseEnd_34 (by decide) ?_
      exact j_vret dX5_takeClauseEnd_46 rfl ⟨Nat.le_of_ble_eq_true rfl, Nat.le_of_ble_eq_true rfl⟩ h
theorem E_X5_takeClauseEnd {post : ax_M → Prop} {M : ax_M} (h : ax_mr SH M → ax_Ti Y_X5_atEnd [aR 3] SH M (fun z2 u1 => (((¬ z2 = 0) → (((¬ (u1 3 4) = 0) → post u1) ∧ (((u1 3 4) = 0) → post (ax_up (ax_up u1 3 4 1) 3 5 (u1 3 2))))) ∧ ((z2 = 0) → (0 ≤ (u1 3 2) ∧ (u1 3 2) < 400) ∧ (((¬ (u1 2 (u1 3 2)) = 59) → (((¬ (u1 3 4) = 0) → post u1) ∧ (((u1 3 4) = 0) → post (ax_up (ax_up u1 3 4 1) 3 5 (u1 3 2))))) ∧ (((u1 2 (u1 3 2)) = 59) → (-2147483648 ≤ ((u1 3 2) + 1) ∧ ((u1 3 2) + 1) ≤ 2147483647) ∧ post (ax_up u1 3 2 ((u1 3 2) + 1)))))))) : ax_Tv Y_X5_takeClauseEnd [aR 3] SH M post :=
  tv_of rfl (Nat.le_of_ble_eq_true rfl) rfl (fun q => B_X5_takeClauseEnd_0 (h q))
set_option maxRecDepth 100000 in
set_option maxHeartbeats 4000000 in
theorem B_X9_lastInto_0 {post : Int → ax_M → Prop} {M : ax_M} {x1 x2 : Int} (h : (0 ≤ x1 ∧ x1 < 24) ∧ ((((M 37 x1) ≤ x2) → ax_J Y_X9_lastInto (ax_Ki Y_X9_lastInto SH post) 0 0 20 [(0, aR 33), (1, aI x1)] [aI (M 37 x1)] SH M) ∧ ((x2 < (M 37 x1)) → ax_J Y_X9_lastInto (ax_Ki Y_X9_lastInto SH post) 0 0 20 [(0, aR 33), (1, aI x1)] [aI x2] SH M))) : ax_J Y_X9_lastInto (ax_Ki Y_X9_lastInto SH post) 0 0 0 [(0, aR 33), (1, aI x1), (2, aI x2)] [] SH M := by
  refine j_iload_n 2 dX9_lastInto_0 rfl ?_
  refine j_aload_n 0 dX9_lastInto_1 rfl ?_
  refine j_getc 37 dX9_lastInto_2 f_X9_21 sh_33 rfl ?_
  refine j_iload_n 1 dX9_lastInto_5 rfl ?_
  obtain ⟨o1, h⟩ := h
  refine j_iald dX9_lastInto_6 sh_37 o1.1 o1.2 (fun _ => ?_)
  refine j_icmp_ge (tgt := 14) dX9_lastInto_7 (by decide) (fun c2 => ?_) (fun c2 => ?_)
  · replace h := h.1 c2
    refine j_aload_n 0 dX9_lastInto_14 rfl ?_
    refine j_getc 37 dX9_lastInto_15 f_X9_21 sh_33 rfl ?_
    refine j_iload_n 1 dX9_lastInto_18 rfl ?_
    refine j_iald dX9_lastInto_19 sh_37 o1.1 o1.2 (fun _ => ?_)
    refine j_sub [0, 1] rfl ?_
    exact h
  · replace h := h.2 c2
    refine j_iload_n 2 dX9_lastInto_10 rfl ?_
    refine j_goto (tgt := 20) dX9_lastInto_11 (by decide) ?_
    refine j_sub [0, 1] rfl ?_
    exact h
theorem E_X9_lastInto {post : Int → ax_M → Prop} {M : ax_M} {x1 x2 : Int} (h : ax_mr SH M → (0 ≤ x1 ∧ x1 < 24) ∧ ((((M 37 x1) ≤ x2) → ax_J Y_X9_lastInto (ax_Ki Y_X9_lastInto SH post) 0 0 20 [(0, aR 33), (1, aI x1)] [aI (M 37 x1)] SH M) ∧ ((x2 < (M 37 x1)) → ax_J Y_X9_lastInto (ax_Ki Y_X9_lastInto SH post) 0 0 20 [(0, aR 33), (1, aI x1)] [aI x2] SH M))) : ax_Ti Y_X9_lastInto [aR 33, aI x1, aI x2] SH M post :=
  ti_of rfl (Nat.le_of_ble_eq_true rfl) rfl (fun q => B_X9_lastInto_0 (h q))
set_option maxRecDepth 100000 in
set_option maxHeartbeats 4000000 in
theorem B_X9_lastInto_20 {post : Int → ax_M → Prop} {M : ax_M} {s0 x1 : Int} (h : (0 ≤ x1 ∧ x1 < 24) ∧ ((((M 36 x1) ≤ s0) → ax_J Y_X9_lastInto (ax_Ki Y_X9_lastInto SH post) 0 0 41 [(0, aR 33), (1, aI x1), (3, aI s0)] [aI (M 36 x1)] SH M) ∧ ((s0 < (M 36 x1)) → ax_J Y_X9_lastInto (ax_Ki Y_X9_lastInto SH post) 0 0 41 [(0, aR 33), (1, aI x1), (3, aI s0)] [aI s0] SH M))) : ax_J Y_X9_lastInto (ax_Ki Y_X9_lastInto SH post) 0 0 20 [(0, aR 33), (1, aI x1)] [aI s0] SH M := by
  refine j_istore_n (ll' := [(3, aI s0), (0, aR 33), (1, aI x1)]) dX9_lastInto_20 (Nat.le_of_ble_eq_true rfl) rfl ?_
  refine j_iload_n 0 dX9_lastInto_21 rfl ?_
  refine j_aload_n 1 dX9_lastInto_22 rfl ?_
  refine j_getc 36 dX9_lastInto_23 f_X9_18 sh_33 rfl ?_
  refine j_iload_n 2 dX9_lastInto_26 rfl ?_
  obtain ⟨o1, h⟩ := h
  refine j_iald dX9_lastInto_27 sh_36 o1.1 o1.2 (fun _ => ?_)
  refine j_icmp_ge (tgt := 35) dX9_lastInto_28 (by decide) (fun c2 => ?_) (fun c2 => ?_)
  · replace h := h.1 c2
    refine j_aload_n 1 dX9_lastInto_35 rfl ?_
    refine j_getc 36 dX9_lastInto_36 f_X9_18 sh_33 rfl ?_
    refine j_iload_n 2 dX9_lastInto_39 rfl ?_
    refine j_iald dX9_lastInto_40 sh_36 o1.1 o1.2 (fun _ => ?_)
    refine j_sub [1, 2, 0] rfl ?_
    exact h
  · replace h := h.2 c2
    refine j_iload_n 0 dX9_lastInto_31 rfl ?_
    refine j_goto (tgt := 41) dX9_lastInto_32 (by decide) ?_
    refine j_sub [1, 2, 0] rfl ?_
    exact h
set_option maxRecDepth 100000 in
set_option maxHeartbeats 4000000 in
theorem B_X9_lastInto_41 {post : Int → ax_M → Prop} {M : ax_M} {s0 x1 x3 : Int} (h : (0 ≤ x1 ∧ x1 < 24) ∧ (-2147483648 ≤ (s0 - (M 34 x1)) ∧ (s0 - (M 34 x1)) ≤ 2147483647) ∧ ((((M 35 x1) = (-1)) → ax_J Y_X9_lastInto (ax_Ki Y_X9_lastInto SH post) 0 0 83 [(4, aI (s0 - (M 34 x1)))] [] SH M) ∧ ((¬ (M 35 x1) = (-1)) → (-2147483648 ≤ (x3 - (M 35 x1)) ∧ (x3 - (M 35 x1)) ≤ 2147483647) ∧ ((((x3 - (M 35 x1)) ≤ (s0 - (M 34 x1))) → ax_J Y_X9_lastInto (ax_Ki Y_X9_lastInto SH post) 0 0 83 [(4, aI (s0 - (M 34 x1)))] [] SH M) ∧ (((s0 - (M 34 x1)) < (x3 - (M 35 x1))) → ax_J Y_X9_lastInto (ax_Ki Y_X9_lastInto SH post) 0 0 83 [(4, aI (x3 - (M 35 x1)))] [] SH M))))) : ax_J Y_X9_lastInto (ax_Ki Y_X9_lastInto SH post) 0 0 41 [(0, aR 33), (1, aI x1), (3, aI x3)] [aI s0] SH M := by
  refine j_aload_n 0 dX9_lastInto_41 rfl ?_
  refine j_getc 34 dX9_lastInto_42 f_X9_9 sh_33 rfl ?_
  refine j_iload_n 1 dX9_lastInto_45 rfl ?_
  obtain ⟨o1, h⟩ := h
  refine j_iald dX9_lastInto_46 sh_34 o1.1 o1.2 (fun _ => ?_)
  obtain ⟨o2, h⟩ := h
  refine j_isub (z := (s0 - (M 34 x1))) dX9_lastInto_47 rfl o2 ?_
  refine j_istore (ll' := [(4, aI (s0 - (M 34 x1))), (0, aR 33), (1, aI x1), (3, aI x3)]) dX9_lastInto_48 (Nat.le_of_ble_eq_true rfl) rfl ?_
  refine j_aload_n 1 dX9_lastInto_50 rfl ?_
  refine j_getc 35 dX9_lastInto_51 f_X9_15 sh_33 rfl ?_
  refine j_iload_n 2 dX9_lastInto_54 rfl ?_
  refine j_iald dX9_lastInto_55 sh_35 o1.1 o1.2 (fun _ => ?_)
  refine j_iconst (x := (-1)) dX9_lastInto_56 rfl (i32_c rfl) ?_
  refine j_icmp_eq (tgt := 83) dX9_lastInto_57 (by decide) (fun c3 => ?_) (fun c3 => ?_)
  · replace h := h.1 c3
    refine j_sub [0] rfl ?_
    exact h
  · replace h := h.2 c3
    refine j_iload_n 3 dX9_lastInto_60 rfl ?_
    refine j_aload_n 1 dX9_lastInto_61 rfl ?_
    refine j_getc 35 dX9_lastInto_62 f_X9_15 sh_33 rfl ?_
    refine j_iload_n 2 dX9_lastInto_65 rfl ?_
    refine j_iald dX9_lastInto_66 sh_35 o1.1 o1.2 (fun _ => ?_)
    obtain ⟨o4, h⟩ := h
    refine j_isub (z := (x3 - (M 35 x1))) dX9_lastInto_67 rfl o4 ?_
    refine j_iload 0 dX9_lastInto_68 rfl ?_
    refine j_icmp_le (tgt := 83) dX9_lastInto_70 (by decide) (fun c5 => ?_) (fun c5 => ?_)
    · replace h := h.1 c5
      refine j_sub [0] rfl ?_
      exact h
    · replace h := h.2 c5
      refine j_iload_n 3 dX9_lastInto_73 rfl ?_
      refine j_aload_n 1 dX9_lastInto_74 rfl ?_
      refine j_getc 35 dX9_lastInto_75 f_X9_15 sh_33 rfl ?_
      refine j_iload_n 2 dX9_lastInto_78 rfl ?_
      refine j_iald dX9_lastInto_79 sh_35 o1.1 o1.2 (fun _ => ?_)
      refine j_isub (z := (x3 - (M 35 x1))) dX9_lastInto_80 rfl o4 ?_
      refine j_istore (ll' := [(4, aI (x3 - (M 35 x1))), (0, aR 33), (1, aI x1), (3, aI x3)]) dX9_lastInto_81 (Nat.le_of_ble_eq_true rfl) rfl ?_
      refine j_sub [0] rfl ?_
      exact h
set_option maxRecDepth 100000 in
set_option maxHeartbeats 4000000 in
theorem B_X9_lastInto_83 {post : Int → ax_M → Prop} {M : ax_M} {x4 : Int} (h : (((0 ≤ x4) → post x4 M) ∧ ((x4 < 0) → post (-1) M))) : ax_J Y_X9_lastInto (ax_Ki Y_X9_lastInto SH post) 0 0 83 [(4, aI x4)] [] SH M := by
  refine j_iload 0 dX9_lastInto_83 rfl ?_
  refine j_if_ge (tgt := 92) dX9_lastInto_85 (by decide) (fun c1 => ?_) (fun c1 => ?_)
  · replace h := h.1 c1
    refine j_iload 0 dX9_lastInto_92 rfl ?_
    exact j_iret dX9_lastInto_94 rfl ⟨Nat.le_of_ble_eq_true rfl, Nat.le_of_ble_eq_true rfl⟩ (fun _ => h)
  · replace h := h.2 c1
    refine j_iconst (x := (-1)) dX9_lastInto_88 rfl (i32_c rfl) ?_
    refine j_goto (tgt := 94) dX9_lastInto_89 (by decide) ?_
    exact j_iret dX9_lastInto_94 rfl ⟨Nat.le_of_ble_eq_true rfl, Nat.le_of_ble_eq_true rfl⟩ (fun _ => h)
set_option maxRecDepth 100000 in
set_option maxHeartbeats 4000000 in
theorem B_X2_addNear_0 {post : ax_M → Prop} {M : ax_M} {x1 x2 : Int} (h : (-2147483648 ≤ (x1 * 24) ∧ (x1 * 24) ≤ 2147483647) ∧ (0 ≤ x1 ∧ x1 < 12) ∧ (-2147483648 ≤ ((x1 * 24) + (M 45 x1)) ∧ ((x1 * 24) + (M 45 x1)) ≤ 2147483647) ∧ (0 ≤ ((x1 * 24) + (M 45 x1)) ∧ ((x1 * 24) + (M 45 x1)) < 288) ∧ (-2147483648 ≤ ((M 45 x1) + 1) ∧ ((M 45 x1) + 1) ≤ 2147483647) ∧ post (ax_up (ax_up M 44 ((x1 * 24) + (M 45 x1)) x2) 45 x1 ((M 45 x1) + 1))) : ax_J Y_X2_addNear (ax_Kv Y_X2_addNear SH post) 0 0 0 [(0, aR 40), (1, aI x1), (2, aI x2)] [] SH M := by
  refine j_aload_n 0 dX2_addNear_0 rfl ?_
  refine j_getc 44 dX2_addNear_1 f_X2_21 sh_40 rfl ?_
  refine j_iload_n 1 dX2_addNear_4 rfl ?_
  refine j_bipush (x := 24) dX2_addNear_5 rfl (i32_c rfl) ?_
  obtain ⟨o1, h⟩ := h
  refine j_imul (z := (x1 * 24)) dX2_addNear_7 rfl o1 ?_
  refine j_aload_n 0 dX2_addNear_8 rfl ?_
  refine j_getc 45 dX2_addNear_9 f_X2_24 sh_40 rfl ?_
  refine j_iload_n 1 dX2_addNear_12 rfl ?_
  obtain ⟨o2, h⟩ := h
  refine j_iald dX2_addNear_13 sh_45 o2.1 o2.2 (fun _ => ?_)
  obtain ⟨o3, h⟩ := h
  refine j_iadd (z := ((x1 * 24) + (M 45 x1))) dX2_addNear_14 rfl o3 ?_
  refine j_iload_n 2 dX2_addNear_15 rfl ?_
  obtain ⟨o4, h⟩ := h
  refine j_iast dX2_addNear_16 sh_44 o4.1 o4.2 ?_
  refine j_aload_n 0 dX2_addNear_17 rfl ?_
  refine j_getc 45 dX2_addNear_18 f_X2_24 sh_40 rfl ?_
  refine j_iload_n 1 dX2_addNear_21 rfl ?_
  refine j_dup2 dX2_addNear_22 rfl rfl ?_
  refine j_iald dX2_addNear_23 sh_45 o2.1 o2.2 (fun _ => ?_)
  refine j_iconst (x := 1) dX2_addNear_24 rfl (i32_c rfl) ?_
  obtain ⟨o5, h⟩ := h
  refine j_iadd (z := ((M 45 x1) + 1)) dX2_addNear_25 rfl o5 ?_
  refine j_iast dX2_addNear_26 sh_45 o2.1 o2.2 ?_
  exact j_vret dX2_addNear_27 rfl ⟨Nat.le_of_ble_eq_true rfl, Nat.le_of_ble_eq_true rfl⟩ h
theorem E_X2_addNear {post : ax_M → Prop} {M : ax_M} {x1 x2 : Int} (h : ax_mr SH M → (-2147483648 ≤ (x1 * 24) ∧ (x1 * 24) ≤ 2147483647) ∧ (0 ≤ x1 ∧ x1 < 12) ∧ (-2147483648 ≤ ((x1 * 24) + (M 45 x1)) ∧ ((x1 * 24) + (M 45 x1)) ≤ 2147483647) ∧ (0 ≤ ((x1 * 24) + (M 45 x1)) ∧ ((x1 * 24) + (M 45 x1)) < 288) ∧ (-2147483648 ≤ ((M 45 x1) + 1) ∧ ((M 45 x1) + 1) ≤ 2147483647) ∧ post (ax_up (ax_up M 44 ((x1 * 24) + (M 45 x1)) x2) 45 x1 ((M 45 x1) + 1))) : ax_Tv Y_X2_addNear [aR 40, aI x1, aI x2] SH M post :=
  tv_of rfl (Nat.le_of_ble_eq_true rfl) rfl (fun q => B_X2_addNear_0 (h q))
set_option maxRecDepth 100000 in
set_option maxHeartbeats 4000000 in
theorem B_J7_fill_53178_45_0 {post : ax_M → Prop} {M : ax_M} {x1 : Int} (h : ax_J Y_J7_fill_53178 (ax_Kv Y_J7_fill_53178 SH post) 0 0 5 [(0, aR 45), (1, aI x1), (2, aI 0), (3, aI 12)] [] SH M) : ax_J Y_J7_fill_53178 (ax_Kv Y_J7_fill_53178 SH post) 0 0 0 [(0, aR 45), (1, aI x1)] [] SH M := by
  refine j_iconst (x := 0) dJ7_fill_53178_0 rfl (i32_c rfl) ?_
  refine j_istore_n (ll' := [(2, aI 0), (0, aR 45), (1, aI x1)]) dJ7_fill_53178_1 (Nat.le_of_ble_eq_true rfl) rfl ?_
  refine j_aload_n 1 dJ7_fill_53178_2 rfl ?_
  refine j_alen (v := 12) dJ7_fill_53178_3 sh_45 (by decide) (by decide) rfl ?_
  refine j_istore_n (ll' := [(3, aI 12), (2, aI 0), (0, aR 45), (1, aI x1)]) dJ7_fill_53178_4 (Nat.le_of_ble_eq_true rfl) rfl ?_
  refine j_sub [2, 3, 1, 0] rfl ?_
  exact h
theorem E_J7_fill_53178_45 {post : ax_M → Prop} {M : ax_M} {x1 : Int} (h : ax_mr SH M → ax_J Y_J7_fill_53178 (ax_Kv Y_J7_fill_53178 SH post) 0 0 5 [(0, aR 45), (1, aI x1), (2, aI 0), (3, aI 12)] [] SH M) : ax_Tv Y_J7_fill_53178 [aR 45, aI x1] SH M post :=
  tv_of rfl (Nat.le_of_ble_eq_true rfl) rfl (fun q => B_J7_fill_53178_45_0 (h q))
set_option maxRecDepth 100000 in
set_option maxHeartbeats 4000000 in
theorem B_J7_fill_53178_45_5 {post : ax_M → Prop} {M : ax_M} {x1 x2 x3 : Int} (h : (((x3 ≤ x2) → post M) ∧ ((x2 < x3) → (0 ≤ x2 ∧ x2 < 12) ∧ (-2147483648 ≤ (x2 + 1) ∧ (x2 + 1) ≤ 2147483647) ∧ ax_J Y_J7_fill_53178 (ax_Kv Y_J7_fill_53178 SH post) 0 0 5 [(0, aR 45), (1, aI x1), (2, aI (x2 + 1)), (3, aI x3)] [] SH (ax_up M 45 x2 x1)))) : ax_J Y_J7_fill_53178 (ax_Kv Y_J7_fill_53178 SH post) 0 0 5 [(0, aR 45), (1, aI x1), (2, aI x2), (3, aI x3)] [] SH M := by
  refine j_iload_n 2 dJ7_fill_53178_5 rfl ?_
  refine j_iload_n 3 dJ7_fill_53178_6 rfl ?_
  refine j_icmp_ge (tgt := 20) dJ7_fill_53178_7 (by decide) (fun c1 => ?_) (fun c1 => ?_)
  · replace h := h.1 c1
    exact j_vret dJ7_fill_53178_20 rfl ⟨Nat.le_of_ble_eq_true rfl, Nat.le_of_ble_eq_true rfl⟩ h
  · replace h := h.2 c1
    refine j_aload_n 0 dJ7_fill_53178_10 rfl ?_
    refine j_iload_n 2 dJ7_fill_53178_11 rfl ?_
    refine j_iload_n 1 dJ7_fill_53178_12 rfl ?_
    obtain ⟨o2, h⟩ := h
    refine j_iast dJ7_fill_53178_13 sh_45 o2.1 o2.2 ?_
    obtain ⟨o3, h⟩ := h
    refine j_iinc (ll' := [(2, aI (x2 + 1)), (0, aR 45), (1, aI x1), (3, aI x3)]) 2 dJ7_fill_53178_14 rfl (Nat.le_of_ble_eq_true rfl) o3 rfl ?_
    refine j_goto (tgt := 5) dJ7_fill_53178_17 (by decide) ?_
    refine j_sub [1, 2, 0, 3] rfl ?_
    exact h
set_option maxRecDepth 100000 in
set_option maxHeartbeats 4000000 in
theorem B_X2_see_0 {post : ax_M → Prop} {M : ax_M} {x1 x2 x3 : Int} (h : (0 ≤ x1 ∧ x1 < 732) ∧ (((¬ (M 46 x1) = (-1)) → post M) ∧ (((M 46 x1) = (-1)) → (((732 ≤ (M 40 10)) → post M) ∧ (((M 40 10) < 732) → (0 ≤ (M 40 10) ∧ (M 40 10) < 732) ∧ (-2147483648 ≤ ((M 40 10) + 1) ∧ ((M 40 10) + 1) ≤ 2147483647) ∧ post (ax_up (ax_up (ax_up (ax_up M 46 x1 x2) 47 x1 x3) 48 (M 40 10) x1) 40 10 ((M 40 10) + 1))))))) : ax_J Y_X2_see (ax_Kv Y_X2_see SH post) 0 0 0 [(0, aR 40), (1, aI x1), (2, aI x2), (3, aI x3)] [] SH M := by
  refine j_aload_n 0 dX2_see_0 rfl ?_
  refine j_getc 46 dX2_see_1 f_X2_27 sh_40 rfl ?_
  refine j_iload_n 1 dX2_see_4 rfl ?_
  obtain ⟨o1, h⟩ := h
  refine j_iald dX2_see_5 sh_46 o1.1 o1.2 (fun _ => ?_)
  refine j_iconst (x := (-1)) dX2_see_6 rfl (i32_c rfl) ?_
  refine j_icmp_ne (tgt := 54) dX2_see_7 (by decide) (fun c2 => ?_) (fun c2 => ?_)
  · replace h := h.1 c2
    exact j_vret dX2_see_54 rfl ⟨Nat.le_of_ble_eq_true rfl, Nat.le_of_ble_eq_true rfl⟩ h
  · replace h := h.2 c2
    refine j_aload_n 0 dX2_see_10 rfl ?_
    refine j_geti (i := 10) dX2_see_11 f_X2_90 sh_40 rfl rfl (fun _ => ?_)
    refine j_sipush (x := 732) dX2_see_14 rfl (i32_c rfl) ?_
    refine j_icmp_ge (tgt := 54) dX2_see_17 (by decide) (fun c3 => ?_) (fun c3 => ?_)
    · replace h := h.1 c3
      exact j_vret dX2_see_54 rfl ⟨Nat.le_of_ble_eq_true rfl, Nat.le_of_ble_eq_true rfl⟩ h
    · replace h := h.2 c3
      refine j_aload_n 0 dX2_see_20 rfl ?_
      refine j_getc 46 dX2_see_21 f_X2_27 sh_40 rfl ?_
      refine j_iload_n 1 dX2_see_24 rfl ?_
      refine j_iload_n 2 dX2_see_25 rfl ?_
      refine j_iast dX2_see_26 sh_46 o1.1 o1.2 ?_
      refine j_aload_n 0 dX2_see_27 rfl ?_
      refine j_getc 47 dX2_see_28 f_X2_30 sh_40 rfl ?_
      refine j_iload_n 1 dX2_see_31 rfl ?_
      refine j_iload_n 3 dX2_see_32 rfl ?_
      refine j_iast dX2_see_33 sh_47 o1.1 o1.2 ?_
      refine j_aload_n 0 dX2_see_34 rfl ?_
      refine j_getc 48 dX2_see_35 f_X2_33 sh_40 rfl ?_
      refine j_aload_n 0 dX2_see_38 rfl ?_
      refine j_geti (i := 10) dX2_see_39 f_X2_90 sh_40 rfl rfl (fun _ => ?_)
      refine j_iload_n 1 dX2_see_42 rfl ?_
      obtain ⟨o4, h⟩ := h
      refine j_iast dX2_see_43 sh_48 o4.1 o4.2 ?_
      refine j_aload_n 0 dX2_see_44 rfl ?_
      refine j_dup dX2_see_45 rfl ?_
      refine j_geti (i := 10) dX2_see_46 f_X2_90 sh_40 rfl rfl (fun _ => ?_)
      refine j_iconst (x := 1) dX2_see_49 rfl (i32_c rfl) ?_
      obtain ⟨o5, h⟩ := h
      refine j_iadd (z := ((M 40 10) + 1)) dX2_see_50 rfl o5 ?_
      refine j_puti (i := 10) dX2_see_51 p_X2_90 (fun h => by cases h) sh_40 rfl rfl ?_
      exact j_vret dX2_see_54 rfl ⟨Nat.le_of_ble_eq_true rfl, Nat.le_of_ble_eq_true rfl⟩ h
theorem E_X2_see {post : ax_M → Prop} {M : ax_M} {x1 x2 x3 : Int} (h : ax_mr SH M → (0 ≤ x1 ∧ x1 < 732) ∧ (((¬ (M 46 x1) = (-1)) → post M) ∧ (((M 46 x1) = (-1)) → (((732 ≤ (M 40 10)) → post M) ∧ (((M 40 10) < 732) → (0 ≤ (M 40 10) ∧ (M 40 10) < 732) ∧ (-2147483648 ≤ ((M 40 10) + 1) ∧ ((M 40 10) + 1) ≤ 2147483647) ∧ post (ax_up (ax_up (ax_up (ax_up M 46 x1 x2) 47 x1 x3) 48 (M 40 10) x1) 40 10 ((M 40 10) + 1))))))) : ax_Tv Y_X2_see [aR 40, aI x1, aI x2, aI x3] SH M post :=
  tv_of rfl (Nat.le_of_ble_eq_true rfl) rfl (fun q => B_X2_see_0 (h q))
set_option maxRecDepth 100000 in
set_option maxHeartbeats 4000000 in
theorem B_X2_seeByWaiting_0 {post : ax_M → Prop} {M : ax_M} {x1 x2 : Int} (h : ((((M 40 11) ≤ x2) → (((x2 ≤ 0) → post M) ∧ ((0 < x2) → (-2147483648 ≤ (2928 + x1) ∧ (2928 + x1) ≤ 2147483647) ∧ (-2147483648 ≤ ((2928 + x1) - 1) ∧ ((2928 + x1) - 1) ≤ 2147483647) ∧ (0 ≤ ((2928 + x1) - 1) ∧ ((2928 + x1) - 1) < 3660) ∧ ((((M 41 ((2928 + x1) - 1)) ≤ 0) → post M) ∧ ((0 < (M 41 ((2928 + x1) - 1))) → (-2147483648 ≤ (x1 - 1) ∧ (x1 - 1) ≤ 2147483647) ∧ (-2147483648 ≤ ((-1) - ((2928 + x1) - 1)) ∧ ((-1) - ((2928 + x1) - 1)) ≤ 2147483647) ∧ ax_Tv Y_X2_see [aR 40, aI (x1 - 1), aI x1, aI ((-1) - ((2928 + x1) - 1))] SH M (fun u1 => post u1)))))) ∧ ((x2 < (M 40 11)) → (-2147483648 ≤ (x1 + 1) ∧ (x1 + 1) ≤ 2147483647) ∧ (-2147483648 ≤ (2928 + x1) ∧ (2928 + x1) ≤ 2147483647) ∧ ax_Tv Y_X2_see [aR 40, aI (x1 + 1), aI x1, aI (2928 + x1)] SH M (fun u2 => (((x2 ≤ 0) → post u2) ∧ ((0 < x2) → (-2147483648 ≤ ((2928 + x1) - 1) ∧ ((2928 + x1) - 1) ≤ 2147483647) ∧ (0 ≤ ((2928 + x1) - 1) ∧ ((2928 + x1) - 1) < 3660) ∧ ((((u2 41 ((2928 + x1) - 1)) ≤ 0) → post u2) ∧ ((0 < (u2 41 ((2928 + x1) - 1))) → (-2147483648 ≤ (x1 - 1) ∧ (x1 - 1) ≤ 2147483647) ∧ (-2147483648 ≤ ((-1) - ((2928 + x1) - 1)) ∧ ((-1) - ((2928 + x1) - 1)) ≤ 2147483647) ∧ ax_Tv Y_X2_see [aR 40, aI (x1 - 1), aI x1, aI ((-1) - ((2928 + x1) - 1))] SH u2 (fun u3 => post u3))))))))) : ax_J Y_X2_seeByWaiting (ax_Kv Y_X2_seeByWaiting SH post) 0 0 0 [(0, aR 40), (1, aI x1), (2, aI x2)] [] SH M := by
  refine j_iload_n 2 dX2_seeByWaiting_0 rfl ?_
  refine j_aload_n 0 dX2_seeByWaiting_1 rfl ?_
  refine j_geti (i := 11) dX2_seeByWaiting_2 f_X2_44 sh_40 rfl rfl (fun _ => ?_)
  refine j_icmp_ge (tgt := 21) dX2_seeByWaiting_5 (by decide) (fun c1 => ?_) (fun c1 => ?_)
  · replace h := h.1 c1
    refine j_iload_n 2 dX2_seeByWaiting_21 rfl ?_
    refine j_if_le (tgt := 57) dX2_seeByWaiting_22 (by decide) (fun c2 => ?_) (fun c2 => ?_)
    · replace h := h.1 c2
      exact j_vret dX2_seeByWaiting_57 rfl ⟨Nat.le_of_ble_eq_true rfl, Nat.le_of_ble_eq_true rfl⟩ h
    · replace h := h.2 c2
      refine j_aload_n 0 dX2_seeByWaiting_25 rfl ?_
      refine j_getc 41 dX2_seeByWaiting_26 f_X2_11 sh_40 rfl ?_
      refine j_sipush (x := 2928) dX2_seeByWaiting_29 rfl (i32_c rfl) ?_
      refine j_iload_n 1 dX2_seeByWaiting_32 rfl ?_
      obtain ⟨o3, h⟩ := h
      refine j_iadd (z := (2928 + x1)) dX2_seeByWaiting_33 rfl o3 ?_
      refine j_iconst (x := 1) dX2_seeByWaiting_34 rfl (i32_c rfl) ?_
      obtain ⟨o4, h⟩ := h
      refine j_isub (z := ((2928 + x1) - 1)) dX2_seeByWaiting_35 rfl o4 ?_
      obtain ⟨o5, h⟩ := h
      refine j_iald dX2_seeByWaiting_36 sh_41 o5.1 o5.2 (fun _ => ?_)
      refine j_if_le (tgt := 57) dX2_seeByWaiting_37 (by decide) (fun c6 => ?_) (fun c6 => ?_)
      · replace h := h.1 c6
        exact j_vret dX2_seeByWaiting_57 rfl ⟨Nat.le_of_ble_eq_true rfl, Nat.le_of_ble_eq_true rfl⟩ h
      · replace h := h.2 c6
        refine j_aload_n 0 dX2_seeByWaiting_40 rfl ?_
        refine j_iload_n 1 dX2_seeByWaiting_41 rfl ?_
        refine j_iconst (x := 1) dX2_seeByWaiting_42 rfl (i32_c rfl) ?_
        obtain ⟨o7, h⟩ := h
        refine j_isub (z := (x1 - 1)) dX2_seeByWaiting_43 rfl o7 ?_
        refine j_iload_n 1 dX2_seeByWaiting_44 rfl ?_
        refine j_iconst (x := (-1)) dX2_seeByWaiting_45 rfl (i32_c rfl) ?_
        refine j_sipush (x := 2928) dX2_seeByWaiting_46 rfl (i32_c rfl) ?_
        refine j_iload_n 1 dX2_seeByWaiting_49 rfl ?_
        refine j_iadd (z := (2928 + x1)) dX2_seeByWaiting_50 rfl o3 ?_
        refine j_iconst (x := 1) dX2_seeByWaiting_51 rfl (i32_c rfl) ?_
        refine j_isub (z := ((2928 + x1) - 1)) dX2_seeByWaiting_52 rfl o4 ?_
        obtain ⟨o8, h⟩ := h
        refine j_isub (z := ((-1) - ((2928 + x1) - 1))) dX2_seeByWaiting_53 rfl o8 ?_
        refine j_callvV (Yc := Y_X2_see) (as := [aI (x1 - 1), aI x1, aI ((-1) - ((2928 + x1) - 1))]) (rest := []) dX2_seeByWaiting_54 q_X2_96 ⟨Nat.le_of_ble_eq_true rfl, Nat.le_of_ble_eq_true rfl, Nat.le_of_ble_eq_true rfl, Nat.le_of_ble_eq_true rfl⟩ sh_40 rfl (Nat.le_of_ble_eq_true rfl) rfl (tv_mono h (fun u1 h => ?_))
        exact j_vret dX2_seeByWaiting_57 rfl ⟨Nat.le_of_ble_eq_true rfl, Nat.le_of_ble_eq_true rfl⟩ h
  · replace h := h.2 c1
    refine j_aload_n 0 dX2_seeByWaiting_8 rfl ?_
    refine j_iload_n 1 dX2_seeByWaiting_9 rfl ?_
    refine j_iconst (x := 1) dX2_seeByWaiting_10 rfl (i32_c rfl) ?_
    obtain ⟨o9, h⟩ := h
    refine j_iadd (z := (x1 + 1)) dX2_seeByWaiting_11 rfl o9 ?_
    refine j_iload_n 1 dX2_seeByWaiting_12 rfl ?_
    refine j_sipush (x := 2928) dX2_seeByWaiting_13 rfl (i32_c rfl) ?_
    refine j_iload_n 1 dX2_seeByWaiting_16 rfl ?_
    obtain ⟨o10, h⟩ := h
    refine j_iadd (z := (2928 + x1)) dX2_seeByWaiting_17 rfl o10 ?_
    refine j_callvV (Yc := Y_X2_see) (as := [aI (x1 + 1), aI x1, aI (2928 + x1)]) (rest := []) dX2_seeByWaiting_18 q_X2_96 ⟨Nat.le_of_ble_eq_true rfl, Nat.le_of_ble_eq_true rfl, Nat.le_of_ble_eq_true rfl, Nat.le_of_ble_eq_true rfl⟩ sh_40 rfl (Nat.le_of_ble_eq_true rfl) rfl (tv_mono h (fun u2 h => ?_))
    refine j_iload_n 2 dX2_seeByWaiting_21 rfl ?_
    refine j_if_le (tgt := 57) dX2_seeByWaiting_22 (by decide) (fun c11 => ?_) (fun c11 => ?_)
    · replace h := h.1 c11
      exact j_vret dX2_seeByWaiting_57 rfl ⟨Nat.le_of_ble_eq_true rfl, Nat.le_of_ble_eq_true rfl⟩ h
    · replace h := h.2 c11
      refine j_aload_n 0 dX2_seeByWaiting_25 rfl ?_
      refine j_getc 41 dX2_seeByWaiting_26 f_X2_11 sh_40 rfl ?_
      refine j_sipush (x := 2928) dX2_seeByWaiting_29 rfl (i32_c rfl) ?_
      refine j_iload_n 1 dX2_seeByWaiting_32 rfl ?_
      refine j_iadd (z := (2928 + x1)) dX2_seeByWaiting_33 rfl o10 ?_
      refine j_iconst (x := 1) dX2_seeByWaiting_34 rfl (i32_c rfl) ?_
      obtain ⟨o12, h⟩ := h
      refine j_isub (z := ((2928 + x1) - 1)) dX2_seeByWaiting_35 rfl o12 ?_
      obtain ⟨o13, h⟩ := h
      refine j_iald dX2_seeByWaiting_36 sh_41 o13.1 o13.2 (fun _ => ?_)
      refine j_if_le (tgt := 57) dX2_seeByWaiting_37 (by decide) (fun c14 => ?_) (fun c14 => ?_)
      · replace h := h.1 c14
        exact j_vret dX2_seeByWaiting_57 rfl ⟨Nat.le_of_ble_eq_true rfl, Nat.le_of_ble_eq_true rfl⟩ h
      · replace h := h.2 c14
        refine j_aload_n 0 dX2_seeByWaiting_40 rfl ?_
        refine j_iload_n 1 dX2_seeByWaiting_41 rfl ?_
        refine j_iconst (x := 1) dX2_seeByWaiting_42 rfl (i32_c rfl) ?_
        obtain ⟨o15, h⟩ := h
        refine j_isub (z := (x1 - 1)) dX2_seeByWaiting_43 rfl o15 ?_
        refine j_iload_n 1 dX2_seeByWaiting_44 rfl ?_
        refine j_iconst (x := (-1)) dX2_seeByWaiting_45 rfl (i32_c rfl) ?_
        refine j_sipush (x := 2928) dX2_seeByWaiting_46 rfl (i32_c rfl) ?_
        refine j_iload_n 1 dX2_seeByWaiting_49 rfl ?_
        refine j_iadd (z := (2928 + x1)) dX2_seeByWaiting_50 rfl o10 ?_
        refine j_iconst (x := 1) dX2_seeByWaiting_51 rfl (i32_c rfl) ?_
        refine j_isub (z := ((2928 + x1) - 1)) dX2_seeByWaiting_52 rfl o12 ?_
        obtain ⟨o16, h⟩ := h
        refine j_isub (z := ((-1) - ((2928 + x1) - 1))) dX2_seeByWaiting_53 rfl o16 ?_
        refine j_callvV (Yc := Y_X2_see) (as := [aI (x1 - 1), aI x1, aI ((-1) - ((2928 + x1) - 1))]) (rest := []) dX2_seeByWaiting_54 q_X2_96 ⟨Nat.le_of_ble_eq_true rfl, Nat.le_of_ble_eq_true rfl, Nat.le_of_ble_eq_true rfl, Nat.le_of_ble_eq_true rfl⟩ sh_40 rfl (Nat.le_of_ble_eq_true rfl) rfl (tv_mono h (fun u3 h => ?_))
        exact j_vret dX2_seeByWaiting_57 rfl ⟨Nat.le_of_ble_eq_true rfl, Nat.le_of_ble_eq_true rfl⟩ h
theorem E_X2_seeByWaiting {post : ax_M → Prop} {M : ax_M} {x1 x2 : Int} (h : ax_mr SH M → ((((M 40 11) ≤ x2) → (((x2 ≤ 0) → post M) ∧ ((0 < x2) → (-2147483648 ≤ (2928 + x1) ∧ (2928 + x1) ≤ 2147483647) ∧ (-2147483648 ≤ ((2928 + x1) - 1) ∧ ((2928 + x1) - 1) ≤ 2147483647) ∧ (0 ≤ ((2928 + x1) - 1) ∧ ((2928 + x1) - 1) < 3660) ∧ ((((M 41 ((2928 + x1) - 1)) ≤ 0) → post M) ∧ ((0 < (M 41 ((2928 + x1) - 1))) → (-2147483648 ≤ (x1 - 1) ∧ (x1 - 1) ≤ 2147483647) ∧ (-2147483648 ≤ ((-1) - ((2928 + x1) - 1)) ∧ ((-1) - ((2928 + x1) - 1)) ≤ 2147483647) ∧ ax_Tv Y_X2_see [aR 40, aI (x1 - 1), aI x1, aI ((-1) - ((2928 + x1) - 1))] SH M (fun u1 => post u1)))))) ∧ ((x2 < (M 40 11)) → (-2147483648 ≤ (x1 + 1) ∧ (x1 + 1) ≤ 2147483647) ∧ (-2147483648 ≤ (2928 + x1) ∧ (2928 + x1) ≤ 2147483647) ∧ ax_Tv Y_X2_see [aR 40, aI (x1 + 1), aI x1, aI (2928 + x1)] SH M (fun u2 => (((x2 ≤ 0) → post u2) ∧ ((0 < x2) → (-2147483648 ≤ ((2928 + x1) - 1) ∧ ((2928 + x1) - 1) ≤ 2147483647) ∧ (0 ≤ ((2928 + x1) - 1) ∧ ((2928 + x1) - 1) < 3660) ∧ ((((u2 41 ((2928 + x1) - 1)) ≤ 0) → post u2) ∧ ((0 < (u2 41 ((2928 + x1) - 1))) → (-2147483648 ≤ (x1 - 1) ∧ (x1 - 1) ≤ 2147483647) ∧ (-2147483648 ≤ ((-1) - ((2928 + x1) - 1)) ∧ ((-1) - ((2928 + x1) - 1)) ≤ 2147483647) ∧ ax_Tv Y_X2_see [aR 40, aI (x1 - 1), aI x1, aI ((-1) - ((2928 + x1) - 1))] SH u2 (fun u3 => post u3))))))))) : ax_Tv Y_X2_seeByWaiting [aR 40, aI x1, aI x2] SH M post :=
  tv_of rfl (Nat.le_of_ble_eq_true rfl) rfl (fun q => B_X2_seeByWaiting_0 (h q))
set_option maxRecDepth 100000 in
set_option maxHeartbeats 4000000 in
theorem B_X2_seeByWay_0 {post : ax_M → Prop} {M : ax_M} {x1 x2 x3 : Int} (h : ax_Ti Y_X3_beyond [aR 6, aI x1, aI x2] SH M (fun z2 u1 => (-2147483648 ≤ (x1 * 7) ∧ (x1 * 7) ≤ 2147483647) ∧ (-2147483648 ≤ ((x1 * 7) + 2) ∧ ((x1 * 7) + 2) ≤ 2147483647) ∧ (0 ≤ ((x1 * 7) + 2) ∧ ((x1 * 7) + 2) < 168) ∧ (-2147483648 ≤ (x3 + (u1 7 ((x1 * 7) + 2))) ∧ (x3 + (u1 7 ((x1 * 7) + 2))) ≤ 2147483647) ∧ ax_Ti Y_X2_stepInto [aR 40, aI x1, aI x2, aI x3] SH u1 (fun z4 u3 => (-2147483648 ≤ ((x1 * 7) + 5) ∧ ((x1 * 7) + 5) ≤ 2147483647) ∧ (0 ≤ ((x1 * 7) + 5) ∧ ((x1 * 7) + 5) < 168) ∧ ((((min (u3 40 11) (u3 7 ((x1 * 7) + 5))) < (x3 + (u1 7 ((x1 * 7) + 2)))) → ax_J Y_X2_seeByWay (ax_Kv Y_X2_seeByWay SH post) 0 0 97 [(0, aR 40), (1, aI x1), (2, aI x2), (3, aI x3), (4, aI z2), (5, aI (u1 7 ((x1 * 7) + 2)))] [] SH u3) ∧ (((x3 + (u1 7 ((x1 * 7) + 2))) ≤ (min (u3 40 11) (u3 7 ((x1 * 7) + 5)))) → (0 ≤ z4 ∧ z4 < 3660) ∧ (-2147483648 ≤ ((x1 * 7) + 4) ∧ ((x1 * 7) + 4) ≤ 2147483647) ∧ (0 ≤ ((x1 * 7) + 4) ∧ ((x1 * 7) + 4) < 168) ∧ ((((u3 7 ((x1 * 7) + 4)) ≤ (u3 41 z4)) → ax_J Y_X2_seeByWay (ax_Kv Y_X2_seeByWay SH post) 0 0 97 [(0, aR 40), (1, aI x1), (2, aI x2), (3, aI x3), (4, aI z2), (5, aI (u1 7 ((x1 * 7) + 2)))] [] SH u3) ∧ (((u3 41 z4) < (u3 7 ((x1 * 7) + 4))) → (-2147483648 ≤ (z2 * 61) ∧ (z2 * 61) ≤ 2147483647) ∧ (-2147483648 ≤ ((z2 * 61) + (x3 + (u1 7 ((x1 * 7) + 2)))) ∧ ((z2 * 61) + (x3 + (u1 7 ((x1 * 7) + 2)))) ≤ 2147483647) ∧ (-2147483648 ≤ (x2 * 61) ∧ (x2 * 61) ≤ 2147483647) ∧ (-2147483648 ≤ ((x2 * 61) + x3) ∧ ((x2 * 61) + x3) ≤ 2147483647) ∧ ax_Tv Y_X2_see [aR 40, aI ((z2 * 61) + (x3 + (u1 7 ((x1 * 7) + 2)))), aI ((x2 * 61) + x3), aI z4] SH u3 (fun u5 => ax_J Y_X2_seeByWay (ax_Kv Y_X2_seeByWay SH post) 0 0 97 [(0, aR 40), (1, aI x1), (2, aI x2), (3, aI x3), (4, aI z2), (5, aI (u1 7 ((x1 * 7) + 2)))] [] SH u5)))))))) : ax_J Y_X2_seeByWay (ax_Kv Y_X2_seeByWay SH post) 0 0 0 [(0, aR 40), (1, aI x1), (2, aI x2), (3, aI x3)] [] SH M := by
  refine j_aload_n 0 dX2_seeByWay_0 rfl ?_
  refine j_getc 6 dX2_seeByWay_1 f_X2_36 sh_40 rfl ?_
  refine j_iload_n 1 dX2_seeByWay_4 rfl ?_
  refine j_iload_n 2 dX2_seeByWay_5 rfl ?_
  refine j_calliV (Yc := Y_X3_beyond) (as := [aI x1, aI x2]) (rest := []) dX2_seeByWay_6 q_X2_112 ⟨Nat.le_of_ble_eq_true rfl, Nat.le_of_ble_eq_true rfl, Nat.le_of_ble_eq_true rfl, Nat.le_of_ble_eq_true rfl⟩ sh_6 rfl (Nat.le_of_ble_eq_true rfl) rfl (ti_mono h (fun z2 u1 h => ?_))
  refine j_istore (ll' := [(4, aI z2), (0, aR 40), (1, aI x1), (2, aI x2), (3, aI x3)]) dX2_seeByWay_9 (Nat.le_of_ble_eq_true rfl) rfl ?_
  refine j_aload_n 1 dX2_seeByWay_11 rfl ?_
  refine j_getc 6 dX2_seeByWay_12 f_X2_36 sh_40 rfl ?_
  refine j_iload_n 2 dX2_seeByWay_15 rfl ?_
  refine j_iconst (x := 2) dX2_seeByWay_16 rfl (i32_c rfl) ?_
  refine j_calliV (Yc := Y_X3_fact) (as := [aI x1, aI 2]) (rest := []) dX2_seeByWay_17 q_X2_82 ⟨Nat.le_of_ble_eq_true rfl, Nat.le_of_ble_eq_true rfl, Nat.le_of_ble_eq_true rfl, Nat.le_of_ble_eq_true rfl⟩ sh_6 rfl (Nat.le_of_ble_eq_true rfl) rfl (ti_of (ll := [(0, aR 6), (1, aI x1), (2, aI 2)]) rfl (Nat.le_of_ble_eq_true rfl) rfl (fun _ => ?_))
  refine j_aload_n 0 dX3_fact_0 rfl ?_
  refine j_getc 7 dX3_fact_1 f_X3_15 sh_6 rfl ?_
  refine j_iload_n 1 dX3_fact_4 rfl ?_
  refine j_bipush (x := 7) dX3_fact_5 rfl (i32_c rfl) ?_
  obtain ⟨o1, h⟩ := h
  refine j_imul (z := (x1 * 7)) dX3_fact_7 rfl o1 ?_
  refine j_iload_n 2 dX3_fact_8 rfl ?_
  obtain ⟨o2, h⟩ := h
  refine j_iadd (z := ((x1 * 7) + 2)) dX3_fact_9 rfl o2 ?_
  obtain ⟨o3, h⟩ := h
  refine j_iald dX3_fact_10 sh_7 o3.1 o3.2 (fun _ => ?_)
  refine j_iret dX3_fact_11 rfl ⟨Nat.le_of_ble_eq_true rfl, Nat.le_of_ble_eq_true rfl⟩ (fun _ => ?_)
  refine j_istore (ll' := [(5, aI (u1 7 ((x1 * 7) + 2))), (4, aI z2), (0, aR 40), (1, aI x1), (2, aI x2), (3, aI x3)]) dX2_seeByWay_20 (Nat.le_of_ble_eq_true rfl) rfl ?_
  refine j_iload_n 5 dX2_seeByWay_22 rfl ?_
  refine j_iload 0 dX2_seeByWay_23 rfl ?_
  obtain ⟨o4, h⟩ := h
  refine j_iadd (z := (x3 + (u1 7 ((x1 * 7) + 2)))) dX2_seeByWay_25 rfl o4 ?_
  refine j_istore (ll' := [(6, aI (x3 + (u1 7 ((x1 * 7) + 2)))), (5, aI (u1 7 ((x1 * 7) + 2))), (4, aI z2), (0, aR 40), (1, aI x1), (2, aI x2), (3, aI x3)]) dX2_seeByWay_26 (Nat.le_of_ble_eq_true rfl) rfl ?_
  refine j_aload_n 3 dX2_seeByWay_28 rfl ?_
  refine j_iload_n 4 dX2_seeByWay_29 rfl ?_
  refine j_iload_n 5 dX2_seeByWay_30 rfl ?_
  refine j_iload_n 6 dX2_seeByWay_31 rfl ?_
  refine j_calliV (Yc := Y_X2_stepInto) (as := [aI x1, aI x2, aI x3]) (rest := []) dX2_seeByWay_32 q_X2_115 ⟨Nat.le_of_ble_eq_true rfl, Nat.le_of_ble_eq_true rfl, Nat.le_of_ble_eq_true rfl, Nat.le_of_ble_eq_true rfl⟩ sh_40 rfl (Nat.le_of_ble_eq_true rfl) rfl (ti_mono h (fun z4 u3 h => ?_))
  refine j_istore (ll' := [(7, aI z4), (6, aI (x3 + (u1 7 ((x1 * 7) + 2)))), (5, aI (u1 7 ((x1 * 7) + 2))), (4, aI z2), (0, aR 40), (1, aI x1), (2, aI x2), (3, aI x3)]) dX2_seeByWay_35 (Nat.le_of_ble_eq_true rfl) rfl ?_
  refine j_iload 1 dX2_seeByWay_37 rfl ?_
  refine j_aload_n 4 dX2_seeByWay_39 rfl ?_
  refine j_geti (i := 11) dX2_seeByWay_40 f_X2_44 sh_40 rfl rfl (fun _ => ?_)
  refine j_aload_n 4 dX2_seeByWay_43 rfl ?_
  refine j_getc 6 dX2_seeByWay_44 f_X2_36 sh_40 rfl ?_
  refine j_iload_n 5 dX2_seeByWay_47 rfl ?_
  refine j_iconst (x := 5) dX2_seeByWay_48 rfl (i32_c rfl) ?_
  refine j_calliV (Yc := Y_X3_fact) (as := [aI x1, aI 5]) (rest := [aI (u3 40 11), aI (x3 + (u1 7 ((x1 * 7) + 2)))]) dX2_seeByWay_49 q_X2_82 ⟨Nat.le_of_ble_eq_true rfl, Nat.le_of_ble_eq_true rfl, Nat.le_of_ble_eq_true rfl, Nat.le_of_ble_eq_true rfl⟩ sh_6 rfl (Nat.le_of_ble_eq_true rfl) rfl (ti_of (ll := [(0, aR 6), (1, aI x1), (2, aI 5)]) rfl (Nat.le_of_ble_eq_true rfl) rfl (fun _ => ?_))
  refine j_aload_n 0 dX3_fact_0 rfl ?_
  refine j_getc 7 dX3_fact_1 f_X3_15 sh_6 rfl ?_
  refine j_iload_n 1 dX3_fact_4 rfl ?_
  refine j_bipush (x := 7) dX3_fact_5 rfl (i32_c rfl) ?_
  refine j_imul (z := (x1 * 7)) dX3_fact_7 rfl o1 ?_
  refine j_iload_n 2 dX3_fact_8 rfl ?_
  obtain ⟨o5, h⟩ := h
  refine j_iadd (z := ((x1 * 7) + 5)) dX3_fact_9 rfl o5 ?_
  obtain ⟨o6, h⟩ := h
  refine j_iald dX3_fact_10 sh_7 o6.1 o6.2 (fun _ => ?_)
  refine j_iret dX3_fact_11 rfl ⟨Nat.le_of_ble_eq_true rfl, Nat.le_of_ble_eq_true rfl⟩ (fun _ => ?_)
  refine j_mmin dX2_seeByWay_52 (ax_in 859 (by decide +kernel) rfl) ⟨Nat.le_of_ble_eq_true rfl, Nat.le_of_ble_eq_true rfl⟩ (Nat.le_of_ble_eq_true rfl) (Nat.le_of_ble_eq_true rfl) ?_
  refine j_icmp_gt (tgt := 97) dX2_seeByWay_55 (by decide) (fun c7 => ?_) (fun c7 => ?_)
  · replace h := h.1 c7
    refine j_sub [4, 5, 6, 7, 3, 2] rfl ?_
    exact h
  · replace h := h.2 c7
    refine j_aload_n 4 dX2_seeByWay_58 rfl ?_
    refine j_getc 41 dX2_seeByWay_59 f_X2_11 sh_40 rfl ?_
    refine j_iload 0 dX2_seeByWay_62 rfl ?_
    obtain ⟨o8, h⟩ := h
    refine j_iald dX2_seeByWay_64 sh_41 o8.1 o8.2 (fun _ => ?_)
    refine j_aload_n 4 dX2_seeByWay_65 rfl ?_
    refine j_getc 6 dX2_seeByWay_66 f_X2_36 sh_40 rfl ?_
    refine j_iload_n 5 dX2_seeByWay_69 rfl ?_
    refine j_iconst (x := 4) dX2_seeByWay_70 rfl (i32_c rfl) ?_
    refine j_calliV (Yc := Y_X3_fact) (as := [aI x1, aI 4]) (rest := [aI (u3 41 z4)]) dX2_seeByWay_71 q_X2_82 ⟨Nat.le_of_ble_eq_true rfl, Nat.le_of_ble_eq_true rfl, Nat.le_of_ble_eq_true rfl, Nat.le_of_ble_eq_true rfl⟩ sh_6 rfl (Nat.le_of_ble_eq_true rfl) rfl (ti_of (ll := [(0, aR 6), (1, aI x1), (2, aI 4)]) rfl (Nat.le_of_ble_eq_true rfl) rfl (fun _ => ?_))
    refine j_aload_n 0 dX3_fact_0 rfl ?_
    refine j_getc 7 dX3_fact_1 f_X3_15 sh_6 rfl ?_
    refine j_iload_n 1 dX3_fact_4 rfl ?_
    refine j_bipush (x := 7) dX3_fact_5 rfl (i32_c rfl) ?_
    refine j_imul (z := (x1 * 7)) dX3_fact_7 rfl o1 ?_
    refine j_iload_n 2 dX3_fact_8 rfl ?_
    obtain ⟨o9, h⟩ := h
    refine j_iadd (z := ((x1 * 7) + 4)) dX3_fact_9 rfl o9 ?_
    obtain ⟨o10, h⟩ := h
    refine j_iald dX3_fact_10 sh_7 o10.1 o10.2 (fun _ => ?_)
    refine j_iret dX3_fact_11 rfl ⟨Nat.le_of_ble_eq_true rfl, Nat.le_of_ble_eq_true rfl⟩ (fun _ => ?_)
    refine j_icmp_ge (tgt := 97) dX2_seeByWay_74 (by decide) (fun c11 => ?_) (fun c11 => ?_)
    · replace h := h.1 c11
      refine j_sub [4, 5, 6, 7, 3, 2] rfl ?_
      exact h
    · replace h := h.2 c11
      refine j_aload_n 4 dX2_seeByWay_77 rfl ?_
      refine j_iload 3 dX2_seeByWay_78 rfl ?_
      refine j_bipush (x := 61) dX2_seeByWay_80 rfl (i32_c rfl) ?_
      obtain ⟨o12, h⟩ := h
      refine j_imul (z := (z2 * 61)) dX2_seeByWay_82 rfl o12 ?_
      refine j_iload 1 dX2_seeByWay_83 rfl ?_
      obtain ⟨o13, h⟩ := h
      refine j_iadd (z := ((z2 * 61) + (x3 + (u1 7 ((x1 * 7) + 2))))) dX2_seeByWay_85 rfl o13 ?_
      refine j_iload_n 6 dX2_seeByWay_86 rfl ?_
      refine j_bipush (x := 61) dX2_seeByWay_87 rfl (i32_c rfl) ?_
      obtain ⟨o14, h⟩ := h
      refine j_imul (z := (x2 * 61)) dX2_seeByWay_89 rfl o14 ?_
      refine j_iload_n 7 dX2_seeByWay_90 rfl ?_
      obtain ⟨o15, h⟩ := h
      refine j_iadd (z := ((x2 * 61) + x3)) dX2_seeByWay_91 rfl o15 ?_
      refine j_iload 0 dX2_seeByWay_92 rfl ?_
      refine j_callvV (Yc := Y_X2_see) (as := [aI ((z2 * 61) + (x3 + (u1 7 ((x1 * 7) + 2)))), aI ((x2 * 61) + x3), aI z4]) (rest := []) dX2_seeByWay_94 q_X2_96 ⟨Nat.le_of_ble_eq_true rfl, Nat.le_of_ble_eq_true rfl, Nat.le_of_ble_eq_true rfl, Nat.le_of_ble_eq_true rfl⟩ sh_40 rfl (Nat.le_of_ble_eq_true rfl) rfl (tv_mono h (fun u5 h => ?_))
      refine j_sub [4, 5, 6, 7, 3, 2] rfl ?_
      exact h
theorem E_X2_seeByWay {post : ax_M → Prop} {M : ax_M} {x1 x2 x3 : Int} (h : ax_mr SH M → ax_Ti Y_X3_beyond [aR 6, aI x1, aI x2] SH M (fun z2 u1 => (-2147483648 ≤ (x1 * 7) ∧ (x1 * 7) ≤ 2147483647) ∧ (-2147483648 ≤ ((x1 * 7) + 2) ∧ ((x1 * 7) + 2) ≤ 2147483647) ∧ (0 ≤ ((x1 * 7) + 2) ∧ ((x1 * 7) + 2) < 168) ∧ (-2147483648 ≤ (x3 + (u1 7 ((x1 * 7) + 2))) ∧ (x3 + (u1 7 ((x1 * 7) + 2))) ≤ 2147483647) ∧ ax_Ti Y_X2_stepInto [aR 40, aI x1, aI x2, aI x3] SH u1 (fun z4 u3 => (-2147483648 ≤ ((x1 * 7) + 5) ∧ ((x1 * 7) + 5) ≤ 2147483647) ∧ (0 ≤ ((x1 * 7) + 5) ∧ ((x1 * 7) + 5) < 168) ∧ ((((min (u3 40 11) (u3 7 ((x1 * 7) + 5))) < (x3 + (u1 7 ((x1 * 7) + 2)))) → ax_J Y_X2_seeByWay (ax_Kv Y_X2_seeByWay SH post) 0 0 97 [(0, aR 40), (1, aI x1), (2, aI x2), (3, aI x3), (4, aI z2), (5, aI (u1 7 ((x1 * 7) + 2)))] [] SH u3) ∧ (((x3 + (u1 7 ((x1 * 7) + 2))) ≤ (min (u3 40 11) (u3 7 ((x1 * 7) + 5)))) → (0 ≤ z4 ∧ z4 < 3660) ∧ (-2147483648 ≤ ((x1 * 7) + 4) ∧ ((x1 * 7) + 4) ≤ 2147483647) ∧ (0 ≤ ((x1 * 7) + 4) ∧ ((x1 * 7) + 4) < 168) ∧ ((((u3 7 ((x1 * 7) + 4)) ≤ (u3 41 z4)) → ax_J Y_X2_seeByWay (ax_Kv Y_X2_seeByWay SH post) 0 0 97 [(0, aR 40), (1, aI x1), (2, aI x2), (3, aI x3), (4, aI z2), (5, aI (u1 7 ((x1 * 7) + 2)))] [] SH u3) ∧ (((u3 41 z4) < (u3 7 ((x1 * 7) + 4))) → (-2147483648 ≤ (z2 * 61) ∧ (z2 * 61) ≤ 2147483647) ∧ (-2147483648 ≤ ((z2 * 61) + (x3 + (u1 7 ((x1 * 7) + 2)))) ∧ ((z2 * 61) + (x3 + (u1 7 ((x1 * 7) + 2)))) ≤ 2147483647) ∧ (-2147483648 ≤ (x2 * 61) ∧ (x2 * 61) ≤ 2147483647) ∧ (-2147483648 ≤ ((x2 * 61) + x3) ∧ ((x2 * 61) + x3) ≤ 2147483647) ∧ ax_Tv Y_X2_see [aR 40, aI ((z2 * 61) + (x3 + (u1 7 ((x1 * 7) + 2)))), aI ((x2 * 61) + x3), aI z4] SH u3 (fun u5 => ax_J Y_X2_seeByWay (ax_Kv Y_X2_seeByWay SH post) 0 0 97 [(0, aR 40), (1, aI x1), (2, aI x2), (3, aI x3), (4, aI z2), (5, aI (u1 7 ((x1 * 7) + 2)))] [] SH u5)))))))) : ax_Tv Y_X2_seeByWay [aR 40, aI x1, aI x2, aI x3] SH M post :=
  tv_of rfl (Nat.le_of_ble_eq_true rfl) rfl (fun q => B_X2_seeByWay_0 (h q))
set_option maxRecDepth 100000 in
set_option maxHeartbeats 4000000 in
theorem B_X2_seeByWay_97 {post : ax_M → Prop} {M : ax_M} {x1 x2 x3 x4 x5 : Int} (h : (-2147483648 ≤ (x3 - x5) ∧ (x3 - x5) ≤ 2147483647) ∧ ((((x3 - x5) < 0) → post M) ∧ ((0 ≤ (x3 - x5)) → ax_Ti Y_X2_stepInto [aR 40, aI x1, aI x4, aI (x3 - x5)] SH M (fun z2 u1 => (0 ≤ z2 ∧ z2 < 3660) ∧ ((((u1 41 z2) ≤ 0) → post u1) ∧ ((0 < (u1 41 z2)) → (-2147483648 ≤ (x4 * 61) ∧ (x4 * 61) ≤ 2147483647) ∧ (-2147483648 ≤ ((x4 * 61) + (x3 - x5)) ∧ ((x4 * 61) + (x3 - x5)) ≤ 2147483647) ∧ (-2147483648 ≤ (x2 * 61) ∧ (x2 * 61) ≤ 2147483647) ∧ (-2147483648 ≤ ((x2 * 61) + x3) ∧ ((x2 * 61) + x3) ≤ 2147483647) ∧ (-2147483648 ≤ ((-1) - z2) ∧ ((-1) - z2) ≤ 2147483647) ∧ ax_Tv Y_X2_see [aR 40, aI ((x4 * 61) + (x3 - x5)), aI ((x2 * 61) + x3), aI ((-1) - z2)] SH u1 (fun u3 => post u3))))))) : ax_J Y_X2_seeByWay (ax_Kv Y_X2_seeByWay SH post) 0 0 97 [(0, aR 40), (1, aI x1), (2, aI x2), (3, aI x3), (4, aI x4), (5, aI x5)] [] SH M := by
  refine j_iload_n 3 dX2_seeByWay_97 rfl ?_
  refine j_iload 5 dX2_seeByWay_98 rfl ?_
  obtain ⟨o1, h⟩ := h
  refine j_isub (z := (x3 - x5)) dX2_seeByWay_100 rfl o1 ?_
  refine j_istore (ll' := [(8, aI (x3 - x5)), (0, aR 40), (1, aI x1), (2, aI x2), (3, aI x3), (4, aI x4), (5, aI x5)]) dX2_seeByWay_101 (Nat.le_of_ble_eq_true rfl) rfl ?_
  refine j_iload 0 dX2_seeByWay_103 rfl ?_
  refine j_if_lt (tgt := 151) dX2_seeByWay_105 (by decide) (fun c2 => ?_) (fun c2 => ?_)
  · replace h := h.1 c2
    exact j_vret dX2_seeByWay_151 rfl ⟨Nat.le_of_ble_eq_true rfl, Nat.le_of_ble_eq_true rfl⟩ h
  · replace h := h.2 c2
    refine j_aload_n 1 dX2_seeByWay_108 rfl ?_
    refine j_iload_n 2 dX2_seeByWay_109 rfl ?_
    refine j_iload 5 dX2_seeByWay_110 rfl ?_
    refine j_iload 0 dX2_seeByWay_112 rfl ?_
    refine j_calliV (Yc := Y_X2_stepInto) (as := [aI x1, aI x4, aI (x3 - x5)]) (rest := []) dX2_seeByWay_114 q_X2_115 ⟨Nat.le_of_ble_eq_true rfl, Nat.le_of_ble_eq_true rfl, Nat.le_of_ble_eq_true rfl, Nat.le_of_ble_eq_true rfl⟩ sh_40 rfl (Nat.le_of_ble_eq_true rfl) rfl (ti_mono h (fun z2 u1 h => ?_))
    refine j_istore (ll' := [(9, aI z2), (8, aI (x3 - x5)), (0, aR 40), (1, aI x1), (2, aI x2), (3, aI x3), (4, aI x4), (5, aI x5)]) dX2_seeByWay_117 (Nat.le_of_ble_eq_true rfl) rfl ?_
    refine j_aload_n 2 dX2_seeByWay_119 rfl ?_
    refine j_getc 41 dX2_seeByWay_120 f_X2_11 sh_40 rfl ?_
    refine j_iload 0 dX2_seeByWay_123 rfl ?_
    obtain ⟨o3, h⟩ := h
    refine j_iald dX2_seeByWay_125 sh_41 o3.1 o3.2 (fun _ => ?_)
    refine j_if_le (tgt := 151) dX2_seeByWay_126 (by decide) (fun c4 => ?_) (fun c4 => ?_)
    · replace h := h.1 c4
      exact j_vret dX2_seeByWay_151 rfl ⟨Nat.le_of_ble_eq_true rfl, Nat.le_of_ble_eq_true rfl⟩ h
    · replace h := h.2 c4
      refine j_aload_n 2 dX2_seeByWay_129 rfl ?_
      refine j_iload 6 dX2_seeByWay_130 rfl ?_
      refine j_bipush (x := 61) dX2_seeByWay_132 rfl (i32_c rfl) ?_
      obtain ⟨o5, h⟩ := h
      refine j_imul (z := (x4 * 61)) dX2_seeByWay_134 rfl o5 ?_
      refine j_iload 1 dX2_seeByWay_135 rfl ?_
      obtain ⟨o6, h⟩ := h
      refine j_iadd (z := ((x4 * 61) + (x3 - x5))) dX2_seeByWay_137 rfl o6 ?_
      refine j_iload_n 4 dX2_seeByWay_138 rfl ?_
      refine j_bipush (x := 61) dX2_seeByWay_139 rfl (i32_c rfl) ?_
      obtain ⟨o7, h⟩ := h
      refine j_imul (z := (x2 * 61)) dX2_seeByWay_141 rfl o7 ?_
      refine j_iload_n 5 dX2_seeByWay_142 rfl ?_
      obtain ⟨o8, h⟩ := h
      refine j_iadd (z := ((x2 * 61) + x3)) dX2_seeByWay_143 rfl o8 ?_
      refine j_iconst (x := (-1)) dX2_seeByWay_144 rfl (i32_c rfl) ?_
      refine j_iload 0 dX2_seeByWay_145 rfl ?_
      obtain ⟨o9, h⟩ := h
      refine j_isub (z := ((-1) - z2)) dX2_seeByWay_147 rfl o9 ?_
      refine j_callvV (Yc := Y_X2_see) (as := [aI ((x4 * 61) + (x3 - x5)), aI ((x2 * 61) + x3), aI ((-1) - z2)]) (rest := []) dX2_seeByWay_148 q_X2_96 ⟨Nat.le_of_ble_eq_true rfl, Nat.le_of_ble_eq_true rfl, Nat.le_of_ble_eq_true rfl, Nat.le_of_ble_eq_true rfl⟩ sh_40 rfl (Nat.le_of_ble_eq_true rfl) rfl (tv_mono h (fun u3 h => ?_))
      exact j_vret dX2_seeByWay_151 rfl ⟨Nat.le_of_ble_eq_true rfl, Nat.le_of_ble_eq_true rfl⟩ h
set_option maxRecDepth 100000 in
set_option maxHeartbeats 4000000 in
theorem B_J7_fill_53178_46_0 {post : ax_M → Prop} {M : ax_M} {x1 : Int} (h : ax_J Y_J7_fill_53178 (ax_Kv Y_J7_fill_53178 SH post) 0 0 5 [(0, aR 46), (1, aI x1), (2, aI 0), (3, aI 732)] [] SH M) : ax_J Y_J7_fill_53178 (ax_Kv Y_J7_fill_53178 SH post) 0 0 0 [(0, aR 46), (1, aI x1)] [] SH M := by
  refine j_iconst (x := 0) dJ7_fill_53178_0 rfl (i32_c rfl) ?_
  refine j_istore_n (ll' := [(2, aI 0), (0, aR 46), (1, aI x1)]) dJ7_fill_53178_1 (Nat.le_of_ble_eq_true rfl) rfl ?_
  refine j_aload_n 1 dJ7_fill_53178_2 rfl ?_
  refine j_alen (v := 732) dJ7_fill_53178_3 sh_46 (by decide) (by decide) rfl ?_
  refine j_istore_n (ll' := [(3, aI 732), (2, aI 0), (0, aR 46), (1, aI x1)]) dJ7_fill_53178_4 (Nat.le_of_ble_eq_true rfl) rfl ?_
  refine j_sub [2, 3, 1, 0] rfl ?_
  exact h
theorem E_J7_fill_53178_46 {post : ax_M → Prop} {M : ax_M} {x1 : Int} (h : ax_mr SH M → ax_J Y_J7_fill_53178 (ax_Kv Y_J7_fill_53178 SH post) 0 0 5 [(0, aR 46), (1, aI x1), (2, aI 0), (3, aI 732)] [] SH M) : ax_Tv Y_J7_fill_53178 [aR 46, aI x1] SH M post :=
  tv_of rfl (Nat.le_of_ble_eq_true rfl) rfl (fun q => B_J7_fill_53178_46_0 (h q))
set_option maxRecDepth 100000 in
set_option maxHeartbeats 4000000 in
theorem B_J7_fill_53178_46_5 {post : ax_M → Prop} {M : ax_M} {x1 x2 x3 : Int} (h : (((x3 ≤ x2) → post M) ∧ ((x2 < x3) → (0 ≤ x2 ∧ x2 < 732) ∧ (-2147483648 ≤ (x2 + 1) ∧ (x2 + 1) ≤ 2147483647) ∧ ax_J Y_J7_fill_53178 (ax_Kv Y_J7_fill_53178 SH post) 0 0 5 [(0, aR 46), (1, aI x1), (2, aI (x2 + 1)), (3, aI x3)] [] SH (ax_up M 46 x2 x1)))) : ax_J Y_J7_fill_53178 (ax_Kv Y_J7_fill_53178 SH post) 0 0 5 [(0, aR 46), (1, aI x1), (2, aI x2), (3, aI x3)] [] SH M := by
  refine j_iload_n 2 dJ7_fill_53178_5 rfl ?_
  refine j_iload_n 3 dJ7_fill_53178_6 rfl ?_
  refine j_icmp_ge (tgt := 20) dJ7_fill_53178_7 (by decide) (fun c1 => ?_) (fun c1 => ?_)
  · replace h := h.1 c1
    exact j_vret dJ7_fill_53178_20 rfl ⟨Nat.le_of_ble_eq_true rfl, Nat.le_of_ble_eq_true rfl⟩ h
  · replace h := h.2 c1
    refine j_aload_n 0 dJ7_fill_53178_10 rfl ?_
    refine j_iload_n 2 dJ7_fill_53178_11 rfl ?_
    refine j_iload_n 1 dJ7_fill_53178_12 rfl ?_
    obtain ⟨o2, h⟩ := h
    refine j_iast dJ7_fill_53178_13 sh_46 o2.1 o2.2 ?_
    obtain ⟨o3, h⟩ := h
    refine j_iinc (ll' := [(2, aI (x2 + 1)), (0, aR 46), (1, aI x1), (3, aI x3)]) 2 dJ7_fill_53178_14 rfl (Nat.le_of_ble_eq_true rfl) o3 rfl ?_
    refine j_goto (tgt := 5) dJ7_fill_53178_17 (by decide) ?_
    refine j_sub [1, 2, 0, 3] rfl ?_
    exact h
set_option maxRecDepth 100000 in
set_option maxHeartbeats 4000000 in
theorem B_X7_soonestRow_0 {post : Int → ax_M → Prop} {M : ax_M} {x1 x2 : Int} (h : (-2147483648 ≤ (x1 * 100) ∧ (x1 * 100) ≤ 2147483647) ∧ (-2147483648 ≤ ((x1 * 100) + x2) ∧ ((x1 * 100) + x2) ≤ 2147483647) ∧ (0 ≤ ((x1 * 100) + x2) ∧ ((x1 * 100) + x2) < 700) ∧ ((((M 59 ((x1 * 100) + x2)) = (M 51 12)) → (-2147483648 ≤ (((x1 * 100) + x2) * 6) ∧ (((x1 * 100) + x2) * 6) ≤ 2147483647) ∧ post (((x1 * 100) + x2) * 6) M) ∧ ((¬ (M 59 ((x1 * 100) + x2)) = (M 51 12)) → (0 ≤ x1 ∧ x1 < 7) ∧ ax_Tv Y_X9_spread [aR 33, aI (M 52 x1), aI x2] SH (ax_up M 59 ((x1 * 100) + x2) (M 51 12)) (fun u1 => ax_J Y_X7_soonestRow (ax_Ki Y_X7_soonestRow SH post) 0 0 47 [(0, aR 51), (3, aI ((x1 * 100) + x2)), (4, aI 0)] [] SH u1)))) : ax_J Y_X7_soonestRow (ax_Ki Y_X7_soonestRow SH post) 0 0 0 [(0, aR 51), (1, aI x1), (2, aI x2)] [] SH M := by
  refine j_iload_n 1 dX7_soonestRow_0 rfl ?_
  refine j_bipush (x := 100) dX7_soonestRow_1 rfl (i32_c rfl) ?_
  obtain ⟨o1, h⟩ := h
  refine j_imul (z := (x1 * 100)) dX7_soonestRow_3 rfl o1 ?_
  refine j_iload_n 2 dX7_soonestRow_4 rfl ?_
  obtain ⟨o2, h⟩ := h
  refine j_iadd (z := ((x1 * 100) + x2)) dX7_soonestRow_5 rfl o2 ?_
  refine j_istore_n (ll' := [(3, aI ((x1 * 100) + x2)), (0, aR 51), (1, aI x1), (2, aI x2)]) dX7_soonestRow_6 (Nat.le_of_ble_eq_true rfl) rfl ?_
  refine j_aload_n 1 dX7_soonestRow_7 rfl ?_
  refine j_getc 59 dX7_soonestRow_8 f_X7_33 sh_51 rfl ?_
  refine j_iload_n 0 dX7_soonestRow_11 rfl ?_
  obtain ⟨o3, h⟩ := h
  refine j_iald dX7_soonestRow_12 sh_59 o3.1 o3.2 (fun _ => ?_)
  refine j_aload_n 1 dX7_soonestRow_13 rfl ?_
  refine j_geti (i := 12) dX7_soonestRow_14 f_X7_92 sh_51 rfl rfl (fun _ => ?_)
  refine j_icmp_eq (tgt := 89) dX7_soonestRow_17 (by decide) (fun c4 => ?_) (fun c4 => ?_)
  · replace h := h.1 c4
    refine j_iload_n 0 dX7_soonestRow_89 rfl ?_
    refine j_bipush (x := 6) dX7_soonestRow_90 rfl (i32_c rfl) ?_
    obtain ⟨o5, h⟩ := h
    refine j_imul (z := (((x1 * 100) + x2) * 6)) dX7_soonestRow_92 rfl o5 ?_
    exact j_iret dX7_soonestRow_93 rfl ⟨Nat.le_of_ble_eq_true rfl, Nat.le_of_ble_eq_true rfl⟩ (fun _ => h)
  · replace h := h.2 c4
    refine j_aload_n 1 dX7_soonestRow_20 rfl ?_
    refine j_getc 59 dX7_soonestRow_21 f_X7_33 sh_51 rfl ?_
    refine j_iload_n 0 dX7_soonestRow_24 rfl ?_
    refine j_aload_n 1 dX7_soonestRow_25 rfl ?_
    refine j_geti (i := 12) dX7_soonestRow_26 f_X7_92 sh_51 rfl rfl (fun _ => ?_)
    refine j_iast dX7_soonestRow_29 sh_59 o3.1 o3.2 ?_
    refine j_aload_n 1 dX7_soonestRow_30 rfl ?_
    refine j_getc 33 dX7_soonestRow_31 f_X7_47 sh_51 rfl ?_
    refine j_aload_n 1 dX7_soonestRow_34 rfl ?_
    refine j_getc 52 dX7_soonestRow_35 f_X7_9 sh_51 rfl ?_
    refine j_iload_n 2 dX7_soonestRow_38 rfl ?_
    obtain ⟨o6, h⟩ := h
    refine j_iald dX7_soonestRow_39 sh_52 o6.1 o6.2 (fun _ => ?_)
    refine j_iload_n 3 dX7_soonestRow_40 rfl ?_
    refine j_callvV (Yc := Y_X9_spread) (as := [aI (M 52 x1), aI x2]) (rest := []) dX7_soonestRow_41 q_X7_124 ⟨Nat.le_of_ble_eq_true rfl, Nat.le_of_ble_eq_true rfl, Nat.le_of_ble_eq_true rfl, Nat.le_of_ble_eq_true rfl⟩ sh_33 rfl (Nat.le_of_ble_eq_true rfl) rfl (tv_mono h (fun u1 h => ?_))
    refine j_iconst (x := 0) dX7_soonestRow_44 rfl (i32_c rfl) ?_
    refine j_istore (ll' := [(4, aI 0), (3, aI ((x1 * 100) + x2)), (0, aR 51), (1, aI x1), (2, aI x2)]) dX7_soonestRow_45 (Nat.le_of_ble_eq_true rfl) rfl ?_
    refine j_sub [2, 1, 0] rfl ?_
    exact h
theorem E_X7_soonestRow {post : Int → ax_M → Prop} {M : ax_M} {x1 x2 : Int} (h : ax_mr SH M → (-2147483648 ≤ (x1 * 100) ∧ (x1 * 100) ≤ 2147483647) ∧ (-2147483648 ≤ ((x1 * 100) + x2) ∧ ((x1 * 100) + x2) ≤ 2147483647) ∧ (0 ≤ ((x1 * 100) + x2) ∧ ((x1 * 100) + x2) < 700) ∧ ((((M 59 ((x1 * 100) + x2)) = (M 51 12)) → (-2147483648 ≤ (((x1 * 100) + x2) * 6) ∧ (((x1 * 100) + x2) * 6) ≤ 2147483647) ∧ post (((x1 * 100) + x2) * 6) M) ∧ ((¬ (M 59 ((x1 * 100) + x2)) = (M 51 12)) → (0 ≤ x1 ∧ x1 < 7) ∧ ax_Tv Y_X9_spread [aR 33, aI (M 52 x1), aI x2] SH (ax_up M 59 ((x1 * 100) + x2) (M 51 12)) (fun u1 => ax_J Y_X7_soonestRow (ax_Ki Y_X7_soonestRow SH post) 0 0 47 [(0, aR 51), (3, aI ((x1 * 100) + x2)), (4, aI 0)] [] SH u1)))) : ax_Ti Y_X7_soonestRow [aR 51, aI x1, aI x2] SH M post :=
  ti_of rfl (Nat.le_of_ble_eq_true rfl) rfl (fun q => B_X7_soonestRow_0 (h q))
set_option maxRecDepth 100000 in
set_option maxHeartbeats 4000000 in
theorem B_X7_soonestRow_47 {post : Int → ax_M → Prop} {M : ax_M} {x3 x4 : Int} (h : ((((M 51 4) ≤ x4) → (-2147483648 ≤ (x3 * 6) ∧ (x3 * 6) ≤ 2147483647) ∧ post (x3 * 6) M) ∧ ((x4 < (M 51 4)) → (-2147483648 ≤ (x3 * 6) ∧ (x3 * 6) ≤ 2147483647) ∧ (-2147483648 ≤ ((x3 * 6) + x4) ∧ ((x3 * 6) + x4) ≤ 2147483647) ∧ (0 ≤ x4 ∧ x4 < 7) ∧ (0 ≤ (M 52 x4) ∧ (M 52 x4) < 12) ∧ (0 ≤ ((x3 * 6) + x4) ∧ ((x3 * 6) + x4) < 4200) ∧ (-2147483648 ≤ (x4 + 1) ∧ (x4 + 1) ≤ 2147483647) ∧ ax_J Y_X7_soonestRow (ax_Ki Y_X7_soonestRow SH post) 0 0 47 [(0, aR 51), (3, aI x3), (4, aI (x4 + 1))] [] SH (ax_up M 58 ((x3 * 6) + x4) (M 38 (M 52 x4)))))) : ax_J Y_X7_soonestRow (ax_Ki Y_X7_soonestRow SH post) 0 0 47 [(0, aR 51), (3, aI x3), (4, aI x4)] [] SH M := by
  refine j_iload 2 dX7_soonestRow_47 rfl ?_
  refine j_aload_n 0 dX7_soonestRow_49 rfl ?_
  refine j_geti (i := 4) dX7_soonestRow_50 f_X7_57 sh_51 rfl rfl (fun _ => ?_)
  refine j_icmp_ge (tgt := 89) dX7_soonestRow_53 (by decide) (fun c1 => ?_) (fun c1 => ?_)
  · replace h := h.1 c1
    refine j_iload_n 1 dX7_soonestRow_89 rfl ?_
    refine j_bipush (x := 6) dX7_soonestRow_90 rfl (i32_c rfl) ?_
    obtain ⟨o2, h⟩ := h
    refine j_imul (z := (x3 * 6)) dX7_soonestRow_92 rfl o2 ?_
    exact j_iret dX7_soonestRow_93 rfl ⟨Nat.le_of_ble_eq_true rfl, Nat.le_of_ble_eq_true rfl⟩ (fun _ => h)
  · replace h := h.2 c1
    refine j_aload_n 0 dX7_soonestRow_56 rfl ?_
    refine j_getc 58 dX7_soonestRow_57 f_X7_30 sh_51 rfl ?_
    refine j_iload_n 1 dX7_soonestRow_60 rfl ?_
    refine j_bipush (x := 6) dX7_soonestRow_61 rfl (i32_c rfl) ?_
    obtain ⟨o3, h⟩ := h
    refine j_imul (z := (x3 * 6)) dX7_soonestRow_63 rfl o3 ?_
    refine j_iload 2 dX7_soonestRow_64 rfl ?_
    obtain ⟨o4, h⟩ := h
    refine j_iadd (z := ((x3 * 6) + x4)) dX7_soonestRow_66 rfl o4 ?_
    refine j_aload_n 0 dX7_soonestRow_67 rfl ?_
    refine j_getc 33 dX7_soonestRow_68 f_X7_47 sh_51 rfl ?_
    refine j_getc 38 dX7_soonestRow_71 f_X7_127 sh_33 rfl ?_
    refine j_aload_n 0 dX7_soonestRow_74 rfl ?_
    refine j_getc 52 dX7_soonestRow_75 f_X7_9 sh_51 rfl ?_
    refine j_iload 2 dX7_soonestRow_78 rfl ?_
    obtain ⟨o5, h⟩ := h
    refine j_iald dX7_soonestRow_80 sh_52 o5.1 o5.2 (fun _ => ?_)
    obtain ⟨o6, h⟩ := h
    refine j_iald dX7_soonestRow_81 sh_38 o6.1 o6.2 (fun _ => ?_)
    obtain ⟨o7, h⟩ := h
    refine j_iast dX7_soonestRow_82 sh_58 o7.1 o7.2 ?_
    obtain ⟨o8, h⟩ := h
    refine j_iinc (ll' := [(4, aI (x4 + 1)), (0, aR 51), (3, aI x3)]) 2 dX7_soonestRow_83 rfl (Nat.le_of_ble_eq_true rfl) o8 rfl ?_
    refine j_goto (tgt := 47) dX7_soonestRow_86 (by decide) ?_
    refine j_sub [1, 2, 0] rfl ?_
    exact h
set_option maxRecDepth 100000 in
set_option maxHeartbeats 4000000 in
theorem B_X7_upWhenTold_0 {post : Int → ax_M → Prop} {M : ax_M} {x1 x2 : Int} (h : ax_J Y_X7_upWhenTold (ax_Ki Y_X7_upWhenTold SH post) 0 0 5 [(0, aR 51), (1, aI x1), (2, aI x2), (3, aI 0), (4, aI 0)] [] SH M) : ax_J Y_X7_upWhenTold (ax_Ki Y_X7_upWhenTold SH post) 0 0 0 [(0, aR 51), (1, aI x1), (2, aI x2)] [] SH M := by
  refine j_iconst (x := 0) dX7_upWhenTold_0 rfl (i32_c rfl) ?_
  refine j_istore_n (ll' := [(3, aI 0), (0, aR 51), (1, aI x1), (2, aI x2)]) dX7_upWhenTold_1 (Nat.le_of_ble_eq_true rfl) rfl ?_
  refine j_iconst (x := 0) dX7_upWhenTold_2 rfl (i32_c rfl) ?_
  refine j_istore (ll' := [(4, aI 0), (3, aI 0), (0, aR 51), (1, aI x1), (2, aI x2)]) dX7_upWhenTold_3 (Nat.le_of_ble_eq_true rfl) rfl ?_
  refine j_sub [2, 3, 4, 1, 0] rfl ?_
  exact h
theorem E_X7_upWhenTold {post : Int → ax_M → Prop} {M : ax_M} {x1 x2 : Int} (h : ax_mr SH M → ax_J Y_X7_upWhenTold (ax_Ki Y_X7_upWhenTold SH post) 0 0 5 [(0, aR 51), (1, aI x1), (2, aI x2), (3, aI 0), (4, aI 0)] [] SH M) : ax_Ti Y_X7_upWhenTold [aR 51, aI x1, aI x2] SH M post :=
  ti_of rfl (Nat.le_of_ble_eq_true rfl) rfl (fun q => B_X7_upWhenTold_0 (h q))
set_option maxRecDepth 100000 in
set_option maxHeartbeats 4000000 in
theorem B_X7_upWhenTold_5 {post : Int → ax_M → Prop} {M : ax_M} {x1 x2 x3 x4 : Int} (h : ((((M 8 0) ≤ x4) → post x3 M) ∧ ((x4 < (M 8 0)) → (0 ≤ x4 ∧ x4 < 8) ∧ (((¬ (M 9 x4) = x1) → (-2147483648 ≤ (x4 + 1) ∧ (x4 + 1) ≤ 2147483647) ∧ ax_J Y_X7_upWhenTold (ax_Ki Y_X7_upWhenTold SH post) 0 0 5 [(0, aR 51), (1, aI x1), (2, aI x2), (3, aI x3), (4, aI (x4 + 1))] [] SH M) ∧ (((M 9 x4) = x1) → (((¬ (M 10 x4) = 0) → (-2147483648 ≤ (x4 + 1) ∧ (x4 + 1) ≤ 2147483647) ∧ ax_J Y_X7_upWhenTold (ax_Ki Y_X7_upWhenTold SH post) 0 0 5 [(0, aR 51), (1, aI x1), (2, aI x2), (3, aI x3), (4, aI (x4 + 1))] [] SH M) ∧ (((M 10 x4) = 0) → ((((M 11 x4) = 0) → (0 ≤ x1 ∧ x1 < 12) ∧ ((((M 53 x1) < x2) → (-2147483648 ≤ (x3 + 0) ∧ (x3 + 0) ≤ 2147483647) ∧ (-2147483648 ≤ (x4 + 1) ∧ (x4 + 1) ≤ 2147483647) ∧ ax_J Y_X7_upWhenTold (ax_Ki Y_X7_upWhenTold SH post) 0 0 5 [(0, aR 51), (1, aI x1), (2, aI x2), (3, aI (x3 + 0)), (4, aI (x4 + 1))] [] SH M) ∧ ((x2 ≤ (M 53 x1)) → (-2147483648 ≤ (x3 + 1) ∧ (x3 + 1) ≤ 2147483647) ∧ (-2147483648 ≤ (x4 + 1) ∧ (x4 + 1) ≤ 2147483647) ∧ ax_J Y_X7_upWhenTold (ax_Ki Y_X7_upWhenTold SH post) 0 0 5 [(0, aR 51), (1, aI x1), (2, aI x2), (3, aI (x3 + 1)), (4, aI (x4 + 1))] [] SH M))) ∧ ((¬ (M 11 x4) = 0) → (0 ≤ x1 ∧ x1 < 12) ∧ ((((M 54 x1) < x2) → (-2147483648 ≤ (x3 + 0) ∧ (x3 + 0) ≤ 2147483647) ∧ (-2147483648 ≤ (x4 + 1) ∧ (x4 + 1) ≤ 2147483647) ∧ ax_J Y_X7_upWhenTold (ax_Ki Y_X7_upWhenTold SH post) 0 0 5 [(0, aR 51), (1, aI x1), (2, aI x2), (3, aI (x3 + 0)), (4, aI (x4 + 1))] [] SH M) ∧ ((x2 ≤ (M 54 x1)) → (-2147483648 ≤ (x3 + 1) ∧ (x3 + 1) ≤ 2147483647) ∧ (-2147483648 ≤ (x4 + 1) ∧ (x4 + 1) ≤ 2147483647) ∧ ax_J Y_X7_upWhenTold (ax_Ki Y_X7_upWhenTold SH post) 0 0 5 [(0, aR 51), (1, aI x1), (2, aI x2), (3, aI (x3 + 1)), (4, aI (x4 + 1))] [] SH M))))))))))) : ax_J Y_X7_upWhenTold (ax_Ki Y_X7_upWhenTold SH post) 0 0 5 [(0, aR 51), (1, aI x1), (2, aI x2), (3, aI x3), (4, aI x4)] [] SH M := by
  refine j_iload 4 dX7_upWhenTold_5 rfl ?_
  refine j_aload_n 0 dX7_upWhenTold_7 rfl ?_
  refine j_getc 8 dX7_upWhenTold_8 f_X7_43 sh_51 rfl ?_
  refine j_geti (i := 0) dX7_upWhenTold_11 f_X7_130 sh_8 rfl rfl (fun _ => ?_)
  refine j_icmp_ge (tgt := 93) dX7_upWhenTold_14 (by decide) (fun c1 => ?_) (fun c1 => ?_)
  · replace h := h.1 c1
    refine j_iload_n 3 dX7_upWhenTold_93 rfl ?_
    exact j_iret dX7_upWhenTold_94 rfl ⟨Nat.le_of_ble_eq_true rfl, Nat.le_of_ble_eq_true rfl⟩ (fun _ => h)
  · replace h := h.2 c1
    refine j_aload_n 0 dX7_upWhenTold_17 rfl ?_
    refine j_getc 8 dX7_upWhenTold_18 f_X7_43 sh_51 rfl ?_
    refine j_getc 9 dX7_upWhenTold_21 f_X7_105 sh_8 rfl ?_
    refine j_iload 4 dX7_upWhenTold_24 rfl ?_
    obtain ⟨o2, h⟩ := h
    refine j_iald dX7_upWhenTold_26 sh_9 o2.1 o2.2 (fun _ => ?_)
    refine j_iload_n 1 dX7_upWhenTold_27 rfl ?_
    refine j_icmp_ne (tgt := 87) dX7_upWhenTold_28 (by decide) (fun c3 => ?_) (fun c3 => ?_)
    · replace h := h.1 c3
      obtain ⟨o4, h⟩ := h
      refine j_iinc (ll' := [(4, aI (x4 + 1)), (0, aR 51), (1, aI x1), (2, aI x2), (3, aI x3)]) 4 dX7_upWhenTold_87 rfl (Nat.le_of_ble_eq_true rfl) o4 rfl ?_
      refine j_goto (tgt := 5) dX7_upWhenTold_90 (by decide) ?_
      refine j_sub [1, 2, 3, 4, 0] rfl ?_
      exact h
    · replace h := h.2 c3
      refine j_aload_n 0 dX7_upWhenTold_31 rfl ?_
      refine j_getc 8 dX7_upWhenTold_32 f_X7_43 sh_51 rfl ?_
      refine j_getc 10 dX7_upWhenTold_35 f_X7_133 sh_8 rfl ?_
      refine j_iload 4 dX7_upWhenTold_38 rfl ?_
      refine j_zald dX7_upWhenTold_40 sh_10 o2.1 o2.2 (fun _ => ?_)
      refine j_if_ne (tgt := 87) dX7_upWhenTold_41 (by decide) (fun c5 => ?_) (fun c5 => ?_)
      · replace h := h.1 c5
        obtain ⟨o6, h⟩ := h
        refine j_iinc (ll' := [(4, aI (x4 + 1)), (0, aR 51), (1, aI x1), (2, aI x2), (3, aI x3)]) 4 dX7_upWhenTold_87 rfl (Nat.le_of_ble_eq_true rfl) o6 rfl ?_
        refine j_goto (tgt := 5) dX7_upWhenTold_90 (by decide) ?_
        refine j_sub [1, 2, 3, 4, 0] rfl ?_
        exact h
      · replace h := h.2 c5
        refine j_iload_n 3 dX7_upWhenTold_44 rfl ?_
        refine j_iload_n 2 dX7_upWhenTold_45 rfl ?_
        refine j_aload_n 0 dX7_upWhenTold_46 rfl ?_
        refine j_getc 8 dX7_upWhenTold_47 f_X7_43 sh_51 rfl ?_
        refine j_getc 11 dX7_upWhenTold_50 f_X7_101 sh_8 rfl ?_
        refine j_iload 4 dX7_upWhenTold_53 rfl ?_
        refine j_zald dX7_upWhenTold_55 sh_11 o2.1 o2.2 (fun _ => ?_)
        refine j_if_eq (tgt := 68) dX7_upWhenTold_56 (by decide) (fun c7 => ?_) (fun c7 => ?_)
        · replace h := h.1 c7
          refine j_aload_n 0 dX7_upWhenTold_68 rfl ?_
          refine j_getc 53 dX7_upWhenTold_69 f_X7_15 sh_51 rfl ?_
          refine j_iload_n 1 dX7_upWhenTold_72 rfl ?_
          obtain ⟨o8, h⟩ := h
          refine j_iald dX7_upWhenTold_73 sh_53 o8.1 o8.2 (fun _ => ?_)
          refine j_icmp_gt (tgt := 81) dX7_upWhenTold_74 (by decide) (fun c9 => ?_) (fun c9 => ?_)
          · replace h := h.1 c9
            refine j_iconst (x := 0) dX7_upWhenTold_81 rfl (i32_c rfl) ?_
            refine j_calliS (Yc := Y_X10_bit) (as := [aI 0]) (rest := [aI x3]) dX7_upWhenTold_82 q_X7_136 ⟨Nat.le_of_ble_eq_true rfl, Nat.le_of_ble_eq_true rfl, Nat.le_of_ble_eq_true rfl, Nat.le_of_ble_eq_true rfl⟩ rfl (Nat.le_of_ble_eq_true rfl) rfl (ti_of (ll := [(0, aI 0)]) rfl (Nat.le_of_ble_eq_true rfl) rfl (fun _ => ?_))
            refine j_iload_n 0 dX10_bit_0 rfl ?_
            refine j_if_eq (tgt := 8) dX10_bit_1 (by decide) (fun _ => ?_) (fun c => absurd c (by decide))
            refine j_iconst (x := 0) dX10_bit_8 rfl (i32_c rfl) ?_
            refine j_iret dX10_bit_9 rfl ⟨Nat.le_of_ble_eq_true rfl, Nat.le_of_ble_eq_true rfl⟩ (fun _ => ?_)
            obtain ⟨o10, h⟩ := h
            refine j_iadd (z := (x3 + 0)) dX7_upWhenTold_85 rfl o10 ?_
            refine j_istore_n (ll' := [(3, aI (x3 + 0)), (0, aR 51), (1, aI x1), (2, aI x2), (4, aI x4)]) dX7_upWhenTold_86 (Nat.le_of_ble_eq_true rfl) rfl ?_
            obtain ⟨o11, h⟩ := h
            refine j_iinc (ll' := [(4, aI (x4 + 1)), (3, aI (x3 + 0)), (0, aR 51), (1, aI x1), (2, aI x2)]) 4 dX7_upWhenTold_87 rfl (Nat.le_of_ble_eq_true rfl) o11 rfl ?_
            refine j_goto (tgt := 5) dX7_upWhenTold_90 (by decide) ?_
            refine j_sub [2, 3, 4, 1, 0] rfl ?_
            exact h
          · replace h := h.2 c9
            refine j_iconst (x := 1) dX7_upWhenTold_77 rfl (i32_c rfl) ?_
            refine j_goto (tgt := 82) dX7_upWhenTold_78 (by decide) ?_
            refine j_calliS (Yc := Y_X10_bit) (as := [aI 1]) (rest := [aI x3]) dX7_upWhenTold_82 q_X7_136 ⟨Nat.le_of_ble_eq_true rfl, Nat.le_of_ble_eq_true rfl, Nat.le_of_ble_eq_true rfl, Nat.le_of_ble_eq_true rfl⟩ rfl (Nat.le_of_ble_eq_true rfl) rfl (ti_of (ll := [(0, aI 1)]) rfl (Nat.le_of_ble_eq_true rfl) rfl (fun _ => ?_))
            refine j_iload_n 0 dX10_bit_0 rfl ?_
            refine j_if_eq (tgt := 8) dX10_bit_1 (by decide) (fun c => absurd c (by decide)) (fun _ => ?_)
            refine j_iconst (x := 1) dX10_bit_4 rfl (i32_c rfl) ?_
            refine j_goto (tgt := 9) dX10_bit_5 (by decide) ?_
            refine j_iret dX10_bit_9 rfl ⟨Nat.le_of_ble_eq_true rfl, Nat.le_of_ble_eq_true rfl⟩ (fun _ => ?_)
            obtain ⟨o12, h⟩ := h
            refine j_iadd (z := (x3 + 1)) dX7_upWhenTold_85 rfl o12 ?_
            refine j_istore_n (ll' := [(3, aI (x3 + 1)), (0, aR 51), (1, aI x1), (2, aI x2), (4, aI x4)]) dX7_upWhenTold_86 (Nat.le_of_ble_eq_true rfl) rfl ?_
            obtain ⟨o13, h⟩ := h
            refine j_iinc (ll' := [(4, aI (x4 + 1)), (3, aI (x3 + 1)), (0, aR 51), (1, aI x1), (2, aI x2)]) 4 dX7_upWhenTold_87 rfl (Nat.le_of_ble_eq_true rfl) o13 rfl ?_
            refine j_goto (tgt := 5) dX7_upWhenTold_90 (by decide) ?_
            refine j_sub [2, 3, 4, 1, 0] rfl ?_
            exact h
        · replace h := h.2 c7
          refine j_aload_n 0 dX7_upWhenTold_59 rfl ?_
          refine j_getc 54 dX7_upWhenTold_60 f_X7_18 sh_51 rfl ?_
          refine j_iload_n 1 dX7_upWhenTold_63 rfl ?_
          obtain ⟨o14, h⟩ := h
          refine j_iald dX7_upWhenTold_64 sh_54 o14.1 o14.2 (fun _ => ?_)
          refine j_goto (tgt := 74) dX7_upWhenTold_65 (by decide) ?_
          refine j_icmp_gt (tgt := 81) dX7_upWhenTold_74 (by decide) (fun c15 => ?_) (fun c15 => ?_)
          · replace h := h.1 c15
            refine j_iconst (x := 0) dX7_upWhenTold_81 rfl (i32_c rfl) ?_
            refine j_calliS (Yc := Y_X10_bit) (as := [aI 0]) (rest := [aI x3]) dX7_upWhenTold_82 q_X7_136 ⟨Nat.le_of_ble_eq_true rfl, Nat.le_of_ble_eq_true rfl, Nat.le_of_ble_eq_true rfl, Nat.le_of_ble_eq_true rfl⟩ rfl (Nat.le_of_ble_eq_true rfl) rfl (ti_of (ll := [(0, aI 0)]) rfl (Nat.le_of_ble_eq_true rfl) rfl (fun _ => ?_))
            refine j_iload_n 0 dX10_bit_0 rfl ?_
            refine j_if_eq (tgt := 8) dX10_bit_1 (by decide) (fun _ => ?_) (fun c => absurd c (by decide))
            refine j_iconst (x := 0) dX10_bit_8 rfl (i32_c rfl) ?_
            refine j_iret dX10_bit_9 rfl ⟨Nat.le_of_ble_eq_true rfl, Nat.le_of_ble_eq_true rfl⟩ (fun _ => ?_)
            obtain ⟨o16, h⟩ := h
            refine j_iadd (z := (x3 + 0)) dX7_upWhenTold_85 rfl o16 ?_
            refine j_istore_n (ll' := [(3, aI (x3 + 0)), (0, aR 51), (1, aI x1), (2, aI x2), (4, aI x4)]) dX7_upWhenTold_86 (Nat.le_of_ble_eq_true rfl) rfl ?_
            obtain ⟨o17, h⟩ := h
            refine j_iinc (ll' := [(4, aI (x4 + 1)), (3, aI (x3 + 0)), (0, aR 51), (1, aI x1), (2, aI x2)]) 4 dX7_upWhenTold_87 rfl (Nat.le_of_ble_eq_true rfl) o17 rfl ?_
            refine j_goto (tgt := 5) dX7_upWhenTold_90 (by decide) ?_
            refine j_sub [2, 3, 4, 1, 0] rfl ?_
            exact h
          · replace h := h.2 c15
            refine j_iconst (x := 1) dX7_upWhenTold_77 rfl (i32_c rfl) ?_
            refine j_goto (tgt := 82) dX7_upWhenTold_78 (by decide) ?_
            refine j_calliS (Yc := Y_X10_bit) (as := [aI 1]) (rest := [aI x3]) dX7_upWhenTold_82 q_X7_136 ⟨Nat.le_of_ble_eq_true rfl, Nat.le_of_ble_eq_true rfl, Nat.le_of_ble_eq_true rfl, Nat.le_of_ble_eq_true rfl⟩ rfl (Nat.le_of_ble_eq_true rfl) rfl (ti_of (ll := [(0, aI 1)]) rfl (Nat.le_of_ble_eq_true rfl) rfl (fun _ => ?_))
            refine j_iload_n 0 dX10_bit_0 rfl ?_
            refine j_if_eq (tgt := 8) dX10_bit_1 (by decide) (fun c => absurd c (by decide)) (fun _ => ?_)
            refine j_iconst (x := 1) dX10_bit_4 rfl (i32_c rfl) ?_
            refine j_goto (tgt := 9) dX10_bit_5 (by decide) ?_
            refine j_iret dX10_bit_9 rfl ⟨Nat.le_of_ble_eq_true rfl, Nat.le_of_ble_eq_true rfl⟩ (fun _ => ?_)
            obtain ⟨o18, h⟩ := h
            refine j_iadd (z := (x3 + 1)) dX7_upWhenTold_85 rfl o18 ?_
            refine j_istore_n (ll' := [(3, aI (x3 + 1)), (0, aR 51), (1, aI x1), (2, aI x2), (4, aI x4)]) dX7_upWhenTold_86 (Nat.le_of_ble_eq_true rfl) rfl ?_
            obtain ⟨o19, h⟩ := h
            refine j_iinc (ll' := [(4, aI (x4 + 1)), (3, aI (x3 + 1)), (0, aR 51), (1, aI x1), (2, aI x2)]) 4 dX7_upWhenTold_87 rfl (Nat.le_of_ble_eq_true rfl) o19 rfl ?_
            refine j_goto (tgt := 5) dX7_upWhenTold_90 (by decide) ?_
            refine j_sub [2, 3, 4, 1, 0] rfl ?_
            exact h
set_option maxRecDepth 100000 in
set_option maxHeartbeats 4000000 in
theorem B_X3_beyond_0 {post : Int → ax_M → Prop} {M : ax_M} {x1 x2 : Int} (h : (-2147483648 ≤ (x1 * 7) ∧ (x1 * 7) ≤ 2147483647) ∧ (-2147483648 ≤ ((x1 * 7) + 0) ∧ ((x1 * 7) + 0) ≤ 2147483647) ∧ (0 ≤ ((x1 * 7) + 0) ∧ ((x1 * 7) + 0) < 168) ∧ (((¬ (M 7 ((x1 * 7) + 0)) = x2) → post (M 7 ((x1 * 7) + 0)) M) ∧ (((M 7 ((x1 * 7) + 0)) = x2) → (-2147483648 ≤ ((x1 * 7) + 1) ∧ ((x1 * 7) + 1) ≤ 2147483647) ∧ (0 ≤ ((x1 * 7) + 1) ∧ ((x1 * 7) + 1) < 168) ∧ post (M 7 ((x1 * 7) + 1)) M))) : ax_J Y_X3_beyond (ax_Ki Y_X3_beyond SH post) 0 0 0 [(0, aR 6), (1, aI x1), (2, aI x2)] [] SH M := by
  refine j_aload_n 0 dX3_beyond_0 rfl ?_
  refine j_iload_n 1 dX3_beyond_1 rfl ?_
  refine j_iconst (x := 0) dX3_beyond_2 rfl (i32_c rfl) ?_
  refine j_calliV (Yc := Y_X3_fact) (as := [aI x1, aI 0]) (rest := []) dX3_beyond_3 q_X3_34 ⟨Nat.le_of_ble_eq_true rfl, Nat.le_of_ble_eq_true rfl, Nat.le_of_ble_eq_true rfl, Nat.le_of_ble_eq_true rfl⟩ sh_6 rfl (Nat.le_of_ble_eq_true rfl) rfl (ti_of (ll := [(0, aR 6), (1, aI x1), (2, aI 0)]) rfl (Nat.le_of_ble_eq_true rfl) rfl (fun _ => ?_))
  refine j_aload_n 0 dX3_fact_0 rfl ?_
  refine j_getc 7 dX3_fact_1 f_X3_15 sh_6 rfl ?_
  refine j_iload_n 1 dX3_fact_4 rfl ?_
  refine j_bipush (x := 7) dX3_fact_5 rfl (i32_c rfl) ?_
  obtain ⟨o1, h⟩ := h
  refine j_imul (z := (x1 * 7)) dX3_fact_7 rfl o1 ?_
  refine j_iload_n 2 dX3_fact_8 rfl ?_
  obtain ⟨o2, h⟩ := h
  refine j_iadd (z := ((x1 * 7) + 0)) dX3_fact_9 rfl o2 ?_
  obtain ⟨o3, h⟩ := h
  refine j_iald dX3_fact_10 sh_7 o3.1 o3.2 (fun _ => ?_)
  refine j_iret dX3_fact_11 rfl ⟨Nat.le_of_ble_eq_true rfl, Nat.le_of_ble_eq_true rfl⟩ (fun _ => ?_)
  refine j_iload_n 2 dX3_beyond_6 rfl ?_
  refine j_icmp_ne (tgt := 19) dX3_beyond_7 (by decide) (fun c4 => ?_) (fun c4 => ?_)
  · replace h := h.1 c4
    refine j_aload_n 0 dX3_beyond_19 rfl ?_
    refine j_iload_n 1 dX3_beyond_20 rfl ?_
    refine j_iconst (x := 0) dX3_beyond_21 rfl (i32_c rfl) ?_
    refine j_calliV (Yc := Y_X3_fact) (as := [aI x1, aI 0]) (rest := []) dX3_beyond_22 q_X3_34 ⟨Nat.le_of_ble_eq_true rfl, Nat.le_of_ble_eq_true rfl, Nat.le_of_ble_eq_true rfl, Nat.le_of_ble_eq_true rfl⟩ sh_6 rfl (Nat.le_of_ble_eq_true rfl) rfl (ti_of (ll := [(0, aR 6), (1, aI x1), (2, aI 0)]) rfl (Nat.le_of_ble_eq_true rfl) rfl (fun _ => ?_))
    refine j_aload_n 0 dX3_fact_0 rfl ?_
    refine j_getc 7 dX3_fact_1 f_X3_15 sh_6 rfl ?_
    refine j_iload_n 1 dX3_fact_4 rfl ?_
    refine j_bipush (x := 7) dX3_fact_5 rfl (i32_c rfl) ?_
    refine j_imul (z := (x1 * 7)) dX3_fact_7 rfl o1 ?_
    refine j_iload_n 2 dX3_fact_8 rfl ?_
    refine j_iadd (z := ((x1 * 7) + 0)) dX3_fact_9 rfl o2 ?_
    refine j_iald dX3_fact_10 sh_7 o3.1 o3.2 (fun _ => ?_)
    refine j_iret dX3_fact_11 rfl ⟨Nat.le_of_ble_eq_true rfl, Nat.le_of_ble_eq_true rfl⟩ (fun _ => ?_)
    exact j_iret dX3_beyond_25 rfl ⟨Nat.le_of_ble_eq_true rfl, Nat.le_of_ble_eq_true rfl⟩ (fun _ => h)
  · replace h := h.2 c4
    refine j_aload_n 0 dX3_beyond_10 rfl ?_
    refine j_iload_n 1 dX3_beyond_11 rfl ?_
    refine j_iconst (x := 1) dX3_beyond_12 rfl (i32_c rfl) ?_
    refine j_calliV (Yc := Y_X3_fact) (as := [aI x1, aI 1]) (rest := []) dX3_beyond_13 q_X3_34 ⟨Nat.le_of_ble_eq_true rfl, Nat.le_of_ble_eq_true rfl, Nat.le_of_ble_eq_true rfl, Nat.le_of_ble_eq_true rfl⟩ sh_6 rfl (Nat.le_of_ble_eq_true rfl) rfl (ti_of (ll := [(0, aR 6), (1, aI x1), (2, aI 1)]) rfl (Nat.le_of_ble_eq_true rfl) rfl (fun _ => ?_))
    refine j_aload_n 0 dX3_fact_0 rfl ?_
    refine j_getc 7 dX3_fact_1 f_X3_15 sh_6 rfl ?_
    refine j_iload_n 1 dX3_fact_4 rfl ?_
    refine j_bipush (x := 7) dX3_fact_5 rfl (i32_c rfl) ?_
    refine j_imul (z := (x1 * 7)) dX3_fact_7 rfl o1 ?_
    refine j_iload_n 2 dX3_fact_8 rfl ?_
    obtain ⟨o5, h⟩ := h
    refine j_iadd (z := ((x1 * 7) + 1)) dX3_fact_9 rfl o5 ?_
    obtain ⟨o6, h⟩ := h
    refine j_iald dX3_fact_10 sh_7 o6.1 o6.2 (fun _ => ?_)
    refine j_iret dX3_fact_11 rfl ⟨Nat.le_of_ble_eq_true rfl, Nat.le_of_ble_eq_true rfl⟩ (fun _ => ?_)
    refine j_goto (tgt := 25) dX3_beyond_16 (by decide) ?_
    exact j_iret dX3_beyond_25 rfl ⟨Nat.le_of_ble_eq_true rfl, Nat.le_of_ble_eq_true rfl⟩ (fun _ => h)
theorem E_X3_beyond {post : Int → ax_M → Prop} {M : ax_M} {x1 x2 : Int} (h : ax_mr SH M → (-2147483648 ≤ (x1 * 7) ∧ (x1 * 7) ≤ 2147483647) ∧ (-2147483648 ≤ ((x1 * 7) + 0) ∧ ((x1 * 7) + 0) ≤ 2147483647) ∧ (0 ≤ ((x1 * 7) + 0) ∧ ((x1 * 7) + 0) < 168) ∧ (((¬ (M 7 ((x1 * 7) + 0)) = x2) → post (M 7 ((x1 * 7) + 0)) M) ∧ (((M 7 ((x1 * 7) + 0)) = x2) → (-2147483648 ≤ ((x1 * 7) + 1) ∧ ((x1 * 7) + 1) ≤ 2147483647) ∧ (0 ≤ ((x1 * 7) + 1) ∧ ((x1 * 7) + 1) < 168) ∧ post (M 7 ((x1 * 7) + 1)) M))) : ax_Ti Y_X3_beyond [aR 6, aI x1, aI x2] SH M post :=
  ti_of rfl (Nat.le_of_ble_eq_true rfl) rfl (fun q => B_X3_beyond_0 (h q))
set_option maxRecDepth 100000 in
set_option maxHeartbeats 4000000 in
theorem B_X2_stepInto_0 {post : Int → ax_M → Prop} {M : ax_M} {x1 x2 x3 : Int} (h : (-2147483648 ≤ (x1 * 7) ∧ (x1 * 7) ≤ 2147483647) ∧ (-2147483648 ≤ ((x1 * 7) + 0) ∧ ((x1 * 7) + 0) ≤ 2147483647) ∧ (0 ≤ ((x1 * 7) + 0) ∧ ((x1 * 7) + 0) < 168) ∧ (((¬ x2 = (M 7 ((x1 * 7) + 0))) → (-2147483648 ≤ (2 * x1) ∧ (2 * x1) ≤ 2147483647) ∧ (-2147483648 ≤ ((2 * x1) + 1) ∧ ((2 * x1) + 1) ≤ 2147483647) ∧ (-2147483648 ≤ (((2 * x1) + 1) * 61) ∧ (((2 * x1) + 1) * 61) ≤ 2147483647) ∧ (-2147483648 ≤ ((((2 * x1) + 1) * 61) + x3) ∧ ((((2 * x1) + 1) * 61) + x3) ≤ 2147483647) ∧ post ((((2 * x1) + 1) * 61) + x3) M) ∧ ((x2 = (M 7 ((x1 * 7) + 0))) → (-2147483648 ≤ (2 * x1) ∧ (2 * x1) ≤ 2147483647) ∧ (-2147483648 ≤ ((2 * x1) + 0) ∧ ((2 * x1) + 0) ≤ 2147483647) ∧ (-2147483648 ≤ (((2 * x1) + 0) * 61) ∧ (((2 * x1) + 0) * 61) ≤ 2147483647) ∧ (-2147483648 ≤ ((((2 * x1) + 0) * 61) + x3) ∧ ((((2 * x1) + 0) * 61) + x3) ≤ 2147483647) ∧ post ((((2 * x1) + 0) * 61) + x3) M))) : ax_J Y_X2_stepInto (ax_Ki Y_X2_stepInto SH post) 0 0 0 [(0, aR 40), (1, aI x1), (2, aI x2), (3, aI x3)] [] SH M := by
  refine j_iload_n 2 dX2_stepInto_0 rfl ?_
  refine j_aload_n 0 dX2_stepInto_1 rfl ?_
  refine j_getc 6 dX2_stepInto_2 f_X2_36 sh_40 rfl ?_
  refine j_iload_n 1 dX2_stepInto_5 rfl ?_
  refine j_iconst (x := 0) dX2_stepInto_6 rfl (i32_c rfl) ?_
  refine j_calliV (Yc := Y_X3_fact) (as := [aI x1, aI 0]) (rest := [aI x2]) dX2_stepInto_7 q_X2_82 ⟨Nat.le_of_ble_eq_true rfl, Nat.le_of_ble_eq_true rfl, Nat.le_of_ble_eq_true rfl, Nat.le_of_ble_eq_true rfl⟩ sh_6 rfl (Nat.le_of_ble_eq_true rfl) rfl (ti_of (ll := [(0, aR 6), (1, aI x1), (2, aI 0)]) rfl (Nat.le_of_ble_eq_true rfl) rfl (fun _ => ?_))
  refine j_aload_n 0 dX3_fact_0 rfl ?_
  refine j_getc 7 dX3_fact_1 f_X3_15 sh_6 rfl ?_
  refine j_iload_n 1 dX3_fact_4 rfl ?_
  refine j_bipush (x := 7) dX3_fact_5 rfl (i32_c rfl) ?_
  obtain ⟨o1, h⟩ := h
  refine j_imul (z := (x1 * 7)) dX3_fact_7 rfl o1 ?_
  refine j_iload_n 2 dX3_fact_8 rfl ?_
  obtain ⟨o2, h⟩ := h
  refine j_iadd (z := ((x1 * 7) + 0)) dX3_fact_9 rfl o2 ?_
  obtain ⟨o3, h⟩ := h
  refine j_iald dX3_fact_10 sh_7 o3.1 o3.2 (fun _ => ?_)
  refine j_iret dX3_fact_11 rfl ⟨Nat.le_of_ble_eq_true rfl, Nat.le_of_ble_eq_true rfl⟩ (fun _ => ?_)
  refine j_icmp_ne (tgt := 17) dX2_stepInto_10 (by decide) (fun c4 => ?_) (fun c4 => ?_)
  · replace h := h.1 c4
    refine j_iconst (x := 1) dX2_stepInto_17 rfl (i32_c rfl) ?_
    refine j_istore (ll' := [(4, aI 1), (0, aR 40), (1, aI x1), (2, aI x2), (3, aI x3)]) dX2_stepInto_18 (Nat.le_of_ble_eq_true rfl) rfl ?_
    refine j_iconst (x := 2) dX2_stepInto_20 rfl (i32_c rfl) ?_
    refine j_iload_n 2 dX2_stepInto_21 rfl ?_
    obtain ⟨o5, h⟩ := h
    refine j_imul (z := (2 * x1)) dX2_stepInto_22 rfl o5 ?_
    refine j_iload 0 dX2_stepInto_23 rfl ?_
    obtain ⟨o6, h⟩ := h
    refine j_iadd (z := ((2 * x1) + 1)) dX2_stepInto_25 rfl o6 ?_
    refine j_bipush (x := 61) dX2_stepInto_26 rfl (i32_c rfl) ?_
    obtain ⟨o7, h⟩ := h
    refine j_imul (z := (((2 * x1) + 1) * 61)) dX2_stepInto_28 rfl o7 ?_
    refine j_iload_n 4 dX2_stepInto_29 rfl ?_
    obtain ⟨o8, h⟩ := h
    refine j_iadd (z := ((((2 * x1) + 1) * 61) + x3)) dX2_stepInto_30 rfl o8 ?_
    exact j_iret dX2_stepInto_31 rfl ⟨Nat.le_of_ble_eq_true rfl, Nat.le_of_ble_eq_true rfl⟩ (fun _ => h)
  · replace h := h.2 c4
    refine j_iconst (x := 0) dX2_stepInto_13 rfl (i32_c rfl) ?_
    refine j_goto (tgt := 18) dX2_stepInto_14 (by decide) ?_
    refine j_istore (ll' := [(4, aI 0), (0, aR 40), (1, aI x1), (2, aI x2), (3, aI x3)]) dX2_stepInto_18 (Nat.le_of_ble_eq_true rfl) rfl ?_
    refine j_iconst (x := 2) dX2_stepInto_20 rfl (i32_c rfl) ?_
    refine j_iload_n 2 dX2_stepInto_21 rfl ?_
    obtain ⟨o9, h⟩ := h
    refine j_imul (z := (2 * x1)) dX2_stepInto_22 rfl o9 ?_
    refine j_iload 0 dX2_stepInto_23 rfl ?_
    obtain ⟨o10, h⟩ := h
    refine j_iadd (z := ((2 * x1) + 0)) dX2_stepInto_25 rfl o10 ?_
    refine j_bipush (x := 61) dX2_stepInto_26 rfl (i32_c rfl) ?_
    obtain ⟨o11, h⟩ := h
    refine j_imul (z := (((2 * x1) + 0) * 61)) dX2_stepInto_28 rfl o11 ?_
    refine j_iload_n 4 dX2_stepInto_29 rfl ?_
    obtain ⟨o12, h⟩ := h
    refine j_iadd (z := ((((2 * x1) + 0) * 61) + x3)) dX2_stepInto_30 rfl o12 ?_
    exact j_iret dX2_stepInto_31 rfl ⟨Nat.le_of_ble_eq_true rfl, Nat.le_of_ble_eq_true rfl⟩ (fun _ => h)
theorem E_X2_stepInto {post : Int → ax_M → Prop} {M : ax_M} {x1 x2 x3 : Int} (h : ax_mr SH M → (-2147483648 ≤ (x1 * 7) ∧ (x1 * 7) ≤ 2147483647) ∧ (-2147483648 ≤ ((x1 * 7) + 0) ∧ ((x1 * 7) + 0) ≤ 2147483647) ∧ (0 ≤ ((x1 * 7) + 0) ∧ ((x1 * 7) + 0) < 168) ∧ (((¬ x2 = (M 7 ((x1 * 7) + 0))) → (-2147483648 ≤ (2 * x1) ∧ (2 * x1) ≤ 2147483647) ∧ (-2147483648 ≤ ((2 * x1) + 1) ∧ ((2 * x1) + 1) ≤ 2147483647) ∧ (-2147483648 ≤ (((2 * x1) + 1) * 61) ∧ (((2 * x1) + 1) * 61) ≤ 2147483647) ∧ (-2147483648 ≤ ((((2 * x1) + 1) * 61) + x3) ∧ ((((2 * x1) + 1) * 61) + x3) ≤ 2147483647) ∧ post ((((2 * x1) + 1) * 61) + x3) M) ∧ ((x2 = (M 7 ((x1 * 7) + 0))) → (-2147483648 ≤ (2 * x1) ∧ (2 * x1) ≤ 2147483647) ∧ (-2147483648 ≤ ((2 * x1) + 0) ∧ ((2 * x1) + 0) ≤ 2147483647) ∧ (-2147483648 ≤ (((2 * x1) + 0) * 61) ∧ (((2 * x1) + 0) * 61) ≤ 2147483647) ∧ (-2147483648 ≤ ((((2 * x1) + 0) * 61) + x3) ∧ ((((2 * x1) + 0) * 61) + x3) ≤ 2147483647) ∧ post ((((2 * x1) + 0) * 61) + x3) M))) : ax_Ti Y_X2_stepInto [aR 40, aI x1, aI x2, aI x3] SH M post :=
  ti_of rfl (Nat.le_of_ble_eq_true rfl) rfl (fun q => B_X2_stepInto_0 (h q))
