set_option maxRecDepth 100000 in
set_option maxHeartbeats 4000000 in
theorem B_X5_takeWord_3_1001_0 {post : Int → ax_M → Prop} {M : ax_M} (h : ax_Ti Y_X5_atEnd [aR 3] SH M (fun z2 u1 => (((¬ z2 = 0) → post 0 u1) ∧ ((z2 = 0) → (-2147483648 ≤ ((u1 3 2) + 3) ∧ ((u1 3 2) + 3) ≤ 2147483647) ∧ ((((u1 1 1) < ((u1 3 2) + 3)) → post 0 u1) ∧ ((((u1 3 2) + 3) ≤ (u1 1 1)) → ((((u1 1 1) ≤ ((u1 3 2) + 3)) → ax_J Y_X5_takeWord (ax_Ki Y_X5_takeWord SH post) 0 0 45 [(0, aR 3), (1, aR 1001), (2, aI 3), (3, aI 0)] [] SH u1) ∧ ((((u1 3 2) + 3) < (u1 1 1)) → (0 ≤ ((u1 3 2) + 3) ∧ ((u1 3 2) + 3) < 400) ∧ ((((u1 2 ((u1 3 2) + 3)) < 97) → ax_J Y_X5_takeWord (ax_Ki Y_X5_takeWord SH post) 0 0 45 [(0, aR 3), (1, aR 1001), (2, aI 3), (3, aI 0)] [] SH u1) ∧ ((97 ≤ (u1 2 ((u1 3 2) + 3))) → (((122 < (u1 2 ((u1 3 2) + 3))) → ax_J Y_X5_takeWord (ax_Ki Y_X5_takeWord SH post) 0 0 45 [(0, aR 3), (1, aR 1001), (2, aI 3), (3, aI 0)] [] SH u1) ∧ (((u1 2 ((u1 3 2) + 3)) ≤ 122) → post 0 u1)))))))))))) : ax_J Y_X5_takeWord (ax_Ki Y_X5_takeWord SH post) 0 0 0 [(0, aR 3), (1, aR 1001)] [] SH M := by
  refine j_aload_n 1 dX5_takeWord_0 rfl ?_
  refine j_slen (i := 1) (v := 3) dX5_takeWord_1 rfl (Nat.le_of_ble_eq_true rfl) (by decide) (Nat.le_of_ble_eq_true rfl) rfl ?_
  refine j_istore_n (ll' := [(2, aI 3), (0, aR 3), (1, aR 1001)]) dX5_takeWord_4 (Nat.le_of_ble_eq_true rfl) rfl ?_
  refine j_aload_n 1 dX5_takeWord_5 rfl ?_
  refine j_calliV (Yc := Y_X5_atEnd) (as := []) (rest := []) dX5_takeWord_6 q_X5_38 ⟨Nat.le_of_ble_eq_true rfl, Nat.le_of_ble_eq_true rfl, Nat.le_of_ble_eq_true rfl, Nat.le_of_ble_eq_true rfl⟩ sh_3 rfl (Nat.le_of_ble_eq_true rfl) rfl (ti_mono h (fun z2 u1 h => ?_))
  refine j_if_ne (tgt := 41) dX5_takeWord_9 (by decide) (fun c1 => ?_) (fun c1 => ?_)
  · replace h := h.1 c1
    refine j_iconst (x := 0) dX5_takeWord_41 rfl (i32_c rfl) ?_
    exact j_zret dX5_takeWord_42 rfl ⟨Nat.le_of_ble_eq_true rfl, Nat.le_of_ble_eq_true rfl⟩ (by decide) h
  · replace h := h.2 c1
    refine j_aload_n 1 dX5_takeWord_12 rfl ?_
    refine j_geti (i := 2) dX5_takeWord_13 f_X5_26 sh_3 rfl rfl (fun _ => ?_)
    refine j_iload_n 0 dX5_takeWord_16 rfl ?_
    obtain ⟨o2, h⟩ := h
    refine j_iadd (z := ((u1 3 2) + 3)) dX5_takeWord_17 rfl o2 ?_
    refine j_aload_n 1 dX5_takeWord_18 rfl ?_
    refine j_getc 1 dX5_takeWord_19 f_X5_22 sh_3 rfl ?_
    refine j_geti (i := 1) dX5_takeWord_22 f_X5_99 sh_1 rfl rfl (fun _ => ?_)
    refine j_icmp_gt (tgt := 41) dX5_takeWord_25 (by decide) (fun c3 => ?_) (fun c3 => ?_)
    · replace h := h.1 c3
      refine j_iconst (x := 0) dX5_takeWord_41 rfl (i32_c rfl) ?_
      exact j_zret dX5_takeWord_42 rfl ⟨Nat.le_of_ble_eq_true rfl, Nat.le_of_ble_eq_true rfl⟩ (by decide) h
    · replace h := h.2 c3
      refine j_aload_n 1 dX5_takeWord_28 rfl ?_
      refine j_aload_n 1 dX5_takeWord_29 rfl ?_
      refine j_geti (i := 2) dX5_takeWord_30 f_X5_26 sh_3 rfl rfl (fun _ => ?_)
      refine j_iload_n 0 dX5_takeWord_33 rfl ?_
      refine j_iadd (z := ((u1 3 2) + 3)) dX5_takeWord_34 rfl o2 ?_
      refine j_calliV (Yc := Y_X5_isLetter) (as := [aI ((u1 3 2) + 3)]) (rest := []) dX5_takeWord_35 q_X5_114 ⟨Nat.le_of_ble_eq_true rfl, Nat.le_of_ble_eq_true rfl, Nat.le_of_ble_eq_true rfl, Nat.le_of_ble_eq_true rfl⟩ sh_3 rfl (Nat.le_of_ble_eq_true rfl) rfl (ti_of (ll := [(0, aR 3), (1, aI ((u1 3 2) + 3))]) rfl (Nat.le_of_ble_eq_true rfl) rfl (fun _ => ?_))
      refine j_iload_n 1 dX5_isLetter_0 rfl ?_
      refine j_aload_n 0 dX5_isLetter_1 rfl ?_
      refine j_getc 1 dX5_isLetter_2 f_X5_22 sh_3 rfl ?_
      refine j_geti (i := 1) dX5_isLetter_5 f_X5_99 sh_1 rfl rfl (fun _ => ?_)
      refine j_icmp_ge (tgt := 43) dX5_isLetter_8 (by decide) (fun c4 => ?_) (fun c4 => ?_)
      · replace h := h.1 c4
        refine j_iconst (x := 0) dX5_isLetter_43 rfl (i32_c rfl) ?_
        refine j_zret dX5_isLetter_44 rfl ⟨Nat.le_of_ble_eq_true rfl, Nat.le_of_ble_eq_true rfl⟩ (by decide) ?_
        refine j_if_eq (tgt := 43) dX5_takeWord_38 (by decide) (fun _ => ?_) (fun c => absurd c (by decide))
        refine j_iconst (x := 0) dX5_takeWord_43 rfl (i32_c rfl) ?_
        refine j_istore_n (ll' := [(3, aI 0), (2, aI 3), (0, aR 3), (1, aR 1001)]) dX5_takeWord_44 (Nat.le_of_ble_eq_true rfl) rfl ?_
        refine j_sub [2, 3, 1, 0] rfl ?_
        exact h
      · replace h := h.2 c4
        refine j_aload_n 0 dX5_isLetter_11 rfl ?_
        refine j_getc 1 dX5_isLetter_12 f_X5_22 sh_3 rfl ?_
        refine j_getc 2 dX5_isLetter_15 f_X5_104 sh_1 rfl ?_
        refine j_iload_n 1 dX5_isLetter_18 rfl ?_
        obtain ⟨o5, h⟩ := h
        refine j_bald dX5_isLetter_19 sh_2 o5.1 o5.2 (fun _ => ?_)
        refine j_bipush (x := 97) dX5_isLetter_20 rfl (i32_c rfl) ?_
        refine j_icmp_lt (tgt := 43) dX5_isLetter_22 (by decide) (fun c6 => ?_) (fun c6 => ?_)
        · replace h := h.1 c6
          refine j_iconst (x := 0) dX5_isLetter_43 rfl (i32_c rfl) ?_
          refine j_zret dX5_isLetter_44 rfl ⟨Nat.le_of_ble_eq_true rfl, Nat.le_of_ble_eq_true rfl⟩ (by decide) ?_
          refine j_if_eq (tgt := 43) dX5_takeWord_38 (by decide) (fun _ => ?_) (fun c => absurd c (by decide))
          refine j_iconst (x := 0) dX5_takeWord_43 rfl (i32_c rfl) ?_
          refine j_istore_n (ll' := [(3, aI 0), (2, aI 3), (0, aR 3), (1, aR 1001)]) dX5_takeWord_44 (Nat.le_of_ble_eq_true rfl) rfl ?_
          refine j_sub [2, 3, 1, 0] rfl ?_
          exact h
        · replace h := h.2 c6
          refine j_aload_n 0 dX5_isLetter_25 rfl ?_
          refine j_getc 1 dX5_isLetter_26 f_X5_22 sh_3 rfl ?_
          refine j_getc 2 dX5_isLetter_29 f_X5_104 sh_1 rfl ?_
          refine j_iload_n 1 dX5_isLetter_32 rfl ?_
          refine j_bald dX5_isLetter_33 sh_2 o5.1 o5.2 (fun _ => ?_)
          refine j_bipush (x := 122) dX5_isLetter_34 rfl (i32_c rfl) ?_
          refine j_icmp_gt (tgt := 43) dX5_isLetter_36 (by decide) (fun c7 => ?_) (fun c7 => ?_)
          · replace h := h.1 c7
            refine j_iconst (x := 0) dX5_isLetter_43 rfl (i32_c rfl) ?_
            refine j_zret dX5_isLetter_44 rfl ⟨Nat.le_of_ble_eq_true rfl, Nat.le_of_ble_eq_true rfl⟩ (by decide) ?_
            refine j_if_eq (tgt := 43) dX5_takeWord_38 (by decide) (fun _ => ?_) (fun c => absurd c (by decide))
            refine j_iconst (x := 0) dX5_takeWord_43 rfl (i32_c rfl) ?_
            refine j_istore_n (ll' := [(3, aI 0), (2, aI 3), (0, aR 3), (1, aR 1001)]) dX5_takeWord_44 (Nat.le_of_ble_eq_true rfl) rfl ?_
            refine j_sub [2, 3, 1, 0] rfl ?_
            exact h
          · replace h := h.2 c7
            refine j_iconst (x := 1) dX5_isLetter_39 rfl (i32_c rfl) ?_
            refine j_goto (tgt := 44) dX5_isLetter_40 (by decide) ?_
            refine j_zret dX5_isLetter_44 rfl ⟨Nat.le_of_ble_eq_true rfl, Nat.le_of_ble_eq_true rfl⟩ (by decide) ?_
            refine j_if_eq (tgt := 43) dX5_takeWord_38 (by decide) (fun c => absurd c (by decide)) (fun _ => ?_)
            refine j_iconst (x := 0) dX5_takeWord_41 rfl (i32_c rfl) ?_
            exact j_zret dX5_takeWord_42 rfl ⟨Nat.le_of_ble_eq_true rfl, Nat.le_of_ble_eq_true rfl⟩ (by decide) h
theorem E_X5_takeWord_3_1001 {post : Int → ax_M → Prop} {M : ax_M} (h : ax_mr SH M → ax_Ti Y_X5_atEnd [aR 3] SH M (fun z2 u1 => (((¬ z2 = 0) → post 0 u1) ∧ ((z2 = 0) → (-2147483648 ≤ ((u1 3 2) + 3) ∧ ((u1 3 2) + 3) ≤ 2147483647) ∧ ((((u1 1 1) < ((u1 3 2) + 3)) → post 0 u1) ∧ ((((u1 3 2) + 3) ≤ (u1 1 1)) → ((((u1 1 1) ≤ ((u1 3 2) + 3)) → ax_J Y_X5_takeWord (ax_Ki Y_X5_takeWord SH post) 0 0 45 [(0, aR 3), (1, aR 1001), (2, aI 3), (3, aI 0)] [] SH u1) ∧ ((((u1 3 2) + 3) < (u1 1 1)) → (0 ≤ ((u1 3 2) + 3) ∧ ((u1 3 2) + 3) < 400) ∧ ((((u1 2 ((u1 3 2) + 3)) < 97) → ax_J Y_X5_takeWord (ax_Ki Y_X5_takeWord SH post) 0 0 45 [(0, aR 3), (1, aR 1001), (2, aI 3), (3, aI 0)] [] SH u1) ∧ ((97 ≤ (u1 2 ((u1 3 2) + 3))) → (((122 < (u1 2 ((u1 3 2) + 3))) → ax_J Y_X5_takeWord (ax_Ki Y_X5_takeWord SH post) 0 0 45 [(0, aR 3), (1, aR 1001), (2, aI 3), (3, aI 0)] [] SH u1) ∧ (((u1 2 ((u1 3 2) + 3)) ≤ 122) → post 0 u1)))))))))))) : ax_Ti Y_X5_takeWord [aR 3, aR 1001] SH M post :=
  ti_of rfl (Nat.le_of_ble_eq_true rfl) rfl (fun q => B_X5_takeWord_3_1001_0 (h q))
set_option maxRecDepth 100000 in
set_option maxHeartbeats 4000000 in
theorem B_X5_takeWord_3_1001_45 {post : Int → ax_M → Prop} {M : ax_M} {x2 x3 : Int} (h : (((x2 ≤ x3) → (-2147483648 ≤ ((M 3 2) + x2) ∧ ((M 3 2) + x2) ≤ 2147483647) ∧ post 1 (ax_up M 3 2 ((M 3 2) + x2))) ∧ ((x3 < x2) → (-2147483648 ≤ ((M 3 2) + x3) ∧ ((M 3 2) + x3) ≤ 2147483647) ∧ (0 ≤ ((M 3 2) + x3) ∧ ((M 3 2) + x3) < 400) ∧ (0 ≤ x3 ∧ x3 < 3) ∧ ((((M 2 ((M 3 2) + x3)) = (ax_chr 1 x3)) → (-2147483648 ≤ (x3 + 1) ∧ (x3 + 1) ≤ 2147483647) ∧ ax_J Y_X5_takeWord (ax_Ki Y_X5_takeWord SH post) 0 0 45 [(0, aR 3), (1, aR 1001), (2, aI x2), (3, aI (x3 + 1))] [] SH M) ∧ ((¬ (M 2 ((M 3 2) + x3)) = (ax_chr 1 x3)) → post 0 M))))) : ax_J Y_X5_takeWord (ax_Ki Y_X5_takeWord SH post) 0 0 45 [(0, aR 3), (1, aR 1001), (2, aI x2), (3, aI x3)] [] SH M := by
  refine j_iload_n 3 dX5_takeWord_45 rfl ?_
  refine j_iload_n 2 dX5_takeWord_46 rfl ?_
  refine j_icmp_ge (tgt := 80) dX5_takeWord_47 (by decide) (fun c1 => ?_) (fun c1 => ?_)
  · replace h := h.1 c1
    refine j_aload_n 0 dX5_takeWord_80 rfl ?_
    refine j_dup dX5_takeWord_81 rfl ?_
    refine j_geti (i := 2) dX5_takeWord_82 f_X5_26 sh_3 rfl rfl (fun _ => ?_)
    refine j_iload_n 2 dX5_takeWord_85 rfl ?_
    obtain ⟨o2, h⟩ := h
    refine j_iadd (z := ((M 3 2) + x2)) dX5_takeWord_86 rfl o2 ?_
    refine j_puti (i := 2) dX5_takeWord_87 p_X5_26 (fun h => by cases h) sh_3 rfl rfl ?_
    refine j_iconst (x := 1) dX5_takeWord_90 rfl (i32_c rfl) ?_
    exact j_zret dX5_takeWord_91 rfl ⟨Nat.le_of_ble_eq_true rfl, Nat.le_of_ble_eq_true rfl⟩ (by decide) h
  · replace h := h.2 c1
    refine j_aload_n 0 dX5_takeWord_50 rfl ?_
    refine j_getc 1 dX5_takeWord_51 f_X5_22 sh_3 rfl ?_
    refine j_getc 2 dX5_takeWord_54 f_X5_104 sh_1 rfl ?_
    refine j_aload_n 0 dX5_takeWord_57 rfl ?_
    refine j_geti (i := 2) dX5_takeWord_58 f_X5_26 sh_3 rfl rfl (fun _ => ?_)
    refine j_iload_n 3 dX5_takeWord_61 rfl ?_
    obtain ⟨o3, h⟩ := h
    refine j_iadd (z := ((M 3 2) + x3)) dX5_takeWord_62 rfl o3 ?_
    obtain ⟨o4, h⟩ := h
    refine j_bald dX5_takeWord_63 sh_2 o4.1 o4.2 (fun _ => ?_)
    refine j_aload_n 1 dX5_takeWord_64 rfl ?_
    refine j_iload_n 3 dX5_takeWord_65 rfl ?_
    obtain ⟨o5, h⟩ := h
    refine j_schar (i := 1) (n := 3) dX5_takeWord_66 rfl (Nat.le_of_ble_eq_true rfl) (by decide) (Nat.le_of_ble_eq_true rfl) rfl o5 ?_
    refine j_icmp_eq (tgt := 74) dX5_takeWord_69 (by decide) (fun c6 => ?_) (fun c6 => ?_)
    · replace h := h.1 c6
      obtain ⟨o7, h⟩ := h
      refine j_iinc (ll' := [(3, aI (x3 + 1)), (0, aR 3), (1, aR 1001), (2, aI x2)]) 3 dX5_takeWord_74 rfl (Nat.le_of_ble_eq_true rfl) o7 rfl ?_
      refine j_goto (tgt := 45) dX5_takeWord_77 (by decide) ?_
      refine j_sub [1, 2, 3, 0] rfl ?_
      exact h
    · replace h := h.2 c6
      refine j_iconst (x := 0) dX5_takeWord_72 rfl (i32_c rfl) ?_
      exact j_zret dX5_takeWord_73 rfl ⟨Nat.le_of_ble_eq_true rfl, Nat.le_of_ble_eq_true rfl⟩ (by decide) h
set_option maxRecDepth 100000 in
set_option maxHeartbeats 4000000 in
theorem B_X5_takeWord_3_1002_0 {post : Int → ax_M → Prop} {M : ax_M} (h : ax_Ti Y_X5_atEnd [aR 3] SH M (fun z2 u1 => (((¬ z2 = 0) → post 0 u1) ∧ ((z2 = 0) → (-2147483648 ≤ ((u1 3 2) + 3) ∧ ((u1 3 2) + 3) ≤ 2147483647) ∧ ((((u1 1 1) < ((u1 3 2) + 3)) → post 0 u1) ∧ ((((u1 3 2) + 3) ≤ (u1 1 1)) → ((((u1 1 1) ≤ ((u1 3 2) + 3)) → ax_J Y_X5_takeWord (ax_Ki Y_X5_takeWord SH post) 0 0 45 [(0, aR 3), (1, aR 1002), (2, aI 3), (3, aI 0)] [] SH u1) ∧ ((((u1 3 2) + 3) < (u1 1 1)) → (0 ≤ ((u1 3 2) + 3) ∧ ((u1 3 2) + 3) < 400) ∧ ((((u1 2 ((u1 3 2) + 3)) < 97) → ax_J Y_X5_takeWord (ax_Ki Y_X5_takeWord SH post) 0 0 45 [(0, aR 3), (1, aR 1002), (2, aI 3), (3, aI 0)] [] SH u1) ∧ ((97 ≤ (u1 2 ((u1 3 2) + 3))) → (((122 < (u1 2 ((u1 3 2) + 3))) → ax_J Y_X5_takeWord (ax_Ki Y_X5_takeWord SH post) 0 0 45 [(0, aR 3), (1, aR 1002), (2, aI 3), (3, aI 0)] [] SH u1) ∧ (((u1 2 ((u1 3 2) + 3)) ≤ 122) → post 0 u1)))))))))))) : ax_J Y_X5_takeWord (ax_Ki Y_X5_takeWord SH post) 0 0 0 [(0, aR 3), (1, aR 1002)] [] SH M := by
  refine j_aload_n 1 dX5_takeWord_0 rfl ?_
  refine j_slen (i := 2) (v := 3) dX5_takeWord_1 rfl (Nat.le_of_ble_eq_true rfl) (by decide) (Nat.le_of_ble_eq_true rfl) rfl ?_
  refine j_istore_n (ll' := [(2, aI 3), (0, aR 3), (1, aR 1002)]) dX5_takeWord_4 (Nat.le_of_ble_eq_true rfl) rfl ?_
  refine j_aload_n 1 dX5_takeWord_5 rfl ?_
  refine j_calliV (Yc := Y_X5_atEnd) (as := []) (rest := []) dX5_takeWord_6 q_X5_38 ⟨Nat.le_of_ble_eq_true rfl, Nat.le_of_ble_eq_true rfl, Nat.le_of_ble_eq_true rfl, Nat.le_of_ble_eq_true rfl⟩ sh_3 rfl (Nat.le_of_ble_eq_true rfl) rfl (ti_mono h (fun z2 u1 h => ?_))
  refine j_if_ne (tgt := 41) dX5_takeWord_9 (by decide) (fun c1 => ?_) (fun c1 => ?_)
  · replace h := h.1 c1
    refine j_iconst (x := 0) dX5_takeWord_41 rfl (i32_c rfl) ?_
    exact j_zret dX5_takeWord_42 rfl ⟨Nat.le_of_ble_eq_true rfl, Nat.le_of_ble_eq_true rfl⟩ (by decide) h
  · replace h := h.2 c1
    refine j_aload_n 1 dX5_takeWord_12 rfl ?_
    refine j_geti (i := 2) dX5_takeWord_13 f_X5_26 sh_3 rfl rfl (fun _ => ?_)
    refine j_iload_n 0 dX5_takeWord_16 rfl ?_
    obtain ⟨o2, h⟩ := h
    refine j_iadd (z := ((u1 3 2) + 3)) dX5_takeWord_17 rfl o2 ?_
    refine j_aload_n 1 dX5_takeWord_18 rfl ?_
    refine j_getc 1 dX5_takeWord_19 f_X5_22 sh_3 rfl ?_
    refine j_geti (i := 1) dX5_takeWord_22 f_X5_99 sh_1 rfl rfl (fun _ => ?_)
    refine j_icmp_gt (tgt := 41) dX5_takeWord_25 (by decide) (fun c3 => ?_) (fun c3 => ?_)
    · replace h := h.1 c3
      refine j_iconst (x := 0) dX5_takeWord_41 rfl (i32_c rfl) ?_
      exact j_zret dX5_takeWord_42 rfl ⟨Nat.le_of_ble_eq_true rfl, Nat.le_of_ble_eq_true rfl⟩ (by decide) h
    · replace h := h.2 c3
      refine j_aload_n 1 dX5_takeWord_28 rfl ?_
      refine j_aload_n 1 dX5_takeWord_29 rfl ?_
      refine j_geti (i := 2) dX5_takeWord_30 f_X5_26 sh_3 rfl rfl (fun _ => ?_)
      refine j_iload_n 0 dX5_takeWord_33 rfl ?_
      refine j_iadd (z := ((u1 3 2) + 3)) dX5_takeWord_34 rfl o2 ?_
      refine j_calliV (Yc := Y_X5_isLetter) (as := [aI ((u1 3 2) + 3)]) (rest := []) dX5_takeWord_35 q_X5_114 ⟨Nat.le_of_ble_eq_true rfl, Nat.le_of_ble_eq_true rfl, Nat.le_of_ble_eq_true rfl, Nat.le_of_ble_eq_true rfl⟩ sh_3 rfl (Nat.le_of_ble_eq_true rfl) rfl (ti_of (ll := [(0, aR 3), (1, aI ((u1 3 2) + 3))]) rfl (Nat.le_of_ble_eq_true rfl) rfl (fun _ => ?_))
      refine j_iload_n 1 dX5_isLetter_0 rfl ?_
      refine j_aload_n 0 dX5_isLetter_1 rfl ?_
      refine j_getc 1 dX5_isLetter_2 f_X5_22 sh_3 rfl ?_
      refine j_geti (i := 1) dX5_isLetter_5 f_X5_99 sh_1 rfl rfl (fun _ => ?_)
      refine j_icmp_ge (tgt := 43) dX5_isLetter_8 (by decide) (fun c4 => ?_) (fun c4 => ?_)
      · replace h := h.1 c4
        refine j_iconst (x := 0) dX5_isLetter_43 rfl (i32_c rfl) ?_
        refine j_zret dX5_isLetter_44 rfl ⟨Nat.le_of_ble_eq_true rfl, Nat.le_of_ble_eq_true rfl⟩ (by decide) ?_
        refine j_if_eq (tgt := 43) dX5_takeWord_38 (by decide) (fun _ => ?_) (fun c => absurd c (by decide))
        refine j_iconst (x := 0) dX5_takeWord_43 rfl (i32_c rfl) ?_
        refine j_istore_n (ll' := [(3, aI 0), (2, aI 3), (0, aR 3), (1, aR 1002)]) dX5_takeWord_44 (Nat.le_of_ble_eq_true rfl) rfl ?_
        refine j_sub [2, 3, 1, 0] rfl ?_
        exact h
      · replace h := h.2 c4
        refine j_aload_n 0 dX5_isLetter_11 rfl ?_
        refine j_getc 1 dX5_isLetter_12 f_X5_22 sh_3 rfl ?_
        refine j_getc 2 dX5_isLetter_15 f_X5_104 sh_1 rfl ?_
        refine j_iload_n 1 dX5_isLetter_18 rfl ?_
        obtain ⟨o5, h⟩ := h
        refine j_bald dX5_isLetter_19 sh_2 o5.1 o5.2 (fun _ => ?_)
        refine j_bipush (x := 97) dX5_isLetter_20 rfl (i32_c rfl) ?_
        refine j_icmp_lt (tgt := 43) dX5_isLetter_22 (by decide) (fun c6 => ?_) (fun c6 => ?_)
        · replace h := h.1 c6
          refine j_iconst (x := 0) dX5_isLetter_43 rfl (i32_c rfl) ?_
          refine j_zret dX5_isLetter_44 rfl ⟨Nat.le_of_ble_eq_true rfl, Nat.le_of_ble_eq_true rfl⟩ (by decide) ?_
          refine j_if_eq (tgt := 43) dX5_takeWord_38 (by decide) (fun _ => ?_) (fun c => absurd c (by decide))
          refine j_iconst (x := 0) dX5_takeWord_43 rfl (i32_c rfl) ?_
          refine j_istore_n (ll' := [(3, aI 0), (2, aI 3), (0, aR 3), (1, aR 1002)]) dX5_takeWord_44 (Nat.le_of_ble_eq_true rfl) rfl ?_
          refine j_sub [2, 3, 1, 0] rfl ?_
          exact h
        · replace h := h.2 c6
          refine j_aload_n 0 dX5_isLetter_25 rfl ?_
          refine j_getc 1 dX5_isLetter_26 f_X5_22 sh_3 rfl ?_
          refine j_getc 2 dX5_isLetter_29 f_X5_104 sh_1 rfl ?_
          refine j_iload_n 1 dX5_isLetter_32 rfl ?_
          refine j_bald dX5_isLetter_33 sh_2 o5.1 o5.2 (fun _ => ?_)
          refine j_bipush (x := 122) dX5_isLetter_34 rfl (i32_c rfl) ?_
          refine j_icmp_gt (tgt := 43) dX5_isLetter_36 (by decide) (fun c7 => ?_) (fun c7 => ?_)
          · replace h := h.1 c7
            refine j_iconst (x := 0) dX5_isLetter_43 rfl (i32_c rfl) ?_
            refine j_zret dX5_isLetter_44 rfl ⟨Nat.le_of_ble_eq_true rfl, Nat.le_of_ble_eq_true rfl⟩ (by decide) ?_
            refine j_if_eq (tgt := 43) dX5_takeWord_38 (by decide) (fun _ => ?_) (fun c => absurd c (by decide))
            refine j_iconst (x := 0) dX5_takeWord_43 rfl (i32_c rfl) ?_
            refine j_istore_n (ll' := [(3, aI 0), (2, aI 3), (0, aR 3), (1, aR 1002)]) dX5_takeWord_44 (Nat.le_of_ble_eq_true rfl) rfl ?_
            refine j_sub [2, 3, 1, 0] rfl ?_
            exact h
          · replace h := h.2 c7
            refine j_iconst (x := 1) dX5_isLetter_39 rfl (i32_c rfl) ?_
            refine j_goto (tgt := 44) dX5_isLetter_40 (by decide) ?_
            refine j_zret dX5_isLetter_44 rfl ⟨Nat.le_of_ble_eq_true rfl, Nat.le_of_ble_eq_true rfl⟩ (by decide) ?_
            refine j_if_eq (tgt := 43) dX5_takeWord_38 (by decide) (fun c => absurd c (by decide)) (fun _ => ?_)
            refine j_iconst (x := 0) dX5_takeWord_41 rfl (i32_c rfl) ?_
            exact j_zret dX5_takeWord_42 rfl ⟨Nat.le_of_ble_eq_true rfl, Nat.le_of_ble_eq_true rfl⟩ (by decide) h
theorem E_X5_takeWord_3_1002 {post : Int → ax_M → Prop} {M : ax_M} (h : ax_mr SH M → ax_Ti Y_X5_atEnd [aR 3] SH M (fun z2 u1 => (((¬ z2 = 0) → post 0 u1) ∧ ((z2 = 0) → (-2147483648 ≤ ((u1 3 2) + 3) ∧ ((u1 3 2) + 3) ≤ 2147483647) ∧ ((((u1 1 1) < ((u1 3 2) + 3)) → post 0 u1) ∧ ((((u1 3 2) + 3) ≤ (u1 1 1)) → ((((u1 1 1) ≤ ((u1 3 2) + 3)) → ax_J Y_X5_takeWord (ax_Ki Y_X5_takeWord SH post) 0 0 45 [(0, aR 3), (1, aR 1002), (2, aI 3), (3, aI 0)] [] SH u1) ∧ ((((u1 3 2) + 3) < (u1 1 1)) → (0 ≤ ((u1 3 2) + 3) ∧ ((u1 3 2) + 3) < 400) ∧ ((((u1 2 ((u1 3 2) + 3)) < 97) → ax_J Y_X5_takeWord (ax_Ki Y_X5_takeWord SH post) 0 0 45 [(0, aR 3), (1, aR 1002), (2, aI 3), (3, aI 0)] [] SH u1) ∧ ((97 ≤ (u1 2 ((u1 3 2) + 3))) → (((122 < (u1 2 ((u1 3 2) + 3))) → ax_J Y_X5_takeWord (ax_Ki Y_X5_takeWord SH post) 0 0 45 [(0, aR 3), (1, aR 1002), (2, aI 3), (3, aI 0)] [] SH u1) ∧ (((u1 2 ((u1 3 2) + 3)) ≤ 122) → post 0 u1)))))))))))) : ax_Ti Y_X5_takeWord [aR 3, aR 1002] SH M post :=
  ti_of rfl (Nat.le_of_ble_eq_true rfl) rfl (fun q => B_X5_takeWord_3_1002_0 (h q))
set_option maxRecDepth 100000 in
set_option maxHeartbeats 4000000 in
theorem B_X5_takeWord_3_1002_45 {post : Int → ax_M → Prop} {M : ax_M} {x2 x3 : Int} (h : (((x2 ≤ x3) → (-2147483648 ≤ ((M 3 2) + x2) ∧ ((M 3 2) + x2) ≤ 2147483647) ∧ post 1 (ax_up M 3 2 ((M 3 2) + x2))) ∧ ((x3 < x2) → (-2147483648 ≤ ((M 3 2) + x3) ∧ ((M 3 2) + x3) ≤ 2147483647) ∧ (0 ≤ ((M 3 2) + x3) ∧ ((M 3 2) + x3) < 400) ∧ (0 ≤ x3 ∧ x3 < 3) ∧ ((((M 2 ((M 3 2) + x3)) = (ax_chr 2 x3)) → (-2147483648 ≤ (x3 + 1) ∧ (x3 + 1) ≤ 2147483647) ∧ ax_J Y_X5_takeWord (ax_Ki Y_X5_takeWord SH post) 0 0 45 [(0, aR 3), (1, aR 1002), (2, aI x2), (3, aI (x3 + 1))] [] SH M) ∧ ((¬ (M 2 ((M 3 2) + x3)) = (ax_chr 2 x3)) → post 0 M))))) : ax_J Y_X5_takeWord (ax_Ki Y_X5_takeWord SH post) 0 0 45 [(0, aR 3), (1, aR 1002), (2, aI x2), (3, aI x3)] [] SH M := by
  refine j_iload_n 3 dX5_takeWord_45 rfl ?_
  refine j_iload_n 2 dX5_takeWord_46 rfl ?_
  refine j_icmp_ge (tgt := 80) dX5_takeWord_47 (by decide) (fun c1 => ?_) (fun c1 => ?_)
  · replace h := h.1 c1
    refine j_aload_n 0 dX5_takeWord_80 rfl ?_
    refine j_dup dX5_takeWord_81 rfl ?_
    refine j_geti (i := 2) dX5_takeWord_82 f_X5_26 sh_3 rfl rfl (fun _ => ?_)
    refine j_iload_n 2 dX5_takeWord_85 rfl ?_
    obtain ⟨o2, h⟩ := h
    refine j_iadd (z := ((M 3 2) + x2)) dX5_takeWord_86 rfl o2 ?_
    refine j_puti (i := 2) dX5_takeWord_87 p_X5_26 (fun h => by cases h) sh_3 rfl rfl ?_
    refine j_iconst (x := 1) dX5_takeWord_90 rfl (i32_c rfl) ?_
    exact j_zret dX5_takeWord_91 rfl ⟨Nat.le_of_ble_eq_true rfl, Nat.le_of_ble_eq_true rfl⟩ (by decide) h
  · replace h := h.2 c1
    refine j_aload_n 0 dX5_takeWord_50 rfl ?_
    refine j_getc 1 dX5_takeWord_51 f_X5_22 sh_3 rfl ?_
    refine j_getc 2 dX5_takeWord_54 f_X5_104 sh_1 rfl ?_
    refine j_aload_n 0 dX5_takeWord_57 rfl ?_
    refine j_geti (i := 2) dX5_takeWord_58 f_X5_26 sh_3 rfl rfl (fun _ => ?_)
    refine j_iload_n 3 dX5_takeWord_61 rfl ?_
    obtain ⟨o3, h⟩ := h
    refine j_iadd (z := ((M 3 2) + x3)) dX5_takeWord_62 rfl o3 ?_
    obtain ⟨o4, h⟩ := h
    refine j_bald dX5_takeWord_63 sh_2 o4.1 o4.2 (fun _ => ?_)
    refine j_aload_n 1 dX5_takeWord_64 rfl ?_
    refine j_iload_n 3 dX5_takeWord_65 rfl ?_
    obtain ⟨o5, h⟩ := h
    refine j_schar (i := 2) (n := 3) dX5_takeWord_66 rfl (Nat.le_of_ble_eq_true rfl) (by decide) (Nat.le_of_ble_eq_true rfl) rfl o5 ?_
    refine j_icmp_eq (tgt := 74) dX5_takeWord_69 (by decide) (fun c6 => ?_) (fun c6 => ?_)
    · replace h := h.1 c6
      obtain ⟨o7, h⟩ := h
      refine j_iinc (ll' := [(3, aI (x3 + 1)), (0, aR 3), (1, aR 1002), (2, aI x2)]) 3 dX5_takeWord_74 rfl (Nat.le_of_ble_eq_true rfl) o7 rfl ?_
      refine j_goto (tgt := 45) dX5_takeWord_77 (by decide) ?_
      refine j_sub [1, 2, 3, 0] rfl ?_
      exact h
    · replace h := h.2 c6
      refine j_iconst (x := 0) dX5_takeWord_72 rfl (i32_c rfl) ?_
      exact j_zret dX5_takeWord_73 rfl ⟨Nat.le_of_ble_eq_true rfl, Nat.le_of_ble_eq_true rfl⟩ (by decide) h
set_option maxRecDepth 100000 in
set_option maxHeartbeats 4000000 in
theorem B_X5_takeWord_3_1000_0 {post : Int → ax_M → Prop} {M : ax_M} (h : ax_Ti Y_X5_atEnd [aR 3] SH M (fun z2 u1 => (((¬ z2 = 0) → post 0 u1) ∧ ((z2 = 0) → (-2147483648 ≤ ((u1 3 2) + 6) ∧ ((u1 3 2) + 6) ≤ 2147483647) ∧ ((((u1 1 1) < ((u1 3 2) + 6)) → post 0 u1) ∧ ((((u1 3 2) + 6) ≤ (u1 1 1)) → ((((u1 1 1) ≤ ((u1 3 2) + 6)) → ax_J Y_X5_takeWord (ax_Ki Y_X5_takeWord SH post) 0 0 45 [(0, aR 3), (1, aR 1000), (2, aI 6), (3, aI 0)] [] SH u1) ∧ ((((u1 3 2) + 6) < (u1 1 1)) → (0 ≤ ((u1 3 2) + 6) ∧ ((u1 3 2) + 6) < 400) ∧ ((((u1 2 ((u1 3 2) + 6)) < 97) → ax_J Y_X5_takeWord (ax_Ki Y_X5_takeWord SH post) 0 0 45 [(0, aR 3), (1, aR 1000), (2, aI 6), (3, aI 0)] [] SH u1) ∧ ((97 ≤ (u1 2 ((u1 3 2) + 6))) → (((122 < (u1 2 ((u1 3 2) + 6))) → ax_J Y_X5_takeWord (ax_Ki Y_X5_takeWord SH post) 0 0 45 [(0, aR 3), (1, aR 1000), (2, aI 6), (3, aI 0)] [] SH u1) ∧ (((u1 2 ((u1 3 2) + 6)) ≤ 122) → post 0 u1)))))))))))) : ax_J Y_X5_takeWord (ax_Ki Y_X5_takeWord SH post) 0 0 0 [(0, aR 3), (1, aR 1000)] [] SH M := by
  refine j_aload_n 1 dX5_takeWord_0 rfl ?_
  refine j_slen (i := 0) (v := 6) dX5_takeWord_1 rfl (Nat.le_of_ble_eq_true rfl) (by decide) (Nat.le_of_ble_eq_true rfl) rfl ?_
  refine j_istore_n (ll' := [(2, aI 6), (0, aR 3), (1, aR 1000)]) dX5_takeWord_4 (Nat.le_of_ble_eq_true rfl) rfl ?_
  refine j_aload_n 1 dX5_takeWord_5 rfl ?_
  refine j_calliV (Yc := Y_X5_atEnd) (as := []) (rest := []) dX5_takeWord_6 q_X5_38 ⟨Nat.le_of_ble_eq_true rfl, Nat.le_of_ble_eq_true rfl, Nat.le_of_ble_eq_true rfl, Nat.le_of_ble_eq_true rfl⟩ sh_3 rfl (Nat.le_of_ble_eq_true rfl) rfl (ti_mono h (fun z2 u1 h => ?_))
  refine j_if_ne (tgt := 41) dX5_takeWord_9 (by decide) (fun c1 => ?_) (fun c1 => ?_)
  · replace h := h.1 c1
    refine j_iconst (x := 0) dX5_takeWord_41 rfl (i32_c rfl) ?_
    exact j_zret dX5_takeWord_42 rfl ⟨Nat.le_of_ble_eq_true rfl, Nat.le_of_ble_eq_true rfl⟩ (by decide) h
  · replace h := h.2 c1
    refine j_aload_n 1 dX5_takeWord_12 rfl ?_
    refine j_geti (i := 2) dX5_takeWord_13 f_X5_26 sh_3 rfl rfl (fun _ => ?_)
    refine j_iload_n 0 dX5_takeWord_16 rfl ?_
    obtain ⟨o2, h⟩ := h
    refine j_iadd (z := ((u1 3 2) + 6)) dX5_takeWord_17 rfl o2 ?_
    refine j_aload_n 1 dX5_takeWord_18 rfl ?_
    refine j_getc 1 dX5_takeWord_19 f_X5_22 sh_3 rfl ?_
    refine j_geti (i := 1) dX5_takeWord_22 f_X5_99 sh_1 rfl rfl (fun _ => ?_)
    refine j_icmp_gt (tgt := 41) dX5_takeWord_25 (by decide) (fun c3 => ?_) (fun c3 => ?_)
    · replace h := h.1 c3
      refine j_iconst (x := 0) dX5_takeWord_41 rfl (i32_c rfl) ?_
      exact j_zret dX5_takeWord_42 rfl ⟨Nat.le_of_ble_eq_true rfl, Nat.le_of_ble_eq_true rfl⟩ (by decide) h
    · replace h := h.2 c3
      refine j_aload_n 1 dX5_takeWord_28 rfl ?_
      refine j_aload_n 1 dX5_takeWord_29 rfl ?_
      refine j_geti (i := 2) dX5_takeWord_30 f_X5_26 sh_3 rfl rfl (fun _ => ?_)
      refine j_iload_n 0 dX5_takeWord_33 rfl ?_
      refine j_iadd (z := ((u1 3 2) + 6)) dX5_takeWord_34 rfl o2 ?_
      refine j_calliV (Yc := Y_X5_isLetter) (as := [aI ((u1 3 2) + 6)]) (rest := []) dX5_takeWord_35 q_X5_114 ⟨Nat.le_of_ble_eq_true rfl, Nat.le_of_ble_eq_true rfl, Nat.le_of_ble_eq_true rfl, Nat.le_of_ble_eq_true rfl⟩ sh_3 rfl (Nat.le_of_ble_eq_true rfl) rfl (ti_of (ll := [(0, aR 3), (1, aI ((u1 3 2) + 6))]) rfl (Nat.le_of_ble_eq_true rfl) rfl (fun _ => ?_))
      refine j_iload_n 1 dX5_isLetter_0 rfl ?_
      refine j_aload_n 0 dX5_isLetter_1 rfl ?_
      refine j_getc 1 dX5_isLetter_2 f_X5_22 sh_3 rfl ?_
      refine j_geti (i := 1) dX5_isLetter_5 f_X5_99 sh_1 rfl rfl (fun _ => ?_)
      refine j_icmp_ge (tgt := 43) dX5_isLetter_8 (by decide) (fun c4 => ?_) (fun c4 => ?_)
      · replace h := h.1 c4
        refine j_iconst (x := 0) dX5_isLetter_43 rfl (i32_c rfl) ?_
        refine j_zret dX5_isLetter_44 rfl ⟨Nat.le_of_ble_eq_true rfl, Nat.le_of_ble_eq_true rfl⟩ (by decide) ?_
        refine j_if_eq (tgt := 43) dX5_takeWord_38 (by decide) (fun _ => ?_) (fun c => absurd c (by decide))
        refine j_iconst (x := 0) dX5_takeWord_43 rfl (i32_c rfl) ?_
        refine j_istore_n (ll' := [(3, aI 0), (2, aI 6), (0, aR 3), (1, aR 1000)]) dX5_takeWord_44 (Nat.le_of_ble_eq_true rfl) rfl ?_
        refine j_sub [2, 3, 1, 0] rfl ?_
        exact h
      · replace h := h.2 c4
        refine j_aload_n 0 dX5_isLetter_11 rfl ?_
        refine j_getc 1 dX5_isLetter_12 f_X5_22 sh_3 rfl ?_
        refine j_getc 2 dX5_isLetter_15 f_X5_104 sh_1 rfl ?_
        refine j_iload_n 1 dX5_isLetter_18 rfl ?_
        obtain ⟨o5, h⟩ := h
        refine j_bald dX5_isLetter_19 sh_2 o5.1 o5.2 (fun _ => ?_)
        refine j_bipush (x := 97) dX5_isLetter_20 rfl (i32_c rfl) ?_
        refine j_icmp_lt (tgt := 43) dX5_isLetter_22 (by decide) (fun c6 => ?_) (fun c6 => ?_)
        · replace h := h.1 c6
          refine j_iconst (x := 0) dX5_isLetter_43 rfl (i32_c rfl) ?_
          refine j_zret dX5_isLetter_44 rfl ⟨Nat.le_of_ble_eq_true rfl, Nat.le_of_ble_eq_true rfl⟩ (by decide) ?_
          refine j_if_eq (tgt := 43) dX5_takeWord_38 (by decide) (fun _ => ?_) (fun c => absurd c (by decide))
          refine j_iconst (x := 0) dX5_takeWord_43 rfl (i32_c rfl) ?_
          refine j_istore_n (ll' := [(3, aI 0), (2, aI 6), (0, aR 3), (1, aR 1000)]) dX5_takeWord_44 (Nat.le_of_ble_eq_true rfl) rfl ?_
          refine j_sub [2, 3, 1, 0] rfl ?_
          exact h
        · replace h := h.2 c6
          refine j_aload_n 0 dX5_isLetter_25 rfl ?_
          refine j_getc 1 dX5_isLetter_26 f_X5_22 sh_3 rfl ?_
          refine j_getc 2 dX5_isLetter_29 f_X5_104 sh_1 rfl ?_
          refine j_iload_n 1 dX5_isLetter_32 rfl ?_
          refine j_bald dX5_isLetter_33 sh_2 o5.1 o5.2 (fun _ => ?_)
          refine j_bipush (x := 122) dX5_isLetter_34 rfl (i32_c rfl) ?_
          refine j_icmp_gt (tgt := 43) dX5_isLetter_36 (by decide) (fun c7 => ?_) (fun c7 => ?_)
          · replace h := h.1 c7
            refine j_iconst (x := 0) dX5_isLetter_43 rfl (i32_c rfl) ?_
            refine j_zret dX5_isLetter_44 rfl ⟨Nat.le_of_ble_eq_true rfl, Nat.le_of_ble_eq_true rfl⟩ (by decide) ?_
            refine j_if_eq (tgt := 43) dX5_takeWord_38 (by decide) (fun _ => ?_) (fun c => absurd c (by decide))
            refine j_iconst (x := 0) dX5_takeWord_43 rfl (i32_c rfl) ?_
            refine j_istore_n (ll' := [(3, aI 0), (2, aI 6), (0, aR 3), (1, aR 1000)]) dX5_takeWord_44 (Nat.le_of_ble_eq_true rfl) rfl ?_
            refine j_sub [2, 3, 1, 0] rfl ?_
            exact h
          · replace h := h.2 c7
            refine j_iconst (x := 1) dX5_isLetter_39 rfl (i32_c rfl) ?_
            refine j_goto (tgt := 44) dX5_isLetter_40 (by decide) ?_
            refine j_zret dX5_isLetter_44 rfl ⟨Nat.le_of_ble_eq_true rfl, Nat.le_of_ble_eq_true rfl⟩ (by decide) ?_
            refine j_if_eq (tgt := 43) dX5_takeWord_38 (by decide) (fun c => absurd c (by decide)) (fun _ => ?_)
            refine j_iconst (x := 0) dX5_takeWord_41 rfl (i32_c rfl) ?_
            exact j_zret dX5_takeWord_42 rfl ⟨Nat.le_of_ble_eq_true rfl, Nat.le_of_ble_eq_true rfl⟩ (by decide) h
theorem E_X5_takeWord_3_1000 {post : Int → ax_M → Prop} {M : ax_M} (h : ax_mr SH M → ax_Ti Y_X5_atEnd [aR 3] SH M (fun z2 u1 => (((¬ z2 = 0) → post 0 u1) ∧ ((z2 = 0) → (-2147483648 ≤ ((u1 3 2) + 6) ∧ ((u1 3 2) + 6) ≤ 2147483647) ∧ ((((u1 1 1) < ((u1 3 2) + 6)) → post 0 u1) ∧ ((((u1 3 2) + 6) ≤ (u1 1 1)) → ((((u1 1 1) ≤ ((u1 3 2) + 6)) → ax_J Y_X5_takeWord (ax_Ki Y_X5_takeWord SH post) 0 0 45 [(0, aR 3), (1, aR 1000), (2, aI 6), (3, aI 0)] [] SH u1) ∧ ((((u1 3 2) + 6) < (u1 1 1)) → (0 ≤ ((u1 3 2) + 6) ∧ ((u1 3 2) + 6) < 400) ∧ ((((u1 2 ((u1 3 2) + 6)) < 97) → ax_J Y_X5_takeWord (ax_Ki Y_X5_takeWord SH post) 0 0 45 [(0, aR 3), (1, aR 1000), (2, aI 6), (3, aI 0)] [] SH u1) ∧ ((97 ≤ (u1 2 ((u1 3 2) + 6))) → (((122 < (u1 2 ((u1 3 2) + 6))) → ax_J Y_X5_takeWord (ax_Ki Y_X5_takeWord SH post) 0 0 45 [(0, aR 3), (1, aR 1000), (2, aI 6), (3, aI 0)] [] SH u1) ∧ (((u1 2 ((u1 3 2) + 6)) ≤ 122) → post 0 u1)))))))))))) : ax_Ti Y_X5_takeWord [aR 3, aR 1000] SH M post :=
  ti_of rfl (Nat.le_of_ble_eq_true rfl) rfl (fun q => B_X5_takeWord_3_1000_0 (h q))
set_option maxRecDepth 100000 in
set_option maxHeartbeats 4000000 in
theorem B_X5_takeWord_3_1000_45 {post : Int → ax_M → Prop} {M : ax_M} {x2 x3 : Int} (h : (((x2 ≤ x3) → (-2147483648 ≤ ((M 3 2) + x2) ∧ ((M 3 2) + x2) ≤ 2147483647) ∧ post 1 (ax_up M 3 2 ((M 3 2) + x2))) ∧ ((x3 < x2) → (-2147483648 ≤ ((M 3 2) + x3) ∧ ((M 3 2) + x3) ≤ 2147483647) ∧ (0 ≤ ((M 3 2) + x3) ∧ ((M 3 2) + x3) < 400) ∧ (0 ≤ x3 ∧ x3 < 6) ∧ ((((M 2 ((M 3 2) + x3)) = (ax_chr 0 x3)) → (-2147483648 ≤ (x3 + 1) ∧ (x3 + 1) ≤ 2147483647) ∧ ax_J Y_X5_takeWord (ax_Ki Y_X5_takeWord SH post) 0 0 45 [(0, aR 3), (1, aR 1000), (2, aI x2), (3, aI (x3 + 1))] [] SH M) ∧ ((¬ (M 2 ((M 3 2) + x3)) = (ax_chr 0 x3)) → post 0 M))))) : ax_J Y_X5_takeWord (ax_Ki Y_X5_takeWord SH post) 0 0 45 [(0, aR 3), (1, aR 1000), (2, aI x2), (3, aI x3)] [] SH M := by
  refine j_iload_n 3 dX5_takeWord_45 rfl ?_
  refine j_iload_n 2 dX5_takeWord_46 rfl ?_
  refine j_icmp_ge (tgt := 80) dX5_takeWord_47 (by decide) (fun c1 => ?_) (fun c1 => ?_)
  · replace h := h.1 c1
    refine j_aload_n 0 dX5_takeWord_80 rfl ?_
    refine j_dup dX5_takeWord_81 rfl ?_
    refine j_geti (i := 2) dX5_takeWord_82 f_X5_26 sh_3 rfl rfl (fun _ => ?_)
    refine j_iload_n 2 dX5_takeWord_85 rfl ?_
    obtain ⟨o2, h⟩ := h
    refine j_iadd (z := ((M 3 2) + x2)) dX5_takeWord_86 rfl o2 ?_
    refine j_puti (i := 2) dX5_takeWord_87 p_X5_26 (fun h => by cases h) sh_3 rfl rfl ?_
    refine j_iconst (x := 1) dX5_takeWord_90 rfl (i32_c rfl) ?_
    exact j_zret dX5_takeWord_91 rfl ⟨Nat.le_of_ble_eq_true rfl, Nat.le_of_ble_eq_true rfl⟩ (by decide) h
  · replace h := h.2 c1
    refine j_aload_n 0 dX5_takeWord_50 rfl ?_
    refine j_getc 1 dX5_takeWord_51 f_X5_22 sh_3 rfl ?_
    refine j_getc 2 dX5_takeWord_54 f_X5_104 sh_1 rfl ?_
    refine j_aload_n 0 dX5_takeWord_57 rfl ?_
    refine j_geti (i := 2) dX5_takeWord_58 f_X5_26 sh_3 rfl rfl (fun _ => ?_)
    refine j_iload_n 3 dX5_takeWord_61 rfl ?_
    obtain ⟨o3, h⟩ := h
    refine j_iadd (z := ((M 3 2) + x3)) dX5_takeWord_62 rfl o3 ?_
    obtain ⟨o4, h⟩ := h
    refine j_bald dX5_takeWord_63 sh_2 o4.1 o4.2 (fun _ => ?_)
    refine j_aload_n 1 dX5_takeWord_64 rfl ?_
    refine j_iload_n 3 dX5_takeWord_65 rfl ?_
    obtain ⟨o5, h⟩ := h
    refine j_schar (i := 0) (n := 6) dX5_takeWord_66 rfl (Nat.le_of_ble_eq_true rfl) (by decide) (Nat.le_of_ble_eq_true rfl) rfl o5 ?_
    refine j_icmp_eq (tgt := 74) dX5_takeWord_69 (by decide) (fun c6 => ?_) (fun c6 => ?_)
    · replace h := h.1 c6
      obtain ⟨o7, h⟩ := h
      refine j_iinc (ll' := [(3, aI (x3 + 1)), (0, aR 3), (1, aR 1000), (2, aI x2)]) 3 dX5_takeWord_74 rfl (Nat.le_of_ble_eq_true rfl) o7 rfl ?_
      refine j_goto (tgt := 45) dX5_takeWord_77 (by decide) ?_
      refine j_sub [1, 2, 3, 0] rfl ?_
      exact h
    · replace h := h.2 c6
      refine j_iconst (x := 0) dX5_takeWord_72 rfl (i32_c rfl) ?_
      exact j_zret dX5_takeWord_73 rfl ⟨Nat.le_of_ble_eq_true rfl, Nat.le_of_ble_eq_true rfl⟩ (by decide) h
set_option maxRecDepth 100000 in
set_option maxHeartbeats 4000000 in
theorem B_X5_takeWord_3_1003_0 {post : Int → ax_M → Prop} {M : ax_M} (h : ax_Ti Y_X5_atEnd [aR 3] SH M (fun z2 u1 => (((¬ z2 = 0) → post 0 u1) ∧ ((z2 = 0) → (-2147483648 ≤ ((u1 3 2) + 4) ∧ ((u1 3 2) + 4) ≤ 2147483647) ∧ ((((u1 1 1) < ((u1 3 2) + 4)) → post 0 u1) ∧ ((((u1 3 2) + 4) ≤ (u1 1 1)) → ((((u1 1 1) ≤ ((u1 3 2) + 4)) → ax_J Y_X5_takeWord (ax_Ki Y_X5_takeWord SH post) 0 0 45 [(0, aR 3), (1, aR 1003), (2, aI 4), (3, aI 0)] [] SH u1) ∧ ((((u1 3 2) + 4) < (u1 1 1)) → (0 ≤ ((u1 3 2) + 4) ∧ ((u1 3 2) + 4) < 400) ∧ ((((u1 2 ((u1 3 2) + 4)) < 97) → ax_J Y_X5_takeWord (ax_Ki Y_X5_takeWord SH post) 0 0 45 [(0, aR 3), (1, aR 1003), (2, aI 4), (3, aI 0)] [] SH u1) ∧ ((97 ≤ (u1 2 ((u1 3 2) + 4))) → (((122 < (u1 2 ((u1 3 2) + 4))) → ax_J Y_X5_takeWord (ax_Ki Y_X5_takeWord SH post) 0 0 45 [(0, aR 3), (1, aR 1003), (2, aI 4), (3, aI 0)] [] SH u1) ∧ (((u1 2 ((u1 3 2) + 4)) ≤ 122) → post 0 u1)))))))))))) : ax_J Y_X5_takeWord (ax_Ki Y_X5_takeWord SH post) 0 0 0 [(0, aR 3), (1, aR 1003)] [] SH M := by
  refine j_aload_n 1 dX5_takeWord_0 rfl ?_
  refine j_slen (i := 3) (v := 4) dX5_takeWord_1 rfl (Nat.le_of_ble_eq_true rfl) (by decide) (Nat.le_of_ble_eq_true rfl) rfl ?_
  refine j_istore_n (ll' := [(2, aI 4), (0, aR 3), (1, aR 1003)]) dX5_takeWord_4 (Nat.le_of_ble_eq_true rfl) rfl ?_
  refine j_aload_n 1 dX5_takeWord_5 rfl ?_
  refine j_calliV (Yc := Y_X5_atEnd) (as := []) (rest := []) dX5_takeWord_6 q_X5_38 ⟨Nat.le_of_ble_eq_true rfl, Nat.le_of_ble_eq_true rfl, Nat.le_of_ble_eq_true rfl, Nat.le_of_ble_eq_true rfl⟩ sh_3 rfl (Nat.le_of_ble_eq_true rfl) rfl (ti_mono h (fun z2 u1 h => ?_))
  refine j_if_ne (tgt := 41) dX5_takeWord_9 (by decide) (fun c1 => ?_) (fun c1 => ?_)
  · replace h := h.1 c1
    refine j_iconst (x := 0) dX5_takeWord_41 rfl (i32_c rfl) ?_
    exact j_zret dX5_takeWord_42 rfl ⟨Nat.le_of_ble_eq_true rfl, Nat.le_of_ble_eq_true rfl⟩ (by decide) h
  · replace h := h.2 c1
    refine j_aload_n 1 dX5_takeWord_12 rfl ?_
    refine j_geti (i := 2) dX5_takeWord_13 f_X5_26 sh_3 rfl rfl (fun _ => ?_)
    refine j_iload_n 0 dX5_takeWord_16 rfl ?_
    obtain ⟨o2, h⟩ := h
    refine j_iadd (z := ((u1 3 2) + 4)) dX5_takeWord_17 rfl o2 ?_
    refine j_aload_n 1 dX5_takeWord_18 rfl ?_
    refine j_getc 1 dX5_takeWord_19 f_X5_22 sh_3 rfl ?_
    refine j_geti (i := 1) dX5_takeWord_22 f_X5_99 sh_1 rfl rfl (fun _ => ?_)
    refine j_icmp_gt (tgt := 41) dX5_takeWord_25 (by decide) (fun c3 => ?_) (fun c3 => ?_)
    · replace h := h.1 c3
      refine j_iconst (x := 0) dX5_takeWord_41 rfl (i32_c rfl) ?_
      exact j_zret dX5_takeWord_42 rfl ⟨Nat.le_of_ble_eq_true rfl, Nat.le_of_ble_eq_true rfl⟩ (by decide) h
    · replace h := h.2 c3
      refine j_aload_n 1 dX5_takeWord_28 rfl ?_
      refine j_aload_n 1 dX5_takeWord_29 rfl ?_
      refine j_geti (i := 2) dX5_takeWord_30 f_X5_26 sh_3 rfl rfl (fun _ => ?_)
      refine j_iload_n 0 dX5_takeWord_33 rfl ?_
      refine j_iadd (z := ((u1 3 2) + 4)) dX5_takeWord_34 rfl o2 ?_
      refine j_calliV (Yc := Y_X5_isLetter) (as := [aI ((u1 3 2) + 4)]) (rest := []) dX5_takeWord_35 q_X5_114 ⟨Nat.le_of_ble_eq_true rfl, Nat.le_of_ble_eq_true rfl, Nat.le_of_ble_eq_true rfl, Nat.le_of_ble_eq_true rfl⟩ sh_3 rfl (Nat.le_of_ble_eq_true rfl) rfl (ti_of (ll := [(0, aR 3), (1, aI ((u1 3 2) + 4))]) rfl (Nat.le_of_ble_eq_true rfl) rfl (fun _ => ?_))
      refine j_iload_n 1 dX5_isLetter_0 rfl ?_
      refine j_aload_n 0 dX5_isLetter_1 rfl ?_
      refine j_getc 1 dX5_isLetter_2 f_X5_22 sh_3 rfl ?_
      refine j_geti (i := 1) dX5_isLetter_5 f_X5_99 sh_1 rfl rfl (fun _ => ?_)
      refine j_icmp_ge (tgt := 43) dX5_isLetter_8 (by decide) (fun c4 => ?_) (fun c4 => ?_)
      · replace h := h.1 c4
        refine j_iconst (x := 0) dX5_isLetter_43 rfl (i32_c rfl) ?_
        refine j_zret dX5_isLetter_44 rfl ⟨Nat.le_of_ble_eq_true rfl, Nat.le_of_ble_eq_true rfl⟩ (by decide) ?_
        refine j_if_eq (tgt := 43) dX5_takeWord_38 (by decide) (fun _ => ?_) (fun c => absurd c (by decide))
        refine j_iconst (x := 0) dX5_takeWord_43 rfl (i32_c rfl) ?_
        refine j_istore_n (ll' := [(3, aI 0), (2, aI 4), (0, aR 3), (1, aR 1003)]) dX5_takeWord_44 (Nat.le_of_ble_eq_true rfl) rfl ?_
        refine j_sub [2, 3, 1, 0] rfl ?_
        exact h
      · replace h := h.2 c4
        refine j_aload_n 0 dX5_isLetter_11 rfl ?_
        refine j_getc 1 dX5_isLetter_12 f_X5_22 sh_3 rfl ?_
        refine j_getc 2 dX5_isLetter_15 f_X5_104 sh_1 rfl ?_
        refine j_iload_n 1 dX5_isLetter_18 rfl ?_
        obtain ⟨o5, h⟩ := h
        refine j_bald dX5_isLetter_19 sh_2 o5.1 o5.2 (fun _ => ?_)
        refine j_bipush (x := 97) dX5_isLetter_20 rfl (i32_c rfl) ?_
        refine j_icmp_lt (tgt := 43) dX5_isLetter_22 (by decide) (fun c6 => ?_) (fun c6 => ?_)
        · replace h := h.1 c6
          refine j_iconst (x := 0) dX5_isLetter_43 rfl (i32_c rfl) ?_
          refine j_zret dX5_isLetter_44 rfl ⟨Nat.le_of_ble_eq_true rfl, Nat.le_of_ble_eq_true rfl⟩ (by decide) ?_
          refine j_if_eq (tgt := 43) dX5_takeWord_38 (by decide) (fun _ => ?_) (fun c => absurd c (by decide))
          refine j_iconst (x := 0) dX5_takeWord_43 rfl (i32_c rfl) ?_
          refine j_istore_n (ll' := [(3, aI 0), (2, aI 4), (0, aR 3), (1, aR 1003)]) dX5_takeWord_44 (Nat.le_of_ble_eq_true rfl) rfl ?_
          refine j_sub [2, 3, 1, 0] rfl ?_
          exact h
        · replace h := h.2 c6
          refine j_aload_n 0 dX5_isLetter_25 rfl ?_
          refine j_getc 1 dX5_isLetter_26 f_X5_22 sh_3 rfl ?_
          refine j_getc 2 dX5_isLetter_29 f_X5_104 sh_1 rfl ?_
          refine j_iload_n 1 dX5_isLetter_32 rfl ?_
          refine j_bald dX5_isLetter_33 sh_2 o5.1 o5.2 (fun _ => ?_)
          refine j_bipush (x := 122) dX5_isLetter_34 rfl (i32_c rfl) ?_
          refine j_icmp_gt (tgt := 43) dX5_isLetter_36 (by decide) (fun c7 => ?_) (fun c7 => ?_)
          · replace h := h.1 c7
            refine j_iconst (x := 0) dX5_isLetter_43 rfl (i32_c rfl) ?_
            refine j_zret dX5_isLetter_44 rfl ⟨Nat.le_of_ble_eq_true rfl, Nat.le_of_ble_eq_true rfl⟩ (by decide) ?_
            refine j_if_eq (tgt := 43) dX5_takeWord_38 (by decide) (fun _ => ?_) (fun c => absurd c (by decide))
            refine j_iconst (x := 0) dX5_takeWord_43 rfl (i32_c rfl) ?_
            refine j_istore_n (ll' := [(3, aI 0), (2, aI 4), (0, aR 3), (1, aR 1003)]) dX5_takeWord_44 (Nat.le_of_ble_eq_true rfl) rfl ?_
            refine j_sub [2, 3, 1, 0] rfl ?_
            exact h
          · replace h := h.2 c7
            refine j_iconst (x := 1) dX5_isLetter_39 rfl (i32_c rfl) ?_
            refine j_goto (tgt := 44) dX5_isLetter_40 (by decide) ?_
            refine j_zret dX5_isLetter_44 rfl ⟨Nat.le_of_ble_eq_true rfl, Nat.le_of_ble_eq_true rfl⟩ (by decide) ?_
            refine j_if_eq (tgt := 43) dX5_takeWord_38 (by decide) (fun c => absurd c (by decide)) (fun _ => ?_)
            refine j_iconst (x := 0) dX5_takeWord_41 rfl (i32_c rfl) ?_
            exact j_zret dX5_takeWord_42 rfl ⟨Nat.le_of_ble_eq_true rfl, Nat.le_of_ble_eq_true rfl⟩ (by decide) h
theorem E_X5_takeWord_3_1003 {post : Int → ax_M → Prop} {M : ax_M} (h : ax_mr SH M → ax_Ti Y_X5_atEnd [aR 3] SH M (fun z2 u1 => (((¬ z2 = 0) → post 0 u1) ∧ ((z2 = 0) → (-2147483648 ≤ ((u1 3 2) + 4) ∧ ((u1 3 2) + 4) ≤ 2147483647) ∧ ((((u1 1 1) < ((u1 3 2) + 4)) → post 0 u1) ∧ ((((u1 3 2) + 4) ≤ (u1 1 1)) → ((((u1 1 1) ≤ ((u1 3 2) + 4)) → ax_J Y_X5_takeWord (ax_Ki Y_X5_takeWord SH post) 0 0 45 [(0, aR 3), (1, aR 1003), (2, aI 4), (3, aI 0)] [] SH u1) ∧ ((((u1 3 2) + 4) < (u1 1 1)) → (0 ≤ ((u1 3 2) + 4) ∧ ((u1 3 2) + 4) < 400) ∧ ((((u1 2 ((u1 3 2) + 4)) < 97) → ax_J Y_X5_takeWord (ax_Ki Y_X5_takeWord SH post) 0 0 45 [(0, aR 3), (1, aR 1003), (2, aI 4), (3, aI 0)] [] SH u1) ∧ ((97 ≤ (u1 2 ((u1 3 2) + 4))) → (((122 < (u1 2 ((u1 3 2) + 4))) → ax_J Y_X5_takeWord (ax_Ki Y_X5_takeWord SH post) 0 0 45 [(0, aR 3), (1, aR 1003), (2, aI 4), (3, aI 0)] [] SH u1) ∧ (((u1 2 ((u1 3 2) + 4)) ≤ 122) → post 0 u1)))))))))))) : ax_Ti Y_X5_takeWord [aR 3, aR 1003] SH M post :=
  ti_of rfl (Nat.le_of_ble_eq_true rfl) rfl (fun q => B_X5_takeWord_3_1003_0 (h q))
set_option maxRecDepth 100000 in
set_option maxHeartbeats 4000000 in
theorem B_X5_takeWord_3_1003_45 {post : Int → ax_M → Prop} {M : ax_M} {x2 x3 : Int} (h : (((x2 ≤ x3) → (-2147483648 ≤ ((M 3 2) + x2) ∧ ((M 3 2) + x2) ≤ 2147483647) ∧ post 1 (ax_up M 3 2 ((M 3 2) + x2))) ∧ ((x3 < x2) → (-2147483648 ≤ ((M 3 2) + x3) ∧ ((M 3 2) + x3) ≤ 2147483647) ∧ (0 ≤ ((M 3 2) + x3) ∧ ((M 3 2) + x3) < 400) ∧ (0 ≤ x3 ∧ x3 < 4) ∧ ((((M 2 ((M 3 2) + x3)) = (ax_chr 3 x3)) → (-2147483648 ≤ (x3 + 1) ∧ (x3 + 1) ≤ 2147483647) ∧ ax_J Y_X5_takeWord (ax_Ki Y_X5_takeWord SH post) 0 0 45 [(0, aR 3), (1, aR 1003), (2, aI x2), (3, aI (x3 + 1))] [] SH M) ∧ ((¬ (M 2 ((M 3 2) + x3)) = (ax_chr 3 x3)) → post 0 M))))) : ax_J Y_X5_takeWord (ax_Ki Y_X5_takeWord SH post) 0 0 45 [(0, aR 3), (1, aR 1003), (2, aI x2), (3, aI x3)] [] SH M := by
  refine j_iload_n 3 dX5_takeWord_45 rfl ?_
  refine j_iload_n 2 dX5_takeWord_46 rfl ?_
  refine j_icmp_ge (tgt := 80) dX5_takeWord_47 (by decide) (fun c1 => ?_) (fun c1 => ?_)
  · replace h := h.1 c1
    refine j_aload_n 0 dX5_takeWord_80 rfl ?_
    refine j_dup dX5_takeWord_81 rfl ?_
    refine j_geti (i := 2) dX5_takeWord_82 f_X5_26 sh_3 rfl rfl (fun _ => ?_)
    refine j_iload_n 2 dX5_takeWord_85 rfl ?_
    obtain ⟨o2, h⟩ := h
    refine j_iadd (z := ((M 3 2) + x2)) dX5_takeWord_86 rfl o2 ?_
    refine j_puti (i := 2) dX5_takeWord_87 p_X5_26 (fun h => by cases h) sh_3 rfl rfl ?_
    refine j_iconst (x := 1) dX5_takeWord_90 rfl (i32_c rfl) ?_
    exact j_zret dX5_takeWord_91 rfl ⟨Nat.le_of_ble_eq_true rfl, Nat.le_of_ble_eq_true rfl⟩ (by decide) h
  · replace h := h.2 c1
    refine j_aload_n 0 dX5_takeWord_50 rfl ?_
    refine j_getc 1 dX5_takeWord_51 f_X5_22 sh_3 rfl ?_
    refine j_getc 2 dX5_takeWord_54 f_X5_104 sh_1 rfl ?_
    refine j_aload_n 0 dX5_takeWord_57 rfl ?_
    refine j_geti (i := 2) dX5_takeWord_58 f_X5_26 sh_3 rfl rfl (fun _ => ?_)
    refine j_iload_n 3 dX5_takeWord_61 rfl ?_
    obtain ⟨o3, h⟩ := h
    refine j_iadd (z := ((M 3 2) + x3)) dX5_takeWord_62 rfl o3 ?_
    obtain ⟨o4, h⟩ := h
    refine j_bald dX5_takeWord_63 sh_2 o4.1 o4.2 (fun _ => ?_)
    refine j_aload_n 1 dX5_takeWord_64 rfl ?_
    refine j_iload_n 3 dX5_takeWord_65 rfl ?_
    obtain ⟨o5, h⟩ := h
    refine j_schar (i := 3) (n := 4) dX5_takeWord_66 rfl (Nat.le_of_ble_eq_true rfl) (by decide) (Nat.le_of_ble_eq_true rfl) rfl o5 ?_
    refine j_icmp_eq (tgt := 74) dX5_takeWord_69 (by decide) (fun c6 => ?_) (fun c6 => ?_)
    · replace h := h.1 c6
      obtain ⟨o7, h⟩ := h
      refine j_iinc (ll' := [(3, aI (x3 + 1)), (0, aR 3), (1, aR 1003), (2, aI x2)]) 3 dX5_takeWord_74 rfl (Nat.le_of_ble_eq_true rfl) o7 rfl ?_
      refine j_goto (tgt := 45) dX5_takeWord_77 (by decide) ?_
      refine j_sub [1, 2, 3, 0] rfl ?_
      exact h
    · replace h := h.2 c6
      refine j_iconst (x := 0) dX5_takeWord_72 rfl (i32_c rfl) ?_
      exact j_zret dX5_takeWord_73 rfl ⟨Nat.le_of_ble_eq_true rfl, Nat.le_of_ble_eq_true rfl⟩ (by decide) h
set_option maxRecDepth 100000 in
set_option maxHeartbeats 4000000 in
theorem B_X5_takeWord_3_1004_0 {post : Int → ax_M → Prop} {M : ax_M} (h : ax_Ti Y_X5_atEnd [aR 3] SH M (fun z2 u1 => (((¬ z2 = 0) → post 0 u1) ∧ ((z2 = 0) → (-2147483648 ≤ ((u1 3 2) + 4) ∧ ((u1 3 2) + 4) ≤ 2147483647) ∧ ((((u1 1 1) < ((u1 3 2) + 4)) → post 0 u1) ∧ ((((u1 3 2) + 4) ≤ (u1 1 1)) → ((((u1 1 1) ≤ ((u1 3 2) + 4)) → ax_J Y_X5_takeWord (ax_Ki Y_X5_takeWord SH post) 0 0 45 [(0, aR 3), (1, aR 1004), (2, aI 4), (3, aI 0)] [] SH u1) ∧ ((((u1 3 2) + 4) < (u1 1 1)) → (0 ≤ ((u1 3 2) + 4) ∧ ((u1 3 2) + 4) < 400) ∧ ((((u1 2 ((u1 3 2) + 4)) < 97) → ax_J Y_X5_takeWord (ax_Ki Y_X5_takeWord SH post) 0 0 45 [(0, aR 3), (1, aR 1004), (2, aI 4), (3, aI 0)] [] SH u1) ∧ ((97 ≤ (u1 2 ((u1 3 2) + 4))) → (((122 < (u1 2 ((u1 3 2) + 4))) → ax_J Y_X5_takeWord (ax_Ki Y_X5_takeWord SH post) 0 0 45 [(0, aR 3), (1, aR 1004), (2, aI 4), (3, aI 0)] [] SH u1) ∧ (((u1 2 ((u1 3 2) + 4)) ≤ 122) → post 0 u1)))))))))))) : ax_J Y_X5_takeWord (ax_Ki Y_X5_takeWord SH post) 0 0 0 [(0, aR 3), (1, aR 1004)] [] SH M := by
  refine j_aload_n 1 dX5_takeWord_0 rfl ?_
  refine j_slen (i := 4) (v := 4) dX5_takeWord_1 rfl (Nat.le_of_ble_eq_true rfl) (by decide) (Nat.le_of_ble_eq_true rfl) rfl ?_
  refine j_istore_n (ll' := [(2, aI 4), (0, aR 3), (1, aR 1004)]) dX5_takeWord_4 (Nat.le_of_ble_eq_true rfl) rfl ?_
  refine j_aload_n 1 dX5_takeWord_5 rfl ?_
  refine j_calliV (Yc := Y_X5_atEnd) (as := []) (rest := []) dX5_takeWord_6 q_X5_38 ⟨Nat.le_of_ble_eq_true rfl, Nat.le_of_ble_eq_true rfl, Nat.le_of_ble_eq_true rfl, Nat.le_of_ble_eq_true rfl⟩ sh_3 rfl (Nat.le_of_ble_eq_true rfl) rfl (ti_mono h (fun z2 u1 h => ?_))
  refine j_if_ne (tgt := 41) dX5_takeWord_9 (by decide) (fun c1 => ?_) (fun c1 => ?_)
  · replace h := h.1 c1
    refine j_iconst (x := 0) dX5_takeWord_41 rfl (i32_c rfl) ?_
    exact j_zret dX5_takeWord_42 rfl ⟨Nat.le_of_ble_eq_true rfl, Nat.le_of_ble_eq_true rfl⟩ (by decide) h
  · replace h := h.2 c1
    refine j_aload_n 1 dX5_takeWord_12 rfl ?_
    refine j_geti (i := 2) dX5_takeWord_13 f_X5_26 sh_3 rfl rfl (fun _ => ?_)
    refine j_iload_n 0 dX5_takeWord_16 rfl ?_
    obtain ⟨o2, h⟩ := h
    refine j_iadd (z := ((u1 3 2) + 4)) dX5_takeWord_17 rfl o2 ?_
    refine j_aload_n 1 dX5_takeWord_18 rfl ?_
    refine j_getc 1 dX5_takeWord_19 f_X5_22 sh_3 rfl ?_
    refine j_geti (i := 1) dX5_takeWord_22 f_X5_99 sh_1 rfl rfl (fun _ => ?_)
    refine j_icmp_gt (tgt := 41) dX5_takeWord_25 (by decide) (fun c3 => ?_) (fun c3 => ?_)
    · replace h := h.1 c3
      refine j_iconst (x := 0) dX5_takeWord_41 rfl (i32_c rfl) ?_
      exact j_zret dX5_takeWord_42 rfl ⟨Nat.le_of_ble_eq_true rfl, Nat.le_of_ble_eq_true rfl⟩ (by decide) h
    · replace h := h.2 c3
      refine j_aload_n 1 dX5_takeWord_28 rfl ?_
      refine j_aload_n 1 dX5_takeWord_29 rfl ?_
      refine j_geti (i := 2) dX5_takeWord_30 f_X5_26 sh_3 rfl rfl (fun _ => ?_)
      refine j_iload_n 0 dX5_takeWord_33 rfl ?_
      refine j_iadd (z := ((u1 3 2) + 4)) dX5_takeWord_34 rfl o2 ?_
      refine j_calliV (Yc := Y_X5_isLetter) (as := [aI ((u1 3 2) + 4)]) (rest := []) dX5_takeWord_35 q_X5_114 ⟨Nat.le_of_ble_eq_true rfl, Nat.le_of_ble_eq_true rfl, Nat.le_of_ble_eq_true rfl, Nat.le_of_ble_eq_true rfl⟩ sh_3 rfl (Nat.le_of_ble_eq_true rfl) rfl (ti_of (ll := [(0, aR 3), (1, aI ((u1 3 2) + 4))]) rfl (Nat.le_of_ble_eq_true rfl) rfl (fun _ => ?_))
      refine j_iload_n 1 dX5_isLetter_0 rfl ?_
      refine j_aload_n 0 dX5_isLetter_1 rfl ?_
      refine j_getc 1 dX5_isLetter_2 f_X5_22 sh_3 rfl ?_
      refine j_geti (i := 1) dX5_isLetter_5 f_X5_99 sh_1 rfl rfl (fun _ => ?_)
      refine j_icmp_ge (tgt := 43) dX5_isLetter_8 (by decide) (fun c4 => ?_) (fun c4 => ?_)
      · replace h := h.1 c4
        refine j_iconst (x := 0) dX5_isLetter_43 rfl (i32_c rfl) ?_
        refine j_zret dX5_isLetter_44 rfl ⟨Nat.le_of_ble_eq_true rfl, Nat.le_of_ble_eq_true rfl⟩ (by decide) ?_
        refine j_if_eq (tgt := 43) dX5_takeWord_38 (by decide) (fun _ => ?_) (fun c => absurd c (by decide))
        refine j_iconst (x := 0) dX5_takeWord_43 rfl (i32_c rfl) ?_
        refine j_istore_n (ll' := [(3, aI 0), (2, aI 4), (0, aR 3), (1, aR 1004)]) dX5_takeWord_44 (Nat.le_of_ble_eq_true rfl) rfl ?_
        refine j_sub [2, 3, 1, 0] rfl ?_
        exact h
      · replace h := h.2 c4
        refine j_aload_n 0 dX5_isLetter_11 rfl ?_
        refine j_getc 1 dX5_isLetter_12 f_X5_22 sh_3 rfl ?_
        refine j_getc 2 dX5_isLetter_15 f_X5_104 sh_1 rfl ?_
        refine j_iload_n 1 dX5_isLetter_18 rfl ?_
        obtain ⟨o5, h⟩ := h
        refine j_bald dX5_isLetter_19 sh_2 o5.1 o5.2 (fun _ => ?_)
        refine j_bipush (x := 97) dX5_isLetter_20 rfl (i32_c rfl) ?_
        refine j_icmp_lt (tgt := 43) dX5_isLetter_22 (by decide) (fun c6 => ?_) (fun c6 => ?_)
        · replace h := h.1 c6
          refine j_iconst (x := 0) dX5_isLetter_43 rfl (i32_c rfl) ?_
          refine j_zret dX5_isLetter_44 rfl ⟨Nat.le_of_ble_eq_true rfl, Nat.le_of_ble_eq_true rfl⟩ (by decide) ?_
          refine j_if_eq (tgt := 43) dX5_takeWord_38 (by decide) (fun _ => ?_) (fun c => absurd c (by decide))
          refine j_iconst (x := 0) dX5_takeWord_43 rfl (i32_c rfl) ?_
          refine j_istore_n (ll' := [(3, aI 0), (2, aI 4), (0, aR 3), (1, aR 1004)]) dX5_takeWord_44 (Nat.le_of_ble_eq_true rfl) rfl ?_
          refine j_sub [2, 3, 1, 0] rfl ?_
          exact h
        · replace h := h.2 c6
          refine j_aload_n 0 dX5_isLetter_25 rfl ?_
          refine j_getc 1 dX5_isLetter_26 f_X5_22 sh_3 rfl ?_
          refine j_getc 2 dX5_isLetter_29 f_X5_104 sh_1 rfl ?_
          refine j_iload_n 1 dX5_isLetter_32 rfl ?_
          refine j_bald dX5_isLetter_33 sh_2 o5.1 o5.2 (fun _ => ?_)
          refine j_bipush (x := 122) dX5_isLetter_34 rfl (i32_c rfl) ?_
          refine j_icmp_gt (tgt := 43) dX5_isLetter_36 (by decide) (fun c7 => ?_) (fun c7 => ?_)
          · replace h := h.1 c7
            refine j_iconst (x := 0) dX5_isLetter_43 rfl (i32_c rfl) ?_
            refine j_zret dX5_isLetter_44 rfl ⟨Nat.le_of_ble_eq_true rfl, Nat.le_of_ble_eq_true rfl⟩ (by decide) ?_
            refine j_if_eq (tgt := 43) dX5_takeWord_38 (by decide) (fun _ => ?_) (fun c => absurd c (by decide))
            refine j_iconst (x := 0) dX5_takeWord_43 rfl (i32_c rfl) ?_
            refine j_istore_n (ll' := [(3, aI 0), (2, aI 4), (0, aR 3), (1, aR 1004)]) dX5_takeWord_44 (Nat.le_of_ble_eq_true rfl) rfl ?_
            refine j_sub [2, 3, 1, 0] rfl ?_
            exact h
          · replace h := h.2 c7
            refine j_iconst (x := 1) dX5_isLetter_39 rfl (i32_c rfl) ?_
            refine j_goto (tgt := 44) dX5_isLetter_40 (by decide) ?_
            refine j_zret dX5_isLetter_44 rfl ⟨Nat.le_of_ble_eq_true rfl, Nat.le_of_ble_eq_true rfl⟩ (by decide) ?_
            refine j_if_eq (tgt := 43) dX5_takeWord_38 (by decide) (fun c => absurd c (by decide)) (fun _ => ?_)
            refine j_iconst (x := 0) dX5_takeWord_41 rfl (i32_c rfl) ?_
            exact j_zret dX5_takeWord_42 rfl ⟨Nat.le_of_ble_eq_true rfl, Nat.le_of_ble_eq_true rfl⟩ (by decide) h
theorem E_X5_takeWord_3_1004 {post : Int → ax_M → Prop} {M : ax_M} (h : ax_mr SH M → ax_Ti Y_X5_atEnd [aR 3] SH M (fun z2 u1 => (((¬ z2 = 0) → post 0 u1) ∧ ((z2 = 0) → (-2147483648 ≤ ((u1 3 2) + 4) ∧ ((u1 3 2) + 4) ≤ 2147483647) ∧ ((((u1 1 1) < ((u1 3 2) + 4)) → post 0 u1) ∧ ((((u1 3 2) + 4) ≤ (u1 1 1)) → ((((u1 1 1) ≤ ((u1 3 2) + 4)) → ax_J Y_X5_takeWord (ax_Ki Y_X5_takeWord SH post) 0 0 45 [(0, aR 3), (1, aR 1004), (2, aI 4), (3, aI 0)] [] SH u1) ∧ ((((u1 3 2) + 4) < (u1 1 1)) → (0 ≤ ((u1 3 2) + 4) ∧ ((u1 3 2) + 4) < 400) ∧ ((((u1 2 ((u1 3 2) + 4)) < 97) → ax_J Y_X5_takeWord (ax_Ki Y_X5_takeWord SH post) 0 0 45 [(0, aR 3), (1, aR 1004), (2, aI 4), (3, aI 0)] [] SH u1) ∧ ((97 ≤ (u1 2 ((u1 3 2) + 4))) → (((122 < (u1 2 ((u1 3 2) + 4))) → ax_J Y_X5_takeWord (ax_Ki Y_X5_takeWord SH post) 0 0 45 [(0, aR 3), (1, aR 1004), (2, aI 4), (3, aI 0)] [] SH u1) ∧ (((u1 2 ((u1 3 2) + 4)) ≤ 122) → post 0 u1)))))))))))) : ax_Ti Y_X5_takeWord [aR 3, aR 1004] SH M post :=
  ti_of rfl (Nat.le_of_ble_eq_true rfl) rfl (fun q => B_X5_takeWord_3_1004_0 (h q))
set_option maxRecDepth 100000 in
set_option maxHeartbeats 4000000 in
theorem B_X5_takeWord_3_1004_45 {post : Int → ax_M → Prop} {M : ax_M} {x2 x3 : Int} (h : (((x2 ≤ x3) → (-2147483648 ≤ ((M 3 2) + x2) ∧ ((M 3 2) + x2) ≤ 2147483647) ∧ post 1 (ax_up M 3 2 ((M 3 2) + x2))) ∧ ((x3 < x2) → (-2147483648 ≤ ((M 3 2) + x3) ∧ ((M 3 2) + x3) ≤ 2147483647) ∧ (0 ≤ ((M 3 2) + x3) ∧ ((M 3 2) + x3) < 400) ∧ (0 ≤ x3 ∧ x3 < 4) ∧ ((((M 2 ((M 3 2) + x3)) = (ax_chr 4 x3)) → (-2147483648 ≤ (x3 + 1) ∧ (x3 + 1) ≤ 2147483647) ∧ ax_J Y_X5_takeWord (ax_Ki Y_X5_takeWord SH post) 0 0 45 [(0, aR 3), (1, aR 1004), (2, aI x2), (3, aI (x3 + 1))] [] SH M) ∧ ((¬ (M 2 ((M 3 2) + x3)) = (ax_chr 4 x3)) → post 0 M))))) : ax_J Y_X5_takeWord (ax_Ki Y_X5_takeWord SH post) 0 0 45 [(0, aR 3), (1, aR 1004), (2, aI x2), (3, aI x3)] [] SH M := by
  refine j_iload_n 3 dX5_takeWord_45 rfl ?_
  refine j_iload_n 2 dX5_takeWord_46 rfl ?_
  refine j_icmp_ge (tgt := 80) dX5_takeWord_47 (by decide) (fun c1 => ?_) (fun c1 => ?_)
  · replace h := h.1 c1
    refine j_aload_n 0 dX5_takeWord_80 rfl ?_
    refine j_dup dX5_takeWord_81 rfl ?_
    refine j_geti (i := 2) dX5_takeWord_82 f_X5_26 sh_3 rfl rfl (fun _ => ?_)
    refine j_iload_n 2 dX5_takeWord_85 rfl ?_
    obtain ⟨o2, h⟩ := h
    refine j_iadd (z := ((M 3 2) + x2)) dX5_takeWord_86 rfl o2 ?_
    refine j_puti (i := 2) dX5_takeWord_87 p_X5_26 (fun h => by cases h) sh_3 rfl rfl ?_
    refine j_iconst (x := 1) dX5_takeWord_90 rfl (i32_c rfl) ?_
    exact j_zret dX5_takeWord_91 rfl ⟨Nat.le_of_ble_eq_true rfl, Nat.le_of_ble_eq_true rfl⟩ (by decide) h
  · replace h := h.2 c1
    refine j_aload_n 0 dX5_takeWord_50 rfl ?_
    refine j_getc 1 dX5_takeWord_51 f_X5_22 sh_3 rfl ?_
    refine j_getc 2 dX5_takeWord_54 f_X5_104 sh_1 rfl ?_
    refine j_aload_n 0 dX5_takeWord_57 rfl ?_
    refine j_geti (i := 2) dX5_takeWord_58 f_X5_26 sh_3 rfl rfl (fun _ => ?_)
    refine j_iload_n 3 dX5_takeWord_61 rfl ?_
    obtain ⟨o3, h⟩ := h
    refine j_iadd (z := ((M 3 2) + x3)) dX5_takeWord_62 rfl o3 ?_
    obtain ⟨o4, h⟩ := h
    refine j_bald dX5_takeWord_63 sh_2 o4.1 o4.2 (fun _ => ?_)
    refine j_aload_n 1 dX5_takeWord_64 rfl ?_
    refine j_iload_n 3 dX5_takeWord_65 rfl ?_
    obtain ⟨o5, h⟩ := h
    refine j_schar (i := 4) (n := 4) dX5_takeWord_66 rfl (Nat.le_of_ble_eq_true rfl) (by decide) (Nat.le_of_ble_eq_true rfl) rfl o5 ?_
    refine j_icmp_eq (tgt := 74) dX5_takeWord_69 (by decide) (fun c6 => ?_) (fun c6 => ?_)
    · replace h := h.1 c6
      obtain ⟨o7, h⟩ := h
      refine j_iinc (ll' := [(3, aI (x3 + 1)), (0, aR 3), (1, aR 1004), (2, aI x2)]) 3 dX5_takeWord_74 rfl (Nat.le_of_ble_eq_true rfl) o7 rfl ?_
      refine j_goto (tgt := 45) dX5_takeWord_77 (by decide) ?_
      refine j_sub [1, 2, 3, 0] rfl ?_
      exact h
    · replace h := h.2 c6
      refine j_iconst (x := 0) dX5_takeWord_72 rfl (i32_c rfl) ?_
      exact j_zret dX5_takeWord_73 rfl ⟨Nat.le_of_ble_eq_true rfl, Nat.le_of_ble_eq_true rfl⟩ (by decide) h
set_option maxRecDepth 100000 in
set_option maxHeartbeats 4000000 in
theorem B_X5_takeWord_3_1005_0 {post : Int → ax_M → Prop} {M : ax_M} (h : ax_Ti Y_X5_atEnd [aR 3] SH M (fun z2 u1 => (((¬ z2 = 0) → post 0 u1) ∧ ((z2 = 0) → (-2147483648 ≤ ((u1 3 2) + 5) ∧ ((u1 3 2) + 5) ≤ 2147483647) ∧ ((((u1 1 1) < ((u1 3 2) + 5)) → post 0 u1) ∧ ((((u1 3 2) + 5) ≤ (u1 1 1)) → ((((u1 1 1) ≤ ((u1 3 2) + 5)) → ax_J Y_X5_takeWord (ax_Ki Y_X5_takeWord SH post) 0 0 45 [(0, aR 3), (1, aR 1005), (2, aI 5), (3, aI 0)] [] SH u1) ∧ ((((u1 3 2) + 5) < (u1 1 1)) → (0 ≤ ((u1 3 2) + 5) ∧ ((u1 3 2) + 5) < 400) ∧ ((((u1 2 ((u1 3 2) + 5)) < 97) → ax_J Y_X5_takeWord (ax_Ki Y_X5_takeWord SH post) 0 0 45 [(0, aR 3), (1, aR 1005), (2, aI 5), (3, aI 0)] [] SH u1) ∧ ((97 ≤ (u1 2 ((u1 3 2) + 5))) → (((122 < (u1 2 ((u1 3 2) + 5))) → ax_J Y_X5_takeWord (ax_Ki Y_X5_takeWord SH post) 0 0 45 [(0, aR 3), (1, aR 1005), (2, aI 5), (3, aI 0)] [] SH u1) ∧ (((u1 2 ((u1 3 2) + 5)) ≤ 122) → post 0 u1)))))))))))) : ax_J Y_X5_takeWord (ax_Ki Y_X5_takeWord SH post) 0 0 0 [(0, aR 3), (1, aR 1005)] [] SH M := by
  refine j_aload_n 1 dX5_takeWord_0 rfl ?_
  refine j_slen (i := 5) (v := 5) dX5_takeWord_1 rfl (Nat.le_of_ble_eq_true rfl) (by decide) (Nat.le_of_ble_eq_true rfl) rfl ?_
  refine j_istore_n (ll' := [(2, aI 5), (0, aR 3), (1, aR 1005)]) dX5_takeWord_4 (Nat.le_of_ble_eq_true rfl) rfl ?_
  refine j_aload_n 1 dX5_takeWord_5 rfl ?_
  refine j_calliV (Yc := Y_X5_atEnd) (as := []) (rest := []) dX5_takeWord_6 q_X5_38 ⟨Nat.le_of_ble_eq_true rfl, Nat.le_of_ble_eq_true rfl, Nat.le_of_ble_eq_true rfl, Nat.le_of_ble_eq_true rfl⟩ sh_3 rfl (Nat.le_of_ble_eq_true rfl) rfl (ti_mono h (fun z2 u1 h => ?_))
  refine j_if_ne (tgt := 41) dX5_takeWord_9 (by decide) (fun c1 => ?_) (fun c1 => ?_)
  · replace h := h.1 c1
    refine j_iconst (x := 0) dX5_takeWord_41 rfl (i32_c rfl) ?_
    exact j_zret dX5_takeWord_42 rfl ⟨Nat.le_of_ble_eq_true rfl, Nat.le_of_ble_eq_true rfl⟩ (by decide) h
  · replace h := h.2 c1
    refine j_aload_n 1 dX5_takeWord_12 rfl ?_
    refine j_geti (i := 2) dX5_takeWord_13 f_X5_26 sh_3 rfl rfl (fun _ => ?_)
    refine j_iload_n 0 dX5_takeWord_16 rfl ?_
    obtain ⟨o2, h⟩ := h
    refine j_iadd (z := ((u1 3 2) + 5)) dX5_takeWord_17 rfl o2 ?_
    refine j_aload_n 1 dX5_takeWord_18 rfl ?_
    refine j_getc 1 dX5_takeWord_19 f_X5_22 sh_3 rfl ?_
    refine j_geti (i := 1) dX5_takeWord_22 f_X5_99 sh_1 rfl rfl (fun _ => ?_)
    refine j_icmp_gt (tgt := 41) dX5_takeWord_25 (by decide) (fun c3 => ?_) (fun c3 => ?_)
    · replace h := h.1 c3
      refine j_iconst (x := 0) dX5_takeWord_41 rfl (i32_c rfl) ?_
      exact j_zret dX5_takeWord_42 rfl ⟨Nat.le_of_ble_eq_true rfl, Nat.le_of_ble_eq_true rfl⟩ (by decide) h
    · replace h := h.2 c3
      refine j_aload_n 1 dX5_takeWord_28 rfl ?_
      refine j_aload_n 1 dX5_takeWord_29 rfl ?_
      refine j_geti (i := 2) dX5_takeWord_30 f_X5_26 sh_3 rfl rfl (fun _ => ?_)
      refine j_iload_n 0 dX5_takeWord_33 rfl ?_
      refine j_iadd (z := ((u1 3 2) + 5)) dX5_takeWord_34 rfl o2 ?_
      refine j_calliV (Yc := Y_X5_isLetter) (as := [aI ((u1 3 2) + 5)]) (rest := []) dX5_takeWord_35 q_X5_114 ⟨Nat.le_of_ble_eq_true rfl, Nat.le_of_ble_eq_true rfl, Nat.le_of_ble_eq_true rfl, Nat.le_of_ble_eq_true rfl⟩ sh_3 rfl (Nat.le_of_ble_eq_true rfl) rfl (ti_of (ll := [(0, aR 3), (1, aI ((u1 3 2) + 5))]) rfl (Nat.le_of_ble_eq_true rfl) rfl (fun _ => ?_))
      refine j_iload_n 1 dX5_isLetter_0 rfl ?_
      refine j_aload_n 0 dX5_isLetter_1 rfl ?_
      refine j_getc 1 dX5_isLetter_2 f_X5_22 sh_3 rfl ?_
      refine j_geti (i := 1) dX5_isLetter_5 f_X5_99 sh_1 rfl rfl (fun _ => ?_)
      refine j_icmp_ge (tgt := 43) dX5_isLetter_8 (by decide) (fun c4 => ?_) (fun c4 => ?_)
      · replace h := h.1 c4
        refine j_iconst (x := 0) dX5_isLetter_43 rfl (i32_c rfl) ?_
        refine j_zret dX5_isLetter_44 rfl ⟨Nat.le_of_ble_eq_true rfl, Nat.le_of_ble_eq_true rfl⟩ (by decide) ?_
        refine j_if_eq (tgt := 43) dX5_takeWord_38 (by decide) (fun _ => ?_) (fun c => absurd c (by decide))
        refine j_iconst (x := 0) dX5_takeWord_43 rfl (i32_c rfl) ?_
        refine j_istore_n (ll' := [(3, aI 0), (2, aI 5), (0, aR 3), (1, aR 1005)]) dX5_takeWord_44 (Nat.le_of_ble_eq_true rfl) rfl ?_
        refine j_sub [2, 3, 1, 0] rfl ?_
        exact h
      · replace h := h.2 c4
        refine j_aload_n 0 dX5_isLetter_11 rfl ?_
        refine j_getc 1 dX5_isLetter_12 f_X5_22 sh_3 rfl ?_
        refine j_getc 2 dX5_isLetter_15 f_X5_104 sh_1 rfl ?_
        refine j_iload_n 1 dX5_isLetter_18 rfl ?_
        obtain ⟨o5, h⟩ := h
        refine j_bald dX5_isLetter_19 sh_2 o5.1 o5.2 (fun _ => ?_)
        refine j_bipush (x := 97) dX5_isLetter_20 rfl (i32_c rfl) ?_
        refine j_icmp_lt (tgt := 43) dX5_isLetter_22 (by decide) (fun c6 => ?_) (fun c6 => ?_)
        · replace h := h.1 c6
          refine j_iconst (x := 0) dX5_isLetter_43 rfl (i32_c rfl) ?_
          refine j_zret dX5_isLetter_44 rfl ⟨Nat.le_of_ble_eq_true rfl, Nat.le_of_ble_eq_true rfl⟩ (by decide) ?_
          refine j_if_eq (tgt := 43) dX5_takeWord_38 (by decide) (fun _ => ?_) (fun c => absurd c (by decide))
          refine j_iconst (x := 0) dX5_takeWord_43 rfl (i32_c rfl) ?_
          refine j_istore_n (ll' := [(3, aI 0), (2, aI 5), (0, aR 3), (1, aR 1005)]) dX5_takeWord_44 (Nat.le_of_ble_eq_true rfl) rfl ?_
          refine j_sub [2, 3, 1, 0] rfl ?_
          exact h
        · replace h := h.2 c6
          refine j_aload_n 0 dX5_isLetter_25 rfl ?_
          refine j_getc 1 dX5_isLetter_26 f_X5_22 sh_3 rfl ?_
          refine j_getc 2 dX5_isLetter_29 f_X5_104 sh_1 rfl ?_
          refine j_iload_n 1 dX5_isLetter_32 rfl ?_
          refine j_bald dX5_isLetter_33 sh_2 o5.1 o5.2 (fun _ => ?_)
          refine j_bipush (x := 122) dX5_isLetter_34 rfl (i32_c rfl) ?_
          refine j_icmp_gt (tgt := 43) dX5_isLetter_36 (by decide) (fun c7 => ?_) (fun c7 => ?_)
          · replace h := h.1 c7
            refine j_iconst (x := 0) dX5_isLetter_43 rfl (i32_c rfl) ?_
            refine j_zret dX5_isLetter_44 rfl ⟨Nat.le_of_ble_eq_true rfl, Nat.le_of_ble_eq_true rfl⟩ (by decide) ?_
            refine j_if_eq (tgt := 43) dX5_takeWord_38 (by decide) (fun _ => ?_) (fun c => absurd c (by decide))
            refine j_iconst (x := 0) dX5_takeWord_43 rfl (i32_c rfl) ?_
            refine j_istore_n (ll' := [(3, aI 0), (2, aI 5), (0, aR 3), (1, aR 1005)]) dX5_takeWord_44 (Nat.le_of_ble_eq_true rfl) rfl ?_
            refine j_sub [2, 3, 1, 0] rfl ?_
            exact h
          · replace h := h.2 c7
            refine j_iconst (x := 1) dX5_isLetter_39 rfl (i32_c rfl) ?_
            refine j_goto (tgt := 44) dX5_isLetter_40 (by decide) ?_
            refine j_zret dX5_isLetter_44 rfl ⟨Nat.le_of_ble_eq_true rfl, Nat.le_of_ble_eq_true rfl⟩ (by decide) ?_
            refine j_if_eq (tgt := 43) dX5_takeWord_38 (by decide) (fun c => absurd c (by decide)) (fun _ => ?_)
            refine j_iconst (x := 0) dX5_takeWord_41 rfl (i32_c rfl) ?_
            exact j_zret dX5_takeWord_42 rfl ⟨Nat.le_of_ble_eq_true rfl, Nat.le_of_ble_eq_true rfl⟩ (by decide) h
theorem E_X5_takeWord_3_1005 {post : Int → ax_M → Prop} {M : ax_M} (h : ax_mr SH M → ax_Ti Y_X5_atEnd [aR 3] SH M (fun z2 u1 => (((¬ z2 = 0) → post 0 u1) ∧ ((z2 = 0) → (-2147483648 ≤ ((u1 3 2) + 5) ∧ ((u1 3 2) + 5) ≤ 2147483647) ∧ ((((u1 1 1) < ((u1 3 2) + 5)) → post 0 u1) ∧ ((((u1 3 2) + 5) ≤ (u1 1 1)) → ((((u1 1 1) ≤ ((u1 3 2) + 5)) → ax_J Y_X5_takeWord (ax_Ki Y_X5_takeWord SH post) 0 0 45 [(0, aR 3), (1, aR 1005), (2, aI 5), (3, aI 0)] [] SH u1) ∧ ((((u1 3 2) + 5) < (u1 1 1)) → (0 ≤ ((u1 3 2) + 5) ∧ ((u1 3 2) + 5) < 400) ∧ ((((u1 2 ((u1 3 2) + 5)) < 97) → ax_J Y_X5_takeWord (ax_Ki Y_X5_takeWord SH post) 0 0 45 [(0, aR 3), (1, aR 1005), (2, aI 5), (3, aI 0)] [] SH u1) ∧ ((97 ≤ (u1 2 ((u1 3 2) + 5))) → (((122 < (u1 2 ((u1 3 2) + 5))) → ax_J Y_X5_takeWord (ax_Ki Y_X5_takeWord SH post) 0 0 45 [(0, aR 3), (1, aR 1005), (2, aI 5), (3, aI 0)] [] SH u1) ∧ (((u1 2 ((u1 3 2) + 5)) ≤ 122) → post 0 u1)))))))))))) : ax_Ti Y_X5_takeWord [aR 3, aR 1005] SH M post :=
  ti_of rfl (Nat.le_of_ble_eq_true rfl) rfl (fun q => B_X5_takeWord_3_1005_0 (h q))
set_option maxRecDepth 100000 in
set_option maxHeartbeats 4000000 in
theorem B_X5_takeWord_3_1005_45 {post : Int → ax_M → Prop} {M : ax_M} {x2 x3 : Int} (h : (((x2 ≤ x3) → (-2147483648 ≤ ((M 3 2) + x2) ∧ ((M 3 2) + x2) ≤ 2147483647) ∧ post 1 (ax_up M 3 2 ((M 3 2) + x2))) ∧ ((x3 < x2) → (-2147483648 ≤ ((M 3 2) + x3) ∧ ((M 3 2) + x3) ≤ 2147483647) ∧ (0 ≤ ((M 3 2) + x3) ∧ ((M 3 2) + x3) < 400) ∧ (0 ≤ x3 ∧ x3 < 5) ∧ ((((M 2 ((M 3 2) + x3)) = (ax_chr 5 x3)) → (-2147483648 ≤ (x3 + 1) ∧ (x3 + 1) ≤ 2147483647) ∧ ax_J Y_X5_takeWord (ax_Ki Y_X5_takeWord SH post) 0 0 45 [(0, aR 3), (1, aR 1005), (2, aI x2), (3, aI (x3 + 1))] [] SH M) ∧ ((¬ (M 2 ((M 3 2) + x3)) = (ax_chr 5 x3)) → post 0 M))))) : ax_J Y_X5_takeWord (ax_Ki Y_X5_takeWord SH post) 0 0 45 [(0, aR 3), (1, aR 1005), (2, aI x2), (3, aI x3)] [] SH M := by
  refine j_iload_n 3 dX5_takeWord_45 rfl ?_
  refine j_iload_n 2 dX5_takeWord_46 rfl ?_
  refine j_icmp_ge (tgt := 80) dX5_takeWord_47 (by decide) (fun c1 => ?_) (fun c1 => ?_)
  · replace h := h.1 c1
    refine j_aload_n 0 dX5_takeWord_80 rfl ?_
    refine j_dup dX5_takeWord_81 rfl ?_
    refine j_geti (i := 2) dX5_takeWord_82 f_X5_26 sh_3 rfl rfl (fun _ => ?_)
    refine j_iload_n 2 dX5_takeWord_85 rfl ?_
    obtain ⟨o2, h⟩ := h
    refine j_iadd (z := ((M 3 2) + x2)) dX5_takeWord_86 rfl o2 ?_
    refine j_puti (i := 2) dX5_takeWord_87 p_X5_26 (fun h => by cases h) sh_3 rfl rfl ?_
    refine j_iconst (x := 1) dX5_takeWord_90 rfl (i32_c rfl) ?_
    exact j_zret dX5_takeWord_91 rfl ⟨Nat.le_of_ble_eq_true rfl, Nat.le_of_ble_eq_true rfl⟩ (by decide) h
  · replace h := h.2 c1
    refine j_aload_n 0 dX5_takeWord_50 rfl ?_
    refine j_getc 1 dX5_takeWord_51 f_X5_22 sh_3 rfl ?_
    refine j_getc 2 dX5_takeWord_54 f_X5_104 sh_1 rfl ?_
    refine j_aload_n 0 dX5_takeWord_57 rfl ?_
    refine j_geti (i := 2) dX5_takeWord_58 f_X5_26 sh_3 rfl rfl (fun _ => ?_)
    refine j_iload_n 3 dX5_takeWord_61 rfl ?_
    obtain ⟨o3, h⟩ := h
    refine j_iadd (z := ((M 3 2) + x3)) dX5_takeWord_62 rfl o3 ?_
    obtain ⟨o4, h⟩ := h
    refine j_bald dX5_takeWord_63 sh_2 o4.1 o4.2 (fun _ => ?_)
    refine j_aload_n 1 dX5_takeWord_64 rfl ?_
    refine j_iload_n 3 dX5_takeWord_65 rfl ?_
    obtain ⟨o5, h⟩ := h
    refine j_schar (i := 5) (n := 5) dX5_takeWord_66 rfl (Nat.le_of_ble_eq_true rfl) (by decide) (Nat.le_of_ble_eq_true rfl) rfl o5 ?_
    refine j_icmp_eq (tgt := 74) dX5_takeWord_69 (by decide) (fun c6 => ?_) (fun c6 => ?_)
    · replace h := h.1 c6
      obtain ⟨o7, h⟩ := h
      refine j_iinc (ll' := [(3, aI (x3 + 1)), (0, aR 3), (1, aR 1005), (2, aI x2)]) 3 dX5_takeWord_74 rfl (Nat.le_of_ble_eq_true rfl) o7 rfl ?_
      refine j_goto (tgt := 45) dX5_takeWord_77 (by decide) ?_
      refine j_sub [1, 2, 3, 0] rfl ?_
      exact h
    · replace h := h.2 c6
      refine j_iconst (x := 0) dX5_takeWord_72 rfl (i32_c rfl) ?_
      exact j_zret dX5_takeWord_73 rfl ⟨Nat.le_of_ble_eq_true rfl, Nat.le_of_ble_eq_true rfl⟩ (by decide) h
set_option maxRecDepth 100000 in
set_option maxHeartbeats 4000000 in
theorem B_X5_takeWord_3_1006_0 {post : Int → ax_M → Prop} {M : ax_M} (h : ax_Ti Y_X5_atEnd [aR 3] SH M (fun z2 u1 => (((¬ z2 = 0) → post 0 u1) ∧ ((z2 = 0) → (-2147483648 ≤ ((u1 3 2) + 3) ∧ ((u1 3 2) + 3) ≤ 2147483647) ∧ ((((u1 1 1) < ((u1 3 2) + 3)) → post 0 u1) ∧ ((((u1 3 2) + 3) ≤ (u1 1 1)) → ((((u1 1 1) ≤ ((u1 3 2) + 3)) → ax_J Y_X5_takeWord (ax_Ki Y_X5_takeWord SH post) 0 0 45 [(0, aR 3), (1, aR 1006), (2, aI 3), (3, aI 0)] [] SH u1) ∧ ((((u1 3 2) + 3) < (u1 1 1)) → (0 ≤ ((u1 3 2) + 3) ∧ ((u1 3 2) + 3) < 400) ∧ ((((u1 2 ((u1 3 2) + 3)) < 97) → ax_J Y_X5_takeWord (ax_Ki Y_X5_takeWord SH post) 0 0 45 [(0, aR 3), (1, aR 1006), (2, aI 3), (3, aI 0)] [] SH u1) ∧ ((97 ≤ (u1 2 ((u1 3 2) + 3))) → (((122 < (u1 2 ((u1 3 2) + 3))) → ax_J Y_X5_takeWord (ax_Ki Y_X5_takeWord SH post) 0 0 45 [(0, aR 3), (1, aR 1006), (2, aI 3), (3, aI 0)] [] SH u1) ∧ (((u1 2 ((u1 3 2) + 3)) ≤ 122) → post 0 u1)))))))))))) : ax_J Y_X5_takeWord (ax_Ki Y_X5_takeWord SH post) 0 0 0 [(0, aR 3), (1, aR 1006)] [] SH M := by
  refine j_aload_n 1 dX5_takeWord_0 rfl ?_
  refine j_slen (i := 6) (v := 3) dX5_takeWord_1 rfl (Nat.le_of_ble_eq_true rfl) (by decide) (Nat.le_of_ble_eq_true rfl) rfl ?_
  refine j_istore_n (ll' := [(2, aI 3), (0, aR 3), (1, aR 1006)]) dX5_takeWord_4 (Nat.le_of_ble_eq_true rfl) rfl ?_
  refine j_aload_n 1 dX5_takeWord_5 rfl ?_
  refine j_calliV (Yc := Y_X5_atEnd) (as := []) (rest := []) dX5_takeWord_6 q_X5_38 ⟨Nat.le_of_ble_eq_true rfl, Nat.le_of_ble_eq_true rfl, Nat.le_of_ble_eq_true rfl, Nat.le_of_ble_eq_true rfl⟩ sh_3 rfl (Nat.le_of_ble_eq_true rfl) rfl (ti_mono h (fun z2 u1 h => ?_))
  refine j_if_ne (tgt := 41) dX5_takeWord_9 (by decide) (fun c1 => ?_) (fun c1 => ?_)
  · replace h := h.1 c1
    refine j_iconst (x := 0) dX5_takeWord_41 rfl (i32_c rfl) ?_
    exact j_zret dX5_takeWord_42 rfl ⟨Nat.le_of_ble_eq_true rfl, Nat.le_of_ble_eq_true rfl⟩ (by decide) h
  · replace h := h.2 c1
    refine j_aload_n 1 dX5_takeWord_12 rfl ?_
    refine j_geti (i := 2) dX5_takeWord_13 f_X5_26 sh_3 rfl rfl (fun _ => ?_)
    refine j_iload_n 0 dX5_takeWord_16 rfl ?_
    obtain ⟨o2, h⟩ := h
    refine j_iadd (z := ((u1 3 2) + 3)) dX5_takeWord_17 rfl o2 ?_
    refine j_aload_n 1 dX5_takeWord_18 rfl ?_
    refine j_getc 1 dX5_takeWord_19 f_X5_22 sh_3 rfl ?_
    refine j_geti (i := 1) dX5_takeWord_22 f_X5_99 sh_1 rfl rfl (fun _ => ?_)
    refine j_icmp_gt (tgt := 41) dX5_takeWord_25 (by decide) (fun c3 => ?_) (fun c3 => ?_)
    · replace h := h.1 c3
      refine j_iconst (x := 0) dX5_takeWord_41 rfl (i32_c rfl) ?_
      exact j_zret dX5_takeWord_42 rfl ⟨Nat.le_of_ble_eq_true rfl, Nat.le_of_ble_eq_true rfl⟩ (by decide) h
    · replace h := h.2 c3
      refine j_aload_n 1 dX5_takeWord_28 rfl ?_
      refine j_aload_n 1 dX5_takeWord_29 rfl ?_
      refine j_geti (i := 2) dX5_takeWord_30 f_X5_26 sh_3 rfl rfl (fun _ => ?_)
      refine j_iload_n 0 dX5_takeWord_33 rfl ?_
      refine j_iadd (z := ((u1 3 2) + 3)) dX5_takeWord_34 rfl o2 ?_
      refine j_calliV (Yc := Y_X5_isLetter) (as := [aI ((u1 3 2) + 3)]) (rest := []) dX5_takeWord_35 q_X5_114 ⟨Nat.le_of_ble_eq_true rfl, Nat.le_of_ble_eq_true rfl, Nat.le_of_ble_eq_true rfl, Nat.le_of_ble_eq_true rfl⟩ sh_3 rfl (Nat.le_of_ble_eq_true rfl) rfl (ti_of (ll := [(0, aR 3), (1, aI ((u1 3 2) + 3))]) rfl (Nat.le_of_ble_eq_true rfl) rfl (fun _ => ?_))
      refine j_iload_n 1 dX5_isLetter_0 rfl ?_
      refine j_aload_n 0 dX5_isLetter_1 rfl ?_
      refine j_getc 1 dX5_isLetter_2 f_X5_22 sh_3 rfl ?_
      refine j_geti (i := 1) dX5_isLetter_5 f_X5_99 sh_1 rfl rfl (fun _ => ?_)
      refine j_icmp_ge (tgt := 43) dX5_isLetter_8 (by decide) (fun c4 => ?_) (fun c4 => ?_)
      · replace h := h.1 c4
        refine j_iconst (x := 0) dX5_isLetter_43 rfl (i32_c rfl) ?_
        refine j_zret dX5_isLetter_44 rfl ⟨Nat.le_of_ble_eq_true rfl, Nat.le_of_ble_eq_true rfl⟩ (by decide) ?_
        refine j_if_eq (tgt := 43) dX5_takeWord_38 (by decide) (fun _ => ?_) (fun c => absurd c (by decide))
        refine j_iconst (x := 0) dX5_takeWord_43 rfl (i32_c rfl) ?_
        refine j_istore_n (ll' := [(3, aI 0), (2, aI 3), (0, aR 3), (1, aR 1006)]) dX5_takeWord_44 (Nat.le_of_ble_eq_true rfl) rfl ?_
        refine j_sub [2, 3, 1, 0] rfl ?_
        exact h
      · replace h := h.2 c4
        refine j_aload_n 0 dX5_isLetter_11 rfl ?_
        refine j_getc 1 dX5_isLetter_12 f_X5_22 sh_3 rfl ?_
        refine j_getc 2 dX5_isLetter_15 f_X5_104 sh_1 rfl ?_
        refine j_iload_n 1 dX5_isLetter_18 rfl ?_
        obtain ⟨o5, h⟩ := h
        refine j_bald dX5_isLetter_19 sh_2 o5.1 o5.2 (fun _ => ?_)
        refine j_bipush (x := 97) dX5_isLetter_20 rfl (i32_c rfl) ?_
        refine j_icmp_lt (tgt := 43) dX5_isLetter_22 (by decide) (fun c6 => ?_) (fun c6 => ?_)
        · replace h := h.1 c6
          refine j_iconst (x := 0) dX5_isLetter_43 rfl (i32_c rfl) ?_
          refine j_zret dX5_isLetter_44 rfl ⟨Nat.le_of_ble_eq_true rfl, Nat.le_of_ble_eq_true rfl⟩ (by decide) ?_
          refine j_if_eq (tgt := 43) dX5_takeWord_38 (by decide) (fun _ => ?_) (fun c => absurd c (by decide))
          refine j_iconst (x := 0) dX5_takeWord_43 rfl (i32_c rfl) ?_
          refine j_istore_n (ll' := [(3, aI 0), (2, aI 3), (0, aR 3), (1, aR 1006)]) dX5_takeWord_44 (Nat.le_of_ble_eq_true rfl) rfl ?_
          refine j_sub [2, 3, 1, 0] rfl ?_
          exact h
        · replace h := h.2 c6
          refine j_aload_n 0 dX5_isLetter_25 rfl ?_
          refine j_getc 1 dX5_isLetter_26 f_X5_22 sh_3 rfl ?_
          refine j_getc 2 dX5_isLetter_29 f_X5_104 sh_1 rfl ?_
          refine j_iload_n 1 dX5_isLetter_32 rfl ?_
          refine j_bald dX5_isLetter_33 sh_2 o5.1 o5.2 (fun _ => ?_)
          refine j_bipush (x := 122) dX5_isLetter_34 rfl (i32_c rfl) ?_
          refine j_icmp_gt (tgt := 43) dX5_isLetter_36 (by decide) (fun c7 => ?_) (fun c7 => ?_)
          · replace h := h.1 c7
            refine j_iconst (x := 0) dX5_isLetter_43 rfl (i32_c rfl) ?_
            refine j_zret dX5_isLetter_44 rfl ⟨Nat.le_of_ble_eq_true rfl, Nat.le_of_ble_eq_true rfl⟩ (by decide) ?_
            refine j_if_eq (tgt := 43) dX5_takeWord_38 (by decide) (fun _ => ?_) (fun c => absurd c (by decide))
            refine j_iconst (x := 0) dX5_takeWord_43 rfl (i32_c rfl) ?_
            refine j_istore_n (ll' := [(3, aI 0), (2, aI 3), (0, aR 3), (1, aR 1006)]) dX5_takeWord_44 (Nat.le_of_ble_eq_true rfl) rfl ?_
            refine j_sub [2, 3, 1, 0] rfl ?_
            exact h
          · replace h := h.2 c7
            refine j_iconst (x := 1) dX5_isLetter_39 rfl (i32_c rfl) ?_
            refine j_goto (tgt := 44) dX5_isLetter_40 (by decide) ?_
            refine j_zret dX5_isLetter_44 rfl ⟨Nat.le_of_ble_eq_true rfl, Nat.le_of_ble_eq_true rfl⟩ (by decide) ?_
            refine j_if_eq (tgt := 43) dX5_takeWord_38 (by decide) (fun c => absurd c (by decide)) (fun _ => ?_)
            refine j_iconst (x := 0) dX5_takeWord_41 rfl (i32_c rfl) ?_
            exact j_zret dX5_takeWord_42 rfl ⟨Nat.le_of_ble_eq_true rfl, Nat.le_of_ble_eq_true rfl⟩ (by decide) h
theorem E_X5_takeWord_3_1006 {post : Int → ax_M → Prop} {M : ax_M} (h : ax_mr SH M → ax_Ti Y_X5_atEnd [aR 3] SH M (fun z2 u1 => (((¬ z2 = 0) → post 0 u1) ∧ ((z2 = 0) → (-2147483648 ≤ ((u1 3 2) + 3) ∧ ((u1 3 2) + 3) ≤ 2147483647) ∧ ((((u1 1 1) < ((u1 3 2) + 3)) → post 0 u1) ∧ ((((u1 3 2) + 3) ≤ (u1 1 1)) → ((((u1 1 1) ≤ ((u1 3 2) + 3)) → ax_J Y_X5_takeWord (ax_Ki Y_X5_takeWord SH post) 0 0 45 [(0, aR 3), (1, aR 1006), (2, aI 3), (3, aI 0)] [] SH u1) ∧ ((((u1 3 2) + 3) < (u1 1 1)) → (0 ≤ ((u1 3 2) + 3) ∧ ((u1 3 2) + 3) < 400) ∧ ((((u1 2 ((u1 3 2) + 3)) < 97) → ax_J Y_X5_takeWord (ax_Ki Y_X5_takeWord SH post) 0 0 45 [(0, aR 3), (1, aR 1006), (2, aI 3), (3, aI 0)] [] SH u1) ∧ ((97 ≤ (u1 2 ((u1 3 2) + 3))) → (((122 < (u1 2 ((u1 3 2) + 3))) → ax_J Y_X5_takeWord (ax_Ki Y_X5_takeWord SH post) 0 0 45 [(0, aR 3), (1, aR 1006), (2, aI 3), (3, aI 0)] [] SH u1) ∧ (((u1 2 ((u1 3 2) + 3)) ≤ 122) → post 0 u1)))))))))))) : ax_Ti Y_X5_takeWord [aR 3, aR 1006] SH M post :=
  ti_of rfl (Nat.le_of_ble_eq_true rfl) rfl (fun q => B_X5_takeWord_3_1006_0 (h q))
set_option maxRecDepth 100000 in
set_option maxHeartbeats 4000000 in
theorem B_X5_takeWord_3_1006_45 {post : Int → ax_M → Prop} {M : ax_M} {x2 x3 : Int} (h : (((x2 ≤ x3) → (-2147483648 ≤ ((M 3 2) + x2) ∧ ((M 3 2) + x2) ≤ 2147483647) ∧ post 1 (ax_up M 3 2 ((M 3 2) + x2))) ∧ ((x3 < x2) → (-2147483648 ≤ ((M 3 2) + x3) ∧ ((M 3 2) + x3) ≤ 2147483647) ∧ (0 ≤ ((M 3 2) + x3) ∧ ((M 3 2) + x3) < 400) ∧ (0 ≤ x3 ∧ x3 < 3) ∧ ((((M 2 ((M 3 2) + x3)) = (ax_chr 6 x3)) → (-2147483648 ≤ (x3 + 1) ∧ (x3 + 1) ≤ 2147483647) ∧ ax_J Y_X5_takeWord (ax_Ki Y_X5_takeWord SH post) 0 0 45 [(0, aR 3), (1, aR 1006), (2, aI x2), (3, aI (x3 + 1))] [] SH M) ∧ ((¬ (M 2 ((M 3 2) + x3)) = (ax_chr 6 x3)) → post 0 M))))) : ax_J Y_X5_takeWord (ax_Ki Y_X5_takeWord SH post) 0 0 45 [(0, aR 3), (1, aR 1006), (2, aI x2), (3, aI x3)] [] SH M := by
  refine j_iload_n 3 dX5_takeWord_45 rfl ?_
  refine j_iload_n 2 dX5_takeWord_46 rfl ?_
  refine j_icmp_ge (tgt := 80) dX5_takeWord_47 (by decide) (fun c1 => ?_) (fun c1 => ?_)
  · replace h := h.1 c1
    refine j_aload_n 0 dX5_takeWord_80 rfl ?_
    refine j_dup dX5_takeWord_81 rfl ?_
    refine j_geti (i := 2) dX5_takeWord_82 f_X5_26 sh_3 rfl rfl (fun _ => ?_)
    refine j_iload_n 2 dX5_takeWord_85 rfl ?_
    obtain ⟨o2, h⟩ := h
    refine j_iadd (z := ((M 3 2) + x2)) dX5_takeWord_86 rfl o2 ?_
    refine j_puti (i := 2) dX5_takeWord_87 p_X5_26 (fun h => by cases h) sh_3 rfl rfl ?_
    refine j_iconst (x := 1) dX5_takeWord_90 rfl (i32_c rfl) ?_
    exact j_zret dX5_takeWord_91 rfl ⟨Nat.le_of_ble_eq_true rfl, Nat.le_of_ble_eq_true rfl⟩ (by decide) h
  · replace h := h.2 c1
    refine j_aload_n 0 dX5_takeWord_50 rfl ?_
    refine j_getc 1 dX5_takeWord_51 f_X5_22 sh_3 rfl ?_
    refine j_getc 2 dX5_takeWord_54 f_X5_104 sh_1 rfl ?_
    refine j_aload_n 0 dX5_takeWord_57 rfl ?_
    refine j_geti (i := 2) dX5_takeWord_58 f_X5_26 sh_3 rfl rfl (fun _ => ?_)
    refine j_iload_n 3 dX5_takeWord_61 rfl ?_
    obtain ⟨o3, h⟩ := h
    refine j_iadd (z := ((M 3 2) + x3)) dX5_takeWord_62 rfl o3 ?_
    obtain ⟨o4, h⟩ := h
    refine j_bald dX5_takeWord_63 sh_2 o4.1 o4.2 (fun _ => ?_)
    refine j_aload_n 1 dX5_takeWord_64 rfl ?_
    refine j_iload_n 3 dX5_takeWord_65 rfl ?_
    obtain ⟨o5, h⟩ := h
    refine j_schar (i := 6) (n := 3) dX5_takeWord_66 rfl (Nat.le_of_ble_eq_true rfl) (by decide) (Nat.le_of_ble_eq_true rfl) rfl o5 ?_
    refine j_icmp_eq (tgt := 74) dX5_takeWord_69 (by decide) (fun c6 => ?_) (fun c6 => ?_)
    · replace h := h.1 c6
      obtain ⟨o7, h⟩ := h
      refine j_iinc (ll' := [(3, aI (x3 + 1)), (0, aR 3), (1, aR 1006), (2, aI x2)]) 3 dX5_takeWord_74 rfl (Nat.le_of_ble_eq_true rfl) o7 rfl ?_
      refine j_goto (tgt := 45) dX5_takeWord_77 (by decide) ?_
      refine j_sub [1, 2, 3, 0] rfl ?_
      exact h
    · replace h := h.2 c6
      refine j_iconst (x := 0) dX5_takeWord_72 rfl (i32_c rfl) ?_
      exact j_zret dX5_takeWord_73 rfl ⟨Nat.le_of_ble_eq_true rfl, Nat.le_of_ble_eq_true rfl⟩ (by decide) h
