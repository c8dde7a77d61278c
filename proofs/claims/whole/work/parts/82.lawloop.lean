theorem c_go {Y1 Y2 : ax_Y} {as1 as2 : List ax_V} {M : ax_M} {n : Int} {J : ax_M → Prop} (h : ax_Ti Y1 as1 SH M (fun z1 u1 => ax_Ti Y2 as2 SH u1 (fun z2 u2 => z1 = z2 ∧ Inv (n + 1) u2))) (k : ∀ u, Inv (n + 1) u → J u) : ax_Ti Y1 as1 SH M (fun z1 u1 => ax_Ti Y2 as2 SH u1 (fun z2 u2 => ((z1 = z2) → J u2) ∧ ((¬ z1 = z2) → False))) :=
  ti_mono h (fun _ _ h1 => ti_mono h1 (fun _ u2 h2 => ⟨fun _ => k u2 h2.2, fun q => q h2.1⟩))
set_option maxHeartbeats 4000000 in
set_option maxRecDepth 100000 in
theorem law_loop {b L : Nat} {xs : Nat → Int32} (hL : L ≤ 3584) : ∀ (r : Nat) (x3 n : Int) (M : ax_M), x3 = 7 * n → 0 ≤ n → (L : Int) - 7 - x3 < 7 * r → Inv n M → ax_J Y_L_law (ax_KL b L xs) 99 28389 18 [(0, aR 2000), (1, aR 0), (2, aR 61), (3, aI x3)] [] SH M := by
  intro r
  induction r with
  | zero =>
    intro x3 n M hx hn0 hr hI
    exact B_law_18 hL ⟨by omega, fun _ => trivial, fun z => by omega⟩
  | succ r ih =>
    intro x3 n M hx hn0 hr hI
    refine B_law_18 hL ⟨by omega, fun _ => trivial, fun hle => ?_⟩
    have hn : n ≤ 100000 := by omega
    have k : ∀ (x3 n : Int), (x3 = 7 * n ∧ 0 ≤ n ∧ (L : Int) - 7 - x3 < 7 * ((r + 1 : Nat) : Int) ∧ x3 ≤ (L : Int) - 7) → ∀ u, Inv (n + 1) u → ax_J Y_L_law (ax_KL b L xs) 99 28389 1456 [(0, aR 2000), (1, aR 0), (2, aR 61), (3, aI x3)] [] SH u := by
      intro x3 n hx u hu
      exact B_law_1456 hL ⟨by omega, ih (x3 + 7) (n + 1) u (by omega) (by omega) (by omega) hu⟩
    have hx : x3 = 7 * n ∧ 0 ≤ n ∧ (L : Int) - 7 - x3 < 7 * ((r + 1 : Nat) : Int) ∧ x3 ≤ (L : Int) - 7 := ⟨hx, hn0, hr, hle⟩
    have J176 : ax_J Y_L_law (ax_KL b L xs) 99 28389 176 [(0, aR 2000), (1, aR 0), (2, aR 61), (3, aI x3)] [] SH M := B_law_176 hL (⟨by omega, by omega, by omega, by omega, by omega, by omega, c_go (C_feed hI) (k x3 n hx)⟩)
    have J239 : ax_J Y_L_law (ax_KL b L xs) 99 28389 239 [(0, aR 2000), (1, aR 0), (2, aR 61), (3, aI x3)] [] SH M := B_law_239 hL (c_go (C_pit hI) (k x3 n hx))
    have J252 : ax_J Y_L_law (ax_KL b L xs) 99 28389 252 [(0, aR 2000), (1, aR 0), (2, aR 61), (3, aI x3)] [] SH M := B_law_252 hL (c_go (C_fault hI) (k x3 n hx))
    have J265 : ax_J Y_L_law (ax_KL b L xs) 99 28389 265 [(0, aR 2000), (1, aR 0), (2, aR 61), (3, aI x3)] [] SH M := B_law_265 hL (⟨by omega, by omega, by omega, by omega, c_go (C_way hI) (k x3 n hx)⟩)
    have J298 : ax_J Y_L_law (ax_KL b L xs) 99 28389 298 [(0, aR 2000), (1, aR 0), (2, aR 61), (3, aI x3)] [] SH M := B_law_298 hL (⟨by omega, by omega, by omega, by omega, ⟨fun _ => c_go (C_fall hI (Or.inl rfl)) (k x3 n hx), fun _ => c_go (C_fall hI (Or.inr rfl)) (k x3 n hx)⟩⟩)
    have J347 : ax_J Y_L_law (ax_KL b L xs) 99 28389 347 [(0, aR 2000), (1, aR 0), (2, aR 61), (3, aI x3)] [] SH M := B_law_347 hL (⟨by omega, by omega, c_go (C_count hI) (k x3 n hx)⟩)
    have J370 : ax_J Y_L_law (ax_KL b L xs) 99 28389 370 [(0, aR 2000), (1, aR 0), (2, aR 61), (3, aI x3)] [] SH M := B_law_370 hL (⟨by omega, by omega, by omega, by omega, ⟨fun _ => ⟨by omega, by omega, ⟨fun _ => c_go (C_man hI (Or.inl rfl) (Or.inl rfl)) (k x3 n hx), fun _ => c_go (C_man hI (Or.inl rfl) (Or.inr rfl)) (k x3 n hx)⟩⟩, fun _ => ⟨by omega, by omega, ⟨fun _ => c_go (C_man hI (Or.inr rfl) (Or.inl rfl)) (k x3 n hx), fun _ => c_go (C_man hI (Or.inr rfl) (Or.inr rfl)) (k x3 n hx)⟩⟩⟩⟩)
    have J445 : ax_J Y_L_law (ax_KL b L xs) 99 28389 445 [(0, aR 2000), (1, aR 0), (2, aR 61), (3, aI x3)] [] SH M := B_law_445 hL (⟨by omega, by omega, by omega, by omega, c_go (C_lamp hI) (k x3 n hx)⟩)
    have J478 : ax_J Y_L_law (ax_KL b L xs) 99 28389 478 [(0, aR 2000), (1, aR 0), (2, aR 61), (3, aI x3)] [] SH M := B_law_478 hL (⟨by omega, by omega, by omega, by omega, c_go (C_told hI) (k x3 n hx)⟩)
    have J511 : ax_J Y_L_law (ax_KL b L xs) 99 28389 511 [(0, aR 2000), (1, aR 0), (2, aR 61), (3, aI x3)] [] SH M := B_law_511 hL (⟨by omega, by omega, by omega, by omega, c_go (C_light hI) (k x3 n hx)⟩)
    have J544 : ax_J Y_L_law (ax_KL b L xs) 99 28389 544 [(0, aR 2000), (1, aR 0), (2, aR 61), (3, aI x3)] [] SH M := B_law_544 hL (⟨by omega, by omega, by omega, by omega, by omega, by omega, ⟨fun _ => c_go (C_moves hI (Or.inl rfl)) (k x3 n hx), fun _ => c_go (C_moves hI (Or.inr rfl)) (k x3 n hx)⟩⟩)
    have J603 : ax_J Y_L_law (ax_KL b L xs) 99 28389 603 [(0, aR 2000), (1, aR 0), (2, aR 61), (3, aI x3)] [] SH M := B_law_603 hL (⟨by omega, by omega, by omega, by omega, by omega, by omega, by omega, by omega, by omega, by omega, ⟨fun _ => c_go (C_soonest hI) (k x3 n hx), fun _ => c_go (C_soonest hI) (k x3 n hx)⟩⟩)
    have J682 : ax_J Y_L_law (ax_KL b L xs) 99 28389 682 [(0, aR 2000), (1, aR 0), (2, aR 61), (3, aI x3)] [] SH M := B_law_682 hL (⟨by omega, by omega, by omega, by omega, by omega, by omega, ⟨fun _ => c_go (C_last hI) (k x3 n hx), fun _ => c_go (C_last hI) (k x3 n hx)⟩⟩)
    have J741 : ax_J Y_L_law (ax_KL b L xs) 99 28389 741 [(0, aR 2000), (1, aR 0), (2, aR 61), (3, aI x3)] [] SH M := B_law_741 hL (⟨by omega, by omega, by omega, by omega, by omega, by omega, ⟨fun _ => c_go (C_open hI) (k x3 n hx), fun _ => c_go (C_open hI) (k x3 n hx)⟩⟩)
    have J800 : ax_J Y_L_law (ax_KL b L xs) 99 28389 800 [(0, aR 2000), (1, aR 0), (2, aR 61), (3, aI x3)] [] SH M := B_law_800 hL (⟨by omega, by omega, c_go (C_most hI) (k x3 n hx)⟩)
    have J823 : ax_J Y_L_law (ax_KL b L xs) 99 28389 823 [(0, aR 2000), (1, aR 0), (2, aR 61), (3, aI x3)] [] SH M := B_law_823 hL (⟨by omega, by omega, c_go (C_cut hI) (k x3 n hx)⟩)
    have J846 : ax_J Y_L_law (ax_KL b L xs) 99 28389 846 [(0, aR 2000), (1, aR 0), (2, aR 61), (3, aI x3)] [] SH M := B_law_846 hL (⟨by omega, by omega, by omega, by omega, c_go (C_up hI) (k x3 n hx)⟩)
    have J879 : ax_J Y_L_law (ax_KL b L xs) 99 28389 879 [(0, aR 2000), (1, aR 0), (2, aR 61), (3, aI x3)] [] SH M := B_law_879 hL (⟨by omega, by omega, by omega, by omega, c_go (C_lent hI) (k x3 n hx)⟩)
    have J912 : ax_J Y_L_law (ax_KL b L xs) 99 28389 912 [(0, aR 2000), (1, aR 0), (2, aR 61), (3, aI x3)] [] SH M := B_law_912 hL (⟨by omega, by omega, by omega, by omega, by omega, by omega, c_go (C_mark hI) (k x3 n hx)⟩)
    have J955 : ax_J Y_L_law (ax_KL b L xs) 99 28389 955 [(0, aR 2000), (1, aR 0), (2, aR 61), (3, aI x3)] [] SH M := B_law_955 hL (⟨by omega, by omega, by omega, by omega, by omega, by omega, by omega, by omega, c_go (C_tells hn hI) (k x3 n hx)⟩)
    have J1008 : ax_J Y_L_law (ax_KL b L xs) 99 28389 1008 [(0, aR 2000), (1, aR 0), (2, aR 61), (3, aI x3)] [] SH M := B_law_1008 hL (⟨by omega, by omega, by omega, by omega, by omega, by omega, by omega, by omega, c_go (C_toldBest hn hI) (k x3 n hx)⟩)
    have J1061 : ax_J Y_L_law (ax_KL b L xs) 99 28389 1061 [(0, aR 2000), (1, aR 0), (2, aR 61), (3, aI x3)] [] SH M := B_law_1061 hL (⟨by omega, by omega, by omega, by omega, by omega, by omega, by omega, by omega, by omega, by omega, by omega, by omega, c_go (C_byTwo hn hI) (k x3 n hx)⟩)
    have J1136 : ax_J Y_L_law (ax_KL b L xs) 99 28389 1136 [(0, aR 2000), (1, aR 0), (2, aR 61), (3, aI x3)] [] SH M := B_law_1136 hL (⟨by omega, by omega, by omega, by omega, by omega, by omega, c_go (C_tooLate hI) (k x3 n hx)⟩)
    have J1179 : ax_J Y_L_law (ax_KL b L xs) 99 28389 1179 [(0, aR 2000), (1, aR 0), (2, aR 61), (3, aI x3)] [] SH M := B_law_1179 hL (⟨by omega, by omega, c_go (C_go hI) (k x3 n hx)⟩)
    have J1202 : ax_J Y_L_law (ax_KL b L xs) 99 28389 1202 [(0, aR 2000), (1, aR 0), (2, aR 61), (3, aI x3)] [] SH M := B_law_1202 hL (c_go (C_clear hI) (k x3 n hx))
    have J1215 : ax_J Y_L_law (ax_KL b L xs) 99 28389 1215 [(0, aR 2000), (1, aR 0), (2, aR 61), (3, aI x3)] [] SH M := B_law_1215 hL (⟨by omega, by omega, by omega, by omega, by omega, by omega, by omega, by omega, c_go (C_judge hI) (k x3 n hx)⟩)
    have J1268 : ax_J Y_L_law (ax_KL b L xs) 99 28389 1268 [(0, aR 2000), (1, aR 0), (2, aR 61), (3, aI x3)] [] SH M := B_law_1268 hL (⟨by omega, by omega, by omega, by omega, c_go (C_opens hI) (k x3 n hx)⟩)
    have J1301 : ax_J Y_L_law (ax_KL b L xs) 99 28389 1301 [(0, aR 2000), (1, aR 0), (2, aR 61), (3, aI x3)] [] SH M := B_law_1301 hL (⟨by omega, by omega, by omega, by omega, c_go (C_safe hI) (k x3 n hx)⟩)
    have J1334 : ax_J Y_L_law (ax_KL b L xs) 99 28389 1334 [(0, aR 2000), (1, aR 0), (2, aR 61), (3, aI x3)] [] SH M := B_law_1334 hL (⟨by omega, by omega, by omega, by omega, by omega, by omega, c_go (C_safest hI) (k x3 n hx)⟩)
    have J1377 : ax_J Y_L_law (ax_KL b L xs) 99 28389 1377 [(0, aR 2000), (1, aR 0), (2, aR 61), (3, aI x3)] [] SH M := B_law_1377 hL (⟨by omega, by omega, by omega, by omega, c_go (C_knock hI) (k x3 n hx)⟩)
    have J1410 : ax_J Y_L_law (ax_KL b L xs) 99 28389 1410 [(0, aR 2000), (1, aR 0), (2, aR 61), (3, aI x3)] [] SH M := B_law_1410 hL (⟨by omega, by omega, c_go (C_keep hI) (k x3 n hx)⟩)
    have J1433 : ax_J Y_L_law (ax_KL b L xs) 99 28389 1433 [(0, aR 2000), (1, aR 0), (2, aR 61), (3, aI x3)] [] SH M := B_law_1433 hL (⟨by omega, by omega, c_go (C_goBack hI) (k x3 n hx)⟩)
    exact ⟨by omega, fun _ => J176, fun _ => J239, fun _ => J252, fun _ => J265, fun _ => J298, fun _ => J347, fun _ => J370, fun _ => J445, fun _ => J478, fun _ => J511, fun _ => J544, fun _ => J603, fun _ => J682, fun _ => J741, fun _ => J800, fun _ => J823, fun _ => J846, fun _ => J879, fun _ => J912, fun _ => J955, fun _ => J1008, fun _ => J1061, fun _ => J1136, fun _ => J1179, fun _ => J1202, fun _ => J1215, fun _ => J1268, fun _ => J1301, fun _ => J1334, fun _ => J1377, fun _ => J1410, fun _ => J1433, fun _ => k x3 n hx M (inv_up hI)⟩
