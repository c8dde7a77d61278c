theorem S_X0_vanish {post : ax_M → Prop} {M : ax_M} (h : ∀ M2, Ofs [8, 14] M M2 → M2 8 0 = 0 → M2 8 1 = 0 → (∀ k, 0 ≤ k → k < 24 → M2 14 k = 0) → post M2) : ax_Tv Y_X0_vanish [aR 8] SH M post := by
  have L : ∀ (r : Nat) (k : Int) (M1 : ax_M), k + r = 24 → 0 ≤ k → Ofs [8, 14] M M1 → M1 8 0 = 0 → M1 8 1 = 0 → (∀ x, 0 ≤ x → x < k → M1 14 x = 0) → ax_J Y_X0_vanish (ax_Kv Y_X0_vanish SH post) 0 0 12 [(0, aR 8), (1, aI k)] [] SH M1 := by
    intro r
    induction r with
    | zero =>
      intro k M1 hk hk0 o a b c
      rw [show k = 24 by omega] at c
      exact B_X0_vanish_12 ⟨fun _ => h M1 o a b c, fun z => by omega⟩
    | succ r ih =>
      intro k M1 hk hk0 o a b c
      refine B_X0_vanish_12 ⟨fun z => by omega, fun _ => ⟨by omega, by omega, ih (k + 1) _ (by omega) (by omega) (o.tr (Ofs.up (by decide))) (by rw [up_off _ _ _ (by decide)]; exact a) (by rw [up_off _ _ _ (by decide)]; exact b) (fun x x0 x1 => ?_)⟩⟩
      rw [up_k]
      split
      · rfl
      · exact c x x0 (by omega)
  refine E_X0_vanish (fun _ => L 24 0 _ (by omega) (Int.le_refl _) ((Ofs.up (by decide)).tr (Ofs.up (by decide))) ?_ (up_at _ _ _ _) (fun x a b => by omega))
  rw [up_ne _ _ _ (by decide), up_at]
set_option maxHeartbeats 4000000 in
set_option maxRecDepth 100000 in
theorem C_pit {n : Int} {M : ax_M} (hI : Inv n M) : ax_Ti Y_X10_pit [aR 0] SH M (fun z1 u1 => ax_Ti Y_X11_pit [aR 61] SH u1 (fun z2 u2 => z1 = z2 ∧ Inv (n + 1) u2)) := by
  have hI' := hI
  obtain ⟨hW, hC, hRow, hTx, hIm, hTe, hMi⟩ := hI
  generalize hX : M 70 = X
  generalize hN : M 61 13 = N
  have hT : TX X N M := ⟨by rw [← hN]; exact hTx.1, by have := hTx.2.1; have := hTx.2.2.1; omega, fun k k0 k1 => by
    have q := hTx.2.2.2 k k0 (by omega)
    rw [hX] at q
    exact ⟨⟨q.1, q.2.1⟩, q.2.2⟩⟩
  have N4 := hT.2.1
  have gp := gd_pl (X := X) (N := N) N4.1 (M 5)
  generalize hR : rP X N (pP X N) 400 (rPl X N (M 5)) = R
  have r5 : 0 ≤ (rE R).1 ∧ (rE R).1 ≤ 5 := by rw [← hR]; exact rE_5 (rP_5 _ _ (rPl_5 _))
  have re := rP_end (X := X) (N := N) (P := pP X N) 400 (rPl X N (M 5)) (by have := gp.1.1; omega) gp.1
  rw [hR] at re
  refine E_X10_pit (fun _ => S_X5_read hT ?_)
  rw [hR]
  intro M2 o2 e35 e40 e41 e42 e43 e5
  rw [e35]
  generalize hMb : ax_up (ax_up M2 1 1 0) 0 12 (rE R).2 = Mb
  have ob : Ofs [0, 1] M2 Mb := by rw [← hMb]; exact (Ofs.up (by decide)).tr (Ofs.up (by decide))
  have oM : Ofs [0, 1, 3, 4, 5] M Mb := (o2.mono (by decide)).tr (ob.mono (by decide))
  have b1 : Mb 1 1 = 0 := by rw [← hMb, up_off _ _ _ (by decide), up_at]
  have b0 : Mb 0 12 = (rE R).2 := by rw [← hMb, up_at]
  refine ⟨fun z => ?_, fun z => ⟨by omega, ?_⟩⟩
  · -- a new pit
    have rz : (rE R).1 = 0 := z
    have q0 := bl_0 (a := R.1) rz
    have sh1 : ¬ R.2.2.1 = -1 := fun w => by
      have := q0.2.1
      rw [if_pos w] at this
      omega
    have gR := re.1.2.2 q0.1
    have gw := re.1.2.1
    have p12 : 2 ≤ pP X N ∧ pP X N ≤ 12 := by
      refine gp.2.2 ?_
      by_cases w : (rPl X N (M 5)).1.1 = 0
      · exact w
      · exfalso
        have : rP X N (pP X N) 400 (rPl X N (M 5)) = rPl X N (M 5) := by
          rw [rP.eq_2, if_pos w]
        rw [hR] at this
        rw [this] at q0
        exact w q0.1
    have rE2 : (rE R).2 = -1 := by
      have : rE R = R.1 := q0.2.2
      rw [this, gR.1]
    have gsh := gR.2.1.resolve_left sh1
    refine E_X3_become (fun _ => S_X0_vanish (fun Mv ov v80 v81 v14 => ?_))
    generalize hMc : ax_cp (ax_up (ax_up (ax_up (ax_up Mb 6 0 (Mb 4 0)) 6 1 (Mb 4 1)) 6 2 (Mb 4 2)) 6 3 (Mb 4 3)) 5 7 0 0 168 = Mc at ov
    have oc : Ofs [6, 7] Mb Mc := by
      rw [← hMc]
      intro a ha
      have n7 : a ≠ 7 := fun w => ha (by rw [w]; decide)
      have n6 : a ≠ 6 := fun w => ha (by rw [w]; decide)
      have : ax_cp (ax_up (ax_up (ax_up (ax_up Mb 6 0 (Mb 4 0)) 6 1 (Mb 4 1)) 6 2 (Mb 4 2)) 6 3 (Mb 4 3)) 5 7 0 0 168 a = (ax_up (ax_up (ax_up (ax_up Mb 6 0 (Mb 4 0)) 6 1 (Mb 4 1)) 6 2 (Mb 4 2)) 6 3 (Mb 4 3)) a := by
        funext j
        unfold ax_cp
        rw [if_neg (fun w => n7 w.1)]
      rw [this, up_off _ _ _ n6, up_off _ _ _ n6, up_off _ _ _ n6, up_off _ _ _ n6]
    have c6 : ∀ k, Mc 6 k = (ax_up (ax_up (ax_up (ax_up Mb 6 0 (Mb 4 0)) 6 1 (Mb 4 1)) 6 2 (Mb 4 2)) 6 3 (Mb 4 3)) 6 k := by
      intro k
      rw [← hMc]
      unfold ax_cp
      rw [if_neg (fun w => absurd w.1 (by decide))]
    have c7 : ∀ k, 0 ≤ k → k < 168 → Mc 7 k = Mb 5 k := by
      intro k k0 k1
      rw [← hMc]
      unfold ax_cp
      rw [if_pos ⟨rfl, by omega, by omega⟩, up_off _ _ _ (by decide), up_off _ _ _ (by decide), up_off _ _ _ (by decide), up_off _ _ _ (by decide)]
      congr 1
      omega
    have m4 : Mb 4 0 = pP X N ∧ Mb 4 1 = R.2.2.2.2.1 ∧ Mb 4 2 = R.2.2.1 ∧ Mb 4 3 = R.2.2.2.1 := by
      rw [ob 4 (by decide)]; exact ⟨e40, e41, e42, e43⟩
    have d6 : Mc 6 0 = pP X N ∧ Mc 6 1 = R.2.2.2.2.1 ∧ Mc 6 2 = R.2.2.1 ∧ Mc 6 3 = R.2.2.2.1 := by
      refine ⟨?_, ?_, ?_, ?_⟩
      · rw [c6, up_ne _ _ _ (by decide), up_ne _ _ _ (by decide), up_ne _ _ _ (by decide), up_at]; exact m4.1
      · rw [c6, up_ne _ _ _ (by decide), up_ne _ _ _ (by decide), up_at]; exact m4.2.1
      · rw [c6, up_ne _ _ _ (by decide), up_at]; exact m4.2.2.1
      · rw [c6, up_at]; exact m4.2.2.2
    -- the images
    refine B_X10_pit_67 ⟨fun w => absurd w (by decide), fun _ => ⟨by decide, by decide, B_X10_pit_67 ⟨fun w => absurd w (by decide), fun _ => ⟨by decide, by decide, B_X10_pit_67 ⟨fun _ => ?_, fun w => absurd w (by decide)⟩⟩⟩⟩⟩
    generalize hMd : ax_up (ax_up (ax_up Mv 31 1 0) 30 0 0) 30 (0 + 1) 0 = Md
    have od : Ofs [30, 31] Mv Md := by rw [← hMd]; exact ((Ofs.up (by decide)).tr (Ofs.up (by decide))).tr (Ofs.up (by decide))
    have d30 : Md 30 0 = 0 ∧ Md 30 1 = 0 := by
      rw [← hMd]
      exact ⟨by rw [up_ne _ _ _ (by decide), up_at], up_at _ _ _ _⟩
    have d31 : Md 31 1 = 0 := by rw [← hMd, up_off _ _ _ (by decide), up_off _ _ _ (by decide), up_at]
    have oD : Ofs [0, 1, 3, 4, 5, 6, 7, 8, 14, 30, 31] M Md := ((oM.mono (by decide)).tr (oc.mono (by decide))).tr ((ov.mono (by decide)).tr (od.mono (by decide)))
    have f6 : Md 6 = Mc 6 := (od 6 (by decide)).trans (ov 6 (by decide))
    have f7 : Md 7 = Mc 7 := (od 7 (by decide)).trans (ov 7 (by decide))
    have hT2 : TR X N Md := ⟨by rw [oD 70 (by decide)]; exact hX, by rw [oD 61 (by decide)]; exact hN, N4, fun k k0 k1 => (hT.2.2 k k0 k1).1⟩
    rw [f6, d6.2.1]
    refine S_X11_pit (tb := M 5) hT2 hR (fun w => absurd rz w) (fun _ M3 np => ⟨rfl, ?_⟩)
    obtain ⟨n1, n2, ⟨n0, nsh, nli, nw, n13, n14, n25, n29, n50, n980, n981⟩, nk⟩ := np
    have s : ∀ a, a ∉ [61, 62, 63, 64, 65, 66, 67, 68, 69, 71, 98] → M3 a = Md a := n1
    have tbl : ∀ k, 0 ≤ k → k < 168 → M3 7 k = R.2.2.2.2.2 k := fun k k0 k1 => by
      rw [s 7 (by decide), f7, c7 k k0 k1, ob 5 (by decide), e5]
    have w14 : ∀ k, 0 ≤ k → k < 24 → M3 14 k = 0 := fun k k0 k1 => by
      rw [s 14 (by decide), od 14 (by decide)]; exact v14 k k0 k1
    have tel : M3 51 = M 51 ∧ M3 59 = M 59 := ⟨by rw [s 51 (by decide)]; exact oD 51 (by decide), by rw [s 59 (by decide)]; exact oD 59 (by decide)⟩
    refine ⟨⟨⟨fun k k0 k1 => ?_, ?_, ?_⟩, ?_, ?_, ?_, ?_, fun k k0 k1 => ?_⟩, ⟨⟨?_, ?_, ?_, ?_, ?_, ?_⟩, fun k k0 k1 => ?_, fun k k0 k1 => ?_, fun k k0 k1 => ?_⟩, ⟨?_, ?_, ?_, fun k k0 k1 => ?_⟩, ⟨?_, ?_, ?_, fun k k0 k1 => ?_⟩, ⟨⟨?_, ?_, fun w => ?_⟩, ⟨?_, ?_, fun w => ?_⟩, fun k k0 k1 => ?_⟩, ?_, ⟨?_, ?_, ?_, ?_⟩⟩
    · rw [nw] at k1
      have q := nk k k0 k1
      have g := gR.2.2 k k0 k1
      unfold WOk at g
      rw [q.1, q.2.1, q.2.2.1, q.2.2.2.1, q.2.2.2.2.1, q.2.2.2.2.2.1, q.2.2.2.2.2.2.1, n0]
      exact g
    · rw [nw]; exact gw
    · rw [n0, nsh, nli, nw]; exact Or.inr ⟨p12.1, p12.2, gsh⟩
    · rw [s 6 (by decide), f6, d6.1, n0]
    · rw [s 6 (by decide), f6, d6.2.1, nw]
    · rw [s 6 (by decide), f6, d6.2.2.1, nsh]
    · rw [s 6 (by decide), f6, d6.2.2.2, nli]
    · rw [nw] at k1
      have q := nk k k0 k1
      rw [tbl _ (by omega) (by omega), tbl _ (by omega) (by omega), tbl _ (by omega) (by omega), tbl _ (by omega) (by omega), tbl _ (by omega) (by omega), tbl _ (by omega) (by omega), tbl _ (by omega) (by omega), w14 k k0 (by omega), q.2.2.2.2.2.2.2]
      exact ⟨⟨q.1.symm, q.2.1.symm, q.2.2.1.symm, q.2.2.2.1.symm⟩, q.2.2.2.2.1.symm, q.2.2.2.2.2.1.symm, q.2.2.2.2.2.2.1.symm, rfl⟩
    · rw [s 8 (by decide), od 8 (by decide), v80, n25]
    · rw [n25]; exact Int.le_refl _
    · rw [n25]; decide
    · rw [s 8 (by decide), od 8 (by decide), v81, n29]
    · rw [n29]; exact Int.le_refl _
    · rw [n29]; decide
    · rw [n25] at k1; omega
    · rw [n29] at k1; omega
    · rw [nw] at k1
      exact Or.inl (nk k k0 k1).2.2.2.2.2.2.2
    · rw [s 31 (by decide), d31, n50]
    · rw [n50]; exact Int.le_refl _
    · rw [n50]; decide
    · rw [n50] at k1; omega
    · rw [s 1 (by decide), od 1 (by decide), ov 1 (by decide), oc 1 (by decide), b1, n13]
    · rw [n13]; exact Int.le_refl _
    · rw [n13]; decide
    · rw [n13] at k1; omega
    · rw [s 30 (by decide), d30.1, n980]
    · exact Or.inl n980
    · rw [n980] at w; exact absurd w (by decide)
    · rw [s 30 (by decide), d30.2, n981]
    · exact Or.inl n981
    · rw [n981] at w; exact absurd w (by decide)
    · rw [s 97 (by decide), oD 97 (by decide)]; exact hIm.2.2 k k0 k1
    · exact tel_up (c_TelEq tel.1 tel.2 hTe)
    · rw [n2 32 (by omega), oD 61 (by decide)]; exact hMi.1
    · rw [s 0 (by decide), od 0 (by decide), ov 0 (by decide), oc 0 (by decide), b0, rE2, n14]
    · rw [s 15 (by decide), oD 15 (by decide)]; exact hMi.2.2.1
    · rw [s 15 (by decide), oD 15 (by decide)]; exact hMi.2.2.2
  · -- a fault
    have hT2 : TR X N Mb := ⟨by rw [oM 70 (by decide)]; exact hX, by rw [oM 61 (by decide)]; exact hN, N4, fun k k0 k1 => (hT.2.2 k k0 k1).1⟩
    refine S_X11_pit (tb := M 5) hT2 hR (fun _ M3 q3 e14 => ⟨rfl, ?_⟩) (fun w => absurd w z)
    have s : ∀ a, a ∉ [0, 1, 3, 4, 5, 61, 71] → ax_up M3 61 13 0 a = M a := by
      intro a ha
      have n61 : a ≠ 61 := fun w => ha (by rw [w]; decide)
      have n71 : a ≠ 71 := fun w => ha (by rw [w]; decide)
      have sub : ∀ q ∈ [0, 1, 3, 4, 5], q ∈ [0, 1, 3, 4, 5, 61, 71] := by decide
      rw [up_off _ _ _ n61, q3.1 a n61 n71]
      exact oM a (fun w => ha (sub a w))
    have s61 : ∀ i, (i < 13 ∨ 23 < i) → ax_up M3 61 13 0 61 i = M 61 i := by
      intro i hi
      rw [up_ne _ _ _ (by omega), q3.2 i (by omega), oM 61 (by decide)]
    refine ⟨⟨c_PitOk (s 62 (by decide)) (s 63 (by decide)) (s 64 (by decide)) (s 65 (by decide)) (s 66 (by decide)) (s 67 (by decide)) (s 68 (by decide)) (s61 0 (by omega)) (s61 1 (by omega)) (s61 2 (by omega)) (s61 3 (by omega)) hW.1, c_PitEq (s 6 (by decide)) (s 7 (by decide)) (s 14 (by decide)) (s 62 (by decide)) (s 63 (by decide)) (s 64 (by decide)) (s 65 (by decide)) (s 66 (by decide)) (s 67 (by decide)) (s 68 (by decide)) (s 69 (by decide)) (s61 0 (by omega)) (s61 1 (by omega)) (s61 2 (by omega)) (s61 3 (by omega)) hW.2⟩, c_CrewEq (s 8 (by decide)) (s 9 (by decide)) (s 10 (by decide)) (s 11 (by decide)) (s 12 (by decide)) (s 13 (by decide)) (s 69 (by decide)) (s 72 (by decide)) (s 73 (by decide)) (s 74 (by decide)) (s 75 (by decide)) (s 76 (by decide)) (s61 0 (by omega)) (s61 3 (by omega)) (s61 25 (by omega)) (s61 29 (by omega)) hC, c_RowEq (s 31 (by decide)) (s 32 (by decide)) (s 91 (by decide)) (s61 0 (by omega)) (s61 50 (by omega)) hRow, ⟨?_, ?_, ?_, fun k k0 k1 => ?_⟩, c_ImgEq (s 30 (by decide)) (s 98 (by decide)) (s 97 (by decide)) (s 16 (by decide)) (s 17 (by decide)) (s 18 (by decide)) (s 19 (by decide)) (s 20 (by decide)) (s 21 (by decide)) (s 22 (by decide)) (s 23 (by decide)) (s 24 (by decide)) (s 25 (by decide)) (s 26 (by decide)) (s 27 (by decide)) (s 28 (by decide)) (s 29 (by decide)) (s61 0 (by omega)) (s61 3 (by omega)) hIm, tel_up (c_TelEq (s 51 (by decide)) (s 59 (by decide)) hTe), ⟨?_, ?_, ?_, ?_⟩⟩
    · rw [up_at, up_off _ _ _ (by decide), q3.1 1 (by decide) (by decide), b1]
    · rw [up_at]; exact Int.le_refl _
    · rw [up_at]; decide
    · rw [up_at] at k1; omega
    · rw [s61 32 (by omega)]; exact hMi.1
    · rw [up_ne _ _ _ (by decide), e14, up_off _ _ _ (by decide), q3.1 0 (by decide) (by decide), b0]
    · rw [s 15 (by decide)]; exact hMi.2.2.1
    · rw [s 15 (by decide)]; exact hMi.2.2.2
