set_option maxHeartbeats 4000000 in
set_option maxRecDepth 100000 in
theorem S_X11_tellSet {post : Int → ax_M → Prop} {M : ax_M} {m e t X : Int} (hp : PitOk M) (hc : CrewEq M) (h32 : M 61 32 = -1) (hm : 0 ≤ m ∧ m < M 61 25) (ht : 0 ≤ t ∧ t ≤ 99) (hX : nb X 12 ≤ 6) (hd : DkOk M (M 61 0) M) (h : ∀ M' R, R61 M M' → M' 87 = M 87 → M' 89 = M 89 → M' 90 = M 90 → Bst M e (M 74 m) (M 72 m) t (fun w => tb X w = true) R → post R M') : ax_Ti Y_X11_tellSet [aR 61, aI m, aI e, aI t, aI X] SH M post := by
  have hb := hc.1
  have gm := hc.2.1 m hm.1 hm.2
  have h12 := hp.2.2
  obtain ⟨N, hN⟩ : ∃ N : Nat, (N : Int) = M 61 0 := ⟨(M 61 0).toNat, by omega⟩
  have nbN : ∀ j : Nat, j ≤ 12 → nb X j ≤ 6 := by
    intro j hj
    have := nb_mono X j (12 - j)
    rw [show j + (12 - j) = 12 by omega] at this
    omega
  obtain ⟨n, hn⟩ : ∃ n : Nat, nb X N = n := ⟨(nb X N).toNat, by have := nb_rg X N; omega⟩
  have hn6 : n ≤ 6 := by have := nbN N (by omega); omega
  -- the rows one after the other
  have L60 : ∀ (f0 : Int → Int), Srt f0 X N → ∀ (L : List (List Nat)) (a : List Nat) (M' : ax_M) (best : Int), chn n (a :: L) = true → R61 M M' → M' 87 = M 87 → M' 89 = M 89 → M' 90 = M 90 → M' 61 47 = n → (∀ x : Nat, x < n → M' 88 x = f0 (ga a x)) → -1 ≤ best → (∀ M2 R, R61 M M2 → M2 87 = M 87 → M2 89 = M 89 → M2 90 = M 90 → best ≤ R → (∀ b ∈ a :: L, rv M e (M 74 m) (b.map (fun x : Nat => f0 (x : Int))) (M 72 m) t ≤ R) → (R = best ∨ ∃ b ∈ a :: L, rv M e (M 74 m) (b.map (fun x : Nat => f0 (x : Int))) (M 72 m) t = R) → post R M2) → ax_J Y_X11_tellSet (ax_Ki Y_X11_tellSet SH post) 0 0 60 [(0, aR 61), (1, aI m), (2, aI e), (3, aI t), (5, aI best), (6, aI 1)] [] SH M' := by
    intro f0 hs L
    have mono : ∀ x y : Nat, x < y → y < n → f0 x < f0 y := fun x y a b => hs.2.1 x y (by omega) (by omega) (by omega)
    have le_of : ∀ x y : Nat, x < n → y < n → f0 x ≤ f0 y → x ≤ y := by
      intro x y hx hy q
      rcases Nat.lt_or_ge y x with z | z
      · have := mono y x z hx; omega
      · exact z
    have lt_of : ∀ x y : Nat, x < n → y < n → f0 x < f0 y → x < y := by
      intro x y hx hy q
      rcases Nat.lt_or_ge x y with z | z
      · exact z
      · rcases Nat.lt_or_ge y x with z2 | z2
        · have := mono y x z2 hx; omega
        · rw [show x = y by omega] at q; omega
    induction L with
    | nil =>
      intro a M' best hch ru e87 e89 e90 e47 hv hbest K
      unfold chn at hch
      rw [Bool.and_eq_true] at hch
      have ok := hch.1
      unfold okL at ok
      rw [Bool.and_eq_true, decide_eq_true_iff] at ok
      have lt : ∀ x : Nat, x < n → ga a x < n := by
        intro x hx
        have hx2 : x < a.length := by rw [ok.1]; exact hx
        have e : ga a x = a[x] := by unfold ga; rw [List.getD_eq_getElem?_getD, List.getElem?_eq_getElem hx2]; rfl
        rw [e]
        exact of_decide_eq_true (List.all_eq_true.mp ok.2 _ (List.getElem_mem hx2))
      have el : lst (M' 88) 0 n = a.map (fun x : Nat => f0 (x : Int)) := by
        have := lst_map (f := M' 88) (g := f0) a 0 (fun x hx => by rw [Int.zero_add]; exact hv x (by rw [← ok.1]; exact hx))
        rw [ok.1] at this
        exact this
      refine B_X11_tellSet_60 ⟨fun z => by omega, fun _ => S_X11_tellRow (n := n) (ru.pit hp) (ru.crew hc) (by rw [ru.2 32 (by decide)]; exact h32) (by rw [ru.2 25 (by decide)]; exact hm) ht e47 hn6 (fun x x0 x1 => ?_) (fun p p0 p1 => ?_) (fun M1 o1 => ?_)⟩
      · have q := hv x.toNat (by omega)
        rw [show ((x.toNat : Nat) : Int) = x by omega] at q
        rw [q, ru.2 0 (by decide)]
        have r := hs.1 (ga a x.toNat) (by omega) (by have := lt x.toNat (by omega); omega)
        omega
      · rw [e87, dk_u ru.u]
        exact hd p p0 (by rw [← ru.2 0 (by decide)]; exact p1)
      · rw [rv_u ru.u, el, ru.1 74 (by decide), ru.1 72 (by decide)]
        have ru1 : R61 M M1 := ru.tr (R61.ofs (o1.s (l := [77]) (by decide)) (by decide))
        have f47 : M1 61 47 = n := by rw [o1 61 (by decide)]; exact e47
        have hv1 : ∀ x : Nat, x < n → M1 88 x = f0 (ga a x) := by rw [o1 88 (by decide)]; exact hv
        have key : ∀ z, best ≤ z → rv M e (M 74 m) (a.map (fun x : Nat => f0 (x : Int))) (M 72 m) t ≤ z → (z = best ∨ rv M e (M 74 m) (a.map (fun x : Nat => f0 (x : Int))) (M 72 m) t = z) → ax_Ti Y_X11_nextOrder [aR 61] SH M1 (fun z4 u3 => ax_J Y_X11_tellSet (ax_Ki Y_X11_tellSet SH post) 0 0 60 [(0, aR 61), (1, aI m), (2, aI e), (3, aI t), (5, aI z), (6, aI z4)] [] SH u3) := by
          intro z z1 z2 z3
          refine S_X11_nextOrder (n := n) f47 (by omega) (fun _ => B_X11_tellSet_60 ⟨fun _ => K M1 z ru1 ((o1 87 (by decide)).trans e87) ((o1 89 (by decide)).trans e89) ((o1 90 (by decide)).trans e90) z1 (fun b hb => ?_) ?_, fun y => absurd rfl y⟩) (fun k j M2 k0 k1 k2 => ?_)
          · rw [List.mem_singleton.mp hb]; exact z2
          · rcases z3 with z3 | z3
            · exact Or.inl z3
            · exact Or.inr ⟨a, List.mem_cons_self, z3⟩
          · exfalso
            have q1 := hv1 k.toNat (by omega)
            have q2 := hv1 (k.toNat + 1) (by omega)
            rw [show ((k.toNat : Nat) : Int) = k by omega] at q1
            rw [show (((k.toNat + 1 : Nat)) : Int) = k + 1 by omega] at q2
            rw [q1, q2] at k2
            have q3 := le_of _ _ (lt k.toNat (by omega)) (lt (k.toNat + 1) (by omega)) k2
            have q4 := List.all_eq_true.mp hch.2 k.toNat (List.mem_range.mpr (by omega))
            rw [Bool.or_eq_true, Bool.not_eq_true', decide_eq_false_iff_not, decide_eq_true_iff] at q4
            omega
        exact ⟨fun y => key best (Int.le_refl _) y (Or.inl rfl), fun y => key _ (by omega) (Int.le_refl _) (Or.inr rfl)⟩
    | cons b L ih =>
      intro a M' best hch ru e87 e89 e90 e47 hv hbest K
      unfold chn at hch
      rw [Bool.and_eq_true, Bool.and_eq_true] at hch
      have ok := hch.1.1
      unfold okL at ok
      rw [Bool.and_eq_true, decide_eq_true_iff] at ok
      have lt : ∀ x : Nat, x < n → ga a x < n := by
        intro x hx
        have hx2 : x < a.length := by rw [ok.1]; exact hx
        have e : ga a x = a[x] := by unfold ga; rw [List.getD_eq_getElem?_getD, List.getElem?_eq_getElem hx2]; rfl
        rw [e]
        exact of_decide_eq_true (List.all_eq_true.mp ok.2 _ (List.getElem_mem hx2))
      have el : lst (M' 88) 0 n = a.map (fun x : Nat => f0 (x : Int)) := by
        have := lst_map (f := M' 88) (g := f0) a 0 (fun x hx => by rw [Int.zero_add]; exact hv x (by rw [← ok.1]; exact hx))
        rw [ok.1] at this
        exact this
      have hst := hch.1.2
      unfold stp at hst
      rw [Bool.and_eq_true] at hst
      refine B_X11_tellSet_60 ⟨fun z => by omega, fun _ => S_X11_tellRow (n := n) (ru.pit hp) (ru.crew hc) (by rw [ru.2 32 (by decide)]; exact h32) (by rw [ru.2 25 (by decide)]; exact hm) ht e47 hn6 (fun x x0 x1 => ?_) (fun p p0 p1 => ?_) (fun M1 o1 => ?_)⟩
      · have q := hv x.toNat (by omega)
        rw [show ((x.toNat : Nat) : Int) = x by omega] at q
        rw [q, ru.2 0 (by decide)]
        have r := hs.1 (ga a x.toNat) (by omega) (by have := lt x.toNat (by omega); omega)
        omega
      · rw [e87, dk_u ru.u]
        exact hd p p0 (by rw [← ru.2 0 (by decide)]; exact p1)
      · rw [rv_u ru.u, el, ru.1 74 (by decide), ru.1 72 (by decide)]
        have ru1 : R61 M M1 := ru.tr (R61.ofs (o1.s (l := [77]) (by decide)) (by decide))
        have f47 : M1 61 47 = n := by rw [o1 61 (by decide)]; exact e47
        have hv1 : ∀ x : Nat, x < n → M1 88 x = f0 (ga a x) := by rw [o1 88 (by decide)]; exact hv
        have hvi : ∀ x : Int, 0 ≤ x → x < n → M1 88 x = f0 (ga a x.toNat) := by
          intro x x0 x1
          have q := hv1 x.toNat (by omega)
          rw [show ((x.toNat : Nat) : Int) = x by omega] at q
          exact q
        have key : ∀ z, best ≤ z → rv M e (M 74 m) (a.map (fun x : Nat => f0 (x : Int))) (M 72 m) t ≤ z → (z = best ∨ rv M e (M 74 m) (a.map (fun x : Nat => f0 (x : Int))) (M 72 m) t = z) → ax_Ti Y_X11_nextOrder [aR 61] SH M1 (fun z4 u3 => ax_J Y_X11_tellSet (ax_Ki Y_X11_tellSet SH post) 0 0 60 [(0, aR 61), (1, aI m), (2, aI e), (3, aI t), (5, aI z), (6, aI z4)] [] SH u3) := by
          intro z z1 z2 z3
          refine S_X11_nextOrder (n := n) f47 (by omega) (fun hdn => ?_) (fun k j M2 k0 k1 k2 k3 j0 j1 j2 j3 o2 hx => ?_)
          · exfalso
            obtain ⟨k, hk, hk2⟩ := List.any_eq_true.mp hst.1
            have hk3 := of_decide_eq_true hk2
            have q := hdn k (by omega) (by omega)
            have q1 := hv1 k (by omega)
            have q2 := hv1 (k + 1) (by omega)
            rw [show (((k + 1 : Nat)) : Int) = (k : Int) + 1 by omega] at q2
            rw [q1, q2] at q
            have := lt_of _ _ (lt (k + 1) (by omega)) (lt k (by omega)) q
            omega
          · have q4 := List.all_eq_true.mp (List.all_eq_true.mp hst.2 k.toNat (List.mem_range.mpr (by omega))) j.toNat (List.mem_range.mpr (by omega))
            rw [Bool.or_eq_true, Bool.not_eq_true', decide_eq_true_iff] at q4
            have e2 : nxl n a k.toNat j.toNat = b := by
              rcases q4 with q4 | q4
              · exfalso
                have c1 : ga a k.toNat ≤ ga a (k.toNat + 1) := by
                  refine le_of _ _ (lt _ (by omega)) (lt _ (by omega)) ?_
                  have u1 := hvi k k0 (by omega)
                  have u2 := hvi (k + 1) (by omega) k1
                  rw [u1, u2, show (k + 1).toNat = k.toNat + 1 by omega] at k2
                  exact k2
                have c2 : ga a k.toNat ≤ ga a j.toNat := by
                  refine le_of _ _ (lt _ (by omega)) (lt _ (by omega)) ?_
                  rw [hvi k k0 (by omega), hvi j (by omega) j1] at j2
                  exact j2
                have c3 : dsc n a k.toNat = true := by
                  unfold dsc
                  refine List.all_eq_true.mpr (fun i hi => ?_)
                  rw [Bool.or_eq_true, Bool.not_eq_true', decide_eq_false_iff_not, decide_eq_true_iff]
                  by_cases w : k.toNat < i ∧ i + 1 < n
                  · refine Or.inr (lt_of _ _ (lt _ (by omega)) (lt _ (by omega)) ?_)
                    have u := k3 i (by omega) (by omega)
                    rw [hvi (i : Int) (by omega) (by omega), hvi ((i : Int) + 1) (by omega) (by omega), show ((i : Int) + 1).toNat = i + 1 by omega, show ((i : Int)).toNat = i by omega] at u
                    exact u
                  · exact Or.inl w
                have c4 : lowT n a j.toNat k.toNat = true := by
                  unfold lowT
                  refine List.all_eq_true.mpr (fun i hi => ?_)
                  have hi2 := List.mem_range.mp hi
                  rw [Bool.or_eq_true, Bool.not_eq_true', decide_eq_false_iff_not, decide_eq_true_iff]
                  by_cases w : j.toNat < i
                  · refine Or.inr (lt_of _ _ (lt _ (by omega)) (lt _ (by omega)) ?_)
                    have u := j3 i (by omega) (by omega)
                    rw [hvi (i : Int) (by omega) (by omega), hvi k k0 (by omega), show ((i : Int)).toNat = i by omega] at u
                    exact u
                  · exact Or.inl w
                rw [c3, c4, Bool.and_true, Bool.and_true, decide_eq_false_iff_not] at q4
                exact q4 ⟨by omega, c1, by omega, c2⟩
              · exact q4
            have ru2 : R61 M M2 := ru1.tr (R61.ofs (o2.s (l := [88]) (by decide)) (by decide))
            refine ih b M2 z hch.2 ru2 ?_ ?_ ?_ (by rw [o2 61 (by decide)]; exact f47) (fun x hx1 => ?_) (by omega) (fun M3 R r1 r2 r3 r4 r5 r6 r7 => K M3 R r1 r2 r3 r4 (by omega) (fun c hcc => ?_) ?_)
            · rw [o2 87 (by decide), o1 87 (by decide)]; exact e87
            · rw [o2 89 (by decide), o1 89 (by decide)]; exact e89
            · rw [o2 90 (by decide), o1 90 (by decide)]; exact e90
            · rw [hx x (by omega) (by omega), ← e2]
              unfold nxl
              rw [ga_map hx1]
              by_cases w1 : (x : Int) < k
              · rw [if_pos w1, if_pos (show x < k.toNat by omega), hv1 x hx1]
              · rw [if_neg w1, if_neg (show ¬ x < k.toNat by omega)]
                by_cases w2 : (x : Int) = k
                · rw [if_pos w2, if_pos (show x = k.toNat by omega), hvi j (by omega) j1]
                · rw [if_neg w2, if_neg (show ¬ x = k.toNat by omega)]
                  by_cases w3 : (n : Int) + k - x = j
                  · rw [if_pos w3, if_pos (show n + k.toNat - x = j.toNat by omega), hvi k k0 (by omega)]
                  · rw [if_neg w3, if_neg (show ¬ n + k.toNat - x = j.toNat by omega), hvi _ (by omega) (by omega), show ((n : Int) + k - x).toNat = n + k.toNat - x by omega]
            · rcases List.mem_cons.mp hcc with w | w
              · rw [w]; omega
              · exact r6 c w
            · rcases r7 with w | ⟨c, w1, w2⟩
              · rcases z3 with z3 | z3
                · exact Or.inl (w.trans z3)
                · exact Or.inr ⟨a, List.mem_cons_self, z3.trans w.symm⟩
              · exact Or.inr ⟨c, List.mem_cons_of_mem _ w1, w2⟩
        exact ⟨fun y => key best (Int.le_refl _) y (Or.inl rfl), fun y => key _ (by omega) (Int.le_refl _) (Or.inr rfl)⟩
  -- the places of the set
  have L8 : ∀ (r i : Nat) (M' : ax_M), i + r = N → R61 M M' → M' 87 = M 87 → M' 89 = M 89 → M' 90 = M 90 → M' 61 47 = nb X i → Srt (M' 88) X i → ax_J Y_X11_tellSet (ax_Ki Y_X11_tellSet SH post) 0 0 8 [(0, aR 61), (1, aI m), (2, aI e), (3, aI t), (4, aI X), (5, aI i)] [] SH M' := by
    intro r
    induction r with
    | zero =>
      intro i M' hi ru e87 e89 e90 e47 hs
      have ei : i = N := by omega
      subst ei
      refine B_X11_tellSet_8 ?_
      rw [ru.2 0 (by decide)]
      refine ⟨fun _ => ?_, fun z => by omega⟩
      have ch := chn_all ⟨n, by omega⟩
      have hh := prm_hd ⟨n, by omega⟩
      simp only at ch hh
      obtain ⟨L, hL⟩ : ∃ L, prm n (List.range n) = List.range n :: L := by
        cases hq : prm n (List.range n) with
        | nil => rw [hq] at hh; simp at hh
        | cons a L => rw [hq] at hh; simp at hh; exact ⟨L, by rw [hh]⟩
      rw [hL] at ch
      refine L60 (M' 88) hs L (List.range n) M' (-1) ch ru e87 e89 e90 (by rw [e47]; exact hn) (fun x hx => ?_) (Int.le_refl _) (fun M2 R r1 r2 r3 r4 r5 r6 r7 => h M2 R r1 r2 r3 r4 ⟨r5, fun l hl => ?_, ?_⟩)
      · have e : ga (List.range n) x = x := by
          have := ga_map (n := n) (φ := fun x => x) hx
          rw [List.map_id' ] at this
          exact this
        rw [e]
      · obtain ⟨a, a1, a2⟩ := (srt_pl hN hn hs l).mp hl
        rw [a2]
        exact r6 a (by rw [← hL]; exact a1)
      · rcases r7 with w | ⟨c, w1, w2⟩
        · exact Or.inl w
        · exact Or.inr ⟨_, (srt_pl hN hn hs _).mpr ⟨c, by rw [hL]; exact w1, rfl⟩, w2⟩
    | succ r ih =>
      intro i M' hi ru e87 e89 e90 e47 hs
      have ty := tb_yes (x := X) (i := i) (by omega) (by omega)
      have nr := nb_rg X i
      refine B_X11_tellSet_8 ?_
      rw [ru.2 0 (by decide), e47, ty]
      refine ⟨fun z => by omega, fun _ => ⟨fun y => ⟨by omega, ?_⟩, fun y => ?_⟩⟩
      · have y' : tb X (i : Int) = false := by cases q : tb X (i : Int) <;> simp [q] at y ⊢
        have q := srt_no hs y'
        exact ih (i + 1) M' (by omega) ru e87 e89 e90 (by rw [q.1]; exact e47) q.2
      · have q := srt_yes (g := ax_up M' 88 (nb X i) i 88) hs y (fun s => up_k _ _ _ _ _)
        have q6 := nbN (i + 1) (by omega)
        refine ⟨by omega, by omega, by omega, ih (i + 1) _ (by omega) ((ru.tr (R61.ofs (l := [88]) (Ofs.up (by decide)) (by decide))).tr R61.u47) ?_ ?_ ?_ ?_ ?_⟩
        · rw [up_off _ _ _ (by decide), up_off _ _ _ (by decide)]; exact e87
        · rw [up_off _ _ _ (by decide), up_off _ _ _ (by decide)]; exact e89
        · rw [up_off _ _ _ (by decide), up_off _ _ _ (by decide)]; exact e90
        · rw [up_at]; exact q.1.symm
        · rw [up_off _ _ _ (by decide)]; exact q.2
  refine E_X11_tellSet (fun _ => L8 N 0 _ (by omega) R61.u47 (up_off _ _ _ (by decide)) (up_off _ _ _ (by decide)) (up_off _ _ _ (by decide)) ?_ ?_)
  · rw [up_at]; exact (nb.eq_1 X).symm
  · exact srt_0 _ _
