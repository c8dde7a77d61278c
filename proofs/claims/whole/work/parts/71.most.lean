set_option maxHeartbeats 4000000 in
set_option maxRecDepth 100000 in
theorem S_X11_seek {post : Int → ax_M → Prop} {G M : ax_M} {T m : Int} {f g lf bg l : Int → Int} (hp0 : PitOk G) (hc : CrewEq G) (hnp : ¬ G 61 0 = 0) (hT : 0 ≤ T ∧ T ≤ 60) (hF : FV G T (pf f g) bg l m) (hM : X61 G M ∧ M 78 = f ∧ M 79 = g ∧ M 80 = lf ∧ M 81 = bg) (hz : ∀ M' z, DI G T f g lf bg M' → Sn (M' 61 43) (M' 85) z → z / 61 = G 61 1 → lf (z % 61) < G 61 2 → post z M') (hno : ∀ M', DI G T f g lf bg M' → Cl G T (pf f g) bg lf (Sn (M' 61 43) (M' 85)) → post (-1) M') : ax_Ti Y_X11_seek [aR 61, aI T] SH M post := by
  have h12 : G 61 0 ≤ 12 := by have := hp0.2.2; omega
  have hb := hp0.2.1
  have sh := hp0.2.2
  have e61 : ∀ {M'}, DI G T f g lf bg M' → M' 61 0 = G 61 0 ∧ M' 61 1 = G 61 1 ∧ M' 61 2 = G 61 2 ∧ M' 61 3 = G 61 3 := fun c => ⟨c.1.1.2 0 (by decide), c.1.1.2 1 (by decide), c.1.1.2 2 (by decide), c.1.1.2 3 (by decide)⟩
  -- head by head
  have L70 : ∀ (r : Nat) (x : Int) (M' : ax_M), x + r = 732 → 0 ≤ x → DI G T f g lf bg M' → (∀ p, 0 ≤ p → p < G 61 0 → bg p < mA G p → Sn (M' 61 43) (M' 85) (61 * p)) → (∀ i, 0 ≤ i → i < x → i < M' 61 43 → Dn G T (pf f g) lf (M' 61 43) (M' 85) (M' 85 i)) → ax_J Y_X11_seek (ax_Ki Y_X11_seek SH post) 0 0 70 [(0, aR 61), (1, aI T), (2, aI x)] [] SH M' := by
    intro r
    have done : ∀ (x : Int) (M' : ax_M), M' 61 43 ≤ x → DI G T f g lf bg M' → (∀ p, 0 ≤ p → p < G 61 0 → bg p < mA G p → Sn (M' 61 43) (M' 85) (61 * p)) → (∀ i, 0 ≤ i → i < x → i < M' 61 43 → Dn G T (pf f g) lf (M' 61 43) (M' 85) (M' 85 i)) → post (-1) M' := by
      intro x M' hx c st dn
      refine hno M' c ⟨fun v hv => sn_nd c.2.1 hv, st, fun u v s ⟨i, i0, i1, i2⟩ hr => ?_, fun t t0 t1 ⟨i, i0, i1, i2⟩ => ?_⟩
      · have := dn i i0 (by omega) i1
        rw [i2] at this
        exact this.1 v s hr
      · have := (dn i i0 (by omega) i1).2
        rw [i2, show (61 * G 61 1 + t) / 61 = G 61 1 by omega, show (61 * G 61 1 + t) % 61 = t by omega] at this
        have q : ¬ lf t < G 61 2 := fun z => this ⟨rfl, z⟩
        omega
    induction r with
    | zero =>
      intro x M' hx hx0 c st dn
      have le := bf_le h12 c.2.1
      exact B_X11_seek_70 ⟨fun y => done x M' y c st dn, fun z => by omega⟩
    | succ r ih =>
      intro x M' hx hx0 c st dn
      refine B_X11_seek_70 ?_
      rw [(e61 c).2.1, (e61 c).2.2.1, c.1.2.2.2.1]
      refine ⟨fun y => done x M' y c st dn, fun y => ?_⟩
      have nd := (c.2.1.2.1 x hx0 y).1
      have sv : Sn (M' 61 43) (M' 85) (M' 85 x) := ⟨x, hx0, y, rfl⟩
      have nd1 := nd.1
      have nd2 := nd.2.1
      have nd3 := nd.2.2
      generalize hu : M' 85 x = u at *
      have eu : 61 * (u / 61) + u % 61 = u := by omega
      have go : ¬ (u / 61 = G 61 1 ∧ lf (u % 61) < G 61 2) → ax_J Y_X11_seek (ax_Ki Y_X11_seek SH post) 0 0 131 [(0, aR 61), (1, aI T), (2, aI x), (3, aI (u / 61)), (4, aI (u % 61)), (5, aI 0)] [] SH M' := by
        intro hns
        -- the end of this one
        have next : ∀ M3, DI G T f g lf bg M3 → GwQ (M' 61 43) (M' 85) (M3 61 43) (M3 85) → (∀ w s, Res G T (pf f g) u w s → Sn (M3 61 43) (M3 85) w) → (-2147483648 ≤ x + 1 ∧ x + 1 ≤ 2147483647) ∧ ax_J Y_X11_seek (ax_Ki Y_X11_seek SH post) 0 0 70 [(0, aR 61), (1, aI T), (2, aI (x + 1))] [] SH M3 := by
          intro M3 c3 g3 d3
          refine ⟨by omega, ih (x + 1) M3 (by omega) (by omega) c3 (fun p p0 p1 p2 => g3.sn (st p p0 p1 p2)) (fun j j0 j1 j2 => ?_)⟩
          have g1 := g3.1
          rcases Int.lt_or_le j (M' 61 43) with z | z
          · rw [g3.2 j j0 z]
            by_cases zx : j = x
            · rw [zx, hu]; exact ⟨d3, hns⟩
            · exact (dn j j0 (by omega) z).gw g3
          · omega
        have L131 : ∀ (n : Nat) (k : Int) (M3 : ax_M), k + n = G 61 3 → 0 ≤ k → DI G T f g lf bg M3 → GwQ (M' 61 43) (M' 85) (M3 61 43) (M3 85) → (∀ w s, Res G T (pf f g) u w s → (∃ j, 0 ≤ j ∧ j < k ∧ ofWay s j) → Sn (M3 61 43) (M3 85) w) → ax_J Y_X11_seek (ax_Ki Y_X11_seek SH post) 0 0 131 [(0, aR 61), (1, aI T), (2, aI x), (3, aI (u / 61)), (4, aI (u % 61)), (5, aI k)] [] SH M3 := by
          intro n
          induction n with
          | zero =>
            intro k M3 hk hk0 c3 g3 d3
            -- waits back
            have fin : ∀ M4, DI G T f g lf bg M4 → GwQ (M3 61 43) (M3 85) (M4 61 43) (M4 85) → (u % 61 < T → Sn (M4 61 43) (M4 85) (u + 1)) → (0 < u % 61 → 0 < g (u - 1) → Sn (M4 61 43) (M4 85) (u - 1)) → (-2147483648 ≤ x + 1 ∧ x + 1 ≤ 2147483647) ∧ ax_J Y_X11_seek (ax_Ki Y_X11_seek SH post) 0 0 70 [(0, aR 61), (1, aI T), (2, aI (x + 1))] [] SH M4 := by
              intro M4 c4 g4 f4 b4
              refine next M4 c4 (g3.tr g4) (fun w s hr => ?_)
              have hr' := hr
              rw [← eu] at hr
              rcases res_way hp0 hT.2 (by omega) hr with a | ⟨k', k0, k1, k2, k3, k4⟩
              · rcases hr' with ⟨s0, r, r1, r2, r3⟩ | ⟨s0, r, r1, r2, r3⟩
                · unfold tlA at r1
                  unfold hdA at r2
                  rw [if_neg (by omega)] at r1 r2
                  rcases r.2 with z | z
                  · omega
                  · have := f4 (by rw [r1] at z; exact z.2.2)
                    rw [show w = u + 1 by omega]; exact this
                · unfold hdA at r1
                  unfold tlA at r2
                  unfold pf at r3
                  rw [if_neg (by omega)] at r1 r2 r3
                  rcases r.2 with z | z
                  · omega
                  · have q : u - 1 = -1 - s - 2928 := by omega
                    have := b4 (by omega) (by rw [q]; exact r3)
                    rw [show w = u - 1 by omega]; exact this
              · exact g4.sn (d3 w s hr' ⟨k', k0, by omega, k4⟩)
            have resB : 0 < u % 61 → 0 < g (u - 1) → Res G T (pf f g) u (u - 1) (-1 - (2928 + (u - 1))) := by
              intro z1 z2
              have e : -1 - (-1 - (2928 + (u - 1))) = 2928 + (u - 1) := by omega
              have pe : pf f g (2928 + (u - 1)) = g (u - 1) := by unfold pf; rw [if_neg (by omega), show 2928 + (u - 1) - 2928 = u - 1 by omega]
              have rl : Rl G T (2928 + (u - 1)) := by
                by_cases z : Rl G T (2928 + (u - 1))
                · exact z
                · have := (hF.1 (2928 + (u - 1)) (by omega) (by omega)).2.2.1 z; omega
              refine Or.inr ⟨by omega, by rw [e]; exact rl, ?_, ?_, by rw [e, pe]; exact z2⟩
              · rw [e]; unfold hdA; rw [if_neg (by omega)]; omega
              · rw [e]; unfold tlA; rw [if_neg (by omega)]; omega
            have back : ∀ M4, DI G T f g lf bg M4 → GwQ (M3 61 43) (M3 85) (M4 61 43) (M4 85) → (u % 61 < T → Sn (M4 61 43) (M4 85) (u + 1)) → 0 < u % 61 → (((M4 79 (61 * (u / 61) + (u % 61 - 1))) ≤ 0) → (-2147483648 ≤ x + 1 ∧ x + 1 ≤ 2147483647) ∧ ax_J Y_X11_seek (ax_Ki Y_X11_seek SH post) 0 0 70 [(0, aR 61), (1, aI T), (2, aI (x + 1))] [] SH M4) ∧ ((0 < M4 79 (61 * (u / 61) + (u % 61 - 1))) → ax_Tv Y_X11_come [aR 61, aI (61 * (u / 61) + (u % 61 - 1)), aI (61 * (u / 61) + u % 61), aI 300] SH M4 (fun u1 => (-2147483648 ≤ x + 1 ∧ x + 1 ≤ 2147483647) ∧ ax_J Y_X11_seek (ax_Ki Y_X11_seek SH post) 0 0 70 [(0, aR 61), (1, aI T), (2, aI (x + 1))] [] SH u1)) := by
              intro M4 c4 g4 f4 z1
              rw [c4.1.2.2.1, eu, show 61 * (u / 61) + (u % 61 - 1) = u - 1 by omega]
              refine ⟨fun y => fin M4 c4 g4 f4 (fun _ z => by omega), fun y => ?_⟩
              have rs := resB z1 y
              refine S_X11_come h12 c4 (res_nd hp0 hT.2 rs).2 ?_ (Or.inr ⟨(g3.tr g4).sn sv, rs, Or.inr (Or.inr (Or.inr rfl))⟩) (fun M5 c5 g5 s5 => fin M5 c5 (g4.tr g5) (fun z => g5.sn (f4 z)) (fun _ _ => s5))
              unfold rsc
              rw [if_neg (by omega), if_neg (by omega), if_neg (by omega)]
            refine B_X11_seek_131 ?_
            rw [(e61 c3).2.2.2]
            refine ⟨fun _ => ⟨fun y => ⟨fun y1 => fin M3 c3 GwQ.rf (fun z => by omega) (fun z => by omega), fun y1 => ⟨by omega, by omega, by omega, by omega, ?_⟩⟩, fun y => ⟨by omega, by omega, by omega, by omega, ?_⟩⟩, fun z => by omega⟩
            · have B := back M3 c3 GwQ.rf (fun z => by omega) y1
              exact ⟨B.1, fun z => ⟨by omega, B.2 z⟩⟩
            · have rl : Rl G T (2928 + u) := ⟨by omega, Or.inr ⟨by omega, by omega, by rw [show 2928 + u - 2928 = u by omega]; exact y⟩⟩
              have rs : Res G T (pf f g) u (u + 1) (2928 + u) := by
                refine Or.inl ⟨by omega, rl, ?_, ?_, fun z => by omega⟩
                · unfold tlA; rw [if_neg (by omega)]; omega
                · unfold hdA; rw [if_neg (by omega)]; omega
              have e1 : 61 * (u / 61) + (u % 61 + 1) = u + 1 := by omega
              rw [e1, eu]
              refine S_X11_come h12 c3 (res_nd hp0 hT.2 rs).2 ?_ (Or.inr ⟨g3.sn sv, rs, Or.inr (Or.inr (Or.inl rfl))⟩) (fun M4 c4 g4 s4 => ⟨fun y1 => fin M4 c4 g4 (fun _ => s4) (fun z => by omega), fun y1 => ⟨by omega, by omega, by omega, ?_⟩⟩)
              · unfold rsc
                rw [if_neg (by omega), if_neg (by omega), if_pos rfl]
              · have B := back M4 c4 g4 (fun _ => s4) y1
                rw [eu] at B
                exact B
          | succ n ihn =>
            intro k M3 hk hk0 c3 g3 d3
            refine B_X11_seek_131 ?_
            rw [(e61 c3).2.2.2]
            refine ⟨fun z => by omega, fun _ => S_X11_goOn hp0 hT hF c3 ⟨hk0, by omega⟩ (by omega) (by rw [eu]; exact g3.sn sv) (fun M4 c4 g4 w4 => ⟨by omega, ihn (k + 1) M4 (by omega) (by omega) c4 (g3.tr g4) (fun w s hr hj => ?_)⟩)⟩
            obtain ⟨j, j0, j1, j2⟩ := hj
            by_cases z : j = k
            · subst z
              rw [eu] at w4
              exact w4 w s hr j2
            · exact g4.sn (d3 w s hr ⟨j, j0, by omega, j2⟩)
        exact L131 (G 61 3).toNat 0 M' (by omega) (Int.le_refl _) c GwQ.rf (fun w s _ ⟨j, a, b, _⟩ => by omega)
      exact ⟨by omega, nd1, fun y1 => go (fun z => y1 z.1), fun y1 => ⟨by omega, fun y2 => go (fun z => by omega), fun y2 => hz M' u c sv y1 y2⟩⟩
  have L29 : ∀ (r : Nat) (p : Int) (M' : ax_M), p + r = G 61 0 → 0 ≤ p → DI G T f g lf bg M' → (∀ p', 0 ≤ p' → p' < p → bg p' < mA G p' → Sn (M' 61 43) (M' 85) (61 * p')) → ax_J Y_X11_seek (ax_Ki Y_X11_seek SH post) 0 0 29 [(0, aR 61), (1, aI T), (2, aI p)] [] SH M' := by
    intro r
    induction r with
    | zero =>
      intro p M' hp hp0' c st
      refine B_X11_seek_29 ?_
      rw [(e61 c).1]
      exact ⟨fun _ => L70 732 0 M' (by omega) (Int.le_refl _) c (fun p' a b d => st p' a (by omega) d) (fun i a b => by omega), fun z => by omega⟩
    | succ r ih =>
      intro p M' hp hp0' c st
      refine B_X11_seek_29 ?_
      rw [(e61 c).1, c.1.2.2.2.2]
      refine ⟨fun z => by omega, fun _ => ⟨by omega, S_X11_menAt hc (c.1.1.1 72 (by decide)) (c.1.1.2 25 (by decide)) ⟨fun y => ⟨by omega, ih (p + 1) M' (by omega) (by omega) c (fun p' a b d => ?_)⟩, fun y => ⟨by omega, by omega, ?_⟩⟩⟩⟩
      · by_cases z : p' = p
        · subst z; omega
        · exact st p' a (by omega) d
      · rw [Int.add_zero]
        refine S_X11_come (s := rsc (-1) (-1) (61 * p)) h12 c ⟨by omega, by omega, by omega⟩ rfl (Or.inl ⟨rfl, by omega, by rw [show 61 * p / 61 = p by omega]; exact y⟩) (fun M2 c2 g2 s2 => ⟨by omega, ih (p + 1) M2 (by omega) (by omega) c2 (fun p' a b d => ?_)⟩)
        by_cases z : p' = p
        · subst z; exact s2
        · exact g2.sn (st p' a (by omega) d)
  have L7 : ∀ (r : Nat) (x : Int) (M' : ax_M), x + r = 732 → 0 ≤ x → (X61 G M' ∧ M' 78 = f ∧ M' 79 = g ∧ M' 80 = lf ∧ M' 81 = bg) → M' 61 43 = 0 → (∀ v, 0 ≤ v → v < x → M' 82 v = 0) → ax_J Y_X11_seek (ax_Ki Y_X11_seek SH post) 0 0 7 [(0, aR 61), (1, aI T), (2, aI x)] [] SH M' := by
    intro r
    induction r with
    | zero =>
      intro x M' hx hx0 c e43 e82
      refine B_X11_seek_7 ⟨fun _ => L29 (G 61 0).toNat 0 M' (by omega) (Int.le_refl _) ⟨c, ?_, fun v v0 v1 => ?_, fun v ⟨i, a, b, _⟩ => by omega⟩ (fun p' a b => by omega), fun z => by omega⟩
      · rw [e43]; exact ⟨Int.le_refl _, fun i a b => by omega, fun i j a b => by omega⟩
      · rw [e82 v v0 (by omega), e43]
        exact ⟨fun z => absurd rfl z, fun ⟨i, a, b, _⟩ => by omega⟩
    | succ r ih =>
      intro x M' hx hx0 c e43 e82
      refine B_X11_seek_7 ⟨fun z => by omega, fun _ => ⟨by omega, by omega, ih (x + 1) _ (by omega) (by omega) ⟨c.1.up (by decide), ?_, ?_, ?_, ?_⟩ ?_ (fun v v0 v1 => ?_)⟩⟩
      · rw [up_off _ _ _ (by decide)]; exact c.2.1
      · rw [up_off _ _ _ (by decide)]; exact c.2.2.1
      · rw [up_off _ _ _ (by decide)]; exact c.2.2.2.1
      · rw [up_off _ _ _ (by decide)]; exact c.2.2.2.2
      · rw [up_off _ _ _ (by decide)]; exact e43
      · rw [up_k]
        split
        · rfl
        · exact e82 v v0 (by omega)
  refine E_X11_seek (fun _ => L7 732 0 _ (by omega) (Int.le_refl _) ⟨hM.1.u43, ?_, ?_, ?_, ?_⟩ (up_at _ _ _ _) (fun v a b => by omega))
  · rw [up_off _ _ _ (by decide)]; exact hM.2.1
  · rw [up_off _ _ _ (by decide)]; exact hM.2.2.1
  · rw [up_off _ _ _ (by decide)]; exact hM.2.2.2.1
  · rw [up_off _ _ _ (by decide)]; exact hM.2.2.2.2
set_option maxHeartbeats 4000000 in
set_option maxRecDepth 100000 in
theorem S_X11_send {post : ax_M → Prop} {G M : ax_M} {T m z : Int} {f g lf bg : Int → Int} (hp0 : PitOk G) (hc : CrewEq G) (hF : FV G T (pf f g) bg lf m) (hm : m ≤ 8) (c : DI G T f g lf bg M) (hz : Sn (M 61 43) (M 85) z) (hz1 : z / 61 = G 61 1) (hz2 : lf (z % 61) < G 61 2) (h : ∀ M', X61 G M' → FV G T (pf (M' 78) (M' 79)) (M' 81) (M' 80) (m + 1) → post M') : ax_Tv Y_X11_send [aR 61, aI z] SH M post := by
  have h12 : G 61 0 ≤ 12 := by have := hp0.2.2; omega
  have nd := sn_nd c.2.1 hz
  have nd1 := nd.1
  have nd2 := nd.2.1
  have lr := hF.2.2.1 (z % 61) (by omega) (by omega)
  have lif : G 61 2 ≤ 9 := by have := hp0.2.2; omega
  obtain ⟨i0, a0, a1, a2⟩ := hz
  have top : z = 61 * G 61 1 + z % 61 := by omega
  have L : ∀ (r i : Nat) (M' : ax_M), i ≤ r → (i : Int) < M 61 43 → X61 G M' → Ofs [78, 79, 80] M M' → (∀ u, M' 80 u = if u = z % 61 then lf u + 1 else lf u) → Wk G T (pf f g) (M 61 43) m (M 85) (61 * G 61 1 + z % 61) i (pf (M' 78) (M' 79)) → ax_J Y_X11_send (ax_Kv Y_X11_send SH post) 0 0 15 [(0, aR 61), (2, aI (M 85 i))] [] SH M' := by
    intro r
    have start : ∀ (i : Nat) (M' : ax_M), (i : Int) < M 61 43 → X61 G M' → Ofs [78, 79, 80] M M' → (∀ u, M' 80 u = if u = z % 61 then lf u + 1 else lf u) → Wk G T (pf f g) (M 61 43) m (M 85) (61 * G 61 1 + z % 61) i (pf (M' 78) (M' 79)) → M 83 (M 85 i) < 0 ∧ M 85 i % 61 = 0 ∧ bg (M 85 i / 61) < mA G (M 85 i / 61) → ax_J Y_X11_send (ax_Kv Y_X11_send SH post) 0 0 15 [(0, aR 61), (2, aI (M 85 i))] [] SH M' := by
      intro i M' hin x o e80 wk hs
      have bi := c.2.1.2.1 i (by omega) hin
      have q1 := bi.1.1
      have q2 := bi.1.2.1
      have br := hF.2.1 (M 85 i / 61) (by omega) (by omega)
      have mr : 0 ≤ mA G (M 85 i / 61) ∧ mA G (M 85 i / 61) ≤ ((G 61 25).toNat : Int) := mn_rg G (M 85 i / 61) (G 61 25).toNat
      have hcb := hc.1
      refine B_X11_send_15 ?_
      rw [o 83 (by decide), o 81 (by decide), c.1.2.2.2.2]
      refine ⟨by omega, fun _ => ⟨by omega, by omega, by omega, h _ (x.up (by decide)) ?_⟩, fun y => by omega⟩
      have e := wk_e hp0 (b' := ax_up M' 81 (M 85 i / 61) (bg (M 85 i / 61) + 1) 81) (l' := M' 80) hF wk ⟨q1, by omega, hs.2.1⟩ hs.2.2 (by omega) hz2 (fun p p0 p1 => ?_) (fun u _ _ => e80 u)
      · rw [up_off (k := 81) (a := 78) _ _ _ (by decide), up_off (k := 81) (a := 79) _ _ _ (by decide), up_off (k := 81) (a := 80) _ _ _ (by decide)]
        exact e
      · rw [up_k, o 81 (by decide), c.1.2.2.2.2]
        by_cases w : p = M 85 i / 61
        · rw [if_pos w, if_pos w, w]
        · rw [if_neg w, if_neg w]
    induction r with
    | zero =>
      intro i M' hi hin x o e80 wk
      have bi := c.2.1.2.1 i (by omega) hin
      rcases bi.2 with hs | ⟨j, j0, j1, _⟩
      · exact start i M' hin x o e80 wk hs
      · omega
    | succ r ih =>
      intro i M' hi hin x o e80 wk
      have bi := c.2.1.2.1 i (by omega) hin
      have q1 := bi.1.1
      have q2 := bi.1.2.1
      rcases bi.2 with hs | ⟨j, j0, j1, j2, j3⟩
      · exact start i M' hin x o e80 wk hs
      · have jn := (c.2.1.2.1 j j0 (by omega)).1
        have jn1 := jn.1
        have jn2 := jn.2.1
        have bk := c.2.2.2 (M 85 i) ⟨i, by omega, hin, rfl⟩ (by rw [j2]; exact jn1)
        obtain ⟨j', rfl⟩ : ∃ j' : Nat, j = j' := ⟨j.toNat, by omega⟩
        have hr : Res G T (pf f g) (M 85 j') (M 85 i) (rsc (M 84 (M 85 i)) (M 83 (M 85 i)) (M 85 i)) := j3
        rw [j2] at hr
        have wks : ∀ M2 : ax_M, (0 ≤ rsc (M 84 (M 85 i)) (M 85 j') (M 85 i) → ∀ a, 0 ≤ a → a < 3660 → pf (M2 78) (M2 79) a = if a = rsc (M 84 (M 85 i)) (M 85 j') (M 85 i) then pf (M' 78) (M' 79) a + 1 else pf (M' 78) (M' 79) a) → (rsc (M 84 (M 85 i)) (M 85 j') (M 85 i) < 0 → ∀ a, 0 ≤ a → a < 3660 → pf (M2 78) (M2 79) a = if a = -1 - rsc (M 84 (M 85 i)) (M 85 j') (M 85 i) then pf (M' 78) (M' 79) a - 1 else pf (M' 78) (M' 79) a) → Wk G T (pf f g) (M 61 43) m (M 85) (61 * G 61 1 + z % 61) j' (pf (M2 78) (M2 79)) := fun M2 u1 u2 => wk_s c.2.1 wk (fun a b d => (hF.1 a b d).2.1) j0 j1 hin hr u1 u2
        have wr : ∀ a, 0 ≤ a → a < 3660 → 0 ≤ pf (M' 78) (M' 79) a ∧ pf (M' 78) (M' 79) a ≤ m + 1 := fun a u v => ⟨(wk.1 a u v).1, (wk.1 a u v).2.1⟩
        refine B_X11_send_15 ?_
        rw [o 83 (by decide), o 84 (by decide), j2]
        generalize hy : M 84 (M 85 i) = y at *
        refine ⟨by omega, fun w => by omega, fun _ => ⟨fun w => ⟨fun w2 => ⟨fun w3 => ?_, fun w3 => ?_⟩, fun w2 => ?_⟩, fun w => ?_⟩⟩
        · -- a wait back
          have es : rsc y (M 85 j') (M 85 i) = -1 - (2928 + M 85 i) := by unfold rsc; rw [if_neg (by omega), if_neg (by omega), if_neg w3]
          have wa := wr (2928 + M 85 i) (by omega) (by omega)
          have pa : pf (M' 78) (M' 79) (2928 + M 85 i) = M' 79 (M 85 i) := by unfold pf; rw [if_neg (by omega), show 2928 + M 85 i - 2928 = M 85 i by omega]
          rw [pa] at wa
          refine ⟨by omega, ih j' _ (by omega) (by omega) (x.up (by decide)) (o.tr (Ofs.up (by decide))) (fun u => by rw [up_off _ _ _ (by decide)]; exact e80 u) (wks _ (fun s => by omega) (fun _ a b d => ?_))⟩
          rw [es, show -1 - (-1 - (2928 + M 85 i)) = 2928 + M 85 i by omega]
          unfold pf
          rw [up_off (k := 79) (a := 78) _ _ _ (by decide), up_k]
          by_cases u : a < 2928
          · rw [if_pos u, if_neg (by omega), if_pos u]
          · rw [if_neg u, if_neg u]
            by_cases u2 : a = 2928 + M 85 i
            · rw [if_pos u2, if_pos (by omega), show a - 2928 = M 85 i by omega]
            · rw [if_neg u2, if_neg (by omega)]
        · -- a wait
          have es : rsc y (M 85 j') (M 85 i) = 2928 + M 85 j' := by unfold rsc; rw [if_neg (by omega), if_neg (by omega), if_pos w3]
          have wa := wr (2928 + M 85 j') (by omega) (by omega)
          have pa : pf (M' 78) (M' 79) (2928 + M 85 j') = M' 79 (M 85 j') := by unfold pf; rw [if_neg (by omega), show 2928 + M 85 j' - 2928 = M 85 j' by omega]
          rw [pa] at wa
          refine ⟨by omega, by omega, ih j' _ (by omega) (by omega) (x.up (by decide)) (o.tr (Ofs.up (by decide))) (fun u => by rw [up_off _ _ _ (by decide)]; exact e80 u) (wks _ (fun _ a b d => ?_) (fun s => by omega))⟩
          rw [es]
          unfold pf
          rw [up_off (k := 79) (a := 78) _ _ _ (by decide), up_k]
          by_cases u : a < 2928
          · rw [if_pos u, if_neg (by omega), if_pos u]
          · rw [if_neg u, if_neg u]
            by_cases u2 : a = 2928 + M 85 j'
            · rw [if_pos u2, if_pos (by omega), show a - 2928 = M 85 j' by omega]
            · rw [if_neg u2, if_neg (by omega)]
        · -- a way back
          have yb : y < 148 := by rcases bk with u | u | u | u <;> omega
          have es : rsc y (M 85 j') (M 85 i) = -1 - (61 * (y - 100) + M 85 i % 61) := by unfold rsc; rw [if_neg (by omega), if_pos w2]
          have wa := wr (61 * (y - 100) + M 85 i % 61) (by omega) (by omega)
          have pa : pf (M' 78) (M' 79) (61 * (y - 100) + M 85 i % 61) = M' 78 (61 * (y - 100) + M 85 i % 61) := by unfold pf; rw [if_pos (by omega)]
          rw [pa] at wa
          refine ⟨by omega, by omega, by omega, by omega, by omega, by omega, ih j' _ (by omega) (by omega) (x.up (by decide)) (o.tr (Ofs.up (by decide))) (fun u => by rw [up_off _ _ _ (by decide)]; exact e80 u) (wks _ (fun s => by omega) (fun _ a b d => ?_))⟩
          rw [es, show -1 - (-1 - (61 * (y - 100) + M 85 i % 61)) = 61 * (y - 100) + M 85 i % 61 by omega]
          unfold pf
          rw [up_off (k := 78) (a := 79) _ _ _ (by decide), up_k]
          by_cases u : a < 2928
          · rw [if_pos u, if_pos u]
            by_cases u2 : a = 61 * (y - 100) + M 85 i % 61
            · rw [if_pos u2, if_pos u2, u2]
            · rw [if_neg u2, if_neg u2]
          · rw [if_neg u, if_neg u, if_neg (by omega)]
        · -- a way
          have yb : 0 ≤ y ∧ y < 48 := by rcases bk with u | u | u | u <;> omega
          have es : rsc y (M 85 j') (M 85 i) = 61 * y + M 85 j' % 61 := by unfold rsc; rw [if_pos w]
          have wa := wr (61 * y + M 85 j' % 61) (by omega) (by omega)
          have pa : pf (M' 78) (M' 79) (61 * y + M 85 j' % 61) = M' 78 (61 * y + M 85 j' % 61) := by unfold pf; rw [if_pos (by omega)]
          rw [pa] at wa
          refine ⟨by omega, by omega, by omega, by omega, ih j' _ (by omega) (by omega) (x.up (by decide)) (o.tr (Ofs.up (by decide))) (fun u => by rw [up_off _ _ _ (by decide)]; exact e80 u) (wks _ (fun _ a b d => ?_) (fun s => by omega))⟩
          rw [es]
          unfold pf
          rw [up_off (k := 78) (a := 79) _ _ _ (by decide), up_k]
          by_cases u : a < 2928
          · rw [if_pos u, if_pos u]
            by_cases u2 : a = 61 * y + M 85 j' % 61
            · rw [if_pos u2, if_pos u2, u2]
            · rw [if_neg u2, if_neg u2]
          · rw [if_neg u, if_neg u, if_neg (by omega)]
  obtain ⟨i, rfl⟩ : ∃ i : Nat, i0 = i := ⟨i0.toNat, by omega⟩
  refine E_X11_send (fun _ => ⟨by omega, by omega, by rw [c.1.2.2.2.1]; omega, ?_⟩)
  have w0 : Wk G T (pf f g) (M 61 43) m (M 85) (M 85 i) i (pf f g) := wk_0 hF
  rw [c.1.2.2.2.1]
  have K := L i i (ax_up M 80 (z % 61) (lf (z % 61) + 1)) (Nat.le_refl _) a1 (c.1.1.up (by decide)) (Ofs.up (by decide)) (fun u => ?_) ?_
  · rw [a2] at K; exact K
  · rw [up_k, c.1.2.2.2.1]
    by_cases w : u = z % 61
    · rw [if_pos w, if_pos w, w]
    · rw [if_neg w, if_neg w]
  · rw [up_off (k := 80) (a := 78) _ _ _ (by decide), up_off (k := 80) (a := 79) _ _ _ (by decide), c.1.2.1, c.1.2.2.1, ← top, ← a2]
    exact w0
