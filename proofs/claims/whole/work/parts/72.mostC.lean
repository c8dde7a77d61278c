set_option maxHeartbeats 4000000 in
set_option maxRecDepth 100000 in
theorem S_X11_findMost {post : Int → ax_M → Prop} {G M : ax_M} {T : Int} (hp0 : PitOk G) (hc : CrewEq G) (hnp : ¬ G 61 0 = 0) (hT : 0 ≤ T ∧ T ≤ 60) (hX : X61 G M) (h : ∀ M' z, X61 G M' → 0 ≤ z → Fin' G T z (M' 61 43) (M' 85) → post z M') : ax_Ti Y_X11_findMost [aR 61, aI T] SH M post := by
  have hb := hc.1
  have L94 : ∀ (r : Nat) (n x3 : Int) (M' : ax_M) (f g lf bg : Int → Int), n + r = G 61 25 → 0 ≤ n → FV G T (pf f g) bg lf n → DI G T f g lf bg M' → ((x3 < 0 ∧ Cl G T (pf f g) bg lf (Sn (M' 61 43) (M' 85))) ∨ (0 ≤ x3 ∧ Sn (M' 61 43) (M' 85) x3 ∧ x3 / 61 = G 61 1 ∧ lf (x3 % 61) < G 61 2)) → ax_J Y_X11_findMost (ax_Ki Y_X11_findMost SH post) 0 0 94 [(0, aR 61), (1, aI T), (2, aI n), (3, aI x3)] [] SH M' := by
    intro r
    induction r with
    | zero =>
      intro n x3 M' f g lf bg hn hn0 hF c hx
      refine B_X11_findMost_94 ⟨fun y => h M' n c.1.1 hn0 ?_, fun y => ?_⟩
      · rcases hx with q | q
        · exact ⟨_, _, _, _, _, hF, c.2.1, q.2⟩
        · omega
      · rcases hx with q | q
        · omega
        · refine S_X11_send hp0 hc hF (by omega) c q.2.1 q.2.2.1 q.2.2.2 (fun M2 _ f2 => ?_)
          have := (fv_le hp0 hc f2).1
          omega
    | succ r ih =>
      intro n x3 M' f g lf bg hn hn0 hF c hx
      refine B_X11_findMost_94 ⟨fun y => h M' n c.1.1 hn0 ?_, fun y => ?_⟩
      · rcases hx with q | q
        · exact ⟨_, _, _, _, _, hF, c.2.1, q.2⟩
        · omega
      · rcases hx with q | q
        · omega
        · refine S_X11_send hp0 hc hF (by omega) c q.2.1 q.2.2.1 q.2.2.2 (fun M2 x2 f2 => ⟨by omega, S_X11_seek hp0 hc hnp hT f2 ⟨x2, rfl, rfl, rfl, rfl⟩ (fun M3 z c3 s3 z1 z2 => ih (n + 1) z M3 _ _ _ _ (by omega) (by omega) f2 c3 (Or.inr ⟨(sn_nd c3.2.1 s3).1, s3, z1, z2⟩)) (fun M3 c3 cl => ih (n + 1) (-1) M3 _ _ _ _ (by omega) (by omega) f2 c3 (Or.inl ⟨by omega, cl⟩))⟩)
  have L67 : ∀ (r : Nat) (i : Int) (M' : ax_M), i + r = 12 → 0 ≤ i → X61 G M' → (∀ a, 0 ≤ a → a < 2928 → M' 78 a = 0) → (∀ a, 0 ≤ a → a < 732 → M' 79 a = 0) → (∀ a, 0 ≤ a → a < 61 → M' 80 a = 0) → (∀ a, 0 ≤ a → a < i → M' 81 a = 0) → ax_J Y_X11_findMost (ax_Ki Y_X11_findMost SH post) 0 0 67 [(0, aR 61), (1, aI T), (2, aI i)] [] SH M' := by
    intro r
    induction r with
    | zero =>
      intro i M' hi hi0 x e1 e2 e3 e4
      have hF : FV G T (pf (M' 78) (M' 79)) (M' 81) (M' 80) 0 := fv_0 hp0 hnp (fun a a0 a1 => by
        unfold pf
        by_cases q : a < 2928
        · rw [if_pos q]; exact e1 a a0 q
        · rw [if_neg q]; exact e2 _ (by omega) (by omega)) (fun p p0 p1 => e4 p p0 (by omega)) e3
      refine B_X11_findMost_67 ⟨fun _ => S_X11_seek hp0 hc hnp hT hF ⟨x, rfl, rfl, rfl, rfl⟩ (fun M3 z c3 s3 z1 z2 => L94 (G 61 25).toNat 0 z M3 _ _ _ _ (by omega) (Int.le_refl _) hF c3 (Or.inr ⟨(sn_nd c3.2.1 s3).1, s3, z1, z2⟩)) (fun M3 c3 cl => L94 (G 61 25).toNat 0 (-1) M3 _ _ _ _ (by omega) (Int.le_refl _) hF c3 (Or.inl ⟨by omega, cl⟩)), fun z => by omega⟩
    | succ r ih =>
      intro i M' hi hi0 x e1 e2 e3 e4
      refine B_X11_findMost_67 ⟨fun z => by omega, fun _ => ⟨by omega, by omega, ih (i + 1) _ (by omega) (by omega) (x.up (by decide)) (by rw [up_off _ _ _ (by decide)]; exact e1) (by rw [up_off _ _ _ (by decide)]; exact e2) (by rw [up_off _ _ _ (by decide)]; exact e3) (fun a a0 a1 => ?_)⟩⟩
      rw [up_k]
      split
      · rfl
      · exact e4 a a0 (by omega)
  have L46 : ∀ (r : Nat) (i : Int) (M' : ax_M), i + r = 61 → 0 ≤ i → X61 G M' → (∀ a, 0 ≤ a → a < 2928 → M' 78 a = 0) → (∀ a, 0 ≤ a → a < 732 → M' 79 a = 0) → (∀ a, 0 ≤ a → a < i → M' 80 a = 0) → ax_J Y_X11_findMost (ax_Ki Y_X11_findMost SH post) 0 0 46 [(0, aR 61), (1, aI T), (2, aI i)] [] SH M' := by
    intro r
    induction r with
    | zero =>
      intro i M' hi hi0 x e1 e2 e3
      rw [show i = 61 by omega] at e3
      exact B_X11_findMost_46 ⟨fun _ => L67 12 0 M' (by omega) (Int.le_refl _) x e1 e2 e3 (fun a b c => by omega), fun z => by omega⟩
    | succ r ih =>
      intro i M' hi hi0 x e1 e2 e3
      refine B_X11_findMost_46 ⟨fun z => by omega, fun _ => ⟨by omega, by omega, ih (i + 1) _ (by omega) (by omega) (x.up (by decide)) (by rw [up_off _ _ _ (by decide)]; exact e1) (by rw [up_off _ _ _ (by decide)]; exact e2) (fun a a0 a1 => ?_)⟩⟩
      rw [up_k]
      split
      · rfl
      · exact e3 a a0 (by omega)
  have L24 : ∀ (r : Nat) (i : Int) (M' : ax_M), i + r = 732 → 0 ≤ i → X61 G M' → (∀ a, 0 ≤ a → a < 2928 → M' 78 a = 0) → (∀ a, 0 ≤ a → a < i → M' 79 a = 0) → ax_J Y_X11_findMost (ax_Ki Y_X11_findMost SH post) 0 0 24 [(0, aR 61), (1, aI T), (2, aI i)] [] SH M' := by
    intro r
    induction r with
    | zero =>
      intro i M' hi hi0 x e1 e2
      rw [show i = 732 by omega] at e2
      exact B_X11_findMost_24 ⟨fun _ => L46 61 0 M' (by omega) (Int.le_refl _) x e1 e2 (fun a b c => by omega), fun z => by omega⟩
    | succ r ih =>
      intro i M' hi hi0 x e1 e2
      refine B_X11_findMost_24 ⟨fun z => by omega, fun _ => ⟨by omega, by omega, ih (i + 1) _ (by omega) (by omega) (x.up (by decide)) (by rw [up_off _ _ _ (by decide)]; exact e1) (fun a a0 a1 => ?_)⟩⟩
      rw [up_k]
      split
      · rfl
      · exact e2 a a0 (by omega)
  have L2 : ∀ (r : Nat) (i : Int) (M' : ax_M), i + r = 2928 → 0 ≤ i → X61 G M' → (∀ a, 0 ≤ a → a < i → M' 78 a = 0) → ax_J Y_X11_findMost (ax_Ki Y_X11_findMost SH post) 0 0 2 [(0, aR 61), (1, aI T), (2, aI i)] [] SH M' := by
    intro r
    induction r with
    | zero =>
      intro i M' hi hi0 x e1
      rw [show i = 2928 by omega] at e1
      exact B_X11_findMost_2 ⟨fun _ => L24 732 0 M' (by omega) (Int.le_refl _) x e1 (fun a b c => by omega), fun z => by omega⟩
    | succ r ih =>
      intro i M' hi hi0 x e1
      refine B_X11_findMost_2 ⟨fun z => by omega, fun _ => ⟨by omega, by omega, ih (i + 1) _ (by omega) (by omega) (x.up (by decide)) (fun a a0 a1 => ?_)⟩⟩
      rw [up_k]
      split
      · rfl
      · exact e1 a a0 (by omega)
  exact E_X11_findMost (fun _ => L2 2928 0 M (by omega) (Int.le_refl _) hX (fun a b c => by omega))
theorem x61_ofs {G M : ax_M} (o : Ofs [40, 41, 42, 43, 44, 45, 46, 47, 48] G M) : X61 G M := by
  have key : ∀ q ∈ [40, 41, 42, 43, 44, 45, 46, 47, 48], q ∈ [40, 41, 42, 43, 44, 45, 46, 47, 48, 61, 78, 79, 80, 81, 82, 83, 84, 85] := by decide
  exact ⟨fun a ha => o a (fun z => ha (key a z)), fun i _ => by rw [o 61 (by decide)]⟩
theorem C_most {n : Int} {M : ax_M} {x1 : Int} (hI : Inv n M) : ax_Ti Y_X10_most [aR 0, aI x1] SH M (fun z1 u1 => ax_Ti Y_X11_most [aR 61, aI x1] SH u1 (fun z2 u2 => z1 = z2 ∧ Inv (n + 1) u2)) := by
  have hnp := hI.1.1.2.2
  have e62 : M 6 2 = M 61 1 := hI.1.2.2.2.1
  refine E_X10_most (fun _ => ?_)
  rw [e62]
  refine ⟨fun c => E_X11_most (fun _ => ⟨fun _ => ⟨rfl, inv_up hI⟩, fun d => by omega⟩), fun c => ⟨fun c1 => E_X11_most (fun _ => ⟨fun d => by omega, fun _ => ⟨fun _ => ⟨rfl, inv_up hI⟩, fun d => by omega⟩⟩), fun c1 => ⟨fun c2 => ?_, fun c2 => E_X11_most (fun _ => ⟨fun d => by omega, fun _ => ⟨fun d => by omega, fun _ => ⟨fun d => by omega, fun _ => ⟨rfl, inv_up hI⟩⟩⟩⟩)⟩⟩⟩
  have np : ¬ M 61 0 = 0 := by omega
  refine S_X2_lift hI.1 hI.2.1 np ⟨c, c1⟩ (fun M1 z o1 hz => ?_)
  have x1' := x61_ofs o1
  refine E_X11_most (fun _ => ⟨fun d => by omega, fun _ => ⟨fun d => by omega, fun _ => ⟨fun _ => S_X11_findMost hI.1.1 hI.2.1 np ⟨c, c1⟩ x1' (fun M2 z2 x2 _ f2 => ⟨?_, inv_up (inv_sam x2.sam hI)⟩), fun d => absurd ((x1'.2 0 (by decide)).symm.trans d) np⟩⟩⟩)
  rcases hz with ⟨e, φ, b, l, f⟩ | ⟨_, f⟩
  · rw [e] at f
    rw [e, (fin_men hI.1.1 hI.2.1 f f2).1]
  · exact (fin_un hI.1.1 hI.2.1 f f2).1
set_option maxHeartbeats 4000000 in
set_option maxRecDepth 100000 in
theorem C_cut {n : Int} {M : ax_M} {x1 : Int} (hI : Inv n M) : ax_Ti Y_X10_cut [aR 0, aI x1] SH M (fun z1 u1 => ax_Ti Y_X11_cut [aR 61, aI x1] SH u1 (fun z2 u2 => z1 = z2 ∧ Inv (n + 1) u2)) := by
  have hnp := hI.1.1.2.2
  have h12 : M 61 0 ≤ 12 := by omega
  have e62 : M 6 2 = M 61 1 := hI.1.2.2.2.1
  refine E_X10_cut (fun _ => ?_)
  rw [e62]
  refine ⟨fun c => E_X11_cut (fun _ => ⟨fun _ => ⟨rfl, inv_up hI⟩, fun d => by omega⟩), fun c => ⟨fun c1 => E_X11_cut (fun _ => ⟨fun d => by omega, fun _ => ⟨fun _ => ⟨rfl, inv_up hI⟩, fun d => by omega⟩⟩), fun c1 => ⟨fun c2 => ?_, fun c2 => E_X11_cut (fun _ => ⟨fun d => by omega, fun _ => ⟨fun d => by omega, fun _ => ⟨fun d => by omega, fun _ => ⟨rfl, inv_up hI⟩⟩⟩⟩)⟩⟩⟩
  have np : ¬ M 61 0 = 0 := by omega
  -- the reference, whatever came before
  have ref : ∀ (M1 : ax_M) (z1 : Int), X61 M M1 → (∀ (M2 : ax_M) (z2 w : Int), Fin' M x1 z2 (M2 61 43) (M2 85) → Ps (M2 61 43) (M2 85) w → z1 = w) → ax_Ti Y_X11_cut [aR 61, aI x1] SH M1 (fun z2 u2 => z1 = z2 ∧ Inv (n + 1) u2) := by
    intro M1 z1 x1' hw
    refine E_X11_cut (fun _ => ⟨fun d => by omega, fun _ => ⟨fun d => by omega, fun _ => ⟨fun _ => S_X11_findMost hI.1.1 hI.2.1 np ⟨c, c1⟩ x1' (fun M2 z2 x2 z20 f2 => ?_), fun d => absurd ((x1'.2 0 (by decide)).symm.trans d) np⟩⟩⟩)
    obtain ⟨φ, b, l, fr, sc, g1, g2, g3⟩ := f2
    have n0 := g2.1
    have n7 := bf_le h12 g2
    have L : ∀ (r : Nat) (i w : Int), i + r = M2 61 43 → 0 ≤ i → Ps i (M2 85) w → ax_J Y_X11_cut (ax_Ki Y_X11_cut SH (fun z2 u2 => z1 = z2 ∧ Inv (n + 1) u2)) 0 0 38 [(0, aR 61), (2, aI z2), (3, aI w), (4, aI i)] [] SH M2 := by
      intro r
      induction r with
      | zero =>
        intro i w hi hi0 hp
        rw [show i = M2 61 43 by omega] at hp
        exact B_X11_cut_38 ⟨fun _ => ⟨hw M2 z2 w ⟨φ, b, l, fr, sc, g1, g2, g3⟩ hp, inv_up (inv_sam x2.sam hI)⟩, fun z => by omega⟩
      | succ r ih =>
        intro i w hi hi0 hp
        have nd := (g2.2.1 i hi0 (by omega)).1
        have nd1 := nd.1
        have nd2 := nd.2.1
        exact B_X11_cut_38 ⟨fun z => by omega, fun _ => ⟨fun z => by omega, fun _ => ⟨by omega, nd1, by omega, ih (i + 1) _ (by omega) (by omega) (ps_s hi0 hp (by omega))⟩⟩⟩
    exact L (M2 61 43).toNat 0 0 (by omega) (Int.le_refl _) (ps_0 _)
  refine S_X2_lift hI.1 hI.2.1 np ⟨c, c1⟩ (fun M1 z o1 hz => ?_)
  have x1' := x61_ofs o1
  have e8 : M1 8 0 = M 61 25 := by rw [o1 8 (by decide)]; exact hI.2.1.1.1
  rw [e8]
  rcases hz with ⟨e, φ, b, l, f⟩ | ⟨ne, f⟩
  · rw [e] at f
    refine ⟨fun y => absurd e y, fun _ => ref M1 0 x1' (fun M2 z2 w f2 hw => ?_)⟩
    have q := (fin_men hI.1.1 hI.2.1 f f2).2
    rw [q] at hw
    exact ps_un (fun _ => Iff.rfl) (ps_0 (M2 85)) hw
  · obtain ⟨φ, b, l, fr, sc, g1, g2, g3⟩ := f
    refine ⟨fun _ => S_X2_seenPlaces ⟨g2.1, bf_le h12 g2⟩ (fun i i0 i1 => ?_) (fun w hw => ref M1 w x1' (fun M2 z2 w2 f2 hw2 => ?_)), fun y => absurd y ne⟩
    · have nd := (g2.2.1 i i0 i1).1
      have nd1 := nd.1
      have nd2 := nd.2.1
      omega
    · exact ps_un (fin_un hI.1.1 hI.2.1 ⟨φ, b, l, fr, sc, g1, g2, g3⟩ f2).2 hw hw2
