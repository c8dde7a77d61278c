/-- what the reference's seeking changes -/
def X61 (G M' : ax_M) : Prop := (∀ a, a ∉ [40, 41, 42, 43, 44, 45, 46, 47, 48, 61, 78, 79, 80, 81, 82, 83, 84, 85] → M' a = G a) ∧ ∀ i, i ≠ 43 → M' 61 i = G 61 i
theorem X61.up {G M' : ax_M} {q : Nat} {i v : Int} (h : X61 G M') (hq : q ∈ [78, 79, 80, 81, 82, 83, 84, 85]) : X61 G (ax_up M' q i v) := by
  have key : ∀ q ∈ [78, 79, 80, 81, 82, 83, 84, 85], q ∈ [40, 41, 42, 43, 44, 45, 46, 47, 48, 61, 78, 79, 80, 81, 82, 83, 84, 85] := by decide
  refine ⟨fun a ha => ?_, fun i hi => ?_⟩
  · rw [up_off _ _ _ (fun z => ha (by rw [z]; exact key q hq))]; exact h.1 a ha
  · rw [up_off _ _ _ (fun z => by rw [← z] at hq; exact absurd hq (by decide))]; exact h.2 i hi
theorem X61.u43 {G M' : ax_M} {v : Int} (h : X61 G M') : X61 G (ax_up M' 61 43 v) := ⟨fun a ha => by rw [up_off _ _ _ (fun z => ha (by rw [z]; decide))]; exact h.1 a ha, fun i hi => by rw [up_ne _ _ _ hi]; exact h.2 i hi⟩
theorem X61.sam {G M' : ax_M} (h : X61 G M') : Sam G M' := ⟨fun a ha => h.1 a (by revert a; decide), fun i hi => h.2 i (by revert i; decide)⟩
def pf (f g : Int → Int) (a : Int) : Int := if a < 2928 then f a else g (a - 2928)
def rsc (by_ u v : Int) : Int := if by_ < 100 then 61 * by_ + u % 61 else if by_ < 200 then -1 - (61 * (by_ - 100) + v % 61) else if by_ = 200 then 2928 + u else -1 - (2928 + v)
def Bk (x : Int) : Prop := (0 ≤ x ∧ x < 48) ∨ (100 ≤ x ∧ x < 148) ∨ x = 200 ∨ x = 300
/-- the reference while it seeks -/
def DI (G : ax_M) (T : Int) (f g lf bg : Int → Int) (M' : ax_M) : Prop := (X61 G M' ∧ M' 78 = f ∧ M' 79 = g ∧ M' 80 = lf ∧ M' 81 = bg) ∧ Bf G T (pf f g) bg (M' 61 43) (M' 85) (M' 83) (fun v => rsc (M' 84 v) (M' 83 v) v) ∧ (∀ v, 0 ≤ v → v < 732 → (¬ M' 82 v = 0 ↔ Sn (M' 61 43) (M' 85) v)) ∧ ∀ v, Sn (M' 61 43) (M' 85) v → 0 ≤ M' 83 v → Bk (M' 84 v)
theorem S_X11_come {post : ax_M → Prop} {G M' : ax_M} {T v u y s : Int} {f g lf bg : Int → Int} (h12 : G 61 0 ≤ 12) (hI : DI G T f g lf bg M') (hv : Nd G T v) (hs : rsc y u v = s) (hr : (u = -1 ∧ v % 61 = 0 ∧ bg (v / 61) < mA G (v / 61)) ∨ (Sn (M' 61 43) (M' 85) u ∧ Res G T (pf f g) u v s ∧ Bk y)) (h : ∀ M2, DI G T f g lf bg M2 → GwQ (M' 61 43) (M' 85) (M2 61 43) (M2 85) → Sn (M2 61 43) (M2 85) v → post M2) : ax_Tv Y_X11_come [aR 61, aI v, aI u, aI y] SH M' post := by
  obtain ⟨⟨x, c78, c79, c80, c81⟩, hB, hsn, hbk⟩ := hI
  have hv7 : 0 ≤ v ∧ v < 732 := ⟨hv.1, by have := hv.2.1; omega⟩
  have hs' := hsn v hv7.1 hv7.2
  refine E_X11_come (fun _ => ⟨hv7, fun y => h M' ⟨⟨x, c78, c79, c80, c81⟩, hB, hsn, hbk⟩ GwQ.rf (hs'.mp y), fun y0 => ?_⟩)
  have ns : ¬ Sn (M' 61 43) (M' 85) v := fun z => hs'.mpr z y0
  have n7 := bf_lt h12 hB hv ns
  have n0 := hB.1
  refine ⟨by omega, by omega, ?_⟩
  generalize hM2 : ax_up (ax_up (ax_up (ax_up (ax_up M' 82 v 1) 83 v u) 84 v y) 85 (M' 61 43) v) 61 43 (M' 61 43 + 1) = M2
  have x2 : X61 G M2 := by rw [← hM2]; exact ((((x.up (by decide)).up (by decide)).up (by decide)).up (by decide)).u43
  have o2 : Ofs [61, 82, 83, 84, 85] M' M2 := by rw [← hM2]; exact ((((Ofs.up (by decide)).tr (Ofs.up (by decide))).tr (Ofs.up (by decide))).tr (Ofs.up (by decide))).tr (Ofs.up (by decide))
  have en : M2 61 43 = M' 61 43 + 1 := by rw [← hM2]; exact up_at _ _ _ _
  have eq' : ∀ i, M2 85 i = if i = M' 61 43 then v else M' 85 i := by
    intro i
    rw [← hM2, up_off _ _ _ (by decide), up_k, up_off _ _ _ (by decide), up_off _ _ _ (by decide), up_off _ _ _ (by decide)]
  have e83 : ∀ w, M2 83 w = if w = v then u else M' 83 w := by
    intro w
    rw [← hM2, up_off _ _ _ (by decide), up_off _ _ _ (by decide), up_off _ _ _ (by decide), up_k, up_off _ _ _ (by decide)]
  have e84 : ∀ w, M2 84 w = if w = v then y else M' 84 w := by
    intro w
    rw [← hM2, up_off _ _ _ (by decide), up_off _ _ _ (by decide), up_k, up_off _ _ _ (by decide), up_off _ _ _ (by decide)]
  have e82 : ∀ w, M2 82 w = if w = v then 1 else M' 82 w := by
    intro w
    rw [← hM2, up_off _ _ _ (by decide), up_off _ _ _ (by decide), up_off _ _ _ (by decide), up_off _ _ _ (by decide), up_k]
  have gw : GwQ (M' 61 43) (M' 85) (M2 61 43) (M2 85) := ⟨by omega, fun i a c => by rw [eq', if_neg (by omega)]⟩
  have sv : Sn (M2 61 43) (M2 85) v := ⟨M' 61 43, n0, by omega, by rw [eq', if_pos rfl]⟩
  have back : ∀ w, ¬ w = v → Sn (M2 61 43) (M2 85) w → Sn (M' 61 43) (M' 85) w := by
    rintro w z ⟨i, a, c, d⟩
    rw [eq'] at d
    by_cases z2 : i = M' 61 43
    · rw [if_pos z2] at d; exact absurd d.symm z
    · rw [if_neg z2] at d; exact ⟨i, a, by omega, d⟩
  refine h M2 ⟨⟨x2, (o2 78 (by decide)).trans c78, (o2 79 (by decide)).trans c79, (o2 80 (by decide)).trans c80, (o2 81 (by decide)).trans c81⟩, ?_, fun w w0 w1 => ?_, fun w hw0 hw1 => ?_⟩ gw sv
  · rw [en]
    refine bf_add (u := u) (s := s) hB hv ns ?_ eq' e83 (fun w => ?_)
    · rcases hr with z | z
      · exact Or.inl ⟨by omega, z.2.1, z.2.2⟩
      · exact Or.inr ⟨z.1, z.2.1⟩
    · rw [e83, e84]
      by_cases z : w = v
      · rw [if_pos z, if_pos z, if_pos z, z]; exact hs
      · rw [if_neg z, if_neg z, if_neg z]
  · rw [e82]
    by_cases z : w = v
    · subst z
      rw [if_pos rfl]
      exact ⟨fun _ => sv, fun _ => by decide⟩
    · rw [if_neg z, hsn w w0 w1]
      exact ⟨gw.sn, back w z⟩
  · rw [e83] at hw1
    rw [e84]
    by_cases z : w = v
    · rw [if_pos z] at hw1 ⊢
      rcases hr with q | q
      · omega
      · exact q.2.2
    · rw [if_neg z] at hw1 ⊢
      exact hbk w (back w z hw0) hw1
theorem S_X11_menAt {post : Int → ax_M → Prop} {G M : ax_M} {p : Int} (hc : CrewEq G) (e72 : M 72 = G 72) (e25 : M 61 25 = G 61 25) (h : post (mA G p) M) : ax_Ti Y_X11_menAt [aR 61, aI p] SH M post := by
  have hb := hc.1
  have L : ∀ (r j : Nat), (G 61 25).toNat = j + r → ax_J Y_X11_menAt (ax_Ki Y_X11_menAt SH post) 0 0 4 [(0, aR 61), (1, aI p), (2, aI (mn G p j)), (3, aI j)] [] SH M := by
    intro r
    induction r with
    | zero =>
      intro j hj
      refine B_X11_menAt_4 ?_
      rw [e25]
      refine ⟨fun _ => ?_, fun z => by omega⟩
      unfold mA at h
      rw [show (G 61 25).toNat = j by omega] at h
      exact h
    | succ r ih =>
      intro j hj
      have K := ih (j + 1) (by omega)
      have mr := mn_rg G p j
      rw [mn.eq_2] at K
      refine B_X11_menAt_4 ?_
      rw [e25, e72]
      refine ⟨fun z => by omega, fun _ => ⟨by omega, fun y => ⟨by omega, by omega, ?_⟩, fun y => ⟨by omega, by omega, ?_⟩⟩⟩
      · rw [if_neg y] at K; exact K
      · rw [if_pos y] at K; exact K
  exact E_X11_menAt (fun _ => L _ 0 (Nat.zero_add _).symm)
theorem ofWay_un {s k k' : Int} (h : ofWay s k) (h' : ofWay s k') : k = k' := by
  unfold ofWay at *
  omega
set_option maxHeartbeats 4000000 in
set_option maxRecDepth 100000 in
theorem S_X11_goOn {post : ax_M → Prop} {G M' : ax_M} {T k p t m : Int} {f g lf bg b l : Int → Int} (hp0 : PitOk G) (hT : 0 ≤ T ∧ T ≤ 60) (hF : FV G T (pf f g) b l m) (hI : DI G T f g lf bg M') (hk : 0 ≤ k ∧ k < G 61 3) (ht : 0 ≤ t ∧ t ≤ T) (hv : Sn (M' 61 43) (M' 85) (61 * p + t)) (h : ∀ M2, DI G T f g lf bg M2 → GwQ (M' 61 43) (M' 85) (M2 61 43) (M2 85) → (∀ w s, Res G T (pf f g) (61 * p + t) w s → ofWay s k → Sn (M2 61 43) (M2 85) w) → post M2) : ax_Tv Y_X11_goOn [aR 61, aI k, aI p, aI t, aI T] SH M' post := by
  have h12 : G 61 0 ≤ 12 := by have := hp0.2.2; omega
  have hb := hp0.2.1
  have wk := hp0.1 k hk.1 hk.2
  have vn := sn_nd hI.2.1 hv
  have vn1 := vn.1
  have vn2 := vn.2.1
  have pr : 0 ≤ p ∧ p < G 61 0 := by omega
  have none : ¬ ((G 62 k = p ∨ G 63 k = p) ∧ G 69 k = 0) → post M' := by
    intro z
    refine h M' hI GwQ.rf (fun w s hr hs => ?_)
    exfalso
    rcases res_way hp0 hT.2 ht hr with a | ⟨k', k0, k1, k2, k3, k4⟩
    · unfold ofWay at hs; omega
    · have e := ofWay_un hs k4
      subst e
      exact z ⟨k3, k2⟩
  -- with the side
  have J43 : ∀ (x5 q : Int), (if G 62 k = p then 0 else 1) = x5 → (if G 62 k = p then G 63 k else G 62 k) = q → (G 62 k = p ∨ G 63 k = p) → G 69 k = 0 → ax_J Y_X11_goOn (ax_Kv Y_X11_goOn SH post) 0 0 43 [(0, aR 61), (1, aI k), (2, aI p), (3, aI t), (4, aI T), (5, aI x5)] [aI q] SH M' := by
    intro x5 q hx5 hq hp h69
    have x501 : x5 = 0 ∨ x5 = 1 := by rw [← hx5]; split <;> simp
    have hqr : 0 ≤ q ∧ q < G 61 0 ∧ (G 62 k = q ∨ G 63 k = q) ∧ (if G 62 k = q then G 63 k else G 62 k) = p ∧ (if G 62 k = q then (0 : Int) else 1) = 1 - x5 := by
      by_cases z : G 62 k = p
      · rw [if_pos z] at hq hx5
        rw [if_neg (by omega), if_neg (by omega)]
        omega
      · rw [if_neg z] at hq hx5
        rw [if_pos hq, if_pos hq]
        omega
    have fa := arc_in (G := G) (k := k) (p := p) (t := t) (q := q) (by omega) (by omega) wk.1.2.2.2.2 hp hq.symm
    rw [hx5] at fa
    have xg : ∀ {M2}, DI G T f g lf bg M2 → M2 64 = G 64 ∧ M2 66 = G 66 ∧ M2 67 = G 67 ∧ M2 78 = f := fun c => ⟨c.1.1.1 64 (by decide), c.1.1.1 66 (by decide), c.1.1.1 67 (by decide), c.1.2.1⟩
    have J120 : ∀ M2, DI G T f g lf bg M2 → GwQ (M' 61 43) (M' 85) (M2 61 43) (M2 85) → ((t + G 64 k ≤ T ∧ t + G 64 k ≤ G 67 k ∧ f (61 * (2 * k + x5) + t) < G 66 k) → Sn (M2 61 43) (M2 85) (61 * q + (t + G 64 k))) → ax_J Y_X11_goOn (ax_Kv Y_X11_goOn SH post) 0 0 120 [(0, aR 61), (1, aI k), (2, aI p), (3, aI t), (5, aI x5), (6, aI q)] [] SH M2 := by
      intro M2 c2 g2 f2
      have fin : ∀ M3, DI G T f g lf bg M3 → GwQ (M2 61 43) (M2 85) (M3 61 43) (M3 85) → (∀ a, 0 ≤ a → a < 2928 → a / 122 = k → Rl G T a → hdA G a = 61 * p + t → 0 < f a → Sn (M3 61 43) (M3 85) (tlA G a)) → post M3 := by
        intro M3 c3 g3 b3
        refine h M3 c3 (g2.tr g3) (fun w s hr hs => ?_)
        rcases hr with ⟨s0, r, r1, r2, r3⟩ | ⟨s0, r, r1, r2, r3⟩
        · rcases hs with hs | hs
          · have u := (arc_un ⟨s0, hs.2.1⟩ hs.2.2 wk.1.2.2.2.2 (by omega) r1).1
            rw [hx5] at u
            subst u
            rcases r.2 with z | z
            · rw [fa.2.1, fa.2.2.1] at z
              have r3' := r3 (by omega)
              unfold pf at r3'
              rw [if_pos (by omega), fa.2.1] at r3'
              have := g3.sn (f2 ⟨z.2.2.2.1, z.2.2.2.2, r3'⟩)
              rw [← r2, fa.2.2.2.2]; exact this
            · omega
          · omega
        · rcases hs with hs | hs
          · omega
          · rw [← r2]
            unfold pf at r3
            rw [if_pos hs.2.1] at r3
            exact b3 (-1 - s) (by omega) hs.2.1 hs.2.2 r r1 r3
      have only : ∀ a, 0 ≤ a → a < 2928 → a / 122 = k → Rl G T a → hdA G a = 61 * p + t → 0 ≤ t - G 64 k ∧ a = 61 * (2 * k + (1 - x5)) + (t - G 64 k) := by
        intro a a0 a1 a2 r a4
        rcases r.2 with z | z
        · rw [a2] at z
          have g := arc_hd (G := G) (k := k) (p := p) (t := t) ⟨a0, a1⟩ a2 wk.1.2.2.2.2 (by omega) (by omega) (by omega) a4
          rw [hq] at g
          have u := arc_un (p := q) (t := a % 61) ⟨a0, a1⟩ a2 wk.1.2.2.2.2 (by omega) g.2.2
          have u1 := u.1
          rw [hqr.2.2.2.2] at u1
          have gg := g.2.1
          refine ⟨by omega, ?_⟩
          rw [show t - G 64 k = a % 61 by omega]
          exact u1
        · omega
      refine B_X11_goOn_120 ?_
      rw [(xg c2).1, (xg c2).2.2.2]
      refine ⟨by omega, by omega, fun y => fin M2 c2 GwQ.rf (fun a a0 a1 a2 a3 a4 a5 => by have := (only a a0 a1 a2 a3 a4).1; omega), fun y => ?_⟩
      have fb := arc_in (G := G) (k := k) (p := q) (t := t - G 64 k) (q := p) (by omega) (by omega) wk.1.2.2.2.2 hqr.2.2.1 hqr.2.2.2.1.symm
      rw [hqr.2.2.2.2] at fb
      have es2 : 61 * (2 * k + 1 - x5) + (t - G 64 k) = 61 * (2 * k + (1 - x5)) + (t - G 64 k) := by omega
      rw [es2]
      generalize hs2 : 61 * (2 * k + (1 - x5)) + (t - G 64 k) = s2 at *
      refine ⟨by omega, by omega, by omega, by omega, by omega, by omega, fun y1 => fin M2 c2 GwQ.rf (fun a a0 a1 a2 a3 a4 a5 => ?_), fun y1 => ⟨by omega, by omega, by omega, by omega, by omega, by omega, by omega, ?_⟩⟩
      · have := (only a a0 a1 a2 a3 a4).2
        rw [this] at a5; omega
      · have pe : pf f g s2 = f s2 := by unfold pf; rw [if_pos (by omega)]
        have rl : Rl G T s2 := by
          by_cases z : Rl G T s2
          · exact z
          · have := (hF.1 s2 (by omega) (by omega)).2.2.1 z; omega
        have rs : Res G T (pf f g) (61 * p + t) (61 * q + (t - G 64 k)) (-1 - s2) := by
          have e : -1 - (-1 - s2) = s2 := by omega
          refine Or.inr ⟨by omega, by rw [e]; exact rl, ?_, ?_, by rw [e, pe]; exact y1⟩
          · rw [e, fb.2.2.2.2]; omega
          · rw [e, fb.2.2.2.1]
        refine S_X11_come h12 c2 (res_nd hp0 hT.2 rs).2 ?_ (Or.inr ⟨g2.sn hv, rs, Or.inr (Or.inl (by omega))⟩) (fun M3 c3 g3 s3 => fin M3 c3 g3 (fun a a0 a1 a2 a3 a4 a5 => ?_))
        · unfold rsc
          rw [if_neg (by omega), if_pos (by omega)]
          omega
        · rw [(only a a0 a1 a2 a3 a4).2, fb.2.2.2.1]; exact s3
    refine B_X11_goOn_43 ?_
    rw [(xg hI).1, (xg hI).2.1, (xg hI).2.2.1, (xg hI).2.2.2]
    refine ⟨by omega, by omega, fun y => J120 M' hI GwQ.rf (fun z => by omega), fun y => ⟨fun y1 => J120 M' hI GwQ.rf (fun z => by omega), fun y1 => ⟨by omega, by omega, by omega, by omega, by omega, fun y2 => J120 M' hI GwQ.rf (fun z => by omega), fun y2 => ⟨by omega, by omega, by omega, by omega, ?_⟩⟩⟩⟩
    generalize hs1 : 61 * (2 * k + x5) + t = s1 at *
    have pe : pf f g s1 = f s1 := by unfold pf; rw [if_pos (by omega)]
    have rl : Rl G T s1 := ⟨by omega, Or.inl ⟨by omega, by rw [fa.2.1]; omega, by rw [fa.2.1]; exact h69, by rw [fa.2.1, fa.2.2.1]; omega, by rw [fa.2.1, fa.2.2.1]; omega⟩⟩
    have rs : Res G T (pf f g) (61 * p + t) (61 * q + (t + G 64 k)) s1 := Or.inl ⟨by omega, rl, fa.2.2.2.1, fa.2.2.2.2, fun _ => by rw [fa.2.1, pe]; exact y2⟩
    refine S_X11_come h12 hI (res_nd hp0 hT.2 rs).2 ?_ (Or.inr ⟨hv, rs, Or.inl (by omega)⟩) (fun M2 c2 g2 s2 => J120 M2 c2 g2 (fun _ => s2))
    unfold rsc
    rw [if_pos (by omega)]
    omega
  refine E_X11_goOn (fun _ => ?_)
  rw [hI.1.1.1 62 (by decide), hI.1.1.1 63 (by decide), hI.1.1.1 69 (by decide)]
  refine ⟨by omega, fun y => ⟨fun y1 => none (fun z => by omega), fun y1 => ⟨fun y2 => J43 1 (G 62 k) (by rw [if_neg y]) (by rw [if_neg y]) (Or.inr y1) y2, fun y2 => none (fun z => y2 z.2)⟩⟩, fun y => ⟨fun y2 => J43 0 (G 63 k) (by rw [if_pos y]) (by rw [if_pos y]) (Or.inl y) y2, fun y2 => none (fun z => y2 z.2)⟩⟩
