set_option maxHeartbeats 4000000 in
set_option maxRecDepth 100000 in
theorem S_X2_seeByWaiting {post : ax_M → Prop} {G M' : ax_M} {T v m : Int} {φ lf β nr nc b l : Int → Int} (hw : WX G) (hT : 0 ≤ T ∧ T ≤ 60) (hF : FV G T φ b l m) (hI : CI G T φ lf β nr nc M') (hv : Sn (M' 40 10) (M' 48) v) (h : ∀ M2, CI G T φ lf β nr nc M2 → GwQ (M' 40 10) (M' 48) (M2 40 10) (M2 48) → (∀ w s, Res G T φ v w s → (2928 ≤ s ∨ 2928 ≤ -1 - s) → Sn (M2 40 10) (M2 48) w) → post M2) : ax_Tv Y_X2_seeByWaiting [aR 40, aI v, aI (v % 61)] SH M' post := by
  have h12 : G 61 0 ≤ 12 := by have := hw.1.2.2; omega
  have nd := sn_nd hI.2.1 hv
  have nd1 := nd.1
  have nd2 := nd.2.1
  have nd3 := nd.2.2
  -- back
  have back : ∀ M2, CI G T φ lf β nr nc M2 → GwQ (M' 40 10) (M' 48) (M2 40 10) (M2 48) → (v % 61 < T → Sn (M2 40 10) (M2 48) (v + 1)) → (((v % 61 ≤ 0) → post M2) ∧ ((0 < v % 61) → (-2147483648 ≤ (2928 + v) - 1 ∧ (2928 + v) - 1 ≤ 2147483647) ∧ (0 ≤ (2928 + v) - 1 ∧ (2928 + v) - 1 < 3660) ∧ ((M2 41 ((2928 + v) - 1) ≤ 0) → post M2) ∧ ((0 < M2 41 ((2928 + v) - 1)) → (-2147483648 ≤ v - 1 ∧ v - 1 ≤ 2147483647) ∧ (-2147483648 ≤ (-1) - ((2928 + v) - 1) ∧ (-1) - ((2928 + v) - 1) ≤ 2147483647) ∧ ax_Tv Y_X2_see [aR 40, aI (v - 1), aI v, aI ((-1) - ((2928 + v) - 1))] SH M2 (fun u1 => post u1)))) := by
    intro M2 c2 g2 f2
    have e41 : M2 41 = φ := c2.1.2.1
    have fin : ∀ M3, CI G T φ lf β nr nc M3 → GwQ (M2 40 10) (M2 48) (M3 40 10) (M3 48) → (0 < v % 61 → 0 < φ ((2928 + v) - 1) → Sn (M3 40 10) (M3 48) (v - 1)) → post M3 := by
      intro M3 c3 g3 b3
      refine h M3 c3 (g2.tr g3) (fun w s hr hs => ?_)
      rcases hr with ⟨s0, r, r1, r2, r3⟩ | ⟨s0, r, r1, r2, r3⟩
      · have s1 : 2928 ≤ s := by omega
        unfold tlA at r1
        unfold hdA at r2
        rw [if_neg (by omega)] at r1 r2
        rcases r.2 with z | z
        · omega
        · have := g3.sn (f2 (by rw [r1] at z; exact z.2.2))
          rw [show w = v + 1 by omega]; exact this
      · have s1 : 2928 ≤ -1 - s := by omega
        unfold hdA at r1
        unfold tlA at r2
        rw [if_neg (by omega)] at r1 r2
        rcases r.2 with z | z
        · omega
        · have q : (2928 + v) - 1 = -1 - s := by omega
          have := b3 (by omega) (by rw [q]; exact r3)
          rw [show w = v - 1 by omega]; exact this
    refine ⟨fun y => fin M2 c2 GwQ.rf (fun z => by omega), fun y => ⟨by omega, by omega, fun y1 => fin M2 c2 GwQ.rf (fun _ z => by rw [e41] at y1; omega), fun y1 => ⟨by omega, by omega, ?_⟩⟩⟩
    rw [e41] at y1
    have rl : Rl G T ((2928 + v) - 1) := by
      by_cases z : Rl G T ((2928 + v) - 1)
      · exact z
      · have := (hF.1 ((2928 + v) - 1) (by omega) (by omega)).2.2.1 z; omega
    have rs : Res G T φ v (v - 1) ((-1) - ((2928 + v) - 1)) := by
      have e : -1 - (-1 - (2928 + v - 1)) = 2928 + v - 1 := by omega
      refine Or.inr ⟨by omega, by rw [e]; exact rl, ?_, ?_, by rw [e]; exact y1⟩
      · rw [e]; unfold hdA; rw [if_neg (by omega)]; omega
      · rw [e]; unfold tlA; rw [if_neg (by omega)]; omega
    exact S_X2_see h12 c2 (res_nd hw.1 hT.2 rs).2 (Or.inr ⟨g2.sn hv, rs⟩) (fun M3 c3 g3 s3 => fin M3 c3 g3 (fun _ _ => s3))
  refine E_X2_seeByWaiting (fun _ => ?_)
  rw [hI.1.2.2.2.2.2.2]
  refine ⟨fun y => ?_, fun y => ⟨by omega, by omega, ?_⟩⟩
  · have B := back M' hI GwQ.rf (fun z => by omega)
    exact ⟨B.1, fun z => ⟨by omega, (B.2 z).1, (B.2 z).2.1, (B.2 z).2.2⟩⟩
  · have rl : Rl G T (2928 + v) := ⟨by omega, Or.inr ⟨by omega, by omega, by rw [show 2928 + v - 2928 = v by omega]; exact y⟩⟩
    have rs : Res G T φ v (v + 1) (2928 + v) := by
      refine Or.inl ⟨by omega, rl, ?_, ?_, fun z => by omega⟩
      · unfold tlA; rw [if_neg (by omega)]; omega
      · unfold hdA; rw [if_neg (by omega)]; omega
    refine S_X2_see h12 hI (res_nd hw.1 hT.2 rs).2 (Or.inr ⟨hv, rs⟩) (fun M2 c2 g2 s2 => ?_)
    have B := back M2 c2 g2 (fun _ => s2)
    exact ⟨B.1, fun z => B.2 z⟩
theorem S_X2_stepInto {post : Int → ax_M → Prop} {M : ax_M} {k p t A : Int} (hA : M 7 (k * 7 + 0) = A) (hk : 0 ≤ k ∧ k < 24) (ht : 0 ≤ t ∧ t ≤ 60) (h : post (61 * (2 * k + (if A = p then 0 else 1)) + t) M) : ax_Ti Y_X2_stepInto [aR 40, aI k, aI p, aI t] SH M post := by
  refine E_X2_stepInto (fun _ => ?_)
  rw [hA]
  refine ⟨by omega, by omega, by omega, fun y => ⟨by omega, by omega, by omega, by omega, ?_⟩, fun y => ⟨by omega, by omega, by omega, by omega, ?_⟩⟩
  · rw [if_neg (fun z => y z.symm)] at h
    rw [show (2 * k + 1) * 61 + t = 61 * (2 * k + 1) + t by omega]; exact h
  · rw [if_pos y.symm] at h
    rw [show (2 * k + 0) * 61 + t = 61 * (2 * k + 0) + t by omega]; exact h
/-- the arc into way k from p at t -/
theorem arc_in {G : ax_M} {k p t q : Int} (hk : 0 ≤ k ∧ k < 24) (ht : 0 ≤ t ∧ t ≤ 60) (hne : ¬ G 62 k = G 63 k) (hp : G 62 k = p ∨ G 63 k = p) (hq : q = if G 62 k = p then G 63 k else G 62 k) : (0 ≤ 61 * (2 * k + (if G 62 k = p then 0 else 1)) + t ∧ 61 * (2 * k + (if G 62 k = p then 0 else 1)) + t < 2928) ∧ (61 * (2 * k + (if G 62 k = p then 0 else 1)) + t) / 122 = k ∧ (61 * (2 * k + (if G 62 k = p then 0 else 1)) + t) % 61 = t ∧ tlA G (61 * (2 * k + (if G 62 k = p then 0 else 1)) + t) = 61 * p + t ∧ hdA G (61 * (2 * k + (if G 62 k = p then 0 else 1)) + t) = 61 * q + (t + G 64 k) := by
  unfold tlA hdA eN
  by_cases z : G 62 k = p
  · rw [if_pos z] at hq ⊢
    have e1 : (61 * (2 * k + 0) + t) / 122 = k := by omega
    have e2 : (61 * (2 * k + 0) + t) / 61 % 2 = 0 := by omega
    have e3 : (61 * (2 * k + 0) + t) % 61 = t := by omega
    have e4 : 61 * (2 * k + 0) + t < 2928 := by omega
    rw [e1, e2, e3, if_pos e4, if_pos e4, if_pos rfl, if_neg (by omega), z, hq]
    exact ⟨⟨by omega, e4⟩, rfl, rfl, rfl, rfl⟩
  · have z2 : G 63 k = p := hp.resolve_left z
    rw [if_neg z] at hq ⊢
    have e1 : (61 * (2 * k + 1) + t) / 122 = k := by omega
    have e2 : (61 * (2 * k + 1) + t) / 61 % 2 = 1 := by omega
    have e3 : (61 * (2 * k + 1) + t) % 61 = t := by omega
    have e4 : 61 * (2 * k + 1) + t < 2928 := by omega
    rw [e1, e2, e3, if_pos e4, if_pos e4, if_neg (by omega), if_pos (by omega), z2, hq]
    exact ⟨⟨by omega, e4⟩, rfl, rfl, rfl, rfl⟩
/-- an arc of way k out of p at t is that one -/
theorem arc_un {G : ax_M} {k p t a : Int} (ha : 0 ≤ a ∧ a < 2928) (ek : a / 122 = k) (hne : ¬ G 62 k = G 63 k) (ht : 0 ≤ t ∧ t ≤ 60) (h : tlA G a = 61 * p + t) : a = 61 * (2 * k + (if G 62 k = p then 0 else 1)) + t ∧ (G 62 k = p ∨ G 63 k = p) := by
  unfold tlA eN at h
  rw [if_pos ha.2, ek] at h
  by_cases z : a / 61 % 2 = 0
  · rw [if_pos z] at h
    have e : G 62 k = p := by omega
    rw [if_pos e]; exact ⟨by omega, Or.inl e⟩
  · rw [if_neg z] at h
    have e : G 63 k = p := by omega
    rw [if_neg (by omega)]; exact ⟨by omega, Or.inr e⟩
/-- the two sides of an arc of way k -/
theorem arc_hd {G : ax_M} {k p t a : Int} (ha : 0 ≤ a ∧ a < 2928) (ek : a / 122 = k) (hne : ¬ G 62 k = G 63 k) (ht : 0 ≤ t ∧ t ≤ 60) (hL : a % 61 + G 64 k ≤ 60) (hL0 : 0 ≤ G 64 k) (h : hdA G a = 61 * p + t) : (G 62 k = p ∨ G 63 k = p) ∧ a % 61 + G 64 k = t ∧ tlA G a = 61 * (if G 62 k = p then G 63 k else G 62 k) + a % 61 := by
  unfold hdA eN at h
  unfold tlA eN
  rw [if_pos ha.2, ek] at h ⊢
  by_cases z : a / 61 % 2 = 0
  · rw [if_neg (by omega)] at h
    have e : G 63 k = p := by omega
    rw [if_pos z, if_neg (by omega)]
    exact ⟨Or.inr e, by omega, rfl⟩
  · rw [if_pos (by omega)] at h
    have e : G 62 k = p := by omega
    rw [if_neg z, if_pos e]
    exact ⟨Or.inl e, by omega, rfl⟩
def ofWay (s k : Int) : Prop := (0 ≤ s ∧ s < 2928 ∧ s / 122 = k) ∨ (s < 0 ∧ -1 - s < 2928 ∧ (-1 - s) / 122 = k)
set_option maxHeartbeats 4000000 in
set_option maxRecDepth 100000 in
theorem S_X2_seeByWay {post : ax_M → Prop} {G M' : ax_M} {T k p t m : Int} {φ lf β nr nc b l : Int → Int} (hw : WX G) (hT : 0 ≤ T ∧ T ≤ 60) (hF : FV G T φ b l m) (hI : CI G T φ lf β nr nc M') (hk : 0 ≤ k ∧ k < G 61 3) (h69 : G 69 k = 0) (hp : G 62 k = p ∨ G 63 k = p) (ht : 0 ≤ t ∧ t ≤ T) (hv : Sn (M' 40 10) (M' 48) (61 * p + t)) (h : ∀ M2, CI G T φ lf β nr nc M2 → GwQ (M' 40 10) (M' 48) (M2 40 10) (M2 48) → (∀ w s, Res G T φ (61 * p + t) w s → ofWay s k → Sn (M2 40 10) (M2 48) w) → post M2) : ax_Tv Y_X2_seeByWay [aR 40, aI k, aI p, aI t] SH M' post := by
  have h12 : G 61 0 ≤ 12 := by have := hw.1.2.2; omega
  have hb := hw.1.2.1
  have wk := hw.1.1 k hk.1 hk.2
  have pe := hw.2.2.2.2.2 k hk.1 hk.2
  have oG := hI.1.1
  generalize hq : (if G 62 k = p then G 63 k else G 62 k) = q
  have hqr : 0 ≤ q ∧ q < G 61 0 ∧ (G 62 k = q ∨ G 63 k = q) ∧ (if G 62 k = q then G 63 k else G 62 k) = p ∧ 0 ≤ p ∧ p < G 61 0 := by
    by_cases z : G 62 k = p
    · rw [if_pos z] at hq
      rw [if_neg (by omega)]
      omega
    · rw [if_neg z] at hq
      rw [if_pos hq]
      omega
  have fa := arc_in (G := G) (k := k) (p := p) (t := t) (q := q) (by omega) (by omega) wk.1.2.2.2.2 hp hq.symm
  generalize hs1 : 61 * (2 * k + (if G 62 k = p then 0 else 1)) + t = s1 at *
  have e7 : ∀ {M2}, CI G T φ lf β nr nc M2 → M2 7 = G 7 := fun c => c.1.1 7 (by decide)
  -- back
  have J97 : ∀ M2, CI G T φ lf β nr nc M2 → GwQ (M' 40 10) (M' 48) (M2 40 10) (M2 48) → ((t + G 64 k ≤ T ∧ t + G 64 k ≤ G 67 k ∧ φ s1 < G 66 k) → Sn (M2 40 10) (M2 48) (61 * q + (t + G 64 k))) → ax_J Y_X2_seeByWay (ax_Kv Y_X2_seeByWay SH post) 0 0 97 [(0, aR 40), (1, aI k), (2, aI p), (3, aI t), (4, aI q), (5, aI (G 64 k))] [] SH M2 := by
    intro M2 c2 g2 f2
    have fin : ∀ M3, CI G T φ lf β nr nc M3 → GwQ (M2 40 10) (M2 48) (M3 40 10) (M3 48) → (∀ a, 0 ≤ a → a < 2928 → a / 122 = k → Rl G T a → hdA G a = 61 * p + t → 0 < φ a → Sn (M3 40 10) (M3 48) (tlA G a)) → post M3 := by
      intro M3 c3 g3 b3
      refine h M3 c3 (g2.tr g3) (fun w s hr hs => ?_)
      rcases hr with ⟨s0, r, r1, r2, r3⟩ | ⟨s0, r, r1, r2, r3⟩
      · rcases hs with hs | hs
        · have u := (arc_un ⟨s0, hs.2.1⟩ hs.2.2 wk.1.2.2.2.2 (by omega) r1).1
          rw [hs1] at u
          subst u
          rcases r.2 with z | z
          · rw [fa.2.1, fa.2.2.1] at z
            have := g3.sn (f2 ⟨z.2.2.2.1, z.2.2.2.2, by have := r3 (by omega); rw [fa.2.1] at this; exact this⟩)
            rw [← r2, fa.2.2.2.2]; exact this
          · omega
        · omega
      · rcases hs with hs | hs
        · omega
        · rw [← r2]
          exact b3 (-1 - s) (by omega) hs.2.1 hs.2.2 r r1 r3
    have only : ∀ a, 0 ≤ a → a < 2928 → a / 122 = k → Rl G T a → hdA G a = 61 * p + t → 0 ≤ t - G 64 k ∧ a = 61 * (2 * k + (if G 62 k = q then 0 else 1)) + (t - G 64 k) := by
      intro a a0 a1 a2 r a4
      rcases r.2 with z | z
      · rw [a2] at z
        have g := arc_hd (G := G) (k := k) (p := p) (t := t) ⟨a0, a1⟩ a2 wk.1.2.2.2.2 (by omega) (by omega) (by omega) a4
        rw [hq] at g
        have u := arc_un (p := q) (t := a % 61) ⟨a0, a1⟩ a2 wk.1.2.2.2.2 (by omega) g.2.2
        have u1 := u.1
        have gg := g.2.1
        refine ⟨by omega, ?_⟩
        rw [show t - G 64 k = a % 61 by omega]
        exact u1
      · omega
    refine B_X2_seeByWay_97 ⟨by omega, fun y => fin M2 c2 GwQ.rf (fun a a0 a1 a2 a3 a4 a5 => by have := (only a a0 a1 a2 a3 a4).1; omega), fun y => S_X2_stepInto (A := G 62 k) (by rw [e7 c2]; exact pe.1.1) (by omega) (by omega) ?_⟩
    have fb := arc_in (G := G) (k := k) (p := q) (t := t - G 64 k) (q := p) (by omega) (by omega) wk.1.2.2.2.2 hqr.2.2.1 hqr.2.2.2.1.symm
    generalize hs2 : 61 * (2 * k + (if G 62 k = q then 0 else 1)) + (t - G 64 k) = s2 at *
    have e41 : M2 41 = φ := c2.1.2.1
    rw [e41]
    refine ⟨by omega, fun y1 => fin M2 c2 GwQ.rf (fun a a0 a1 a2 a3 a4 a5 => ?_), fun y1 => ⟨by omega, by omega, by omega, by omega, by omega, ?_⟩⟩
    · have := (only a a0 a1 a2 a3 a4).2
      rw [this] at a5; omega
    · have rl : Rl G T s2 := by
        by_cases z : Rl G T s2
        · exact z
        · have := (hF.1 s2 (by omega) (by omega)).2.2.1 z; omega
      have rs : Res G T φ (61 * p + t) (61 * q + (t - G 64 k)) (-1 - s2) := by
        have e : -1 - (-1 - s2) = s2 := by omega
        refine Or.inr ⟨by omega, by rw [e]; exact rl, ?_, ?_, by rw [e]; exact y1⟩
        · rw [e, fb.2.2.2.2]; omega
        · rw [e, fb.2.2.2.1]
      rw [show q * 61 + (t - G 64 k) = 61 * q + (t - G 64 k) by omega, show p * 61 + t = 61 * p + t by omega]
      refine S_X2_see h12 c2 (res_nd hw.1 hT.2 rs).2 (Or.inr ⟨g2.sn hv, rs⟩) (fun M3 c3 g3 s3 => fin M3 c3 g3 (fun a a0 a1 a2 a3 a4 a5 => ?_))
      rw [(only a a0 a1 a2 a3 a4).2, fb.2.2.2.1]; exact s3
  have hwM : WX M' := wx_of oG (by decide) hw
  refine E_X2_seeByWay (fun _ => S_X3_beyond hwM (by omega) (by rw [oG 61 (by decide)]; omega) ?_)
  rw [oG 62 (by decide), oG 63 (by decide), hq]
  refine ⟨by omega, by omega, by omega, by rw [e7 hI, pe.1.2.2.1]; omega, S_X2_stepInto (A := G 62 k) (by rw [e7 hI]; exact pe.1.1) (by omega) (by omega) ?_⟩
  rw [hs1, hI.1.2.2.2.2.2.2, e7 hI, pe.1.2.2.1, pe.2.2.1, pe.2.1, hI.1.2.1]
  refine ⟨by omega, by omega, fun y => J97 M' hI GwQ.rf (fun z => by omega), fun y => ⟨by omega, by omega, by omega, fun y1 => J97 M' hI GwQ.rf (fun z => by omega), fun y1 => ⟨by omega, by omega, by omega, by omega, ?_⟩⟩⟩
  have rl : Rl G T s1 := ⟨by omega, Or.inl ⟨by omega, by rw [fa.2.1]; omega, by rw [fa.2.1]; exact h69, by rw [fa.2.1, fa.2.2.1]; omega, by rw [fa.2.1, fa.2.2.1]; omega⟩⟩
  have rs : Res G T φ (61 * p + t) (61 * q + (t + G 64 k)) s1 := Or.inl ⟨by omega, rl, fa.2.2.2.1, fa.2.2.2.2, fun _ => by rw [fa.2.1]; exact y1⟩
  rw [show q * 61 + (t + G 64 k) = 61 * q + (t + G 64 k) by omega, show p * 61 + t = 61 * p + t by omega]
  exact S_X2_see h12 hI (res_nd hw.1 hT.2 rs).2 (Or.inr ⟨hv, rs⟩) (fun M2 c2 g2 s2 => J97 M2 c2 g2 (fun _ => s2))
/-- q is done: all that goes on from it is seen, and it is not a place where one more is lifted -/
def Dn (G : ax_M) (T : Int) (φ lf : Int → Int) (n : Int) (q : Int → Int) (u : Int) : Prop := (∀ w s, Res G T φ u w s → Sn n q w) ∧ ¬ (u / 61 = G 61 1 ∧ lf (u % 61) < G 61 2)
theorem Dn.gw {G : ax_M} {T n n' u : Int} {φ lf q q' : Int → Int} (h : Dn G T φ lf n q u) (g : GwQ n q n' q') : Dn G T φ lf n' q' u := ⟨fun w s r => g.sn (h.1 w s r), h.2⟩
/-- all steps are waits, or of ways near -/
theorem res_way {G : ax_M} (hp : PitOk G) {T p t w s : Int} {φ : Int → Int} (hT : T ≤ 60) (ht : 0 ≤ t ∧ t ≤ T) (hr : Res G T φ (61 * p + t) w s) : (2928 ≤ s ∨ 2928 ≤ -1 - s) ∨ ∃ k, 0 ≤ k ∧ k < G 61 3 ∧ G 69 k = 0 ∧ (G 62 k = p ∨ G 63 k = p) ∧ ofWay s k := by
  rcases hr with ⟨s0, r, r1, r2, r3⟩ | ⟨s0, r, r1, r2, r3⟩
  · rcases r.2 with z | z
    · have wk := hp.1 (s / 122) (by omega) z.2.1
      have u := arc_un (k := s / 122) ⟨s0, z.1⟩ rfl wk.1.2.2.2.2 (by omega) r1
      exact Or.inr ⟨s / 122, by omega, z.2.1, z.2.2.1, u.2, Or.inl ⟨s0, z.1, rfl⟩⟩
    · exact Or.inl (Or.inl z.1)
  · rcases r.2 with z | z
    · have wk := hp.1 ((-1 - s) / 122) (by have := r.1; omega) z.2.1
      have u := arc_hd (k := (-1 - s) / 122) ⟨r.1.1, z.1⟩ rfl wk.1.2.2.2.2 (by omega) (by omega) (by omega) r1
      exact Or.inr ⟨(-1 - s) / 122, by have := r.1; omega, z.2.1, z.2.2.1, u.1, Or.inr ⟨s0, z.1, rfl⟩⟩
    · exact Or.inl (Or.inr z.1)
set_option maxHeartbeats 4000000 in
set_option maxRecDepth 100000 in
theorem S_X2_search {post : Int → ax_M → Prop} {G M : ax_M} {T m : Int} {φ lf β nr nc l : Int → Int} (hw : WX G) (hc : CrewEq G) (hnp : ¬ G 61 0 = 0) (hT : 0 ≤ T ∧ T ≤ 60) (hF : FV G T φ (fun p => mA G p - β p) l m) (hN : Nr G nr nc (G 61 3)) (hM : Ofs [40, 41, 42, 43, 44, 45, 46, 47, 48] G M ∧ M 41 = φ ∧ M 42 = lf ∧ M 43 = β ∧ M 44 = nr ∧ M 45 = nc ∧ M 40 11 = T) (hz : ∀ M' z, CI G T φ lf β nr nc M' → Sn (M' 40 10) (M' 48) z → z / 61 = G 61 1 → lf (z % 61) < G 61 2 → post z M') (hno : ∀ M', CI G T φ lf β nr nc M' → Cl G T φ (fun p => mA G p - β p) lf (Sn (M' 40 10) (M' 48)) → post (-1) M') : ax_Ti Y_X2_search [aR 40] SH M post := by
  have h12 : G 61 0 ≤ 12 := by have := hw.1.2.2; omega
  have hb := hw.1.2.1
  have e6 : ∀ {M'}, CI G T φ lf β nr nc M' → M' 6 0 = G 61 0 ∧ M' 6 2 = G 61 1 ∧ M' 6 3 = G 61 2 := fun c => by
    rw [c.1.1 6 (by decide)]; exact ⟨hw.2.1, hw.2.2.2.1, hw.2.2.2.2.1⟩
  have sh := hw.1.2.2
  -- head by head
  have L54 : ∀ (r : Nat) (x : Int) (M' : ax_M), x + r = 732 → 0 ≤ x → CI G T φ lf β nr nc M' → (∀ p, 0 ≤ p → p < G 61 0 → mA G p - β p < mA G p → Sn (M' 40 10) (M' 48) (61 * p)) → (∀ i, 0 ≤ i → i < x → i < M' 40 10 → Dn G T φ lf (M' 40 10) (M' 48) (M' 48 i)) → ax_J Y_X2_search (ax_Ki Y_X2_search SH post) 0 0 54 [(0, aR 40), (1, aI x)] [] SH M' := by
    intro r
    induction r with
    | zero =>
      intro x M' hx hx0 c st dn
      have le := bf_le h12 c.2.1
      refine B_X2_search_54 ⟨fun _ => hno M' c ⟨fun v hv => sn_nd c.2.1 hv, st, fun u v s ⟨i, i0, i1, i2⟩ hr => ?_, fun t t0 t1 ⟨i, i0, i1, i2⟩ => ?_⟩, fun z => by omega⟩
      · have := dn i i0 (by omega) i1
        rw [i2] at this
        exact this.1 v s hr
      · have := (dn i i0 (by omega) i1).2
        rw [i2, show (61 * G 61 1 + t) / 61 = G 61 1 by omega, show (61 * G 61 1 + t) % 61 = t by omega] at this
        have q : ¬ lf t < G 61 2 := fun z => this ⟨rfl, z⟩
        omega
    | succ r ih =>
      intro x M' hx hx0 c st dn
      have ee := e6 c
      refine B_X2_search_54 ?_
      rw [ee.2.1, ee.2.2, c.1.2.2.1]
      refine ⟨fun y => hno M' c ⟨fun v hv => sn_nd c.2.1 hv, st, fun u v s ⟨i, i0, i1, i2⟩ hr => ?_, fun t t0 t1 ⟨i, i0, i1, i2⟩ => ?_⟩, fun y => ⟨fun z => by omega, fun _ => ?_⟩⟩
      · have := dn i i0 (by omega) i1
        rw [i2] at this
        exact this.1 v s hr
      · have := (dn i i0 (by omega) i1).2
        rw [i2, show (61 * G 61 1 + t) / 61 = G 61 1 by omega, show (61 * G 61 1 + t) % 61 = t by omega] at this
        have q : ¬ lf t < G 61 2 := fun z => this ⟨rfl, z⟩
        omega
      · have nd := (c.2.1.2.1 x hx0 y).1
        have sv : Sn (M' 40 10) (M' 48) (M' 48 x) := ⟨x, hx0, y, rfl⟩
        have nd1 := nd.1
        have nd2 := nd.2.1
        have nd3 := nd.2.2
        generalize hu : M' 48 x = u at *
        -- on from u
        have go : ¬ (u / 61 = G 61 1 ∧ lf (u % 61) < G 61 2) → ax_Tv Y_X2_seeByWaiting [aR 40, aI u, aI (u % 61)] SH M' (fun u1 => ax_J Y_X2_search (ax_Ki Y_X2_search SH post) 0 0 127 [(0, aR 40), (1, aI x), (3, aI (u / 61)), (4, aI (u % 61)), (5, aI 0)] [] SH u1) := by
          intro hns
          refine S_X2_seeByWaiting hw hT hF c sv (fun M2 c2 g2 w2 => ?_)
          have L127 : ∀ (k : Nat) (i : Int) (M3 : ax_M), i + k = nc (u / 61) → 0 ≤ i → CI G T φ lf β nr nc M3 → GwQ (M2 40 10) (M2 48) (M3 40 10) (M3 48) → (∀ w s, Res G T φ u w s → (∃ j, 0 ≤ j ∧ j < i ∧ ofWay s (nr ((u / 61) * 24 + j))) → Sn (M3 40 10) (M3 48) w) → ax_J Y_X2_search (ax_Ki Y_X2_search SH post) 0 0 127 [(0, aR 40), (1, aI x), (3, aI (u / 61)), (4, aI (u % 61)), (5, aI i)] [] SH M3 := by
            intro k
            induction k with
            | zero =>
              intro i M3 hi hi0 c3 g3 d3
              have g13 := g2.tr g3
              refine B_X2_search_127 ?_
              rw [c3.1.2.2.2.2.2.1]
              refine ⟨by omega, fun _ => ⟨by omega, ih (x + 1) M3 (by omega) (by omega) c3 (fun p p0 p1 p2 => g13.sn (st p p0 p1 p2)) (fun j j0 j1 j2 => ?_)⟩, fun z => by omega⟩
              have g1 := g13.1
              rcases Int.lt_or_le j (M' 40 10) with z | z
              · rw [g13.2 j j0 z]
                by_cases zx : j = x
                · rw [zx, hu]
                  refine ⟨fun w s hr => ?_, hns⟩
                  have hr' := hr
                  rw [show u = 61 * (u / 61) + u % 61 by omega] at hr
                  rcases res_way hw.1 hT.2 (by omega) hr with a | ⟨k', k0, k1, k2, k3, k4⟩
                  · exact g3.sn (w2 w s hr' a)
                  · obtain ⟨j', j0', j1', j2'⟩ := (hN (u / 61) (by omega) (by omega)).2.2 k' k0 k1 k2 k3
                    exact d3 w s hr' ⟨j', j0', by omega, by rw [j2']; exact k4⟩
                · exact (dn j j0 (by omega) z).gw g13
              · omega
            | succ k ihk =>
              intro i M3 hi hi0 c3 g3 d3
              have g13 := g2.tr g3
              have nn := hN (u / 61) (by omega) (by omega)
              have ni := nn.2.1 i hi0 (by omega)
              refine B_X2_search_127 ?_
              rw [c3.1.2.2.2.2.2.1, c3.1.2.2.2.2.1]
              refine ⟨by omega, fun z => by omega, fun _ => ⟨by omega, by omega, by omega, S_X2_seeByWay hw hT hF c3 ⟨ni.1, ni.2.1⟩ ni.2.2.1 ni.2.2.2 (by omega) (by rw [show 61 * (u / 61) + u % 61 = u by omega]; exact g13.sn sv) (fun M4 c4 g4 w4 => ⟨by omega, ihk (i + 1) M4 (by omega) (by omega) c4 (g3.tr g4) (fun w s hr hj => ?_)⟩)⟩⟩
              obtain ⟨j, j0, j1, j2⟩ := hj
              by_cases z : j = i
              · subst z
                rw [show 61 * (u / 61) + u % 61 = u by omega] at w4
                exact w4 w s hr j2
              · exact g4.sn (d3 w s hr ⟨j, j0, by omega, j2⟩)
          have nn := hN (u / 61) (by omega) (by omega)
          exact L127 (nc (u / 61)).toNat 0 M2 (by omega) (Int.le_refl _) c2 GwQ.rf (fun w s _ ⟨j, a, b, _⟩ => by omega)
        exact ⟨by omega, nd1, fun y1 => go (fun z => y1 z.1), fun y1 => ⟨by omega, fun y2 => go (fun z => by omega), fun y2 => hz M' u c sv y1 y2⟩⟩
  -- who stays behind
  have L15 : ∀ (r : Nat) (p : Int) (M' : ax_M), p + r = G 61 0 → 0 ≤ p → CI G T φ lf β nr nc M' → (∀ p', 0 ≤ p' → p' < p → mA G p' - β p' < mA G p' → Sn (M' 40 10) (M' 48) (61 * p')) → ax_J Y_X2_search (ax_Ki Y_X2_search SH post) 0 0 15 [(0, aR 40), (1, aI p)] [] SH M' := by
    intro r
    induction r with
    | zero =>
      intro p M' hp hp0 c st
      refine B_X2_search_15 ?_
      rw [(e6 c).1]
      exact ⟨fun _ => L54 732 0 M' (by omega) (Int.le_refl _) c (fun p' a b d => st p' a (by omega) d) (fun i a b => by omega), fun z => by omega⟩
    | succ r ih =>
      intro p M' hp hp0 c st
      refine B_X2_search_15 ?_
      rw [(e6 c).1, c.1.2.2.2.1]
      refine ⟨fun z => by omega, fun _ => ⟨by omega, fun y => ⟨by omega, ih (p + 1) M' (by omega) (by omega) c (fun p' a b d => ?_)⟩, fun y => ⟨by omega, S_X2_see h12 c ⟨by omega, by omega, by omega⟩ (Or.inl ⟨rfl, by omega, by rw [show p * 61 / 61 = p by omega]; omega⟩) (fun M2 c2 g2 s2 => ⟨by omega, ih (p + 1) M2 (by omega) (by omega) c2 (fun p' a b d => ?_)⟩)⟩⟩⟩
      · by_cases z : p' = p
        · subst z; omega
        · exact st p' a (by omega) d
      · by_cases z : p' = p
        · subst z; rw [show 61 * p' = p' * 61 by omega]; exact s2
        · exact g2.sn (st p' a (by omega) d)
  refine E_X2_search (fun _ => S_fill_46 (L15 (G 61 0).toNat 0 _ (by omega) (Int.le_refl _) ?_ (fun p' a b => by omega)))
  obtain ⟨o, c41, c42, c43, c44, c45, c11⟩ := hM
  have oo : Ofs [40, 46] M (ax_up (ax_fl M 46 732 (-1)) 40 10 0) := by
    intro a ha
    rw [up_off _ _ _ (fun z => ha (by rw [z]; decide)), fl_off (fun z => ha (by rw [z]; decide))]
  have en : ax_up (ax_fl M 46 732 (-1)) 40 10 0 40 10 = 0 := up_at _ _ _ _
  refine ⟨⟨o.tr (oo.mono (by decide)), (oo 41 (by decide)).trans c41, (oo 42 (by decide)).trans c42, (oo 43 (by decide)).trans c43, (oo 44 (by decide)).trans c44, (oo 45 (by decide)).trans c45, ?_⟩, ?_, fun v v0 v1 => ?_⟩
  · rw [up_ne _ _ _ (by decide), fl_off (by decide)]; exact c11
  · rw [en]
    exact ⟨Int.le_refl _, fun i a b => by omega, fun i j a b => by omega⟩
  · rw [en, up_off _ _ _ (by decide), fl_in ⟨v0, v1⟩]
    exact ⟨fun z => absurd rfl z, fun ⟨i, a, b, _⟩ => by omega⟩
