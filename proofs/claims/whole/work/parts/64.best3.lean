def Vd (M : ax_M) (Y : Int) : Prop := bo_and Y (bo_xor (fU M) (-1)) = 0
theorem tr1 {M : ax_M} {st F V : Int → Int} {ns f m : Int} (h : Srt st (fU M) 12) (hn : ns = nb (fU M) 12) (h6 : ns ≤ 6) (hF : ∀ X Y, 0 ≤ X → X ≤ bo_shl 1 ns - 1 → Pz st ns X Y → F X = V Y) (hp : Pr1 (fun X => ¬ F X = -1) F (bo_shl 1 ns - 1 + 1) f m) : ∃ b, Pr1 (fun Y => Vd M Y ∧ 0 ≤ V Y) V 4096 b m ∧ (f = -1 → b = -1) ∧ (¬ f = -1 → Pz st ns f b) := by
  rcases hp with ⟨a, b, c⟩ | ⟨a, b, c, d⟩
  · refine ⟨-1, Or.inl ⟨rfl, b, fun Y Y0 Y1 q => ?_⟩, fun _ => rfl, fun z => absurd a z⟩
    obtain ⟨X, X0, hX⟩ := pz_pre h hn h6 ⟨Y0, Y1⟩ q.1
    have e := hF X Y X0.1 X0.2 hX
    refine c X X0.1 (by omega) (fun z => ?_)
    have := q.2
    omega
  · obtain ⟨Y0, hY0⟩ := pz_ex (st := st) (ns := ns) f
    have e0 := hF f Y0 a.1 (by omega) hY0
    refine ⟨Y0, Or.inr ⟨⟨hY0.1.1, hY0.1.2, pz_val h hn hY0, by omega⟩, by omega, c, fun Y y0 y1 q => ?_⟩, fun z => by omega, fun _ => hY0⟩
    obtain ⟨X, X0, hX⟩ := pz_pre h hn h6 ⟨y0, y1⟩ q.1
    have e := hF X Y X0.1 X0.2 hX
    have q2 := q.2
    have g := d X X0.1 (by omega) (fun z => by omega)
    refine ⟨by omega, fun z => ?_⟩
    have hlt : X < f := by
      rcases Int.lt_or_le X f with z1 | z1
      · exact z1
      · rcases Int.lt_or_le f X with z2 | z2
        · have := pz_lt h hn h6 (X := f) (X' := X) ⟨a.1, by omega⟩ X0 hY0 hX z2; omega
        · have ef : X = f := by omega
          subst ef
          have := pz_eq hY0 hX; omega
    have := g.2 hlt
    omega
theorem tr2 {M : ax_M} {st F G V W : Int → Int} {ns f s m : Int} (h : Srt st (fU M) 12) (hn : ns = nb (fU M) 12) (h6 : ns ≤ 6) (hF : ∀ X Y, 0 ≤ X → X ≤ bo_shl 1 ns - 1 → Pz st ns X Y → F X = V Y) (hG : ∀ X Y, 0 ≤ X → X ≤ bo_shl 1 ns - 1 → Pz st ns X Y → G X = W Y) (hFn : ∀ X, 0 ≤ X → X ≤ bo_shl 1 ns - 1 → -1 ≤ F X ∧ -1 ≤ G X) (hp : Pr2 (fun X X' => bo_and X X' = 0 ∧ ¬ F X = -1 ∧ ¬ G X' = -1) (fun X X' => F X + G X') (bo_shl 1 ns - 1 + 1) (bo_shl 1 ns - 1 + 1) 0 f s m) : ∃ b c, Pr2 (fun Y Y' => bo_and Y Y' = 0 ∧ (Vd M Y ∧ 0 ≤ V Y) ∧ (Vd M Y' ∧ 0 ≤ W Y')) (fun Y Y' => V Y + W Y') 4096 4096 0 b c m ∧ (m = -1 → b = -1 ∧ c = -1) ∧ (¬ m = -1 → Pz st ns f b ∧ Pz st ns s c) := by
  have nr := nb_rg (fU M) 12
  have al := (all_st (k := ns) (by omega) h6).1
  have bits : ∀ X, 0 ≤ X → X ≤ bo_shl 1 ns - 1 → ∀ j, 0 ≤ j → j < 12 → tb X j = true → j < ns := fun X a b j j0 _ q => le_bits (by omega) h6 a b j0 q
  have back : ∀ Y Y', 0 ≤ Y → Y < 4096 → 0 ≤ Y' → Y' < 4096 → (bo_and Y Y' = 0 ∧ (Vd M Y ∧ 0 ≤ V Y) ∧ (Vd M Y' ∧ 0 ≤ W Y')) → ∃ X X', (0 ≤ X ∧ X ≤ bo_shl 1 ns - 1) ∧ (0 ≤ X' ∧ X' ≤ bo_shl 1 ns - 1) ∧ Pz st ns X Y ∧ Pz st ns X' Y' ∧ F X = V Y ∧ G X' = W Y' ∧ bo_and X X' = 0 := by
    intro Y Y' y0 y1 y0' y1' q
    obtain ⟨X, X0, hX⟩ := pz_pre h hn h6 ⟨y0, y1⟩ q.2.1.1
    obtain ⟨X', X0', hX'⟩ := pz_pre h hn h6 ⟨y0', y1'⟩ q.2.2.1
    exact ⟨X, X', X0, X0', hX, hX', hF X Y X0.1 X0.2 hX, hG X' Y' X0'.1 X0'.2 hX', (pz_dis h hn (by omega) hX hX' (bits X X0.1 X0.2)).mpr q.1⟩
  rcases hp with ⟨a, b, b2, c⟩ | ⟨a, b, c, d⟩
  · refine ⟨-1, -1, Or.inl ⟨rfl, rfl, b2, fun Y Y' hv q => ?_⟩, fun _ => ⟨rfl, rfl⟩, fun z => absurd b2 z⟩
    unfold Vis at hv
    obtain ⟨X, X', X0, X0', hX, hX', e1, e2, e3⟩ := back Y Y' (by omega) (by omega) (by omega) (by omega) q
    have q1 := q.2.1.2
    have q2 := q.2.2.2
    exact c X X' ⟨X0.1, X0'.1, by omega, by omega⟩ ⟨e3, by omega, by omega⟩
  · have vf := a.1
    unfold Vis at vf
    obtain ⟨Y0, hY0⟩ := pz_ex (st := st) (ns := ns) f
    obtain ⟨Y1, hY1⟩ := pz_ex (st := st) (ns := ns) s
    have f0 : 0 ≤ f ∧ f ≤ bo_shl 1 ns - 1 := by omega
    have s0 : 0 ≤ s ∧ s ≤ bo_shl 1 ns - 1 := by omega
    have e0 := hF f Y0 f0.1 f0.2 hY0
    have e1 := hG s Y1 s0.1 s0.2 hY1
    have g0 := hFn f f0.1 f0.2
    have g1 := hFn s s0.1 s0.2
    have a2 := a.2
    have b' : m = F f + G s := b
    have eV : V Y0 + W Y1 = m := by omega
    refine ⟨Y0, Y1, Or.inr ⟨⟨⟨hY0.1.1, hY1.1.1, hY1.1.2, by have := hY0.1.2; omega⟩, (pz_dis h hn (by omega) hY0 hY1 (bits f f0.1 f0.2)).mp a2.1, ⟨pz_val h hn hY0, by omega⟩, ⟨pz_val h hn hY1, by omega⟩⟩, eV.symm, c, fun Y Y' hv q => ?_⟩, fun z => by omega, fun _ => ⟨hY0, hY1⟩⟩
    unfold Vis at hv
    obtain ⟨X, X', X0, X0', hX, hX', u1, u2, u3⟩ := back Y Y' (by omega) (by omega) (by omega) (by omega) q
    have q1 := q.2.1.2
    have q2 := q.2.2.2
    have g := d X X' ⟨X0.1, X0'.1, by omega, by omega⟩ ⟨u3, by omega, by omega⟩
    have g1' : F X + G X' ≤ m := g.1
    have g2' : (X < f ∨ (X = f ∧ X' < s)) → F X + G X' < m := g.2
    have cmp : ∀ {A B C D : Int}, (0 ≤ A ∧ A ≤ bo_shl 1 ns - 1) → (0 ≤ B ∧ B ≤ bo_shl 1 ns - 1) → Pz st ns A C → Pz st ns B D → (C < D → A < B) ∧ (C = D → A = B) := by
      intro A B C D hA hB hC hD
      rcases Int.lt_or_le A B with z | z
      · have := pz_lt h hn h6 hA hB hC hD z
        exact ⟨fun _ => z, fun q => by omega⟩
      · rcases Int.lt_or_le B A with z2 | z2
        · have := pz_lt h hn h6 hB hA hD hC z2
          exact ⟨fun q => by omega, fun q => by omega⟩
        · have ef : A = B := by omega
          subst ef
          have := pz_eq hC hD
          exact ⟨fun q => by omega, fun _ => rfl⟩
    refine ⟨show V Y + W Y' ≤ m by omega, fun z => ?_⟩
    have k1 := cmp X0 f0 hX hY0
    have k2 := cmp X0' s0 hX' hY1
    have := g2' (by
      rcases z with z | z
      · exact Or.inl (k1.1 z)
      · exact Or.inr ⟨k1.2 z.1, k2.1 z.2⟩)
    show V Y + W Y' < m
    omega
/-- the best set of places to tell, and how many -/
def TB (M : ax_M) (e m t b mo : Int) : Prop := Pr1 (fun Y => Vd M Y ∧ 0 ≤ bv M e (M 74 m) (M 72 m) t Y) (fun Y => bv M e (M 74 m) (M 72 m) t Y) 4096 b mo
noncomputable def bP (M : ax_M) (e m t : Int) : Int × Int := Classical.epsilon (fun p : Int × Int => TB M e m t p.1 p.2)
theorem bP_eq {M : ax_M} {e m t b mo : Int} (h : TB M e m t b mo) : bP M e m t = (b, mo) := by
  have h2 : TB M e m t (bP M e m t).1 (bP M e m t).2 := Classical.epsilon_spec (p := fun p : Int × Int => TB M e m t p.1 p.2) ⟨(b, mo), h⟩
  have := pr1_un h2 h
  exact Prod.ext this.1 this.2
def TB2 (M : ax_M) (e m e' m' t b c mo : Int) : Prop := Pr2 (fun Y Y' => bo_and Y Y' = 0 ∧ (Vd M Y ∧ 0 ≤ bv M e (M 74 m) (M 72 m) t Y) ∧ (Vd M Y' ∧ 0 ≤ bv M e' (M 74 m') (M 72 m') t Y')) (fun Y Y' => bv M e (M 74 m) (M 72 m) t Y + bv M e' (M 74 m') (M 72 m') t Y') 4096 4096 0 b c mo
noncomputable def bQ (M : ax_M) (e m e' m' t : Int) : Int × Int × Int := Classical.epsilon (fun p : Int × Int × Int => TB2 M e m e' m' t p.1 p.2.1 p.2.2)
theorem bQ_eq {M : ax_M} {e m e' m' t b c mo : Int} (h : TB2 M e m e' m' t b c mo) : bQ M e m e' m' t = (b, c, mo) := by
  have h2 : TB2 M e m e' m' t (bQ M e m e' m' t).1 (bQ M e m e' m' t).2.1 (bQ M e m e' m' t).2.2 := Classical.epsilon_spec (p := fun p : Int × Int × Int => TB2 M e m e' m' t p.1 p.2.1 p.2.2) ⟨(b, c, mo), h⟩
  have := pr2_un h2 h
  exact Prod.ext this.1 (Prod.ext this.2.1 this.2.2)
noncomputable def fBest (M : ax_M) (x1 x2 x3 x4 : Int) : Int := if x1 < 0 ∨ M 61 25 ≤ x1 then -1001 else if x2 < -1 ∨ 99 < x2 ∨ x3 < 0 ∨ 99 < x3 ∨ x4 < 0 ∨ 1 < x4 then -1002 else if ¬ M 73 x1 = 0 ∧ nb (fU M) 12 ≤ 6 then (if x4 = 0 then (bP M x2 x1 x3).1 else (bP M x2 x1 x3).2) else -1003
noncomputable def fTwo (M : ax_M) (x1 x2 x3 x4 x5 x6 : Int) : Int := if x1 < 0 ∨ M 61 25 ≤ x1 ∨ x3 < 0 ∨ M 61 25 ≤ x3 ∨ x1 = x3 then -1001 else if x2 < -1 ∨ 99 < x2 ∨ x4 < -1 ∨ 99 < x4 ∨ x5 < 0 ∨ 99 < x5 ∨ x6 < 0 ∨ 2 < x6 then -1002 else if (¬ M 73 x1 = 0 ∧ nb (fU M) 12 ≤ 6) ∧ ¬ M 73 x3 = 0 then (if x6 = 0 then (bQ M x2 x1 x4 x3 x5).1 else if x6 = 1 then (bQ M x2 x1 x4 x3 x5).2.1 else (bQ M x2 x1 x4 x3 x5).2.2) else -1003
theorem bP_u {M M' : ax_M} (u : SamU M M') (h0 : M' 61 0 = M 61 0) (hU : fU M' = fU M) (e m t : Int) : bP M' e m t = bP M e m t := by
  unfold bP TB Vd
  simp only [bv_u u h0, hU, u.1 72 (by decide), u.1 74 (by decide)]
theorem bQ_u {M M' : ax_M} (u : SamU M M') (h0 : M' 61 0 = M 61 0) (hU : fU M' = fU M) (e m e' m' t : Int) : bQ M' e m e' m' t = bQ M e m e' m' t := by
  unfold bQ TB2 Vd
  simp only [bv_u u h0, hU, u.1 72 (by decide), u.1 74 (by decide)]
theorem fBest_51 {M M' : ax_M} (h : R51 M M') (x1 x2 x3 x4 : Int) : fBest M' x1 x2 x3 x4 = fBest M x1 x2 x3 x4 := by
  unfold fBest
  rw [bP_u h.u (by rw [h 61 (by decide)]) (fU_51 h), fU_51 h, h 61 (by decide), h 73 (by decide)]
theorem fTwo_51 {M M' : ax_M} (h : R51 M M') (x1 x2 x3 x4 x5 x6 : Int) : fTwo M' x1 x2 x3 x4 x5 x6 = fTwo M x1 x2 x3 x4 x5 x6 := by
  unfold fTwo
  rw [bQ_u h.u (by rw [h 61 (by decide)]) (fU_51 h), fU_51 h, h 61 (by decide), h 73 (by decide)]
theorem pz_c {st st' : Int → Int} {ns X Z : Int} (h : Pz st ns X Z) (he : ∀ s, 0 ≤ s → s < ns → st' s = st s) : Pz st' ns X Z := by
  refine ⟨h.1, fun w w0 w1 => ?_⟩
  rw [h.2 w w0 w1]
  constructor
  · rintro ⟨s, a, b, c, d⟩; exact ⟨s, a, b, by rw [he s a b]; exact c, d⟩
  · rintro ⟨s, a, b, c, d⟩; exact ⟨s, a, b, by rw [← he s a b]; exact c, d⟩
theorem bst_48 {M : ax_M} (hp : PitOk M) (hc : CrewEq M) {e s q t R : Int} {X : Int → Prop} (h : Bst M e s q t X R) : -1 ≤ R ∧ R ≤ 1000 := by
  refine ⟨h.1, ?_⟩
  rcases h.2.2 with z | ⟨l, z1, z2⟩
  · omega
  · have a := (rv_rg hc e s l q t).2
    have b := pig (f := fun s => s) (M 61 0).toNat l z1.1 (fun w hw => ⟨w, ((z1.2 w).mp hw).1, by have := ((z1.2 w).mp hw).2.1; omega, rfl⟩)
    have := hp.2.2
    omega
/-- a weighing of all stops is the value of the sets of places -/
theorem wgd_bv {M : ax_M} (h12 : M 61 0 ≤ 12) {b : Nat} {m e t : Int} {M' : ax_M} (h6 : 0 ≤ M 51 4 ∧ M 51 4 ≤ 6) (h : Wgd M b m e t (bo_shl 1 (M 51 4) - 1) M') : ∀ X Y, 0 ≤ X → X ≤ bo_shl 1 (M 51 4) - 1 → Pz (M 52) (M 51 4) X Y → M' b X = bv M e (M 74 m) (M 72 m) t Y := by
  intro X Y a c hz
  have al := all_st h6.1 h6.2
  have w := h X a (by omega) (fun s s0 s1 q => (al.2 s s0 (by omega)).mpr (le_bits h6.1 h6.2 a c s0 q))
  refine (bv_eq (fun w w0 w1 => ?_) w).symm
  unfold Xp
  rw [hz.2 w w0 (by omega)]
set_option maxHeartbeats 4000000 in
set_option maxRecDepth 100000 in
theorem S_X10_toldBest {n : Int} {post : Int → ax_M → Prop} {M : ax_M} {x1 x2 x3 x4 : Int} (hI : Inv n M) (hn : n ≤ 100000) (h : ∀ M', R51 M M' → TelEq (n + 1) M' → post (fBest M x1 x2 x3 x4) M') : ax_Ti Y_X10_toldBest [aR 0, aI x1, aI x2, aI x3, aI x4] SH M post := by
  have key : ∀ z M', R51 M M' → TelEq (n + 1) M' → fBest M x1 x2 x3 x4 = z → post z M' := fun z M' a b c => by rw [← c]; exact h M' a b
  have hT := hI.2.2.2.2.2.1
  have tup := tel_up hT
  have hb := hI.2.1.1
  have h12 : M 61 0 ≤ 12 := by have := hI.1.1.2.2; omega
  have e8 : M 8 0 = M 61 25 := hb.1
  refine E_X10_toldBest (fun _ => ?_)
  rw [e8]
  refine ⟨by omega, fun c => key _ _ R51.rf tup ?_, fun c => ⟨fun c1 => key _ _ R51.rf tup ?_, fun c1 => ⟨fun c2 => key _ _ R51.rf tup ?_, fun c2 => ⟨fun c3 => key _ _ R51.rf tup ?_, fun c3 => ⟨fun c4 => key _ _ R51.rf tup ?_, fun c4 => ⟨fun c5 => key _ _ R51.rf tup ?_, fun c5 => ⟨fun c6 => key _ _ R51.rf tup ?_, fun c6 => ⟨fun c7 => key _ _ R51.rf tup ?_, fun c7 => S_X10_canTell hI.1.1 hI.2.1 (by omega) (fun ct => ⟨fun _ => ?_, fun z => by omega⟩) (fun ct => ⟨fun z => absurd rfl z, fun _ => key _ _ R51.rf tup ?_⟩)⟩⟩⟩⟩⟩⟩⟩⟩
  · unfold fBest; rw [if_pos (by omega)]
  · unfold fBest; rw [if_pos (by omega)]
  · unfold fBest; rw [if_neg (by omega), if_pos (by omega)]
  · unfold fBest; rw [if_neg (by omega), if_pos (by omega)]
  · unfold fBest; rw [if_neg (by omega), if_pos (by omega)]
  · unfold fBest; rw [if_neg (by omega), if_pos (by omega)]
  · unfold fBest; rw [if_neg (by omega), if_pos (by omega)]
  · unfold fBest; rw [if_neg (by omega), if_pos (by omega)]
  · have h6 := ct.2
    have nr := nb_rg (fU M) 12
    have ef : fBest M x1 x2 x3 x4 = if x4 = 0 then (bP M x2 x1 x3).1 else (bP M x2 x1 x3).2 := by
      unfold fBest
      rw [if_neg (by omega), if_neg (by omega), if_pos (show ¬ M 73 x1 = 0 ∧ nb (fU M) 12 ≤ 6 from ct)]
    refine S_X7_findStops hI.1 hI.2.1 h6 (fun M1 r1 s1 i1 e59 => ?_)
    have p4 : M1 51 4 = nb (fU M) 12 := s1.1
    have al := all_st (k := M1 51 4) (by omega) (by omega)
    have m12 : M1 61 0 ≤ 12 := by rw [r1 61 (by decide)]; exact h12
    refine ⟨by omega, S_X7_weigh56 (r1.wx hI.1) (r1.crew hI.2.1) (by rw [r1 61 (by decide)]; omega) (by omega) (by omega) al.1 (fun s a b q => (al.2 s a (by omega)).mp q) (wg_of hn hT r1 s1 i1 e59 h6) (fun M2 r2 q4 q52 _ _ _ q12 q59 wg => ?_)⟩
    have r2' := r1.tr r2
    have te : TelEq (n + 1) M2 := ⟨by have := hT.1; have := i1 12 (by decide); omega, by have := hT.2.1; have := i1 12 (by decide); omega, q59⟩
    have vv := wgd_bv m12 (by omega) wg
    have stp0 : ∀ s, 0 ≤ s → s < M2 51 4 → 0 ≤ M2 52 s ∧ M2 52 s < 12 := fun s a b => by
      rw [q52 s (by omega)]
      have := s1.2.1.1 s a (by omega)
      omega
    have c52 : ∀ s, 0 ≤ s → s < M1 51 4 → M1 52 s = M2 52 s := fun s _ b => (q52 s (by omega)).symm
    refine S_X7_bestOfOne (by omega) (fun X a b => ?_) (fun f m hp => ?_)
    · rw [q4] at b
      exact (wg X a (by omega) (fun s s0 s1 q => (al.2 s s0 (by omega)).mpr (le_bits (by omega) (by omega) a b s0 q))).1
    · rw [q4] at hp
      obtain ⟨b, hb1, hb2, hb3⟩ := tr1 (M := M) (V := fun Y => bv M1 x2 (M1 74 x1) (M1 72 x1) x3 Y) s1.2.1 p4 (by omega) vv hp
      have tb : TB M x2 x1 x3 b m := by
        unfold TB
        simp only [bv_u r1.u (by rw [r1 61 (by decide)]), r1 74 (by decide), r1 72 (by decide)] at hb1
        exact hb1
      have eP := bP_eq tb
      have fm : f = -1 ∧ m = -1 ∨ (¬ f = -1 ∧ (0 ≤ f ∧ f ≤ bo_shl 1 (M1 51 4) - 1) ∧ m = M2 56 f) := by
        rcases hp with ⟨a, b, c⟩ | ⟨a, b, c, d⟩
        · exact Or.inl ⟨a, b⟩
        · exact Or.inr ⟨by omega, by omega, b⟩
      rw [eP] at ef
      refine ⟨fun y => ⟨fun y1 => ⟨?_, key _ M2 r2' te ?_⟩, fun y1 => S_X7_placesOf (by omega) stp0 (fun Z hZ => key _ M2 r2' te ?_)⟩, fun y => key _ M2 r2' te ?_⟩
      · rcases fm with z | z
        · exact absurd z.1 y
        · omega
      · rcases fm with z | z
        · exact absurd z.1 y
        · rw [ef, if_neg y1, z.2.2]
      · rw [q4] at hZ
        rw [ef, if_pos y1]
        exact pz_eq (hb3 y) (pz_c hZ c52)
      · rw [ef]
        have b1 := hb2 y
        rcases fm with z | z
        · show (if x4 = 0 then b else m) = -1
          rw [b1, z.2]; split <;> rfl
        · exact absurd y z.1
  · unfold fBest; rw [if_neg (by omega), if_neg (by omega), if_neg (show ¬ (¬ M 73 x1 = 0 ∧ nb (fU M) 12 ≤ 6) from ct)]
