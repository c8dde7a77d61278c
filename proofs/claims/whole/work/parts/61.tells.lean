theorem bst_c {M : ax_M} {e s q t R : Int} {X X' : Int → Prop} (hX : ∀ w, 0 ≤ w → w < M 61 0 → (X w ↔ X' w)) (h : Bst M e s q t X R) : Bst M e s q t X' R := by
  have pl : ∀ l, Pl M X l ↔ Pl M X' l := by
    intro l
    unfold Pl
    constructor
    · rintro ⟨a, b⟩
      refine ⟨a, fun w => ?_⟩
      rw [b w]
      exact ⟨fun z => ⟨z.1, z.2.1, (hX w z.1 z.2.1).mp z.2.2⟩, fun z => ⟨z.1, z.2.1, (hX w z.1 z.2.1).mpr z.2.2⟩⟩
    · rintro ⟨a, b⟩
      refine ⟨a, fun w => ?_⟩
      rw [b w]
      exact ⟨fun z => ⟨z.1, z.2.1, (hX w z.1 z.2.1).mpr z.2.2⟩, fun z => ⟨z.1, z.2.1, (hX w z.1 z.2.1).mp z.2.2⟩⟩
  exact ⟨h.1, fun l hl => h.2.1 l ((pl l).mpr hl), h.2.2.imp id (fun ⟨l, a, b⟩ => ⟨l, (pl l).mp a, b⟩)⟩
/-- the most of all rows through the places of the set Y -/
noncomputable def bv (M : ax_M) (e s q t Y : Int) : Int := Classical.epsilon (fun R => Bst M e s q t (fun w => tb Y w = true) R)
theorem bv_eq {M : ax_M} {e s q t Y R : Int} {X : Int → Prop} (hX : ∀ w, 0 ≤ w → w < M 61 0 → (X w ↔ tb Y w = true)) (h : Bst M e s q t X R) : bv M e s q t Y = R := by
  have h1 := bst_c hX h
  have h2 : Bst M e s q t (fun w => tb Y w = true) (bv M e s q t Y) := Classical.epsilon_spec (p := fun R => Bst M e s q t (fun w => tb Y w = true) R) ⟨R, h1⟩
  exact bst_un (fun _ _ _ => Iff.rfl) h2 h1
theorem bst_u {M M' : ax_M} (u : SamU M M') (h0 : M' 61 0 = M 61 0) {e s q t R : Int} {X : Int → Prop} : Bst M' e s q t X R ↔ Bst M e s q t X R := by
  unfold Bst Pl
  rw [h0]
  simp only [rv_u u]
theorem bv_u {M M' : ax_M} (u : SamU M M') (h0 : M' 61 0 = M 61 0) (e s q t Y : Int) : bv M' e s q t Y = bv M e s q t Y := by
  unfold bv
  congr 1
  funext R
  exact propext (bst_u u h0)
theorem fU_s {M M' : ax_M} (h : Sam M M') : fU M' = fU M := by
  unfold fU
  rw [h.2 25 (by decide)]
  have q : ∀ j, un M' j = un M j := by
    intro j
    induction j with
    | zero => rw [un.eq_1, un.eq_1]
    | succ j ih => rw [un.eq_2, un.eq_2, ih, h.1 72 (by decide), h.1 73 (by decide)]
  exact q _
noncomputable def fTells (M : ax_M) (x1 x2 x3 x4 : Int) : Int := if x1 < 0 ∨ M 61 25 ≤ x1 then -1001 else if ¬ bo_and x4 (bo_xor (fU M) (-1)) = 0 then -1001 else if x2 < -1 ∨ 99 < x2 ∨ x3 < 0 ∨ 99 < x3 then -1002 else if ¬ M 73 x1 = 0 ∧ nb (fU M) 12 ≤ 6 then bv M x2 (M 74 x1) (M 72 x1) x3 x4 else -1003
theorem tel_up {n : Int} {M : ax_M} (h : TelEq n M) : TelEq (n + 1) M := ⟨h.1, by have := h.2.1; omega, h.2.2⟩
theorem wg_of {n : Int} {M M' : ax_M} (hn : n ≤ 100000) (hT : TelEq n M) (r : R51 M M') (hs : StOk M M') (h51 : ∀ i, i ≠ 4 → M' 51 i = M 51 i) (h59 : M' 59 = M 59) (h6 : nb (fU M) 12 ≤ 6) : WgOk M' := by
  refine ⟨⟨by rw [fU_51 r]; exact hs.1, by rw [fU_51 r]; exact hs.2.1, fun v hv => ?_⟩, by rw [fU_51 r]; exact h6, ?_, ?_⟩
  · rw [dk_u r.u]
    rw [r 61 (by decide)] at hv
    exact hs.2.2 v hv
  · rw [h51 12 (by decide)]
    have := hT.1
    have := hT.2.1
    omega
  · rw [h51 12 (by decide), h59]
    exact hT.2.2
theorem set6_nb {X U : Int} (h : ∀ w, 0 ≤ w → w < 12 → tb X w = true → tb U w = true) : ∀ j : Nat, j ≤ 12 → nb X j ≤ nb U j
  | 0, _ => by rw [nb.eq_1, nb.eq_1]; omega
  | j + 1, hj => by
    have ih := set6_nb h j (by omega)
    have q := h j (by omega) (by omega)
    rw [nb.eq_2, nb.eq_2]
    cases h1 : tb X (j : Int)
    · rw [if_neg (by decide)]; split <;> omega
    · rw [q h1, if_pos rfl]; omega
theorem sub_tb {Y U w : Int} (h : bo_and Y (bo_xor U (-1)) = 0) (w1 : w < 32) (hw : tb Y w = true) : tb U w = true := by
  have q := and0_f h w
  rw [tb_xor, tb_m1 w1, hw] at q
  cases z : tb U w
  · rw [z] at q; simp at q
  · rfl
set_option maxHeartbeats 4000000 in
set_option maxRecDepth 100000 in
theorem S_X10_tells {n : Int} {post : Int → ax_M → Prop} {M : ax_M} {x1 x2 x3 x4 : Int} (hI : Inv n M) (hn : n ≤ 100000) (h : ∀ M', R51 M M' → TelEq (n + 1) M' → post (fTells M x1 x2 x3 x4) M') : ax_Ti Y_X10_tells [aR 0, aI x1, aI x2, aI x3, aI x4] SH M post := by
  have key : ∀ z M', R51 M M' → TelEq (n + 1) M' → fTells M x1 x2 x3 x4 = z → post z M' := fun z M' a b c => by rw [← c]; exact h M' a b
  have hT := hI.2.2.2.2.2.1
  have tup := tel_up hT
  have hb := hI.2.1.1
  have e8 : M 8 0 = M 61 25 := hb.1
  refine E_X10_tells (fun _ => ?_)
  rw [e8]
  refine ⟨by omega, fun c => key _ _ R51.rf tup ?_, fun c => ⟨fun c1 => key _ _ R51.rf tup ?_, fun c1 => S_X0_untoldPlaces hI.1.1 hI.2.1 ⟨fun c2 => ⟨fun c3 => key _ _ R51.rf tup ?_, fun c3 => ⟨fun c4 => key _ _ R51.rf tup ?_, fun c4 => ⟨fun c5 => key _ _ R51.rf tup ?_, fun c5 => ⟨fun c6 => key _ _ R51.rf tup ?_, fun c6 => S_X10_canTell hI.1.1 hI.2.1 (by omega) (fun ct => ⟨fun _ => ?_, fun z => by omega⟩) (fun ct => ⟨fun z => absurd rfl z, fun _ => key _ _ R51.rf tup ?_⟩)⟩⟩⟩⟩, fun c2 => key _ _ R51.rf tup ?_⟩⟩⟩
  · unfold fTells; rw [if_pos (by omega)]
  · unfold fTells; rw [if_pos (by omega)]
  · unfold fTells; rw [if_neg (by omega), if_neg (fun z => z c2), if_pos (by omega)]
  · unfold fTells; rw [if_neg (by omega), if_neg (fun z => z c2), if_pos (by omega)]
  · unfold fTells; rw [if_neg (by omega), if_neg (fun z => z c2), if_pos (by omega)]
  · unfold fTells; rw [if_neg (by omega), if_neg (fun z => z c2), if_pos (by omega)]
  · have h6 := ct.2
    have nr := nb_rg (fU M) 12
    refine S_X7_findStops hI.1 hI.2.1 h6 (fun M1 r1 s1 i1 e59 => ?_)
    have p4 : M1 51 4 = nb (fU M) 12 := s1.1
    have stp0 : ∀ s, 0 ≤ s → s < M1 51 4 → 0 ≤ M1 52 s ∧ M1 52 s < 12 := fun s a b => by
      have := s1.2.1.1 s a (by omega)
      omega
    refine S_X7_stopsOf (by omega) stp0 (fun X hX => ?_)
    have gm := hI.2.1.2.1 x1 (by omega) (by omega)
    refine S_X7_weigh56 (r1.wx hI.1) (r1.crew hI.2.1) (by rw [r1 61 (by decide)]; omega) (by omega) (by omega) hX.1 (fun s a b q => ((hX.2 s a b).mp q).1) (wg_of hn hT r1 s1 i1 e59 h6) (fun M2 r2 q4 q52 _ _ _ q12 q59 wg => ⟨hX.1, ?_⟩)
    have w := wg X hX.1.1 hX.1.2 (fun s _ _ q => q)
    have w2 := (bst_u r1.u (by rw [r1 61 (by decide)])).mp w
    rw [r1 74 (by decide), r1 72 (by decide)] at w2
    refine key _ M2 (r1.tr r2) ⟨by have := hT.1; have := i1 12 (by decide); omega, by have := hT.2.1; have := i1 12 (by decide); omega, q59⟩ ?_
    unfold fTells
    rw [if_neg (by omega), if_neg (fun z => z c2), if_neg (by omega), if_pos (show ¬ M 73 x1 = 0 ∧ nb (fU M) 12 ≤ 6 from ct)]
    refine bv_eq (fun w w0 w1 => ?_) w2
    unfold Xp
    constructor
    · rintro ⟨s, a, b, c, d⟩
      have := ((hX.2 s a (by omega)).mp d).2
      rw [c] at this
      exact this
    · intro q
      have uq := sub_tb c2 (by have := hI.1.1.2.2; omega) q
      obtain ⟨s, a, b, c⟩ := s1.2.1.2.2 w w0 (by have := hI.1.1.2.2; omega) uq
      exact ⟨s, a, by omega, c, (hX.2 s a (by omega)).mpr ⟨by omega, by rw [c]; exact q⟩⟩
  · unfold fTells; rw [if_neg (by omega), if_neg (fun z => z c2), if_neg (by omega), if_neg (show ¬ (¬ M 73 x1 = 0 ∧ nb (fU M) 12 ≤ 6) from ct)]
  · unfold fTells; rw [if_neg (by omega), if_pos c2]
theorem S_X11_tells {n : Int} {post : Int → ax_M → Prop} {M : ax_M} {x1 x2 x3 x4 : Int} (hI : Inv n M) (h : ∀ M', Sam M M' → post (fTells M x1 x2 x3 x4) M') : ax_Ti Y_X11_tells [aR 61, aI x1, aI x2, aI x3, aI x4] SH M post := by
  have key : ∀ z M', Sam M M' → fTells M x1 x2 x3 x4 = z → post z M' := fun z M' a c => by rw [← c]; exact h M' a
  have hb := hI.2.1.1
  have h32 : M 61 32 = -1 := hI.2.2.2.2.2.2.1
  refine E_X11_tells (fun _ => ?_)
  refine ⟨by omega, fun c => key _ _ Sam.rf ?_, fun c => ⟨fun c1 => key _ _ Sam.rf ?_, fun c1 => S_X11_unknowing hI.1.1 hI.2.1 ⟨fun c2 => ⟨fun c3 => key _ _ Sam.rf ?_, fun c3 => ⟨fun c4 => key _ _ Sam.rf ?_, fun c4 => ⟨fun c5 => key _ _ Sam.rf ?_, fun c5 => ⟨fun c6 => key _ _ Sam.rf ?_, fun c6 => S_X11_canTell hI.1.1 hI.2.1 (by omega) (fun ct => ⟨fun _ => ?_, fun z => by omega⟩) (fun ct => ⟨fun z => absurd rfl z, fun _ => key _ _ Sam.rf ?_⟩)⟩⟩⟩⟩, fun c2 => key _ _ Sam.rf ?_⟩⟩⟩
  · unfold fTells; rw [if_pos (by omega)]
  · unfold fTells; rw [if_pos (by omega)]
  · unfold fTells; rw [if_neg (by omega), if_neg (fun z => z c2), if_pos (by omega)]
  · unfold fTells; rw [if_neg (by omega), if_neg (fun z => z c2), if_pos (by omega)]
  · unfold fTells; rw [if_neg (by omega), if_neg (fun z => z c2), if_pos (by omega)]
  · unfold fTells; rw [if_neg (by omega), if_neg (fun z => z c2), if_pos (by omega)]
  · refine S_X11_findDark hI.1.1 h32 (fun M1 o1 d1 => ?_)
    have r1 : R61 M M1 := R61.ofs o1 (by decide)
    have d1' : DkOk M1 (M1 61 0) M1 := fun p a b => by rw [dk_u r1.u]; exact d1 p a (by rw [← r1.2 0 (by decide)]; exact b)
    refine S_X11_tellSet (r1.pit hI.1.1) (r1.crew hI.2.1) (by rw [r1.2 32 (by decide)]; exact h32) (by rw [r1.2 25 (by decide)]; omega) (by omega) ?_ d1' (fun M2 R r2 _ _ _ w => key _ M2 (r1.tr r2).sam ?_)
    · have := set6_nb (X := x4) (U := fU M) (fun w _ w1 q => sub_tb c2 (by omega) q) 12 (Nat.le_refl _)
      have := ct.2
      omega
    · have w2 := (bst_u r1.u (r1.2 0 (by decide))).mp w
      rw [r1.1 74 (by decide), r1.1 72 (by decide)] at w2
      unfold fTells
      rw [if_neg (by omega), if_neg (fun z => z c2), if_neg (by omega), if_pos (show ¬ M 73 x1 = 0 ∧ nb (fU M) 12 ≤ 6 from ct)]
      exact bv_eq (fun _ _ _ => Iff.rfl) w2
  · unfold fTells; rw [if_neg (by omega), if_neg (fun z => z c2), if_neg (by omega), if_neg (show ¬ (¬ M 73 x1 = 0 ∧ nb (fU M) 12 ≤ 6) from ct)]
  · unfold fTells; rw [if_neg (by omega), if_pos c2]
theorem fTells_51 {M M' : ax_M} (h : R51 M M') (x1 x2 x3 x4 : Int) : fTells M' x1 x2 x3 x4 = fTells M x1 x2 x3 x4 := by
  unfold fTells
  rw [fU_51 h, bv_u h.u (by rw [h 61 (by decide)]), h 61 (by decide), h 72 (by decide), h 73 (by decide), h 74 (by decide)]
theorem C_tells {n : Int} {M : ax_M} {x1 x2 x3 x4 : Int} (hn : n ≤ 100000) (hI : Inv n M) : ax_Ti Y_X10_tells [aR 0, aI x1, aI x2, aI x3, aI x4] SH M (fun z1 u1 => ax_Ti Y_X11_tells [aR 61, aI x1, aI x2, aI x3, aI x4] SH u1 (fun z2 u2 => z1 = z2 ∧ Inv (n + 1) u2)) :=
  S_X10_tells hI hn (fun _ r1 t1 => S_X11_tells (r1.inv hI t1) (fun _ s2 => ⟨(fTells_51 r1 _ _ _ _).symm, inv_sam s2 (r1.inv hI t1)⟩))
/-- the last minute to go so as to tell p and come up -/
noncomputable def tl (M : ax_M) (e s q p : Int) : Int := if la M (-1) (-1) e s p (M 61 1) 99 = -1 then -1 else la M (-1) (-1) e s q p (la M (-1) (-1) e s p (M 61 1) 99)
noncomputable def fLate (M : ax_M) (x1 x2 x3 : Int) : Int := if x1 < 0 ∨ M 61 25 ≤ x1 then -1001 else if x3 < 0 ∨ M 61 0 ≤ x3 then -1001 else if ¬ tb (fU M) x3 = true then -1001 else if x2 < -1 ∨ 99 < x2 then -1002 else if ¬ M 73 x1 = 0 ∧ nb (fU M) 12 ≤ 6 then tl M x2 (M 74 x1) (M 72 x1) x3 + 1 else -1003
set_option maxHeartbeats 4000000 in
set_option maxRecDepth 100000 in
theorem S_X10_tooLate {n : Int} {post : Int → ax_M → Prop} {M : ax_M} {x1 x2 x3 : Int} (hI : Inv n M) (h : ∀ M', R51 M M' → TelEq (n + 1) M' → post (fLate M x1 x2 x3) M') : ax_Ti Y_X10_tooLate [aR 0, aI x1, aI x2, aI x3] SH M post := by
  have key : ∀ z M', R51 M M' → TelEq (n + 1) M' → fLate M x1 x2 x3 = z → post z M' := fun z M' a b c => by rw [← c]; exact h M' a b
  have hT := hI.2.2.2.2.2.1
  have tup := tel_up hT
  have hb := hI.2.1.1
  have hnp := hI.1.1.2.2
  have e8 : M 8 0 = M 61 25 := hb.1
  have e6 : M 6 0 = M 61 0 := hI.1.2.1
  refine E_X10_tooLate (fun _ => ?_)
  rw [e8, e6]
  refine ⟨by omega, fun c => key _ _ R51.rf tup ?_, fun c => ⟨fun c1 => key _ _ R51.rf tup ?_, fun c1 => ⟨by omega, fun c2 => key _ _ R51.rf tup ?_, fun c2 => ⟨fun c3 => key _ _ R51.rf tup ?_, fun c3 => S_X0_untoldPlaces hI.1.1 hI.2.1 ?_⟩⟩⟩⟩
  · unfold fLate; rw [if_pos (by omega)]
  · unfold fLate; rw [if_pos (by omega)]
  · unfold fLate; rw [if_neg (by omega), if_pos (by omega)]
  · unfold fLate; rw [if_neg (by omega), if_pos (by omega)]
  · rw [tb_shr c2 (by omega)]
    refine ⟨fun c4 => ⟨fun c5 => key _ _ R51.rf tup ?_, fun c5 => ⟨fun c6 => key _ _ R51.rf tup ?_, fun c6 => S_X10_canTell hI.1.1 hI.2.1 (by omega) (fun ct => ⟨fun _ => ?_, fun z => by omega⟩) (fun ct => ⟨fun z => absurd rfl z, fun _ => key _ _ R51.rf tup ?_⟩)⟩⟩, fun c4 => key _ _ R51.rf tup ?_⟩
    · have t4 : tb (fU M) x3 = true := by
        cases q : tb (fU M) x3
        · rw [q] at c4; simp at c4
        · rfl
      unfold fLate; rw [if_neg (by omega), if_neg (by omega), if_neg (fun z => z t4), if_pos (by omega)]
    · have t4 : tb (fU M) x3 = true := by
        cases q : tb (fU M) x3
        · rw [q] at c4; simp at c4
        · rfl
      unfold fLate; rw [if_neg (by omega), if_neg (by omega), if_neg (fun z => z t4), if_pos (by omega)]
    · have t4 : tb (fU M) x3 = true := by
        cases q : tb (fU M) x3
        · rw [q] at c4; simp at c4
        · rfl
      have gm := hI.2.1.2.1 x1 (by omega) (by omega)
      have ef : fLate M x1 x2 x3 = tl M x2 (M 74 x1) (M 72 x1) x3 + 1 := by
        unfold fLate; rw [if_neg (by omega), if_neg (by omega), if_neg (fun z => z t4), if_neg (by omega), if_pos (show ¬ M 73 x1 = 0 ∧ nb (fU M) 12 ≤ 6 from ct)]
      refine E_X7_lateFor (fun _ => ⟨by omega, ?_⟩)
      rw [gm.2.2.2.2.1]
      refine S_X7_findLast55 hI.1 (by omega) (fun M1 o1 P1 v1 => ⟨by omega, ?_⟩)
      have r1 : R51 M M1 := R51.ofs o1 (by decide)
      have t1 : TelEq (n + 1) M1 := c_TelEq (o1 51 (by decide)) (o1 59 (by decide)) tup
      rw [v1 x3 (by omega)]
      have lg := la_ge (p := x3) (q := M 61 1) (b := 99) hI.1.1 (ma := -1) (me := -1) (e := x2) (s := M 74 x1) (by omega) (by omega)
      refine ⟨fun y => S_X9_gather (r1.wx hI.1) P1 (by omega) (by omega) (by omega) (by omega) (by rw [r1 61 (by decide)]; omega) (fun M2 o2 v2 => ?_), fun y => key _ M1 r1 t1 ?_⟩
      · have e9 : M2 9 x1 = M 72 x1 := by rw [o2 9 (by decide), o1 9 (by decide)]; exact gm.1
        rw [e9, v2 (M 72 x1) (by rw [r1 61 (by decide)]; omega), la_u r1.u]
        have lg2 := la_ge (p := M 72 x1) (q := x3) (b := la M (-1) (-1) x2 (M 74 x1) x3 (M 61 1) 99) hI.1.1 (ma := -1) (me := -1) (e := x2) (s := M 74 x1) (by omega) (by omega)
        refine ⟨by omega, by omega, key _ M2 (r1.tr (R51.ofs (o2.s (l := [39]) (by decide)) (by decide))) (c_TelEq (o2 51 (by decide)) (o2 59 (by decide)) t1) ?_⟩
        rw [ef]; unfold tl; rw [if_neg y]
      · rw [ef]; unfold tl; rw [if_pos y]; rfl
    · have t4 : tb (fU M) x3 = true := by
        cases q : tb (fU M) x3
        · rw [q] at c4; simp at c4
        · rfl
      unfold fLate; rw [if_neg (by omega), if_neg (by omega), if_neg (fun z => z t4), if_neg (by omega), if_neg (show ¬ (¬ M 73 x1 = 0 ∧ nb (fU M) 12 ≤ 6) from ct)]
    · have t4 : ¬ tb (fU M) x3 = true := by
        intro q
        rw [q] at c4; simp at c4
      unfold fLate; rw [if_neg (by omega), if_neg (by omega), if_pos t4]
theorem nb_shl_d : ∀ p : Fin 12, nb (bo_shl 1 (p : Nat)) 12 ≤ 6 := by decide
theorem nb_shl {p : Int} (h0 : 0 ≤ p) (h1 : p < 12) : nb (bo_shl 1 p) 12 ≤ 6 := by
  have e := nb_shl_d ⟨p.toNat, by omega⟩
  have e1 : ((p.toNat : Nat) : Int) = p := by omega
  simp only [e1] at e
  exact e
/-- one place alone -/
theorem bst_one {M : ax_M} (hp : PitOk M) (hc : CrewEq M) {e s q t p R : Int} (h0 : 0 ≤ p) (h1 : p < M 61 0) (ht : 0 ≤ t ∧ t ≤ 99) (h : Bst M e s q t (fun w => tb (bo_shl 1 p) w = true) R) : 0 ≤ R ↔ t ≤ tl M e s q p := by
  have h12 : M 61 0 ≤ 12 := by have := hp.2.2; omega
  have pl1 : Pl M (fun w => tb (bo_shl 1 p) w = true) [p] := by
    refine ⟨by simp, fun w => ?_⟩
    rw [List.mem_singleton]
    constructor
    · intro z; subst z; exact ⟨h0, h1, (show tb (bo_shl 1 w) w = true by rw [tb_shl h0 (by omega) h0 (by omega)]; simp)⟩
    · rintro ⟨a, b, c⟩
      rw [tb_shl h0 (by omega) a (by omega)] at c
      exact of_decide_eq_true c
  have only : ∀ l, Pl M (fun w => tb (bo_shl 1 p) w = true) l → l = [p] := by
    intro l hl
    have mem : ∀ w ∈ l, w = p := fun w hw => by
      obtain ⟨a, b, c⟩ := (hl.2 w).mp hw
      rw [tb_shl h0 (by omega) a (by omega)] at c
      exact of_decide_eq_true c
    have hpl : p ∈ l := (hl.2 p).mpr ((pl1.2 p).mp (List.mem_singleton.mpr rfl))
    cases l with
    | nil => simp at hpl
    | cons a l =>
      have ea := mem a List.mem_cons_self
      subst ea
      cases l with
      | nil => rfl
      | cons b l =>
        have eb := mem b (List.mem_cons_of_mem _ List.mem_cons_self)
        subst eb
        exact absurd List.mem_cons_self (List.nodup_cons.mp hl.1).1
  have hR : 0 ≤ R ↔ 0 ≤ rv M e s [p] q t := by
    constructor
    · intro z
      rcases h.2.2 with z1 | ⟨l, z1, z2⟩
      · omega
      · rw [only l z1] at z2; omega
    · intro z
      have := h.2.1 [p] pl1
      omega
  rw [hR]
  have n1 : so M (-1) (-1) e s q t p = -1 ∨ 0 ≤ so M (-1) (-1) e s q t p := ds_neg (gg_gd hp (-1) (-1) e s) ht.1 p
  have s9 := so_99 (p := q) (q := p) (t := t) hp (ma := -1) (me := -1) (e := e) (s := s) ht.1 ht.2
  have tr := tA_rg hc p (so M (-1) (-1) e s q t p)
  have e1 : 0 ≤ rv M e s [p] q t ↔ (0 ≤ so M (-1) (-1) e s q t p ∧ 0 ≤ so M (-1) (-1) e s p (so M (-1) (-1) e s q t p) (M 61 1)) := by
    rw [rv.eq_2, rv.eq_1]
    by_cases z : so M (-1) (-1) e s q t p < 0
    · rw [if_pos z]; omega
    · rw [if_neg z]
      by_cases z2 : 0 ≤ so M (-1) (-1) e s p (so M (-1) (-1) e s q t p) (M 61 1)
      · rw [if_pos z2, if_neg (by omega)]; omega
      · rw [if_neg z2, if_pos (by omega)]; omega
  rw [e1]
  have lg := la_ge (p := p) (q := M 61 1) (b := 99) hp (ma := -1) (me := -1) (e := e) (s := s) (by omega) (by omega)
  have i1 : 0 ≤ so M (-1) (-1) e s q t p → (so M (-1) (-1) e s q t p ≤ la M (-1) (-1) e s p (M 61 1) 99 ↔ 0 ≤ so M (-1) (-1) e s p (so M (-1) (-1) e s q t p) (M 61 1)) := by
    intro z
    rw [la_iff hp (by omega) z]
    have := so_99 (p := p) (q := M 61 1) (t := so M (-1) (-1) e s q t p) hp (ma := -1) (me := -1) (e := e) (s := s) z s9
    omega
  unfold tl
  by_cases z : la M (-1) (-1) e s p (M 61 1) 99 = -1
  · rw [if_pos z]
    constructor
    · rintro ⟨a, b⟩
      have := (i1 a).mpr b
      omega
    · intro a; omega
  · rw [if_neg z, la_iff hp (by omega) ht.1]
    constructor
    · rintro ⟨a, b⟩; exact ⟨a, (i1 a).mpr b⟩
    · rintro ⟨a, b⟩; exact ⟨a, (i1 a).mp b⟩
set_option maxHeartbeats 4000000 in
set_option maxRecDepth 100000 in
theorem S_X11_tooLate {n : Int} {post : Int → ax_M → Prop} {M : ax_M} {x1 x2 x3 : Int} (hI : Inv n M) (h : ∀ M', Sam M M' → post (fLate M x1 x2 x3) M') : ax_Ti Y_X11_tooLate [aR 61, aI x1, aI x2, aI x3] SH M post := by
  have key : ∀ z M', Sam M M' → fLate M x1 x2 x3 = z → post z M' := fun z M' a c => by rw [← c]; exact h M' a
  have hb := hI.2.1.1
  have hnp := hI.1.1.2.2
  have h32 : M 61 32 = -1 := hI.2.2.2.2.2.2.1
  refine E_X11_tooLate (fun _ => ?_)
  refine ⟨by omega, fun c => key _ _ Sam.rf ?_, fun c => ⟨fun c1 => key _ _ Sam.rf ?_, fun c1 => ⟨by omega, fun c2 => key _ _ Sam.rf ?_, fun c2 => ⟨fun c3 => key _ _ Sam.rf ?_, fun c3 => S_X11_unknowing hI.1.1 hI.2.1 ?_⟩⟩⟩⟩
  · unfold fLate; rw [if_pos (by omega)]
  · unfold fLate; rw [if_pos (by omega)]
  · unfold fLate; rw [if_neg (by omega), if_pos (by omega)]
  · unfold fLate; rw [if_neg (by omega), if_pos (by omega)]
  · rw [tb_yes c2 (by omega)]
    refine ⟨fun c4 => key _ _ Sam.rf ?_, fun c4 => ⟨fun c5 => key _ _ Sam.rf ?_, fun c5 => ⟨fun c6 => key _ _ Sam.rf ?_, fun c6 => S_X11_canTell hI.1.1 hI.2.1 (by omega) (fun ct => ⟨fun _ => ?_, fun z => by omega⟩) (fun ct => ⟨fun z => absurd rfl z, fun _ => key _ _ Sam.rf ?_⟩)⟩⟩⟩
    · unfold fLate; rw [if_neg (by omega), if_neg (by omega), if_pos c4]
    · unfold fLate; rw [if_neg (by omega), if_neg (by omega), if_neg (fun z => z c4), if_pos (by omega)]
    · unfold fLate; rw [if_neg (by omega), if_neg (by omega), if_neg (fun z => z c4), if_pos (by omega)]
    · have gm := hI.2.1.2.1 x1 (by omega) (by omega)
      have ef : fLate M x1 x2 x3 = tl M x2 (M 74 x1) (M 72 x1) x3 + 1 := by
        unfold fLate; rw [if_neg (by omega), if_neg (by omega), if_neg (fun z => z c4), if_neg (by omega), if_pos (show ¬ M 73 x1 = 0 ∧ nb (fU M) 12 ≤ 6 from ct)]
      have lg := la_ge (p := x3) (q := M 61 1) (b := 99) hI.1.1 (ma := -1) (me := -1) (e := x2) (s := M 74 x1) (by omega) (by omega)
      have tlr : -1 ≤ tl M x2 (M 74 x1) (M 72 x1) x3 ∧ tl M x2 (M 74 x1) (M 72 x1) x3 ≤ 99 := by
        unfold tl
        split
        · omega
        · have lg2 := la_ge (p := M 72 x1) (q := x3) (b := la M (-1) (-1) x2 (M 74 x1) x3 (M 61 1) 99) hI.1.1 (ma := -1) (me := -1) (e := x2) (s := M 74 x1) (by omega) (by omega)
          omega
      have L : ∀ (r : Nat) (t : Int) (M1 : ax_M), t + r = 100 → 0 ≤ t → R61 M M1 → DkOk M (M 61 0) M1 → t ≤ tl M x2 (M 74 x1) (M 72 x1) x3 + 1 → ax_J Y_X11_tooLate (ax_Ki Y_X11_tooLate SH post) 0 0 61 [(0, aR 61), (1, aI x1), (2, aI x2), (3, aI x3), (4, aI t)] [] SH M1 := by
        intro r
        induction r with
        | zero =>
          intro t M1 hr ht0 r1 d1 hl
          exact B_X11_tooLate_61 ⟨fun _ => key _ M1 r1.sam (by rw [ef]; omega), fun z => by omega⟩
        | succ r ih =>
          intro t M1 hr ht0 r1 d1 hl
          refine B_X11_tooLate_61 ⟨fun z => by omega, fun _ => S_X11_tellSet (r1.pit hI.1.1) (r1.crew hI.2.1) (by rw [r1.2 32 (by decide)]; exact h32) (by rw [r1.2 25 (by decide)]; omega) (by omega) (nb_shl c2 (by omega)) (fun p a b => by rw [dk_u r1.u]; exact d1 p a (by rw [← r1.2 0 (by decide)]; exact b)) (fun M2 R r2 e87 _ _ w => ?_)⟩
          have w2 := (bst_u r1.u (r1.2 0 (by decide))).mp w
          rw [r1.1 74 (by decide), r1.1 72 (by decide)] at w2
          have bo := bst_one hI.1.1 hI.2.1 c2 (by omega) (by omega) w2
          refine ⟨fun y => ⟨by omega, ih (t + 1) M2 (by omega) (by omega) (r1.tr r2) (fun p a b => by rw [e87]; exact d1 p a b) ?_⟩, fun y => key _ M2 (r1.tr r2).sam ?_⟩
          · have := bo.mp y; omega
          · rw [ef]
            have : ¬ t ≤ tl M x2 (M 74 x1) (M 72 x1) x3 := fun z => by have := bo.mpr z; omega
            omega
      refine S_X11_findDark hI.1.1 h32 (fun M1 o1 d1 => L 100 0 M1 (by omega) (Int.le_refl _) (R61.ofs o1 (by decide)) d1 (by omega))
    · unfold fLate; rw [if_neg (by omega), if_neg (by omega), if_neg (fun z => z c4), if_neg (by omega), if_neg (show ¬ (¬ M 73 x1 = 0 ∧ nb (fU M) 12 ≤ 6) from ct)]
theorem fLate_51 {M M' : ax_M} (h : R51 M M') (x1 x2 x3 : Int) : fLate M' x1 x2 x3 = fLate M x1 x2 x3 := by
  unfold fLate tl
  rw [fU_51 h, la_u h.u, h 61 (by decide), h 72 (by decide), h 73 (by decide), h 74 (by decide)]
theorem C_tooLate {n : Int} {M : ax_M} {x1 x2 x3 : Int} (hI : Inv n M) : ax_Ti Y_X10_tooLate [aR 0, aI x1, aI x2, aI x3] SH M (fun z1 u1 => ax_Ti Y_X11_tooLate [aR 61, aI x1, aI x2, aI x3] SH u1 (fun z2 u2 => z1 = z2 ∧ Inv (n + 1) u2)) :=
  S_X10_tooLate hI (fun _ r1 t1 => S_X11_tooLate (r1.inv hI t1) (fun _ s2 => ⟨(fLate_51 r1 _ _ _).symm, inv_sam s2 (r1.inv hI t1)⟩))
