/-- what the going up reads is the same -/
def SamU (M M' : ax_M) : Prop := (∀ a ∈ [62, 63, 64, 65, 67, 69, 72, 73, 74, 75, 76], M' a = M a) ∧ ∀ i ∈ ([1, 3, 25, 29] : List Int), M' 61 i = M 61 i
theorem SamU.of {M M' : ax_M} (h : Sam M M') : SamU M M' := ⟨fun a ha => h.1 a (by revert a; decide), fun i hi => h.2 i (by revert i; decide)⟩
theorem samU_ofs {l : List Nat} {M M' : ax_M} (h : Ofs l M M') (hl : [61, 62, 63, 64, 65, 67, 69, 72, 73, 74, 75, 76].all (fun a => !l.contains a) = true) : SamU M M' := by
  have e : ∀ a, a ∈ [61, 62, 63, 64, 65, 67, 69, 72, 73, 74, 75, 76] → M' a = M a := fun a ha => h a (fun z => by
    have h1 := List.all_eq_true.mp hl a ha
    simp at h1
    exact h1 z)
  exact ⟨fun a ha => e a (List.mem_cons_of_mem _ ha), fun i _ => by rw [e 61 (by decide)]⟩
theorem so_u {M M' : ax_M} (h : SamU M M') : so M' = so M := by
  have q3 : M' 61 3 = M 61 3 := h.2 3 (by decide)
  funext ma me e s p t q
  unfold so gg
  rw [h.1 62 (by decide), h.1 63 (by decide), h.1 64 (by decide), h.1 65 (by decide), h.1 67 (by decide), h.1 69 (by decide), q3]
theorem upv_u {M M' : ax_M} (h : SamU M M') : upv M' = upv M := by
  funext ma me p e s
  unfold upv
  rw [so_u h, h.2 1 (by decide)]
theorem cl_u {M M' : ax_M} (h : SamU M M') (p s : Int) (j : Nat) : cl M' p s j = cl M p s j := cl_m p s (h.1 72 (by decide)) (h.1 73 (by decide)) (h.1 74 (by decide)) j
theorem cA_u {M M' : ax_M} (h : SamU M M') : cA M' = cA M := by
  funext p
  unfold cA
  rw [cl_u h, h.2 25 (by decide)]
theorem cN_u {M M' : ax_M} (h : SamU M M') : cN M' = cN M := by
  funext p
  unfold cN
  rw [cl_u h, cl_u h, h.2 25 (by decide)]
theorem uS_u {M M' : ax_M} (h : SamU M M') (ma me sk p c : Int) : ∀ k, uS M' ma me sk p c k = uS M ma me sk p c k
  | 0 => rfl
  | k + 1 => by
    rw [uS.eq_2, uS.eq_2, uS_u h ma me sk p c k, cN_u h, cA_u h, upv_u h, h.1 75 (by decide), h.1 76 (by decide)]
theorem uT_u {M M' : ax_M} (h : SamU M M') (ma me p a : Int) : ∀ k, uT M' ma me p a k = uT M ma me p a k
  | 0 => rfl
  | k + 1 => by
    rw [uT.eq_2, uT.eq_2, uT_u h ma me p a k, cA_u h, upv_u h]
theorem uf_u {M M' : ax_M} (h : SamU M M') : uf M' = uf M := by
  funext ma me sk p c
  unfold uf
  rw [uS_u h, uT_u h, cN_u h, h.2 29 (by decide)]
theorem upv_nm {M : ax_M} {me : Int} : upv M (-1) me = upv M (-1) (-1) := by
  funext p e s
  unfold upv
  rw [so_nomark]
theorem uS_nm {M : ax_M} {me sk p c : Int} : ∀ k, uS M (-1) me sk p c k = uS M (-1) (-1) sk p c k
  | 0 => rfl
  | k + 1 => by rw [uS.eq_2, uS.eq_2, uS_nm k, upv_nm]
theorem uT_nm {M : ax_M} {me p a : Int} : ∀ k, uT M (-1) me p a k = uT M (-1) (-1) p a k
  | 0 => rfl
  | k + 1 => by rw [uT.eq_2, uT.eq_2, uT_nm k, upv_nm]
theorem uf_nm {M : ax_M} {me : Int} : uf M (-1) me = uf M (-1) (-1) := by
  funext sk p c
  unfold uf
  rw [uS_nm, uT_nm]
theorem uf_rg {M : ax_M} {ma me sk p c : Int} (h0 : 0 ≤ M 61 25) (h8 : M 61 25 ≤ 8) (hc : 0 ≤ c) : 0 ≤ uf M ma me sk p c ∧ uf M ma me sk p c ≤ 8 := by
  have c8 := cN_8 h0 h8 p
  have u := uS_rg (ma := ma) (me := me) (sk := sk) (c := c) (Int.le_trans c8.1 c8.2.1) hc (M 61 29).toNat
  have t := uT_rg (M := M) (ma := ma) (me := me) (p := p) (a := (uS M ma me sk p c (M 61 29).toNat).1) (cN M p - (uS M ma me sk p c (M 61 29).toNat).1).toNat
  unfold uf
  omega
noncomputable def uA (M : ax_M) (ma me sk c : Int) : Nat → Int
  | 0 => 0
  | j + 1 => uA M ma me sk c j + uf M ma me sk j c
theorem uA_rg {M : ax_M} {ma me sk c : Int} (h0 : 0 ≤ M 61 25) (h8 : M 61 25 ≤ 8) (hc : 0 ≤ c) : ∀ j : Nat, 0 ≤ uA M ma me sk c j ∧ uA M ma me sk c j ≤ 8 * j
  | 0 => ⟨Int.le_refl 0, Int.le_refl 0⟩
  | j + 1 => by
    have q := uA_rg (ma := ma) (me := me) (sk := sk) h0 h8 hc j
    have r := uf_rg (ma := ma) (me := me) (sk := sk) (p := j) h0 h8 hc
    unfold uA
    omega
theorem uA_u {M M' : ax_M} (h : SamU M M') (ma me sk c : Int) : ∀ j, uA M' ma me sk c j = uA M ma me sk c j
  | 0 => rfl
  | j + 1 => by rw [uA.eq_2, uA.eq_2, uA_u h ma me sk c j, uf_u h]
theorem uA_nm {M : ax_M} {me sk c : Int} : ∀ j, uA M (-1) me sk c j = uA M (-1) (-1) sk c j
  | 0 => rfl
  | j + 1 => by rw [uA.eq_2, uA.eq_2, uA_nm j, uf_nm]
theorem crew_ofs {l : List Nat} {M M' : ax_M} (h : Ofs l M M') (hl : [8, 9, 10, 11, 12, 13, 61, 69, 72, 73, 74, 75, 76].all (fun a => !l.contains a) = true) (hc : CrewEq M) : CrewEq M' := by
  have e : ∀ a, a ∈ [8, 9, 10, 11, 12, 13, 61, 69, 72, 73, 74, 75, 76] → M' a = M a := fun a ha => h a (fun z => by
    have h1 := List.all_eq_true.mp hl a ha
    simp at h1
    exact h1 z)
  have e61 := e 61 (by decide)
  exact c_CrewEq (e 8 (by decide)) (e 9 (by decide)) (e 10 (by decide)) (e 11 (by decide)) (e 12 (by decide)) (e 13 (by decide)) (e 69 (by decide)) (e 72 (by decide)) (e 73 (by decide)) (e 74 (by decide)) (e 75 (by decide)) (e 76 (by decide)) (congrFun e61 _) (congrFun e61 _) (congrFun e61 _) (congrFun e61 _) hc
set_option maxHeartbeats 4000000 in
set_option maxRecDepth 100000 in
theorem S_X1_upFromAll {post : Int → ax_M → Prop} {M : ax_M} {c : Int} (hw : WX M) (hc : CrewEq M) (hcc : 0 ≤ c ∧ c ≤ 7) (hma : -1 ≤ M 49 6) (hme : -1 ≤ M 49 7 ∧ M 49 7 ≤ 99) (h : ∀ M', Ofs [34, 35, 36, 37, 39, 49, 50] M M' → (∀ i, i ≠ 4 → M' 49 i = M 49 i) → post (uA M (M 49 6) (M 49 7) (M 49 5) c (M 61 0).toNat) M') : ax_Ti Y_X1_upFromAll [aR 49, aI c] SH M post := by
  have hb := hc.1
  have hnp := hw.1.2.2
  have e60 : M 6 0 = M 61 0 := hw.2.1
  have L : ∀ (r j : Nat) (M' : ax_M), (M 61 0).toNat = j + r → Ofs [34, 35, 36, 37, 39, 49, 50] M M' → (∀ i, i ≠ 4 → M' 49 i = M 49 i) → ax_J Y_X1_upFromAll (ax_Ki Y_X1_upFromAll SH post) 0 0 4 [(0, aR 49), (1, aI c), (2, aI (uA M (M 49 6) (M 49 7) (M 49 5) c j)), (3, aI j)] [] SH M' := by
    intro r
    induction r with
    | zero =>
      intro j M' hj o hi
      have f6 : M' 6 = M 6 := o 6 (by decide)
      refine B_X1_upFromAll_4 ?_
      rw [f6]
      refine ⟨fun _ => ?_, fun z => by omega⟩
      have k := h M' o hi
      rw [show (M 61 0).toNat = j by omega] at k
      exact k
    | succ r ih =>
      intro j M' hj o hi
      have f6 : M' 6 = M 6 := o 6 (by decide)
      have f61 : M' 61 = M 61 := o 61 (by decide)
      have u := uA_rg (M := M) (ma := M 49 6) (me := M 49 7) (sk := M 49 5) hb.2.1 hb.2.2.1 hcc.1 j
      have r := uf_rg (M := M) (ma := M 49 6) (me := M 49 7) (sk := M 49 5) (p := j) hb.2.1 hb.2.2.1 hcc.1
      have h6 := hi 6 (by decide)
      have h7 := hi 7 (by decide)
      have h5 := hi 5 (by decide)
      refine B_X1_upFromAll_4 ?_
      rw [f6]
      refine ⟨fun _ => by omega, fun z => S_X1_upFrom (wx_of o (by decide) hw) (crew_ofs o (by decide) hc) (by rw [f61]; omega) hcc (by omega) (by omega) (fun M2 o2 hi2 => ?_)⟩
      rw [uf_u (samU_ofs o (by decide)), h5, h6, h7]
      exact ⟨by omega, by omega, ih (j + 1) M2 (by omega) (o.tr o2) (fun i hi' => (hi2 i hi').trans (hi i hi'))⟩
  exact E_X1_upFromAll (fun _ => L _ 0 M (Nat.zero_add _).symm Ofs.rf (fun _ _ => rfl))
set_option maxHeartbeats 4000000 in
set_option maxRecDepth 100000 in
theorem S_X11_upAll {post : Int → ax_M → Prop} {M : ax_M} {c sk : Int} (hp0 : PitOk M) (hb : 0 ≤ M 61 25 ∧ M 61 25 ≤ 8 ∧ 0 ≤ M 61 29 ∧ M 61 29 ≤ 4) (hcc : 0 ≤ c ∧ c ≤ 7) (h : ∀ M', Ofs [77, 86] M M' → post (uA M (M 61 32) (M 61 33) sk c (M 61 0).toNat) M') : ax_Ti Y_X11_upAll [aR 61, aI c, aI sk] SH M post := by
  have hnp := hp0.2.2
  have L : ∀ (r j : Nat) (M' : ax_M), (M 61 0).toNat = j + r → Ofs [77, 86] M M' → ax_J Y_X11_upAll (ax_Ki Y_X11_upAll SH post) 0 0 5 [(0, aR 61), (1, aI c), (2, aI sk), (3, aI (uA M (M 61 32) (M 61 33) sk c j)), (4, aI j)] [] SH M' := by
    intro r
    induction r with
    | zero =>
      intro j M' hj o
      have f61 : M' 61 = M 61 := o 61 (by decide)
      refine B_X11_upAll_5 ?_
      rw [f61]
      refine ⟨fun _ => ?_, fun z => by omega⟩
      have k := h M' o
      rw [show (M 61 0).toNat = j by omega] at k
      exact k
    | succ r ih =>
      intro j M' hj o
      have f61 : M' 61 = M 61 := o 61 (by decide)
      have u := uA_rg (M := M) (ma := M 61 32) (me := M 61 33) (sk := sk) hb.1 hb.2.1 hcc.1 j
      have r := uf_rg (M := M) (ma := M 61 32) (me := M 61 33) (sk := sk) (p := j) hb.1 hb.2.1 hcc.1
      have hp' : PitOk M' := c_PitOk (o 62 (by decide)) (o 63 (by decide)) (o 64 (by decide)) (o 65 (by decide)) (o 66 (by decide)) (o 67 (by decide)) (o 68 (by decide)) (congrFun f61 _) (congrFun f61 _) (congrFun f61 _) (congrFun f61 _) hp0
      refine B_X11_upAll_5 ?_
      rw [f61]
      refine ⟨fun _ => by omega, fun z => S_X11_upFrom hp' (by rw [f61]; exact hb) (by rw [f61]; omega) hcc (fun M2 o2 => ?_)⟩
      rw [uf_u (samU_ofs o (by decide)), f61]
      exact ⟨by omega, by omega, ih (j + 1) M2 (by omega) (o.tr o2)⟩
  exact E_X11_upAll (fun _ => L _ 0 M (Nat.zero_add _).symm Ofs.rf)
noncomputable def fUp (M : ax_M) (x1 x2 : Int) : Int := if x2 = -1 then (if x1 < 0 ∨ 7 < x1 then -1002 else if M 61 0 = 0 then -1003 else uA M (-1) (-1) (-1) x1 (M 61 0).toNat) else if x2 < 0 ∨ M 61 0 ≤ x2 then -1001 else if x1 < 0 ∨ 7 < x1 then -1002 else if M 61 0 = 0 then -1003 else uf M (-1) (-1) (-1) x2 x1
theorem fUp_sam {M M' : ax_M} (h : Sam M M') : fUp M' = fUp M := by
  funext x1 x2
  unfold fUp
  rw [uA_u (SamU.of h), uf_u (SamU.of h), h.2 0 (by decide)]
set_option maxHeartbeats 4000000 in
set_option maxRecDepth 100000 in
theorem S_X10_up {n : Int} {post : Int → ax_M → Prop} {M : ax_M} {x1 x2 : Int} (hI : Inv n M) (h : ∀ M', Sam M M' → post (fUp M x1 x2) M') : ax_Ti Y_X10_up [aR 0, aI x1, aI x2] SH M post := by
  have key : ∀ z M', Sam M M' → fUp M x1 x2 = z → post z M' := fun z M' a b => by rw [← b]; exact h M' a
  have hnp := hI.1.1.2.2
  have e6 : M 6 0 = M 61 0 := hI.1.2.1
  have e62 : M 6 2 = M 61 1 := hI.1.2.2.2.1
  have o : Ofs [49] M (ax_up (ax_up (ax_up M 49 5 (-1)) 49 6 (-1)) 49 7 (-1)) := Ofs.tr (Ofs.up (by decide)) (Ofs.tr (Ofs.up (by decide)) (Ofs.up (by decide)))
  have hw := wx_of o (by decide) hI.1
  have hc := crew_ofs o (by decide) hI.2.1
  refine E_X10_up (fun _ => ?_)
  rw [e6, e62]
  refine ⟨fun c => ⟨fun c1 => key _ _ Sam.rf (by unfold fUp; (repeat' split) <;> first | rfl | omega), fun c1 => ⟨fun c2 => key _ _ Sam.rf (by unfold fUp; (repeat' split) <;> first | rfl | omega), fun c2 => ⟨fun c3 => S_X1_upFromAll hw hc (by omega) (by show (-1 : Int) ≤ -1; omega) (by show (-1 : Int) ≤ -1 ∧ (-1 : Int) ≤ 99; omega) (fun M1 o1 _ => ?_), fun c3 => key _ _ Sam.rf (by unfold fUp; (repeat' split) <;> first | rfl | omega)⟩⟩⟩, fun c => ⟨by omega, fun c1 => key _ _ Sam.rf (by unfold fUp; (repeat' split) <;> first | rfl | omega), fun c1 => ⟨fun c2 => key _ _ Sam.rf (by unfold fUp; (repeat' split) <;> first | rfl | omega), fun c2 => ⟨fun c3 => key _ _ Sam.rf (by unfold fUp; (repeat' split) <;> first | rfl | omega), fun c3 => ⟨fun c4 => key _ _ Sam.rf (by unfold fUp; (repeat' split) <;> first | rfl | omega), fun c4 => ⟨fun c5 => S_X1_upFrom hw hc (by show 0 ≤ x2 ∧ x2 < M 61 0; omega) (by omega) (by show (-1 : Int) ≤ -1; omega) (by show (-1 : Int) ≤ -1 ∧ (-1 : Int) ≤ 99; omega) (fun M1 o1 _ => ?_), fun c5 => key _ _ Sam.rf (by unfold fUp; (repeat' split) <;> first | rfl | omega)⟩⟩⟩⟩⟩⟩
  · refine key _ _ (sam_ofs (l := [34, 35, 36, 37, 39, 49, 50]) ((o.mono (by decide)).tr o1) (by decide)) ?_
    rw [uA_u (samU_ofs o (by decide))]
    unfold fUp
    rw [if_pos c, if_neg (by omega), if_neg (by omega)]
    rfl
  · refine key _ _ (sam_ofs (l := [34, 35, 36, 37, 39, 49, 50]) ((o.mono (by decide)).tr o1) (by decide)) ?_
    rw [uf_u (samU_ofs o (by decide))]
    unfold fUp
    rw [if_neg c, if_neg (by omega), if_neg (by omega), if_neg (by omega)]
    rfl
set_option maxHeartbeats 4000000 in
set_option maxRecDepth 100000 in
theorem S_X11_up {n : Int} {post : Int → ax_M → Prop} {M : ax_M} {x1 x2 : Int} (hI : Inv n M) (h : ∀ M', Sam M M' → post (fUp M x1 x2) M') : ax_Ti Y_X11_up [aR 61, aI x1, aI x2] SH M post := by
  have key : ∀ z M', Sam M M' → fUp M x1 x2 = z → post z M' := fun z M' a b => by rw [← b]; exact h M' a
  have hnp := hI.1.1.2.2
  have hb := hI.2.1.1
  have hm : M 61 32 = -1 := hI.2.2.2.2.2.2.1
  refine E_X11_up (fun _ => ?_)
  refine ⟨fun c => ⟨fun c1 => key _ _ Sam.rf (by unfold fUp; (repeat' split) <;> first | rfl | omega), fun c1 => ⟨fun c2 => key _ _ Sam.rf (by unfold fUp; (repeat' split) <;> first | rfl | omega), fun c2 => ⟨fun c3 => S_X11_upAll hI.1.1 (by omega) (by omega) (fun M1 o1 => ?_), fun c3 => key _ _ Sam.rf (by unfold fUp; (repeat' split) <;> first | rfl | omega)⟩⟩⟩, fun c => ⟨by omega, fun c1 => key _ _ Sam.rf (by unfold fUp; (repeat' split) <;> first | rfl | omega), fun c1 => ⟨fun c2 => key _ _ Sam.rf (by unfold fUp; (repeat' split) <;> first | rfl | omega), fun c2 => ⟨fun c3 => key _ _ Sam.rf (by unfold fUp; (repeat' split) <;> first | rfl | omega), fun c3 => ⟨fun c4 => key _ _ Sam.rf (by unfold fUp; (repeat' split) <;> first | rfl | omega), fun c4 => ⟨fun c5 => S_X11_upFrom hI.1.1 (by omega) (by omega) (by omega) (fun M1 o1 => ?_), fun c5 => key _ _ Sam.rf (by unfold fUp; (repeat' split) <;> first | rfl | omega)⟩⟩⟩⟩⟩⟩
  · refine key _ _ (sam_ofs o1 (by decide)) ?_
    rw [hm, uA_nm]
    unfold fUp
    rw [if_pos c, if_neg (by omega), if_neg (by omega)]
  · refine key _ _ (sam_ofs o1 (by decide)) ?_
    rw [hm, uf_nm]
    unfold fUp
    rw [if_neg c, if_neg (by omega), if_neg (by omega), if_neg (by omega)]
theorem C_up {n : Int} {M : ax_M} {x1 x2 : Int} (hI : Inv n M) : ax_Ti Y_X10_up [aR 0, aI x1, aI x2] SH M (fun z1 u1 => ax_Ti Y_X11_up [aR 61, aI x1, aI x2] SH u1 (fun z2 u2 => z1 = z2 ∧ Inv (n + 1) u2)) :=
  S_X10_up hI (fun M1 h1 => S_X11_up (inv_sam h1 hI) (fun M2 h2 => ⟨by rw [fUp_sam h1], inv_up (inv_sam h2 (inv_sam h1 hI))⟩))
