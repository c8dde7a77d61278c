theorem gg_nomark {M : ax_M} {me e s : Int} : gg M (-1) me e s = gg M (-1) (-1) e s := by
  funext k t
  unfold gg
  have h1 : ∀ x : Int, (t + gx s * M 64 k ≤ e ∨ (0 : Int) ≤ -1 ∧ (M 62 k = -1 ∨ M 63 k = -1) ∧ t + gx s * M 64 k ≤ x) = (t + gx s * M 64 k ≤ e) := fun x => propext (by omega)
  simp only [h1]
theorem so_nomark {M : ax_M} {me e s : Int} : so M (-1) me e s = so M (-1) (-1) e s := by
  funext p t q
  unfold so
  rw [gg_nomark]
theorem hh_nomark {M : ax_M} {me e s : Int} : hh M (-1) me e s = hh M (-1) (-1) e s := by
  funext k b
  have h1 : hB M (-1) me e k = hB M (-1) (-1) e k := by
    unfold hB
    by_cases h : M 62 k = -1 ∨ M 63 k = -1
    · rw [if_pos h, if_pos h, if_neg (by omega), if_neg (by omega)]
    · rw [if_neg h, if_neg h]
  unfold hh
  rw [h1]
theorem la_nomark {M : ax_M} {me e s : Int} : la M (-1) me e s = la M (-1) (-1) e s := by
  funext p q b
  unfold la
  rw [hh_nomark]
theorem so_sam {M M' : ax_M} (h : Sam M M') : so M' = so M := by
  have q3 : M' 61 3 = M 61 3 := h.2 3 (by decide)
  funext ma me e s p t q
  unfold so gg
  rw [h.1 62 (by decide), h.1 63 (by decide), h.1 64 (by decide), h.1 65 (by decide), h.1 67 (by decide), h.1 69 (by decide), q3]
theorem la_sam {M M' : ax_M} (h : Sam M M') : la M' = la M := by
  have q3 : M' 61 3 = M 61 3 := h.2 3 (by decide)
  funext ma me e s p t q
  unfold la hh hB
  rw [h.1 62 (by decide), h.1 63 (by decide), h.1 64 (by decide), h.1 65 (by decide), h.1 67 (by decide), h.1 69 (by decide), q3]
theorem la_ofs {l : List Nat} {M M' : ax_M} (h : Ofs l M M') (hl : [61, 62, 63, 64, 65, 67, 69].all (fun a => !l.contains a) = true) : la M' = la M := by
  have e : ∀ a, a ∈ [61, 62, 63, 64, 65, 67, 69] → M' a = M a := fun a ha => h a (fun z => by
    have h1 := List.all_eq_true.mp hl a ha
    simp at h1
    exact h1 z)
  funext ma me e' s p t q
  unfold la hh hB
  rw [e 61 (by decide), e 62 (by decide), e 63 (by decide), e 64 (by decide), e 65 (by decide), e 67 (by decide), e 69 (by decide)]
theorem so_ofs {l : List Nat} {M M' : ax_M} (h : Ofs l M M') (hl : [61, 62, 63, 64, 65, 67, 69].all (fun a => !l.contains a) = true) : so M' = so M := by
  have e : ∀ a, a ∈ [61, 62, 63, 64, 65, 67, 69] → M' a = M a := fun a ha => h a (fun z => by
    have h1 := List.all_eq_true.mp hl a ha
    simp at h1
    exact h1 z)
  funext ma me e' s p t q
  unfold so gg
  rw [e 61 (by decide), e 62 (by decide), e 63 (by decide), e 64 (by decide), e 65 (by decide), e 67 (by decide), e 69 (by decide)]
noncomputable def fSoonest (M : ax_M) (p q t e s : Int) : Int := if ¬ (0 ≤ p ∧ p < M 61 0 ∧ 0 ≤ q ∧ q < M 61 0) then -1001 else if ¬ (0 ≤ t ∧ t ≤ 99 ∧ -1 ≤ e ∧ e ≤ 99) then -1002 else so M (-1) (-1) e s p t q
noncomputable def fLast (M : ax_M) (p e s : Int) : Int := if ¬ (0 ≤ p ∧ p < M 61 0) then -1001 else if ¬ (-1 ≤ e ∧ e ≤ 99) then -1002 else la M (-1) (-1) e s p (M 61 1) 99
noncomputable def opn (M : ax_M) (t e s : Int) : Nat → Int
  | 0 => 0
  | i + 1 => @ite Int (t ≤ la M (-1) (-1) e s (i : Int) (M 61 1) 99) (Int.decLe _ _) (bo_or (opn M t e s i) (bo_shl 1 (i : Int))) (opn M t e s i)
noncomputable def fOpen (M : ax_M) (t e s : Int) : Int := if ¬ (0 ≤ t ∧ t ≤ 99 ∧ -1 ≤ e ∧ e ≤ 99) then -1002 else opn M t e s (M 61 0).toNat
theorem bo_or_0 {x : Int} (h : i32 x) : bo_or x 0 = x := by
  unfold bo_or
  rw [show Int32.ofInt 0 = 0 from rfl, Int32.or_zero, c32_in h]
theorem bo_or_r (x y : Int) : i32 (bo_or x y) := c32_toInt _
theorem opn_r (M : ax_M) (t e s : Int) : ∀ i, i32 (opn M t e s i)
  | 0 => i32_0
  | i + 1 => by
    unfold opn
    split
    · exact bo_or_r _ _
    · exact opn_r M t e s i
theorem S_X9_prep {post : ax_M → Prop} {M : ax_M} {e s : Int} (hw : WX M) (he : -1 ≤ e ∧ e ≤ 99) (h : ∀ M', Ofs [34, 35, 36, 37] M M' → WX M' → Prep M' (-1) (-1) e s → post M') : ax_Tv Y_X9_prepareMarked [aR 33, aI e, aI s, aI (-1), aI (-1)] SH M post :=
  S_X9_prepareMarked hw he (by omega) (fun M' hO hP => h M' hO (wx_of hO (by decide) hw) hP)
theorem S_X10_soonest {n : Int} {post : Int → ax_M → Prop} {M : ax_M} {p q t e s : Int} (hI : Inv n M) (h : ∀ M', Sam M M' → post (fSoonest M p q t e s) M') : ax_Ti Y_X10_soonest [aR 0, aI p, aI q, aI t, aI e, aI s] SH M post := by
  have key : ∀ z M', Sam M M' → fSoonest M p q t e s = z → post z M' := fun z M' a b => by rw [← b]; exact h M' a
  have e6 : M 6 0 = M 61 0 := hI.1.2.1
  have hnp := inv_np hI
  refine E_X10_soonest (fun _ => ?_)
  rw [e6]
  refine ⟨by omega, fun c => key _ _ Sam.rf (by unfold fSoonest; (repeat' split) <;> first | rfl | omega), fun c => ⟨fun c => key _ _ Sam.rf (by unfold fSoonest; (repeat' split) <;> first | rfl | omega), fun c => ⟨fun c => key _ _ Sam.rf (by unfold fSoonest; (repeat' split) <;> first | rfl | omega), fun c => ⟨fun c => key _ _ Sam.rf (by unfold fSoonest; (repeat' split) <;> first | rfl | omega), fun c => ⟨fun c => key _ _ Sam.rf (by unfold fSoonest; (repeat' split) <;> first | rfl | omega), fun c => ⟨fun c => key _ _ Sam.rf (by unfold fSoonest; (repeat' split) <;> first | rfl | omega), fun c => ⟨fun c => key _ _ Sam.rf (by unfold fSoonest; (repeat' split) <;> first | rfl | omega), fun c => ⟨fun c => key _ _ Sam.rf (by unfold fSoonest; (repeat' split) <;> first | rfl | omega), fun c => ?_⟩⟩⟩⟩⟩⟩⟩⟩
  refine S_X9_prep hI.1 (by omega) (fun M1 hO hw hP => ?_)
  have e61 := hO 61 (by decide)
  refine S_X9_spread hw hP (by omega) (by omega) (by omega) (by omega) (by rw [e61]; omega) (fun M2 hO2 hv => ⟨by omega, ?_⟩)
  rw [hv q (by rw [e61]; omega), so_ofs hO (by decide)]
  exact key _ _ (sam_ofs (l := [34, 35, 36, 37, 38]) ((hO.mono (by decide)).tr (hO2.s (by decide))) (by decide)) (by unfold fSoonest; rw [if_neg (by omega), if_neg (by omega)])
theorem S_X11_soonest {n : Int} {post : Int → ax_M → Prop} {M : ax_M} {p q t e s : Int} (hI : Inv n M) (h : ∀ M', Sam M M' → post (fSoonest M p q t e s) M') : ax_Ti Y_X11_soonest [aR 61, aI p, aI q, aI t, aI e, aI s] SH M post := by
  have key : ∀ z M', Sam M M' → fSoonest M p q t e s = z → post z M' := fun z M' a b => by rw [← b]; exact h M' a
  have hnp := inv_np hI
  have hm : M 61 32 = -1 := hI.2.2.2.2.2.2.1
  refine E_X11_soonest (fun _ => ?_)
  refine ⟨by omega, fun c => key _ _ Sam.rf (by unfold fSoonest; (repeat' split) <;> first | rfl | omega), fun c => ⟨fun c => key _ _ Sam.rf (by unfold fSoonest; (repeat' split) <;> first | rfl | omega), fun c => ⟨fun c => key _ _ Sam.rf (by unfold fSoonest; (repeat' split) <;> first | rfl | omega), fun c => ⟨fun c => key _ _ Sam.rf (by unfold fSoonest; (repeat' split) <;> first | rfl | omega), fun c => ⟨fun c => key _ _ Sam.rf (by unfold fSoonest; (repeat' split) <;> first | rfl | omega), fun c => ⟨fun c => key _ _ Sam.rf (by unfold fSoonest; (repeat' split) <;> first | rfl | omega), fun c => ⟨fun c => key _ _ Sam.rf (by unfold fSoonest; (repeat' split) <;> first | rfl | omega), fun c => ⟨fun c => key _ _ Sam.rf (by unfold fSoonest; (repeat' split) <;> first | rfl | omega), fun c => ?_⟩⟩⟩⟩⟩⟩⟩⟩
  refine S_X11_comes hI.1.1 (by omega) (by omega) (by omega) (fun M1 hO => ?_)
  rw [hm, so_nomark]
  exact key _ _ (sam_ofs (l := [77]) (hO.s (by decide)) (by decide)) (by unfold fSoonest; rw [if_neg (by omega), if_neg (by omega)])
theorem fSoonest_sam {M M' : ax_M} (h : Sam M M') : fSoonest M' = fSoonest M := by
  have q0 : M' 61 0 = M 61 0 := h.2 0 (by decide)
  funext p q t e s
  unfold fSoonest
  rw [so_sam h, q0]
theorem C_soonest {n : Int} {M : ax_M} {p q t e s : Int} (hI : Inv n M) : ax_Ti Y_X10_soonest [aR 0, aI p, aI q, aI t, aI e, aI s] SH M (fun z1 u1 => ax_Ti Y_X11_soonest [aR 61, aI p, aI q, aI t, aI e, aI s] SH u1 (fun z2 u2 => z1 = z2 ∧ Inv (n + 1) u2)) :=
  S_X10_soonest hI (fun M1 h1 => S_X11_soonest (inv_sam h1 hI) (fun M2 h2 => ⟨by rw [fSoonest_sam h1], inv_up (inv_sam h2 (inv_sam h1 hI))⟩))
theorem S_X10_last {n : Int} {post : Int → ax_M → Prop} {M : ax_M} {p e s : Int} (hI : Inv n M) (h : ∀ M', Sam M M' → post (fLast M p e s) M') : ax_Ti Y_X10_last [aR 0, aI p, aI e, aI s] SH M post := by
  have key : ∀ z M', Sam M M' → fLast M p e s = z → post z M' := fun z M' a b => by rw [← b]; exact h M' a
  have e6 : M 6 0 = M 61 0 := hI.1.2.1
  have e62 : M 6 2 = M 61 1 := hI.1.2.2.2.1
  have hnp := inv_np hI
  refine E_X10_last (fun _ => ?_)
  rw [e6]
  refine ⟨by omega, fun c => key _ _ Sam.rf (by unfold fLast; (repeat' split) <;> first | rfl | omega), fun c => ⟨fun c => key _ _ Sam.rf (by unfold fLast; (repeat' split) <;> first | rfl | omega), fun c => ⟨fun c => key _ _ Sam.rf (by unfold fLast; (repeat' split) <;> first | rfl | omega), fun c => ⟨fun c => key _ _ Sam.rf (by unfold fLast; (repeat' split) <;> first | rfl | omega), fun c => ?_⟩⟩⟩⟩
  refine S_X9_prep hI.1 (by omega) (fun M1 hO hw hP => ?_)
  have e61 := hO 61 (by decide)
  rw [hO 6 (by decide), e62]
  refine S_X9_gather hw hP (by omega) (by omega) (by omega) (by omega) (by rw [e61]; have := hI.1.1.2.2; omega) (fun M2 hO2 hv => ⟨by omega, ?_⟩)
  rw [hv p (by rw [e61]; omega), la_ofs hO (by decide)]
  exact key _ _ (sam_ofs (l := [34, 35, 36, 37, 39]) ((hO.mono (by decide)).tr (hO2.s (by decide))) (by decide)) (by unfold fLast; rw [if_neg (by omega), if_neg (by omega)])
theorem S_X11_last {n : Int} {post : Int → ax_M → Prop} {M : ax_M} {p e s : Int} (hI : Inv n M) (h : ∀ M', Sam M M' → post (fLast M p e s) M') : ax_Ti Y_X11_last [aR 61, aI p, aI e, aI s] SH M post := by
  have key : ∀ z M', Sam M M' → fLast M p e s = z → post z M' := fun z M' a b => by rw [← b]; exact h M' a
  have hnp := inv_np hI
  have hm : M 61 32 = -1 := hI.2.2.2.2.2.2.1
  refine E_X11_last (fun _ => ?_)
  refine ⟨by omega, fun c => key _ _ Sam.rf (by unfold fLast; (repeat' split) <;> first | rfl | omega), fun c => ⟨fun c => key _ _ Sam.rf (by unfold fLast; (repeat' split) <;> first | rfl | omega), fun c => ⟨fun c => key _ _ Sam.rf (by unfold fLast; (repeat' split) <;> first | rfl | omega), fun c => ⟨fun c => key _ _ Sam.rf (by unfold fLast; (repeat' split) <;> first | rfl | omega), fun c => ?_⟩⟩⟩⟩
  refine S_X11_lastOf hI.1.1 (by omega) (fun M1 hO => ?_)
  rw [hm, la_nomark]
  exact key _ _ (sam_ofs (l := [77]) (hO.s (by decide)) (by decide)) (by unfold fLast; rw [if_neg (by omega), if_neg (by omega)])
theorem fLast_sam {M M' : ax_M} (h : Sam M M') : fLast M' = fLast M := by
  have q0 : M' 61 0 = M 61 0 := h.2 0 (by decide)
  have q1 : M' 61 1 = M 61 1 := h.2 1 (by decide)
  funext p e s
  unfold fLast
  rw [la_sam h, q0, q1]
theorem C_last {n : Int} {M : ax_M} {p e s : Int} (hI : Inv n M) : ax_Ti Y_X10_last [aR 0, aI p, aI e, aI s] SH M (fun z1 u1 => ax_Ti Y_X11_last [aR 61, aI p, aI e, aI s] SH u1 (fun z2 u2 => z1 = z2 ∧ Inv (n + 1) u2)) :=
  S_X10_last hI (fun M1 h1 => S_X11_last (inv_sam h1 hI) (fun M2 h2 => ⟨by rw [fLast_sam h1], inv_up (inv_sam h2 (inv_sam h1 hI))⟩))
set_option maxHeartbeats 4000000 in
set_option maxRecDepth 100000 in
theorem S_X10_open {n : Int} {post : Int → ax_M → Prop} {M : ax_M} {t e s : Int} (hI : Inv n M) (h : ∀ M', Sam M M' → post (fOpen M t e s) M') : ax_Ti Y_X10_open [aR 0, aI t, aI e, aI s] SH M post := by
  have key : ∀ z M', Sam M M' → fOpen M t e s = z → post z M' := fun z M' a b => by rw [← b]; exact h M' a
  have e6 : M 6 0 = M 61 0 := hI.1.2.1
  have e62 : M 6 2 = M 61 1 := hI.1.2.2.2.1
  have hnp := inv_np hI
  refine E_X10_open (fun _ => ?_)
  refine ⟨fun c => key _ _ Sam.rf (by unfold fOpen; (repeat' split) <;> first | rfl | omega), fun c => ⟨fun c => key _ _ Sam.rf (by unfold fOpen; (repeat' split) <;> first | rfl | omega), fun c => ⟨fun c => key _ _ Sam.rf (by unfold fOpen; (repeat' split) <;> first | rfl | omega), fun c => ⟨fun c => key _ _ Sam.rf (by unfold fOpen; (repeat' split) <;> first | rfl | omega), fun c => ?_⟩⟩⟩⟩
  refine S_X9_prep hI.1 (by omega) (fun M1 hO hw hP => ?_)
  have e61 := hO 61 (by decide)
  rw [hO 6 (by decide), e62]
  refine S_X9_gather hw hP (by omega) (by omega) (by omega) (by omega) (by rw [e61]; have := hI.1.1.2.2; omega) (fun M2 hO2 hv => ?_)
  have hO3 : Ofs [34, 35, 36, 37, 39] M M2 := (hO.mono (by decide)).tr (hO2.s (by decide))
  have g6 := hO3 6 (by decide)
  rw [la_ofs hO (by decide), e61] at hv
  have loop : ∀ (j : Nat) (i : Nat), (i : Int) + (j : Int) = M 61 0 → ax_J Y_X10_open (ax_Ki Y_X10_open SH post) 0 0 49 [(0, aR 0), (1, aI t), (4, aI (opn M t e s i)), (5, aI (i : Int))] [] SH M2 := by
    intro j
    induction j with
    | zero =>
      intro i hij
      refine B_X10_open_49 ⟨fun _ => key _ _ (sam_ofs hO3 (by decide)) ?_, fun c => by rw [g6, e6] at c; omega⟩
      unfold fOpen
      rw [if_neg (by omega), show (M 61 0).toNat = i by omega]
    | succ j ih =>
      intro i hij
      have h1 := ih (i + 1) (by omega)
      have hl := hv (i : Int) (by omega)
      refine B_X10_open_49 ⟨fun c => by rw [g6, e6] at c; omega, fun c => ⟨by omega, fun c1 => ⟨by omega, ?_⟩, fun c1 => ⟨by omega, ?_⟩⟩⟩
      · rw [hl] at c1
        unfold opn at h1
        rw [if_neg (by omega)] at h1
        exact h1
      · rw [hl] at c1
        unfold opn at h1
        rw [if_pos c1] at h1
        exact h1
  exact loop (M 61 0).toNat 0 (by omega)
set_option maxHeartbeats 4000000 in
set_option maxRecDepth 100000 in
theorem S_X11_open {n : Int} {post : Int → ax_M → Prop} {M : ax_M} {t e s : Int} (hI : Inv n M) (h : ∀ M', Sam M M' → post (fOpen M t e s) M') : ax_Ti Y_X11_open [aR 61, aI t, aI e, aI s] SH M post := by
  have key : ∀ z M', Sam M M' → fOpen M t e s = z → post z M' := fun z M' a b => by rw [← b]; exact h M' a
  have hnp := inv_np hI
  have hm : M 61 32 = -1 := hI.2.2.2.2.2.2.1
  refine E_X11_open (fun _ => ?_)
  refine ⟨fun c => key _ _ Sam.rf (by unfold fOpen; (repeat' split) <;> first | rfl | omega), fun c => ⟨fun c => key _ _ Sam.rf (by unfold fOpen; (repeat' split) <;> first | rfl | omega), fun c => ⟨fun c => key _ _ Sam.rf (by unfold fOpen; (repeat' split) <;> first | rfl | omega), fun c => ⟨fun c => key _ _ Sam.rf (by unfold fOpen; (repeat' split) <;> first | rfl | omega), fun c => ?_⟩⟩⟩⟩
  have loop : ∀ (j : Nat) (i : Nat) (M1 : ax_M), (i : Int) + (j : Int) = M 61 0 → Of 77 M M1 → ax_J Y_X11_open (ax_Ki Y_X11_open SH post) 0 0 24 [(0, aR 61), (1, aI t), (2, aI e), (3, aI s), (4, aI (opn M t e s i)), (5, aI (i : Int))] [] SH M1 := by
    intro j
    induction j with
    | zero =>
      intro i M1 hij hO
      refine B_X11_open_24 ⟨fun _ => key _ _ (sam_ofs (l := [77]) (hO.s (by decide)) (by decide)) ?_, fun c => by rw [hO 61 (by decide)] at c; omega⟩
      unfold fOpen
      rw [if_neg (by omega), show (M 61 0).toNat = i by omega]
    | succ j ih =>
      intro i M1 hij hO
      have e61 := hO 61 (by decide)
      have hsh : 0 ≤ M 61 1 ∧ M 61 1 < M 61 0 := by have := hI.1.1.2.2; omega
      refine B_X11_open_24 ⟨fun c => by rw [e61] at c; omega, fun c => ?_⟩
      rw [e61]
      refine S_X11_comes (pit_of hO (by decide) hI.1.1) (by omega) (by rw [e61]; omega) (by rw [e61]; omega) (fun M2 hO2 => ?_)
      rw [so_of hO (by decide), e61, hm, so_nomark]
      have hi := la_iff (p := (i : Int)) (q := M 61 1) (b := 99) (t := t) hI.1.1 (ma := -1) (me := -1) (e := e) (s := s) (by omega) (by omega)
      have h99 := so_99 (p := (i : Int)) (q := M 61 1) (t := t) hI.1.1 (ma := -1) (me := -1) (e := e) (s := s) (by omega) (by omega)
      have h1 := ih (i + 1) M2 (by omega) (hO.tr hO2)
      refine ⟨fun c1 => ⟨by omega, ?_⟩, fun c1 => ⟨by omega, ?_⟩⟩
      · rw [bo_or_0 (opn_r M t e s i)]
        unfold opn at h1
        rw [if_neg (fun z => by have := hi.mp z; omega)] at h1
        exact h1
      · unfold opn at h1
        rw [if_pos (hi.mpr ⟨c1, h99⟩)] at h1
        exact h1
  exact loop (M 61 0).toNat 0 M (by omega) Of.rf
theorem opn_sam {M M' : ax_M} (h : Sam M M') (t e s : Int) : ∀ i, opn M' t e s i = opn M t e s i
  | 0 => rfl
  | i + 1 => by
    have q1 : M' 61 1 = M 61 1 := h.2 1 (by decide)
    unfold opn
    rw [la_sam h, q1, opn_sam h t e s i]
theorem C_open {n : Int} {M : ax_M} {t e s : Int} (hI : Inv n M) : ax_Ti Y_X10_open [aR 0, aI t, aI e, aI s] SH M (fun z1 u1 => ax_Ti Y_X11_open [aR 61, aI t, aI e, aI s] SH u1 (fun z2 u2 => z1 = z2 ∧ Inv (n + 1) u2)) :=
  S_X10_open hI (fun M1 h1 => S_X11_open (inv_sam h1 hI) (fun M2 h2 => ⟨by
    have q0 : M1 61 0 = M 61 0 := h1.2 0 (by decide)
    unfold fOpen
    rw [q0, opn_sam h1], inv_up (inv_sam h2 (inv_sam h1 hI))⟩))
