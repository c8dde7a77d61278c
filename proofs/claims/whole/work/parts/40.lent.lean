noncomputable def fMark (M : ax_M) (x1 x2 x3 : Int) : Int := if x1 < 0 ∨ M 61 29 ≤ x1 then -1001 else if x2 < 0 ∨ M 61 0 ≤ x2 then -1001 else if x3 < 0 ∨ 7 < x3 then -1002 else 100 + uA M x2 (M 76 x1) x1 x3 (M 61 0).toNat - uA M (-1) (-1) (-1) x3 (M 61 0).toNat
theorem fMark_sam {M M' : ax_M} (h : Sam M M') : fMark M' = fMark M := by
  funext x1 x2 x3
  unfold fMark
  rw [uA_u (SamU.of h), uA_u (SamU.of h), h.2 0 (by decide), h.2 29 (by decide), h.1 76 (by decide)]
set_option maxHeartbeats 4000000 in
set_option maxRecDepth 100000 in
theorem S_X10_mark {n : Int} {post : Int → ax_M → Prop} {M : ax_M} {x1 x2 x3 : Int} (hI : Inv n M) (h : ∀ M', Sam M M' → post (fMark M x1 x2 x3) M') : ax_Ti Y_X10_mark [aR 0, aI x1, aI x2, aI x3] SH M post := by
  have key : ∀ z M', Sam M M' → fMark M x1 x2 x3 = z → post z M' := fun z M' a b => by rw [← b]; exact h M' a
  have hnp := hI.1.1.2.2
  have hb := hI.2.1.1
  have e6 : M 6 0 = M 61 0 := hI.1.2.1
  have e81 : M 8 1 = M 61 29 := hb.2.2.2.1
  have hl := hI.2.1.2.2.1 x1
  have o : Ofs [49] M (ax_up (ax_up (ax_up M 49 5 (-1)) 49 6 (-1)) 49 7 (-1)) := Ofs.tr (Ofs.up (by decide)) (Ofs.tr (Ofs.up (by decide)) (Ofs.up (by decide)))
  have hw := wx_of o (by decide) hI.1
  have hc := crew_ofs o (by decide) hI.2.1
  refine E_X10_mark (fun _ => ?_)
  rw [e6, e81]
  refine ⟨by omega, fun c => key _ _ Sam.rf (by unfold fMark; (repeat' split) <;> first | rfl | omega), fun c => ⟨fun c1 => key _ _ Sam.rf (by unfold fMark; (repeat' split) <;> first | rfl | omega), fun c1 => ⟨by omega, fun c2 => key _ _ Sam.rf (by unfold fMark; (repeat' split) <;> first | rfl | omega), fun c2 => ⟨fun c3 => key _ _ Sam.rf (by unfold fMark; (repeat' split) <;> first | rfl | omega), fun c3 => ⟨fun c4 => key _ _ Sam.rf (by unfold fMark; (repeat' split) <;> first | rfl | omega), fun c4 => ⟨fun c5 => key _ _ Sam.rf (by unfold fMark; (repeat' split) <;> first | rfl | omega), fun c5 => ?_⟩⟩⟩⟩⟩⟩
  refine S_X1_upFromAll hw hc (by omega) (by show (-1 : Int) ≤ -1; omega) (by show (-1 : Int) ≤ -1 ∧ (-1 : Int) ≤ 99; omega) (fun M1 o1 _ => ⟨by omega, ?_⟩)
  have o2 : Ofs [34, 35, 36, 37, 39, 49, 50] M M1 := (o.mono (by decide)).tr o1
  have o3 : Ofs [34, 35, 36, 37, 39, 49, 50] M (ax_up (ax_up (ax_up M1 49 5 x1) 49 6 x2) 49 7 (M1 13 x1)) := o2.tr (Ofs.tr (Ofs.up (by decide)) (Ofs.tr (Ofs.up (by decide)) (Ofs.up (by decide))))
  have f13 : M1 13 x1 = M 76 x1 := by rw [o2 13 (by decide)]; exact (hl (by omega) (by omega)).2.2.2.1
  have hl2 := (hl (by omega) (by omega)).2.2.2.2
  have u1 := uA_rg (M := M) (ma := -1) (me := -1) (sk := -1) (c := x3) hb.2.1 hb.2.2.1 c4 (M 61 0).toNat
  have u2 := uA_rg (M := M) (ma := x2) (me := M 76 x1) (sk := x1) (c := x3) hb.2.1 hb.2.2.1 c4 (M 61 0).toNat
  refine S_X1_upFromAll (wx_of o3 (by decide) hI.1) (crew_ofs o3 (by decide) hI.2.1) (by omega) (by show -1 ≤ x2; omega) (by show -1 ≤ M1 13 x1 ∧ M1 13 x1 ≤ 99; omega) (fun M2 o4 _ => ?_)
  have z1 : uA (ax_up (ax_up (ax_up M 49 5 (-1)) 49 6 (-1)) 49 7 (-1)) (ax_up (ax_up (ax_up M 49 5 (-1)) 49 6 (-1)) 49 7 (-1) 49 6) (ax_up (ax_up (ax_up M 49 5 (-1)) 49 6 (-1)) 49 7 (-1) 49 7) (ax_up (ax_up (ax_up M 49 5 (-1)) 49 6 (-1)) 49 7 (-1) 49 5) x3 (ax_up (ax_up (ax_up M 49 5 (-1)) 49 6 (-1)) 49 7 (-1) 61 0).toNat = uA M (-1) (-1) (-1) x3 (M 61 0).toNat := uA_u (samU_ofs o (by decide)) _ _ _ _ _
  have z2 : uA (ax_up (ax_up (ax_up M1 49 5 x1) 49 6 x2) 49 7 (M1 13 x1)) (ax_up (ax_up (ax_up M1 49 5 x1) 49 6 x2) 49 7 (M1 13 x1) 49 6) (ax_up (ax_up (ax_up M1 49 5 x1) 49 6 x2) 49 7 (M1 13 x1) 49 7) (ax_up (ax_up (ax_up M1 49 5 x1) 49 6 x2) 49 7 (M1 13 x1) 49 5) x3 (ax_up (ax_up (ax_up M1 49 5 x1) 49 6 x2) 49 7 (M1 13 x1) 61 0).toNat = uA M x2 (M 76 x1) x1 x3 (M 61 0).toNat := by
    rw [uA_u (samU_ofs o3 (by decide)), o3 61 (by decide), ← f13]
    rfl
  rw [z1, z2]
  refine ⟨by omega, by omega, key _ _ (sam_ofs (o3.tr o4) (by decide)) ?_⟩
  unfold fMark
  rw [if_neg (by omega), if_neg (by omega), if_neg (by omega)]
set_option maxHeartbeats 4000000 in
set_option maxRecDepth 100000 in
theorem S_X11_mark {n : Int} {post : Int → ax_M → Prop} {M : ax_M} {x1 x2 x3 : Int} (hI : Inv n M) (h : ∀ M', Sam M M' → post (fMark M x1 x2 x3) M') : ax_Ti Y_X11_mark [aR 61, aI x1, aI x2, aI x3] SH M post := by
  have key : ∀ z M', Sam M M' → fMark M x1 x2 x3 = z → post z M' := fun z M' a b => by rw [← b]; exact h M' a
  have hnp := hI.1.1.2.2
  have hb := hI.2.1.1
  have hm : M 61 32 = -1 := hI.2.2.2.2.2.2.1
  refine E_X11_mark (fun _ => ?_)
  refine ⟨by omega, fun c => key _ _ Sam.rf (by unfold fMark; (repeat' split) <;> first | rfl | omega), fun c => ⟨fun c1 => key _ _ Sam.rf (by unfold fMark; (repeat' split) <;> first | rfl | omega), fun c1 => ⟨by omega, fun c2 => key _ _ Sam.rf (by unfold fMark; (repeat' split) <;> first | rfl | omega), fun c2 => ⟨fun c3 => key _ _ Sam.rf (by unfold fMark; (repeat' split) <;> first | rfl | omega), fun c3 => ⟨fun c4 => key _ _ Sam.rf (by unfold fMark; (repeat' split) <;> first | rfl | omega), fun c4 => ⟨fun c5 => key _ _ Sam.rf (by unfold fMark; (repeat' split) <;> first | rfl | omega), fun c5 => ?_⟩⟩⟩⟩⟩⟩
  refine S_X11_upAll hI.1.1 (by omega) (by omega) (fun M1 o1 => ⟨by omega, ?_⟩)
  have f61 : M1 61 = M 61 := o1 61 (by decide)
  have f76 : M1 76 = M 76 := o1 76 (by decide)
  rw [f76]
  have u1 := uA_rg (M := M) (ma := -1) (me := -1) (sk := -1) (c := x3) hb.2.1 hb.2.2.1 c4 (M 61 0).toNat
  have u2 := uA_rg (M := M) (ma := x2) (me := M 76 x1) (sk := x1) (c := x3) hb.2.1 hb.2.2.1 c4 (M 61 0).toNat
  have g : ∀ a, a ≠ 61 → a ≠ 77 → a ≠ 86 → ax_up (ax_up M1 61 32 x2) 61 33 (M 76 x1) a = M a := by
    intro a h1 h2 h3
    rw [up_off _ _ _ h1, up_off _ _ _ h1]
    exact o1 a (by simp [h2, h3])
  have q : ∀ i, i ≠ 32 → i ≠ 33 → ax_up (ax_up M1 61 32 x2) 61 33 (M 76 x1) 61 i = M 61 i := by
    intro i h1 h2
    rw [up_ne _ _ _ h2, up_ne _ _ _ h1, f61]
  have hp' : PitOk (ax_up (ax_up M1 61 32 x2) 61 33 (M 76 x1)) := c_PitOk (g 62 (by decide) (by decide) (by decide)) (g 63 (by decide) (by decide) (by decide)) (g 64 (by decide) (by decide) (by decide)) (g 65 (by decide) (by decide) (by decide)) (g 66 (by decide) (by decide) (by decide)) (g 67 (by decide) (by decide) (by decide)) (g 68 (by decide) (by decide) (by decide)) (q 0 (by decide) (by decide)) (q 1 (by decide) (by decide)) (q 2 (by decide) (by decide)) (q 3 (by decide) (by decide)) hI.1.1
  have hS : SamU M (ax_up (ax_up M1 61 32 x2) 61 33 (M 76 x1)) := ⟨fun a ha => g a (by rintro rfl; revert ha; decide) (by rintro rfl; revert ha; decide) (by rintro rfl; revert ha; decide), fun i hi => q i (by rintro rfl; revert hi; decide) (by rintro rfl; revert hi; decide)⟩
  refine S_X11_upAll hp' (by rw [q 25 (by decide) (by decide), q 29 (by decide) (by decide)]; omega) (by omega) (fun M2 o2 => ?_)
  have z2 : uA (ax_up (ax_up M1 61 32 x2) 61 33 (M 76 x1)) (ax_up (ax_up M1 61 32 x2) 61 33 (M 76 x1) 61 32) (ax_up (ax_up M1 61 32 x2) 61 33 (M 76 x1) 61 33) x1 x3 (ax_up (ax_up M1 61 32 x2) 61 33 (M 76 x1) 61 0).toNat = uA M x2 (M 76 x1) x1 x3 (M 61 0).toNat := by
    rw [uA_u hS, q 0 (by decide) (by decide)]
    rfl
  rw [z2, hm, uA_nm]
  refine ⟨by omega, by omega, key _ _ ⟨fun a ha => ?_, fun i hi => ?_⟩ ?_⟩
  · have h1 : a ≠ 61 := by rintro rfl; revert ha; decide
    have h2 : a ≠ 77 := by rintro rfl; revert ha; decide
    have h3 : a ≠ 86 := by rintro rfl; revert ha; decide
    rw [up_off _ _ _ h1, o2 a (by simp [h2, h3]), g a h1 h2 h3]
  · rw [up_k]
    by_cases h32 : i = 32
    · subst h32; rw [if_pos rfl, hm]
    · rw [if_neg h32, o2 61 (by decide), q i h32 (by rintro rfl; revert hi; decide)]
  · unfold fMark
    rw [if_neg (by omega), if_neg (by omega), if_neg (by omega)]
theorem C_mark {n : Int} {M : ax_M} {x1 x2 x3 : Int} (hI : Inv n M) : ax_Ti Y_X10_mark [aR 0, aI x1, aI x2, aI x3] SH M (fun z1 u1 => ax_Ti Y_X11_mark [aR 61, aI x1, aI x2, aI x3] SH u1 (fun z2 u2 => z1 = z2 ∧ Inv (n + 1) u2)) :=
  S_X10_mark hI (fun M1 h1 => S_X11_mark (inv_sam h1 hI) (fun M2 h2 => ⟨by rw [fMark_sam h1], inv_up (inv_sam h2 (inv_sam h1 hI))⟩))
/-- whether one of the first j men stands at q and is slow -/
def slw (M : ax_M) (q : Int) : Nat → Int
  | 0 => 0
  | j + 1 => if M 72 j = q ∧ ¬ M 74 j = 0 then 1 else slw M q j
theorem slw_01 (M : ax_M) (q : Int) : ∀ j, slw M q j = 0 ∨ slw M q j = 1
  | 0 => Or.inl rfl
  | j + 1 => by unfold slw; split; exact Or.inr rfl; exact slw_01 M q j
theorem slw_mono (M : ax_M) (q : Int) {j : Nat} (h : slw M q j = 1) : ∀ d, slw M q (j + d) = 1
  | 0 => h
  | d + 1 => by
    have e : slw M q (j + (d + 1)) = if M 72 (j + d : Nat) = q ∧ ¬ M 74 (j + d : Nat) = 0 then 1 else slw M q (j + d) := rfl
    rw [e, slw_mono M q h d]; split <;> rfl
theorem slw_m {M M' : ax_M} (q : Int) (h2 : M' 72 = M 72) (h4 : M' 74 = M 74) : ∀ j, slw M' q j = slw M q j
  | 0 => rfl
  | j + 1 => by unfold slw; rw [slw_m q h2 h4 j, h2, h4]
set_option maxHeartbeats 4000000 in
set_option maxRecDepth 100000 in
theorem S_X0_someSlowAt {post : Int → ax_M → Prop} {M : ax_M} {q : Int} (hc : CrewEq M) (h : post (slw M q (M 61 25).toNat) M) : ax_Ti Y_X0_someSlowAt [aR 8, aI q] SH M post := by
  have hb := hc.1
  have L : ∀ (r j : Nat), (M 61 25).toNat = j + r → slw M q j = 0 → ax_J Y_X0_someSlowAt (ax_Ki Y_X0_someSlowAt SH post) 0 0 2 [(0, aR 8), (1, aI q), (2, aI j)] [] SH M := by
    intro r
    induction r with
    | zero => intro j hj h0; refine B_X0_someSlowAt_2 ⟨fun _ => ?_, fun z => by omega⟩; rw [show (M 61 25).toNat = j by omega, h0] at h; exact h
    | succ r ih =>
      intro j hj h0
      have g := hc.2.1 j (by omega) (by omega)
      have e : slw M q (j + 1) = if M 72 j = q ∧ ¬ M 74 j = 0 then 1 else slw M q j := rfl
      refine B_X0_someSlowAt_2 ⟨fun _ => by omega, fun z => ⟨by omega, fun z1 => ⟨by omega, ih (j + 1) (by omega) (by rw [e, if_neg (by omega)]; exact h0)⟩, fun z1 => ⟨fun z2 => ⟨by omega, ih (j + 1) (by omega) (by rw [e, if_neg (by omega)]; exact h0)⟩, fun z2 => ?_⟩⟩⟩
      rw [if_pos (by omega)] at e
      have k := slw_mono M q e r
      rw [show j + 1 + r = (M 61 25).toNat by omega] at k
      rw [k] at h
      exact h
  exact E_X0_someSlowAt (fun _ => L _ 0 (Nat.zero_add _).symm rfl)
noncomputable def fLent (M : ax_M) (x1 x2 : Int) : Int := if x1 < 0 ∨ M 61 29 ≤ x1 then -1001 else if x2 < 0 ∨ M 61 0 ≤ x2 then -1001 else if cN M (M 75 x1) = 0 then -1 else if so M (-1) (-1) (M 76 x1) (if 0 < cA M (M 75 x1) then 0 else 1) (M 75 x1) 0 x2 < 0 then -1 else so M (-1) (-1) (M 76 x1) (if 0 < cA M (M 75 x1) then slw M x2 (M 61 25).toNat else 1) x2 (so M (-1) (-1) (M 76 x1) (if 0 < cA M (M 75 x1) then 0 else 1) (M 75 x1) 0 x2) (M 61 1)
theorem fLent_sam {M M' : ax_M} (h : Sam M M') : fLent M' = fLent M := by
  funext x1 x2
  unfold fLent
  rw [so_sam h, cN_u (SamU.of h), cA_u (SamU.of h), slw_m x2 (h.1 72 (by decide)) (h.1 74 (by decide)), h.2 0 (by decide), h.2 1 (by decide), h.2 29 (by decide), h.2 25 (by decide), h.1 76 (by decide), h.1 75 (by decide)]
theorem so_neg {M : ax_M} (h : PitOk M) {ma me e s p t q : Int} (ht : 0 ≤ t) : so M ma me e s p t q = -1 ∨ 0 ≤ so M ma me e s p t q := ds_neg (gg_gd h _ _ _ _) ht q
set_option maxHeartbeats 4000000 in
set_option maxRecDepth 100000 in
theorem S_X1_line3 {post : ax_M → Prop} {M : ax_M} {p : Int} {pf : ax_M → Int} (hpf : ∀ u, Ofs [49, 50] M u → pf u = p) (hc : CrewEq M) (h : ∀ M', Ofs [49, 50] M M' → (∀ i, i ≠ 4 → M' 49 i = M 49 i) → M' 49 4 = cN M p → Ln 50 M M' p → post M') : ax_Tv Y_X1_lineUp [aR 49, aI p, aI 0] SH (ax_up M 49 4 0) (fun u1 => ax_Tv Y_X1_lineUp [aR 49, aI (pf u1), aI 1] SH u1 post) := by
  have hb := hc.1
  have c8 := cN_8 hb.2.1 hb.2.2.1 p
  unfold cN cA at c8
  have hc1 : CrewEq (ax_up M 49 4 0) := (c_CrewEq rfl rfl rfl rfl rfl rfl rfl rfl rfl rfl rfl rfl rfl rfl rfl rfl hc)
  have q0 : cl (ax_up M 49 4 0) p 0 (M 61 25).toNat = cl M p 0 (M 61 25).toNat := cl_m (M := M) (M' := ax_up M 49 4 0) p 0 rfl rfl rfl _
  refine S_X1_lineUp hc1 (Int.le_refl 0) (by show 0 + cl (ax_up M 49 4 0) p 0 (M 61 25).toNat ≤ 8; omega) (fun M1 o1 i1 n1 l1 => ?_)
  have n1 : M1 49 4 = 0 + cl (ax_up M 49 4 0) p 0 (M 61 25).toNat := n1
  have l1 : LU 50 0 p 0 (M 61 25).toNat (ax_up M 49 4 0) M1 := l1
  have e61 : M1 61 = M 61 := o1 61 (by decide)
  have e72 : M1 72 = M 72 := o1 72 (by decide)
  have e73 : M1 73 = M 73 := o1 73 (by decide)
  have e74 : M1 74 = M 74 := o1 74 (by decide)
  have hc2 : CrewEq M1 := c_CrewEq (o1 8 (by decide)) (o1 9 (by decide)) (o1 10 (by decide)) (o1 11 (by decide)) (o1 12 (by decide)) (o1 13 (by decide)) (o1 69 (by decide)) e72 e73 e74 (o1 75 (by decide)) (o1 76 (by decide)) (by rw [e61]; rfl) (by rw [e61]; rfl) (by rw [e61]; rfl) (by rw [e61]; rfl) hc1
  have q1 : cl M1 p 1 (M 61 25).toNat = cl M p 1 (M 61 25).toNat := cl_m p 1 e72 e73 e74 _
  rw [hpf M1 (Ofs.tr (Ofs.up (by decide)) o1)]
  refine S_X1_lineUp hc2 (by omega) (by rw [e61, q1]; omega) (fun M2 o2 i2 n2 l2 => ?_)
  rw [e61, q1] at n2
  rw [e61, n1, q0, Int.zero_add] at l2
  refine h M2 (Ofs.tr (Ofs.up (by decide)) (Ofs.tr o1 o2)) (fun i hi => ?_) (by unfold cN; omega) ?_
  · rw [i2 i hi, i1 i hi, up_ne _ _ _ hi]
  · exact ln_of (M1 := M1) ⟨l1.1, fun i a b => l1.2 i a (by rw [q0]; exact b)⟩ l2 (by rw [e61]) e72 e73 e74
set_option maxHeartbeats 4000000 in
set_option maxRecDepth 100000 in
theorem S_X10_lent {n : Int} {post : Int → ax_M → Prop} {M : ax_M} {x1 x2 : Int} (hI : Inv n M) (h : ∀ M', Sam M M' → post (fLent M x1 x2) M') : ax_Ti Y_X10_lent [aR 0, aI x1, aI x2] SH M post := by
  have key : ∀ z M', Sam M M' → fLent M x1 x2 = z → post z M' := fun z M' a b => by rw [← b]; exact h M' a
  have hnp := hI.1.1.2.2
  have hb := hI.2.1.1
  have e6 : M 6 0 = M 61 0 := hI.1.2.1
  have e81 : M 8 1 = M 61 29 := hb.2.2.2.1
  have hl := hI.2.1.2.2.1 x1
  refine E_X10_lent (fun _ => ?_)
  rw [e6, e81]
  refine ⟨by omega, fun c => key _ _ Sam.rf (by unfold fLent; (repeat' split) <;> first | rfl | omega), fun c => ⟨fun c1 => key _ _ Sam.rf (by unfold fLent; (repeat' split) <;> first | rfl | omega), fun c1 => ⟨by omega, fun c2 => key _ _ Sam.rf (by unfold fLent; (repeat' split) <;> first | rfl | omega), fun c2 => ⟨fun c3 => key _ _ Sam.rf (by unfold fLent; (repeat' split) <;> first | rfl | omega), fun c3 => ?_⟩⟩⟩⟩
  have g := hl (by omega) (by omega)
  have c8 := cN_8 hb.2.1 hb.2.2.1 (M 75 x1)
  refine E_X1_lend (fun _ => ⟨by omega, ?_⟩)
  rw [g.1]
  refine S_X1_line3 (pf := fun u => u 12 x1) (fun u ou => by show u 12 x1 = _; rw [ou 12 (by decide)]; exact g.1) hI.2.1 (fun M1 o1 _ n1 l1 => ?_)
  have f61 : M1 61 = M 61 := o1 61 (by decide)
  have f12 : M1 12 = M 12 := o1 12 (by decide)
  have f13 : M1 13 = M 13 := o1 13 (by decide)
  have f11 : M1 11 = M 11 := o1 11 (by decide)
  have hw1 := wx_of o1 (by decide) hI.1
  rw [n1, f11, f13, g.2.2.2.1]
  refine ⟨fun c4 => ?_, fun c4 => key _ _ (sam_ofs o1 (by decide)) (by unfold fLent; rw [if_neg (by omega), if_neg (by omega), if_pos c4])⟩
  have ln := l1 0 (by omega) (by omega)
  have k74 := (hI.2.1.2.1 (M1 50 0) ln.1 ln.2.1).2.2.2.2.1
  rw [k74, ln.2.2]
  refine ⟨by omega, S_X9_prep hw1 (by omega) (fun M2 o2 hw2 hP2 => ?_)⟩
  have o02 : Ofs [34, 35, 36, 37, 38, 49, 50] M M2 := (o1.mono (by decide)).tr (o2.mono (by decide))
  have g12 : M2 12 x1 = M 75 x1 := by rw [o02 12 (by decide)]; exact g.1
  have g61 : M2 61 = M 61 := o02 61 (by decide)
  rw [g12]
  refine S_X9_spread hw2 hP2 (by omega) (by omega) (by omega) (by omega) (by rw [g61]; omega) (fun M3 o3 hv => ⟨by omega, ?_⟩)
  have o03 : Ofs [34, 35, 36, 37, 38, 49, 50] M M3 := o02.tr (o3.s (by decide))
  have h61 : M3 61 = M 61 := o03 61 (by decide)
  have h11 : M3 11 = M 11 := o03 11 (by decide)
  have h13 : M3 13 x1 = M 76 x1 := by rw [o03 13 (by decide)]; exact g.2.2.2.1
  have hw3 := wx_of o03 (by decide) hI.1
  have hc3 := crew_ofs o03 (by decide) hI.2.1
  have ev := hv x2 (by rw [g61]; omega)
  rw [so_ofs o02 (by decide)] at ev
  have sn := so_neg hI.1.1 (ma := -1) (me := -1) (e := M 76 x1) (s := if 0 < cA M (M 75 x1) then 0 else 1) (p := M 75 x1) (t := 0) (q := x2) (by omega)
  have s9 := so_99 hI.1.1 (ma := -1) (me := -1) (e := M 76 x1) (s := if 0 < cA M (M 75 x1) then 0 else 1) (p := M 75 x1) (t := 0) (q := x2) (by omega) (by omega)
  have fin : ∀ (s : Int) (M4 : ax_M), 0 ≤ so M (-1) (-1) (M 76 x1) (if 0 < cA M (M 75 x1) then 0 else 1) (M 75 x1) 0 x2 → s = (if 0 < cA M (M 75 x1) then slw M x2 (M 61 25).toNat else 1) → Ofs [34, 35, 36, 37, 38, 49, 50] M M4 → ax_Tv Y_X9_prepareMarked [aR 33, aI (M 76 x1), aI s, aI (-1), aI (-1)] SH M4 (fun u5 => ax_Tv Y_X9_spread [aR 33, aI x2, aI (so M (-1) (-1) (M 76 x1) (if 0 < cA M (M 75 x1) then 0 else 1) (M 75 x1) 0 x2)] SH u5 (fun u6 => (0 ≤ (u6 6 2) ∧ (u6 6 2) < 12) ∧ post (u6 38 (u6 6 2)) u6)) := by
    intro s M4 hs0 hs o4
    refine S_X9_prep (wx_of o4 (by decide) hI.1) (by omega) (fun M5 o5 hw5 hP5 => ?_)
    have o05 : Ofs [34, 35, 36, 37, 38, 49, 50] M M5 := o4.tr (o5.mono (by decide))
    have k61 : M5 61 = M 61 := o05 61 (by decide)
    refine S_X9_spread hw5 hP5 (by omega) (by omega) (by omega) (by omega) (by rw [k61]; omega) (fun M6 o6 hv6 => ?_)
    have o06 : Ofs [34, 35, 36, 37, 38, 49, 50] M M6 := o05.tr (o6.s (by decide))
    have k6 : M6 6 2 = M 61 1 := by rw [o06 6 (by decide)]; exact hI.1.2.2.2.1
    rw [k6, hv6 (M 61 1) (by rw [k61]; omega), so_ofs o05 (by decide)]
    refine ⟨by omega, key _ _ (sam_ofs o06 (by decide)) ?_⟩
    unfold fLent
    rw [if_neg (by omega), if_neg (by omega), if_neg c4, if_neg (by omega), hs]
  rw [ev, h11, h13, k74, ln.2.2]
  refine ⟨fun c5 => ⟨fun c6 => ?_, fun c6 => ?_⟩, fun c5 => key _ _ (sam_ofs o03 (by decide)) (by unfold fLent; rw [if_neg (by omega), if_neg (by omega), if_neg c4, if_pos (by omega)])⟩
  · by_cases ca : 0 < cA M (M 75 x1)
    · rw [if_pos ca] at c6; omega
    · exact fin 1 M3 (by omega) (by rw [if_neg ca]) o03
  · by_cases ca : 0 < cA M (M 75 x1)
    · refine S_X0_someSlowAt hc3 ?_
      rw [slw_m x2 (o03 72 (by decide)) (o03 74 (by decide)), h61]
      refine ⟨fun y => fin 0 M3 (by omega) (by rw [if_pos ca, y]) o03, fun y => fin 1 M3 (by omega) ?_ o03⟩
      rw [if_pos ca]
      have := slw_01 M x2 (M 61 25).toNat
      omega
    · rw [if_neg ca] at c6; omega
set_option maxHeartbeats 4000000 in
set_option maxRecDepth 100000 in
theorem S_X11_lent {n : Int} {post : Int → ax_M → Prop} {M : ax_M} {x1 x2 : Int} (hI : Inv n M) (h : ∀ M', Sam M M' → post (fLent M x1 x2) M') : ax_Ti Y_X11_lent [aR 61, aI x1, aI x2] SH M post := by
  have key : ∀ z M', Sam M M' → fLent M x1 x2 = z → post z M' := fun z M' a b => by rw [← b]; exact h M' a
  have hnp := hI.1.1.2.2
  have hb := hI.2.1.1
  have hl := hI.2.1.2.2.1 x1
  have hm : M 61 32 = -1 := hI.2.2.2.2.2.2.1
  refine E_X11_lent (fun _ => ?_)
  refine ⟨by omega, fun c => key _ _ Sam.rf (by unfold fLent; (repeat' split) <;> first | rfl | omega), fun c => ⟨fun c1 => key _ _ Sam.rf (by unfold fLent; (repeat' split) <;> first | rfl | omega), fun c1 => ⟨by omega, fun c2 => key _ _ Sam.rf (by unfold fLent; (repeat' split) <;> first | rfl | omega), fun c2 => ⟨fun c3 => key _ _ Sam.rf (by unfold fLent; (repeat' split) <;> first | rfl | omega), fun c3 => ⟨by omega, ?_⟩⟩⟩⟩⟩
  have g := hl (by omega) (by omega)
  have c8 := cN_8 hb.2.1 hb.2.2.1 (M 75 x1)
  refine S_X11_lineUp hb.2.1 hb.2.2.1 (fun M1 o1 l1 => ⟨fun c4 => ?_, fun c4 => key _ _ (sam_ofs (o1.s (l := [86]) (by decide)) (by decide)) (by unfold fLent; rw [if_neg (by omega), if_neg (by omega), if_pos c4])⟩)
  have ln := l1 0 (by omega) (by omega)
  have f61 : M1 61 = M 61 := o1 61 (by decide)
  rw [o1 75 (by decide), o1 76 (by decide), o1 74 (by decide), ln.2.2]
  refine ⟨by omega, S_X11_comes (pit_of o1 (by decide) hI.1.1) (by omega) (by rw [f61]; omega) (by rw [f61]; omega) (fun M2 o2 => ?_)⟩
  have o02 : Ofs [77, 86] M M2 := (o1.s (by decide)).tr (o2.s (by decide))
  rw [so_of o1 (by decide), f61, hm, so_nomark]
  have s9 := so_99 hI.1.1 (ma := -1) (me := -1) (e := M 76 x1) (s := if 0 < cA M (M 75 x1) then 0 else 1) (p := M 75 x1) (t := 0) (q := x2) (by omega) (by omega)
  have g61 : M2 61 = M 61 := o02 61 (by decide)
  have L : ∀ (r j : Nat) (x4 : Int), (M 61 25).toNat = j + r → x4 = (if 0 < cA M (M 75 x1) then slw M x2 j else 1) → ax_J Y_X11_lent (ax_Ki Y_X11_lent SH post) 0 0 75 [(0, aR 61), (1, aI x1), (2, aI x2), (4, aI x4), (5, aI (so M (-1) (-1) (M 76 x1) (if 0 < cA M (M 75 x1) then 0 else 1) (M 75 x1) 0 x2)), (6, aI j)] [] SH M2 := by
    intro r
    induction r with
    | zero =>
      intro j x4 hj hx
      refine B_X11_lent_75 ?_
      rw [g61, o02 76 (by decide)]
      refine ⟨fun _ => ⟨fun y => ⟨by omega, S_X11_comes (c_PitOk (o02 62 (by decide)) (o02 63 (by decide)) (o02 64 (by decide)) (o02 65 (by decide)) (o02 66 (by decide)) (o02 67 (by decide)) (o02 68 (by decide)) (congrFun g61 _) (congrFun g61 _) (congrFun g61 _) (congrFun g61 _) hI.1.1) (by omega) (by rw [g61]; omega) (by rw [g61]; omega) (fun M3 o3 => key _ _ (sam_ofs (o02.tr (o3.s (by decide))) (by decide)) ?_)⟩, fun y => key _ _ (sam_ofs o02 (by decide)) (by unfold fLent; rw [if_neg (by omega), if_neg (by omega), if_neg c4, if_pos y])⟩, fun z => by omega⟩
      rw [so_ofs o02 (by decide), g61, hm, so_nomark]
      unfold fLent
      rw [if_neg (by omega), if_neg (by omega), if_neg c4, if_neg (by omega), hx, show (M 61 25).toNat = j by omega]
    | succ r ih =>
      intro j x4 hj hx
      have e : slw M x2 (j + 1) = if M 72 j = x2 ∧ ¬ M 74 j = 0 then 1 else slw M x2 j := rfl
      have h01 := slw_01 M x2 j
      refine B_X11_lent_75 ?_
      rw [g61, o02 72 (by decide), o02 74 (by decide)]
      refine ⟨fun _ => by omega, fun z => ⟨fun y => ⟨by omega, ih (j + 1) 1 (by omega) ?_⟩, fun y => ⟨by omega, fun y1 => ⟨by omega, ih (j + 1) 0 (by omega) ?_⟩, fun y1 => ⟨fun y2 => ⟨by omega, ih (j + 1) 0 (by omega) ?_⟩, fun y2 => ⟨by omega, ih (j + 1) 1 (by omega) ?_⟩⟩⟩⟩⟩
      · by_cases ca : 0 < cA M (M 75 x1)
        · rw [if_pos ca] at hx ⊢
          have k := slw_mono M x2 (j := j) (by omega) 1
          exact k.symm
        · rw [if_neg ca]
      · by_cases ca : 0 < cA M (M 75 x1)
        · rw [if_pos ca] at hx ⊢
          rw [e, if_neg (by omega)]; omega
        · rw [if_neg ca] at hx; omega
      · by_cases ca : 0 < cA M (M 75 x1)
        · rw [if_pos ca] at hx ⊢
          rw [e, if_neg (by omega)]; omega
        · rw [if_neg ca] at hx; omega
      · by_cases ca : 0 < cA M (M 75 x1)
        · rw [if_pos ca]
          rw [e, if_pos (by omega)]
        · rw [if_neg ca]
  exact L _ 0 _ (Nat.zero_add _).symm rfl
theorem C_lent {n : Int} {M : ax_M} {x1 x2 : Int} (hI : Inv n M) : ax_Ti Y_X10_lent [aR 0, aI x1, aI x2] SH M (fun z1 u1 => ax_Ti Y_X11_lent [aR 61, aI x1, aI x2] SH u1 (fun z2 u2 => z1 = z2 ∧ Inv (n + 1) u2)) :=
  S_X10_lent hI (fun M1 h1 => S_X11_lent (inv_sam h1 hI) (fun M2 h2 => ⟨by rw [fLent_sam h1], inv_up (inv_sam h2 (inv_sam h1 hI))⟩))
