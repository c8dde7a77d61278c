theorem wt_nm {M : ax_M} {me e s p q t : Int} : ∀ k, wt M (-1) me e s p q t k = wt M (-1) (-1) e s p q t k
  | 0 => rfl
  | k + 1 => by rw [wt.eq_2, wt.eq_2, wt_nm k, gg_nomark]
theorem fo_nm {M : ax_M} {me e s t : Int} : ∀ i, fo M (-1) me e s t i = fo M (-1) (-1) e s t i
  | 0 => rfl
  | i + 1 => by
    rw [fo.eq_2, fo.eq_2, fo_nm i, gg_nomark]
    simp only [wt_nm (me := me)]
theorem fo_rg {M : ax_M} (hp : PitOk M) {ma me e s t : Int} : ∀ i, ((fo M ma me e s t i).1 = -1 ∨ 0 ≤ (fo M ma me e s t i).1) ∧ 0 ≤ (fo M ma me e s t i).2.2 ∧ (fo M ma me e s t i).2.2 ≤ 1000000
  | 0 => ⟨Or.inl rfl, (by show (0 : Int) ≤ 1000000; omega), (by show (1000000 : Int) ≤ 1000000; omega)⟩
  | i + 1 => by
    have q := fo_rg hp (ma := ma) (me := me) (e := e) (s := s) (t := t) i
    rw [fo.eq_2]
    split
    · exact q
    · have ws := wt_sp M ma me e s (M 91 i) (M 91 ((i : Int) + 1)) (fo M ma me e s t i).2.1 (M 61 3).toNat
      generalize wt M ma me e s (M 91 i) (M 91 ((i : Int) + 1)) (fo M ma me e s t i).2.1 (M 61 3).toNat = k at ws
      split
      · exact ⟨Or.inr (by show 0 ≤ (i : Int) + 1; omega), q.2⟩
      · rename_i hk
        have ws := ws.resolve_left hk
        have w0 := hp.1 k ws.1 (by omega)
        have nb := nbt_rg (c := 1000 - M 68 k) (by omega) (by omega) (gg M ma me e s k (fo M ma me e s t i).2.1).toNat
        have rr := mul_rg q.2.1 q.2.2 nb.1 nb.2
        refine ⟨Or.inl rfl, ?_, ?_⟩
        · show 0 ≤ _ * _ / 1000000
          omega
        · show _ * _ / 1000000 ≤ 1000000
          omega
theorem fo_sam {M M' : ax_M} (h : Sam M M') (ma me e s t : Int) (i : Nat) : fo M' ma me e s t i = fo M ma me e s t i := fo_c (h.1 62 (by decide)) (h.1 63 (by decide)) (gg_c (h.1 62 (by decide)) (h.1 63 (by decide)) (h.1 64 (by decide)) (h.1 65 (by decide)) (h.1 67 (by decide)) (h.1 69 (by decide))) (h.1 68 (by decide)) (h.1 91 (by decide)) (h.2 3 (by decide)) ma me e s t i
def fJudge (M : ax_M) (x1 x2 x3 x4 : Int) : Int := if x1 < 0 ∨ M 61 25 ≤ x1 then -1001 else if x2 < 0 ∨ 99 < x2 ∨ x3 < -1 ∨ 99 < x3 ∨ x4 < 0 ∨ 1 < x4 then -1002 else if M 61 50 = 0 ∨ ¬ M 91 0 = M 72 x1 then (if x4 = 0 then 0 else x2) else if x4 = 0 then (fo M (-1) (-1) x3 (M 74 x1) x2 (M 61 50 - 1).toNat).1 else (fo M (-1) (-1) x3 (M 74 x1) x2 (M 61 50 - 1).toNat).2.1
def fSafe (M : ax_M) (x1 x2 : Int) : Int := if x1 < 0 ∨ 99 < x1 ∨ x2 < -1 ∨ 99 < x2 then -1002 else if M 61 50 = 0 then -1003 else if (fo M (-1) (-1) x2 0 x1 (M 61 50 - 1).toNat).1 = -1 then (fo M (-1) (-1) x2 0 x1 (M 61 50 - 1).toNat).2.2 else -1003
theorem fJudge_sam {M M' : ax_M} (h : Sam M M') : fJudge M' = fJudge M := by
  funext x1 x2 x3 x4
  unfold fJudge
  simp only [fo_sam h]
  rw [h.2 25 (by decide), h.2 50 (by decide), h.1 91 (by decide), h.1 72 (by decide), h.1 74 (by decide)]
theorem fSafe_sam {M M' : ax_M} (h : Sam M M') : fSafe M' = fSafe M := by
  funext x1 x2
  unfold fSafe
  simp only [fo_sam h]
  rw [h.2 50 (by decide)]
set_option maxHeartbeats 4000000 in
set_option maxRecDepth 100000 in
theorem S_X10_judge {n : Int} {post : Int → ax_M → Prop} {M : ax_M} {x1 x2 x3 x4 : Int} (hI : Inv n M) (h : ∀ M', Sam M M' → post (fJudge M x1 x2 x3 x4) M') : ax_Ti Y_X10_judge [aR 0, aI x1, aI x2, aI x3, aI x4] SH M post := by
  have key : ∀ z M', Sam M M' → fJudge M x1 x2 x3 x4 = z → post z M' := fun z M' a b => by rw [← b]; exact h M' a
  have hb := hI.2.1.1
  have hr := hI.2.2.1
  have hr0 := hr.2.1
  have j36 : 0 ≤ x1 → x1 ≤ M 61 25 - 1 → (x2 < 0 ∨ 99 < x2 ∨ x3 < -1 ∨ 99 < x3 ∨ x4 < 0 ∨ 1 < x4) → ax_J Y_X10_judge (ax_Ki Y_X10_judge SH post) 0 0 36 [] [] SH M := fun a b c => B_X10_judge_36 (key _ _ Sam.rf (by unfold fJudge; rw [if_neg (by omega), if_pos c]))
  have j71 : 0 ≤ x1 → x1 ≤ M 61 25 - 1 → ¬ (x2 < 0 ∨ 99 < x2 ∨ x3 < -1 ∨ 99 < x3 ∨ x4 < 0 ∨ 1 < x4) → (M 61 50 = 0 ∨ ¬ M 91 0 = M 72 x1) → ax_J Y_X10_judge (ax_Ki Y_X10_judge SH post) 0 0 71 [(2, aI x2), (4, aI x4)] [] SH M := fun a b c d => B_X10_judge_71 ⟨fun y => key _ _ Sam.rf (by unfold fJudge; rw [if_neg (by omega), if_neg c, if_pos d, if_neg y]), fun y => key _ _ Sam.rf (by unfold fJudge; rw [if_neg (by omega), if_neg c, if_pos d, if_pos y])⟩
  refine E_X10_judge (fun _ => ?_)
  rw [hb.1, hr.1]
  refine ⟨by omega, fun c => key _ _ Sam.rf (by unfold fJudge; (repeat' split) <;> first | rfl | omega), fun c => ⟨fun c1 => key _ _ Sam.rf (by unfold fJudge; (repeat' split) <;> first | rfl | omega), fun c1 => ⟨fun c2 => j36 c c1 (by omega), fun c2 => ⟨fun c3 => j36 c c1 (by omega), fun c3 => ⟨fun c4 => j36 c c1 (by omega), fun c4 => ⟨fun c5 => j36 c c1 (by omega), fun c5 => ⟨fun c6 => j36 c c1 (by omega), fun c6 => ⟨fun c7 => j36 c c1 (by omega), fun c7 => ⟨fun c8 => j71 c c1 (by omega) (Or.inl c8), fun c8 => ⟨by omega, ?_⟩⟩⟩⟩⟩⟩⟩⟩⟩⟩
  have g := hI.2.1.2.1 x1 c (by omega)
  have r0 := (hr.2.2.2 0 (by omega) (by omega)).1
  rw [r0, g.1, g.2.2.2.2.1]
  refine ⟨fun c9 => S_X9_prep hI.1 (by omega) (fun M1 o1 hw1 hP1 => ?_), fun c9 => j71 c c1 (by omega) (Or.inr c9)⟩
  have s1 : Sam M M1 := sam_ofs o1 (by decide)
  have e61 : M1 61 = M 61 := o1 61 (by decide)
  refine S_X4_follow hw1 (inv_sam s1 hI).2.2.1 (by rw [e61]; omega) hP1 (by omega) (by omega) (by omega) (by omega) (fun M2 f2 => ?_)
  have s2 : Sam M M2 := sam_ofs (l := [34, 35, 36, 37, 60]) ((o1.mono (by decide)).tr (f2.1.mono (by decide))) (by decide)
  rw [f2.2.1, f2.2.2.1, fo_sam s1, e61]
  refine ⟨fun y => key _ _ s2 ?_, fun y => key _ _ s2 ?_⟩
  · unfold fJudge; rw [if_neg (by omega), if_neg (by omega), if_neg (by omega), if_neg y]
  · unfold fJudge; rw [if_neg (by omega), if_neg (by omega), if_neg (by omega), if_pos y]
set_option maxHeartbeats 4000000 in
set_option maxRecDepth 100000 in
theorem S_X11_judge {n : Int} {post : Int → ax_M → Prop} {M : ax_M} {x1 x2 x3 x4 : Int} (hI : Inv n M) (h : ∀ M', Sam M M' → post (fJudge M x1 x2 x3 x4) M') : ax_Ti Y_X11_judge [aR 61, aI x1, aI x2, aI x3, aI x4] SH M post := by
  have key : ∀ z M', Sam M M' → fJudge M x1 x2 x3 x4 = z → post z M' := fun z M' a b => by rw [← b]; exact h M' a
  have hb := hI.2.1.1
  have hr := hI.2.2.1
  have hr0 := hr.2.1
  have hr1 := hr.2.2.1
  have hm : M 61 32 = -1 := hI.2.2.2.2.2.2.1
  have j36 : 0 ≤ x1 → x1 ≤ M 61 25 - 1 → (x2 < 0 ∨ 99 < x2 ∨ x3 < -1 ∨ 99 < x3 ∨ x4 < 0 ∨ 1 < x4) → post (-1002) M := fun a b c => key _ _ Sam.rf (by unfold fJudge; rw [if_neg (by omega), if_pos c])
  have j71 : 0 ≤ x1 → x1 ≤ M 61 25 - 1 → ¬ (x2 < 0 ∨ 99 < x2 ∨ x3 < -1 ∨ 99 < x3 ∨ x4 < 0 ∨ 1 < x4) → (M 61 50 = 0 ∨ ¬ M 91 0 = M 72 x1) → (¬ x4 = 0 → post x2 M) ∧ (x4 = 0 → post 0 M) := fun a b c d => ⟨fun y => key _ _ Sam.rf (by unfold fJudge; rw [if_neg (by omega), if_neg c, if_pos d, if_neg y]), fun y => key _ _ Sam.rf (by unfold fJudge; rw [if_neg (by omega), if_neg c, if_pos d, if_pos y])⟩
  refine E_X11_judge (fun _ => ?_)
  refine ⟨by omega, fun c => key _ _ Sam.rf (by unfold fJudge; (repeat' split) <;> first | rfl | omega), fun c => ⟨fun c1 => key _ _ Sam.rf (by unfold fJudge; (repeat' split) <;> first | rfl | omega), fun c1 => ⟨fun c2 => j36 c c1 (by omega), fun c2 => ⟨fun c3 => j36 c c1 (by omega), fun c3 => ⟨fun c4 => j36 c c1 (by omega), fun c4 => ⟨fun c5 => j36 c c1 (by omega), fun c5 => ⟨fun c6 => j36 c c1 (by omega), fun c6 => ⟨fun c7 => j36 c c1 (by omega), fun c7 => ⟨fun c8 => j71 c c1 (by omega) (Or.inl c8), fun c8 => ⟨by omega, fun c9 => ?_, fun c9 => j71 c c1 (by omega) (Or.inr c9)⟩⟩⟩⟩⟩⟩⟩⟩⟩⟩
  refine S_X11_goRow hI.1.1 (by omega) (by omega) (by omega) (fun M2 f2 h1 h2 => ?_)
  rw [hm, fo_nm] at h1 ⊢
  rw [h1]
  refine ⟨fun y => key _ _ f2.sam ?_, fun y => key _ _ f2.sam ?_⟩
  · unfold fJudge; rw [if_neg (by omega), if_neg (by omega), if_neg (by omega), if_neg y]
  · unfold fJudge; rw [if_neg (by omega), if_neg (by omega), if_neg (by omega), if_pos y]
theorem C_judge {n : Int} {M : ax_M} {x1 x2 x3 x4 : Int} (hI : Inv n M) : ax_Ti Y_X10_judge [aR 0, aI x1, aI x2, aI x3, aI x4] SH M (fun z1 u1 => ax_Ti Y_X11_judge [aR 61, aI x1, aI x2, aI x3, aI x4] SH u1 (fun z2 u2 => z1 = z2 ∧ Inv (n + 1) u2)) :=
  S_X10_judge hI (fun M1 h1 => S_X11_judge (inv_sam h1 hI) (fun M2 h2 => ⟨by rw [fJudge_sam h1], inv_up (inv_sam h2 (inv_sam h1 hI))⟩))
set_option maxHeartbeats 4000000 in
set_option maxRecDepth 100000 in
theorem S_X10_safe {n : Int} {post : Int → ax_M → Prop} {M : ax_M} {x1 x2 : Int} (hI : Inv n M) (h : ∀ M', Sam M M' → post (fSafe M x1 x2) M') : ax_Ti Y_X10_safe [aR 0, aI x1, aI x2] SH M post := by
  have key : ∀ z M', Sam M M' → fSafe M x1 x2 = z → post z M' := fun z M' a b => by rw [← b]; exact h M' a
  have hr := hI.2.2.1
  have hr0 := hr.2.1
  refine E_X10_safe (fun _ => ?_)
  rw [hr.1]
  refine ⟨fun c => key _ _ Sam.rf (by unfold fSafe; (repeat' split) <;> first | rfl | omega), fun c => ⟨fun c1 => key _ _ Sam.rf (by unfold fSafe; (repeat' split) <;> first | rfl | omega), fun c1 => ⟨fun c2 => key _ _ Sam.rf (by unfold fSafe; (repeat' split) <;> first | rfl | omega), fun c2 => ⟨fun c3 => key _ _ Sam.rf (by unfold fSafe; (repeat' split) <;> first | rfl | omega), fun c3 => ⟨fun c4 => S_X9_prep hI.1 (by omega) (fun M1 o1 hw1 hP1 => ?_), fun c4 => key _ _ Sam.rf (by unfold fSafe; rw [if_neg (by omega), if_pos c4])⟩⟩⟩⟩⟩
  have s1 : Sam M M1 := sam_ofs o1 (by decide)
  have e61 : M1 61 = M 61 := o1 61 (by decide)
  refine S_X4_follow hw1 (inv_sam s1 hI).2.2.1 (by rw [e61]; omega) hP1 (by omega) (by omega) (by omega) (by omega) (fun M2 f2 => ?_)
  have s2 : Sam M M2 := sam_ofs (l := [34, 35, 36, 37, 60]) ((o1.mono (by decide)).tr (f2.1.mono (by decide))) (by decide)
  rw [f2.2.1, f2.2.2.2, fo_sam s1, e61]
  refine ⟨fun y => key _ _ s2 ?_, fun y => key _ _ s2 ?_⟩
  · unfold fSafe; rw [if_neg (by omega), if_neg (by omega), if_neg y]
  · unfold fSafe; rw [if_neg (by omega), if_neg (by omega), if_pos y]
set_option maxHeartbeats 4000000 in
set_option maxRecDepth 100000 in
theorem S_X11_safe {n : Int} {post : Int → ax_M → Prop} {M : ax_M} {x1 x2 : Int} (hI : Inv n M) (h : ∀ M', Sam M M' → post (fSafe M x1 x2) M') : ax_Ti Y_X11_safe [aR 61, aI x1, aI x2] SH M post := by
  have key : ∀ z M', Sam M M' → fSafe M x1 x2 = z → post z M' := fun z M' a b => by rw [← b]; exact h M' a
  have hr := hI.2.2.1
  have hr0 := hr.2.1
  have hr1 := hr.2.2.1
  have hm : M 61 32 = -1 := hI.2.2.2.2.2.2.1
  have rg := fo_rg hI.1.1 (ma := -1) (me := -1) (e := x2) (s := 0) (t := x1) (M 61 50 - 1).toNat
  refine E_X11_safe (fun _ => ?_)
  refine ⟨fun c => key _ _ Sam.rf (by unfold fSafe; (repeat' split) <;> first | rfl | omega), fun c => ⟨fun c1 => key _ _ Sam.rf (by unfold fSafe; (repeat' split) <;> first | rfl | omega), fun c1 => ⟨fun c2 => key _ _ Sam.rf (by unfold fSafe; (repeat' split) <;> first | rfl | omega), fun c2 => ⟨fun c3 => key _ _ Sam.rf (by unfold fSafe; (repeat' split) <;> first | rfl | omega), fun c3 => ⟨fun c4 => key _ _ Sam.rf (by unfold fSafe; rw [if_neg (by omega), if_pos c4]), fun c4 => ?_⟩⟩⟩⟩⟩
  refine S_X11_goRow hI.1.1 (by omega) (by omega) (by omega) (fun M2 f2 h1 h2 => ?_)
  rw [hm, fo_nm] at h2 ⊢
  rw [h2]
  refine ⟨fun y => ⟨by omega, key _ _ f2.sam ?_⟩, fun y => key _ _ f2.sam ?_⟩
  · unfold fSafe; rw [if_neg (by omega), if_neg (by omega), if_pos (by omega)]
  · unfold fSafe; rw [if_neg (by omega), if_neg (by omega), if_neg (by omega)]
theorem C_safe {n : Int} {M : ax_M} {x1 x2 : Int} (hI : Inv n M) : ax_Ti Y_X10_safe [aR 0, aI x1, aI x2] SH M (fun z1 u1 => ax_Ti Y_X11_safe [aR 61, aI x1, aI x2] SH u1 (fun z2 u2 => z1 = z2 ∧ Inv (n + 1) u2)) :=
  S_X10_safe hI (fun M1 h1 => S_X11_safe (inv_sam h1 hI) (fun M2 h2 => ⟨by rw [fSafe_sam h1], inv_up (inv_sam h2 (inv_sam h1 hI))⟩))
