set_option maxHeartbeats 4000000 in
set_option maxRecDepth 100000 in
theorem S_X10_safest {n : Int} {post : Int → ax_M → Prop} {M : ax_M} {x1 x2 x3 : Int} (hI : Inv n M) (hb : x1 < 0 ∨ M 61 0 ≤ x1 → post (-1001) M) (hb2 : ¬ (x1 < 0 ∨ M 61 0 ≤ x1) → (x2 < 0 ∨ 99 < x2 ∨ x3 < -1 ∨ 99 < x3) → post (-1002) M) (h : ¬ (x1 < 0 ∨ M 61 0 ≤ x1) → ¬ (x2 < 0 ∨ 99 < x2 ∨ x3 < -1 ∨ 99 < x3) → ∀ M' R, Sam M M' → Mz M x3 6 x1 x2 1000000 (fun w => w = x1) 0 R → post R M') : ax_Ti Y_X10_safest [aR 0, aI x1, aI x2, aI x3] SH M post := by
  have hnp := hI.1.1.2.2
  have e6 : M 6 0 = M 61 0 := hI.1.2.1
  refine E_X10_safest (fun _ => ?_)
  rw [e6]
  refine ⟨by omega, fun c => hb (by omega), fun c => ⟨fun c1 => hb (by omega), fun c1 => ⟨fun c2 => hb2 (by omega) (by omega), fun c2 => ⟨fun c3 => hb2 (by omega) (by omega), fun c3 => ⟨fun c4 => hb2 (by omega) (by omega), fun c4 => ⟨fun c5 => hb2 (by omega) (by omega), fun c5 => ?_⟩⟩⟩⟩⟩⟩
  refine S_X9_prep hI.1 (by omega) (fun M1 o1 hw1 hP1 => ?_)
  have s1 : Sam M M1 := sam_ofs o1 (by decide)
  have e61 : M1 61 = M 61 := o1 61 (by decide)
  refine E_X4_bestChance (fun _ => ?_)
  refine S_X4_goOn hw1 hP1 (by omega) 6 11 x1 x2 1000000 _ 1 _ _ (by omega) (by omega) (by rw [e61]; omega) (by omega) (by omega) (Ofs.up (by decide)) (fun M2 o2 hz => ?_)
  rw [up_at] at hz
  refine h (by omega) (by omega) M2 (M2 60 6) (sam_ofs (l := [34, 35, 36, 37, 60]) ((o1.mono (by decide)).tr (o2.mono (by decide))) (by decide)) ?_
  have hg : gg M1 = gg M := gg_c (o1 62 (by decide)) (o1 63 (by decide)) (o1 64 (by decide)) (o1 65 (by decide)) (o1 67 (by decide)) (o1 69 (by decide))
  have rzm : ∀ (f : Nat) (u t c : Int) (vis : Int → Prop) (x : Int), Rz M1 x3 f u t c vis x ↔ Rz M x3 f u t c vis x := by
    intro f
    induction f with
    | zero => intro u t c vis x; unfold Rz; rw [e61]
    | succ f ih =>
      intro u t c vis x
      unfold Rz
      simp only [ih, e61, hg, wt_c (o1 62 (by decide)) (o1 63 (by decide)) hg, o1 68 (by decide)]
  have vc : ∀ w, 0 ≤ w → w < M 61 0 → (tb (bo_shl 1 x1) w = true ↔ w = x1) := by
    intro w w0 w1
    rw [tb_shl (by omega) (by omega) w0 (by omega)]
    simp
  refine ⟨hz.1, fun x hx => hz.2.1 x ((rzm _ _ _ _ _ _).mpr (rz_c 6 (fun w w0 w1 => (vc w w0 w1).symm) hx)), ?_⟩
  rcases hz.2.2 with q | q
  · exact Or.inl q
  · exact Or.inr (rz_c 6 vc ((rzm _ _ _ _ _ _).mp q))
