/-- a way of the table -/
def WOk (P : Int) (tb : Int → Int) (k : Int) : Prop := (0 ≤ tb (k * 7 + 0) ∧ tb (k * 7 + 0) < P ∧ 0 ≤ tb (k * 7 + 1) ∧ tb (k * 7 + 1) < P ∧ ¬ tb (k * 7 + 0) = tb (k * 7 + 1)) ∧ (1 ≤ tb (k * 7 + 2) ∧ tb (k * 7 + 2) ≤ 30 ∧ (tb (k * 7 + 3) = -1 ∨ (tb (k * 7 + 2) ≤ tb (k * 7 + 3) ∧ tb (k * 7 + 3) ≤ 60))) ∧ (1 ≤ tb (k * 7 + 4) ∧ tb (k * 7 + 4) ≤ 9 ∧ 0 ≤ tb (k * 7 + 5) ∧ tb (k * 7 + 5) ≤ 99 ∧ 0 ≤ tb (k * 7 + 6) ∧ tb (k * 7 + 6) ≤ 999)
def GdC (N P : Int) (c : CR) : Prop := (0 ≤ c.2.1 ∧ c.2.1 ≤ N) ∧ (0 ≤ c.2.2.2.2.1 ∧ c.2.2.2.2.1 ≤ 24) ∧ (c.1.1 = 0 → c.1 = (0, -1) ∧ (c.2.2.1 = -1 ∨ (0 ≤ c.2.2.1 ∧ c.2.2.1 < P ∧ 1 ≤ c.2.2.2.1 ∧ c.2.2.2.1 ≤ 9)) ∧ ∀ k, 0 ≤ k → k < c.2.2.2.2.1 → WOk P c.2.2.2.2.2 k)
section PURE
variable {X : Int → Int} {N P : Int}
theorem sE_rg {i : Int} (h : i ≤ N) : i ≤ sE X N i ∧ sE X N i ≤ N ∧ (sF X N i = 0 → i < sE X N i) := by
  have a := sk_ge X N i
  have b := sk_le (X := X) h
  unfold sE sF
  by_cases z : isS' X N i
  · rw [if_pos z, if_pos z]; have := z.1; omega
  · rw [if_neg z, if_neg z]; omega
theorem oE_rg {i : Int} {w : Nat} (h : i ≤ N) : i ≤ oE X N i w ∧ oE X N i w ≤ N := by
  have a := sk_ge X N i
  have b := sk_le (X := X) h
  unfold oE
  by_cases z : wm X N i w = true
  · rw [if_pos z]
    have q := (wm_iff.mp z).1
    have r := nE_rg (X := X) q
    have : 0 ≤ wl w := by unfold wl; omega
    omega
  · rw [if_neg z]; omega
theorem oF_0 {i : Int} {w : Nat} {lo hi d : Int} (h : oF X N i w lo hi = 0) : oV X N i w d = d ∨ (lo ≤ oV X N i w d ∧ oV X N i w d ≤ hi) := by
  unfold oF at h
  unfold oV
  by_cases z : wm X N i w = true
  · rw [if_pos z] at h ⊢
    have := nF_0 h
    exact Or.inr ⟨this.2.2.1, this.2.2.2⟩
  · rw [if_neg z]; exact Or.inl rfl
theorem wT_lo {p w x : Int} {tb : Int → Int} (h : x < w * 7) : wT X N p w tb x = tb x := by
  unfold wT u1
  rw [if_neg (by omega), if_neg (by omega), if_neg (by omega), if_neg (by omega), if_neg (by omega), if_neg (by omega), if_neg (by omega)]
theorem wT_at {p w : Int} {tb : Int → Int} : wT X N p w tb (w * 7 + 0) = nV X N p ∧ wT X N p w tb (w * 7 + 1) = nV X N (y1 X N p) ∧ wT X N p w tb (w * 7 + 2) = nV X N (y2 X N p) ∧ wT X N p w tb (w * 7 + 3) = oV X N (y3 X N p) 3 (-1) ∧ wT X N p w tb (w * 7 + 4) = oV X N (y4 X N p) 4 9 ∧ wT X N p w tb (w * 7 + 5) = oV X N (y5 X N p) 5 99 ∧ wT X N p w tb (w * 7 + 6) = oV X N (y6 X N p) 6 0 := by
  unfold wT u1
  refine ⟨?_, ?_, ?_, ?_, ?_, ?_, ?_⟩
  · rw [if_neg (by omega), if_neg (by omega), if_neg (by omega), if_neg (by omega), if_neg (by omega), if_neg (by omega), if_pos rfl]
  · rw [if_neg (by omega), if_neg (by omega), if_neg (by omega), if_neg (by omega), if_neg (by omega), if_pos rfl]
  · rw [if_neg (by omega), if_neg (by omega), if_neg (by omega), if_neg (by omega), if_pos rfl]
  · rw [if_neg (by omega), if_neg (by omega), if_neg (by omega), if_pos rfl]
  · rw [if_neg (by omega), if_neg (by omega), if_pos rfl]
  · rw [if_neg (by omega), if_pos rfl]
  · rw [if_pos rfl]
/-- a clause without a fault -/
theorem a9_0 {p : Int} (h : (a9_ X N P p).1 = 0) : a9_ X N P p = (0, -1) ∧ nF X N p 0 (P - 1) = 0 ∧ nF X N (y1 X N p) 0 (P - 1) = 0 ∧ ¬ nV X N p = nV X N (y1 X N p) ∧ nF X N (y2 X N p) 1 30 = 0 ∧ oF X N (y3 X N p) 3 (nV X N (y2 X N p)) 60 = 0 ∧ oF X N (y4 X N p) 4 1 9 = 0 ∧ oF X N (y5 X N p) 5 0 99 = 0 ∧ oF X N (y6 X N p) 6 0 999 = 0 ∧ sF X N (y7 X N p) = 0 := by
  have h9 := bl_0 h
  have h8 := bl_0 (a := a7_ X N P p) h9.1
  have h7 := bl_0 (a := a6_ X N P p) h8.1
  have h6 := bl_0 (a := a5_ X N P p) h7.1
  have h5 := bl_0 (a := a4_ X N P p) h6.1
  have h4 := bl_0 (a := a3_ X N P p) h5.1
  have h3 := bl_0 (a := a2_ X N P p) h4.1
  have h2 := bl_0 (a := a1_ X N P p) h3.1
  have h1 := bl_0 (a := (0, -1)) h2.1
  refine ⟨?_, h1.2.1, h2.2.1, ?_, h4.2.1, h5.2.1, h6.2.1, h7.2.1, h8.2.1, h9.2.1⟩
  · exact h9.2.2.trans (h8.2.2.trans (h7.2.2.trans (h6.2.2.trans (h5.2.2.trans (h4.2.2.trans (h3.2.2.trans (h2.2.2.trans h1.2.2)))))))
  · intro z
    have := h3.2.1
    rw [if_pos z] at this
    omega
theorem y_rg {p : Int} (h : p ≤ N) : p ≤ y1 X N p ∧ y1 X N p ≤ y2 X N p ∧ y2 X N p ≤ y3 X N p ∧ y3 X N p ≤ y4 X N p ∧ y4 X N p ≤ y5 X N p ∧ y5 X N p ≤ y6 X N p ∧ y6 X N p ≤ y7 X N p ∧ y7 X N p ≤ N := by
  have r1 : p ≤ y1 X N p ∧ y1 X N p ≤ N := by have := nE_rg (X := X) h; unfold y1; omega
  have r2 : y1 X N p ≤ y2 X N p ∧ y2 X N p ≤ N := by have := nE_rg (X := X) r1.2; unfold y2; omega
  have r3 : y2 X N p ≤ y3 X N p ∧ y3 X N p ≤ N := by have := nE_rg (X := X) r2.2; unfold y3; omega
  have r4 : y3 X N p ≤ y4 X N p ∧ y4 X N p ≤ N := oE_rg r3.2
  have r5 : y4 X N p ≤ y5 X N p ∧ y5 X N p ≤ N := oE_rg r4.2
  have r6 : y5 X N p ≤ y6 X N p ∧ y6 X N p ≤ N := oE_rg r5.2
  have r7 : y6 X N p ≤ y7 X N p ∧ y7 X N p ≤ N := oE_rg r6.2
  exact ⟨r1.1, r2.1, r3.1, r4.1, r5.1, r6.1, r7.1, r7.2⟩
theorem gd_cl {j sh li w : Int} {tb : Int → Int} (hj : 0 ≤ j) (hjN : j ≤ N) (hG : GdC N P ((0, -1), j, sh, li, w, tb)) : GdC N P (rCl X N P j sh li w tb) ∧ ((rCl X N P j sh li w tb).1.1 = 0 → j < (rCl X N P j sh li w tb).2.1) := by
  obtain ⟨hp, hw, hg⟩ := hG
  have hg := hg rfl
  have s1 := sk_ge X N j
  have s2 := sk_le (X := X) hjN
  have hw' : 0 ≤ w ∧ w ≤ 24 := hw
  unfold rCl
  by_cases z1 : wm X N j 1 = true
  · rw [if_pos z1]
    have pr := (wm_iff.mp z1).1
    have w1 : wl 1 = 3 := by unfold wl; decide
    unfold rOut
    by_cases z : sh = -1
    · rw [if_pos z]
      have r1 := nE_rg (X := X) pr
      have r2 := nE_rg (X := X) r1.2.2
      have r3 := sE_rg (X := X) r2.2.2
      refine ⟨⟨⟨?_, ?_⟩, hw, fun f => ?_⟩, fun _ => ?_⟩
      · show 0 ≤ sE X N _; omega
      · show sE X N _ ≤ N; omega
      · have h3 := bl_0 f
        have h2 := bl_0 h3.1
        have h1 := bl_0 h2.1
        have n1 := nF_0 h1.2.1
        have n2 := nF_0 h2.2.1
        refine ⟨h3.2.2.trans (h2.2.2.trans h1.2.2), Or.inr ⟨?_, ?_, n2.2.2.1, n2.2.2.2⟩, hg.2.2⟩
        · exact n1.2.2.1
        · show nV X N _ < P; have := n1.2.2.2; omega
      · show j < sE X N _; omega
    · rw [if_neg z]
      exact ⟨⟨⟨by show 0 ≤ sk X N j + wl 1; omega, pr⟩, hw, fun f => absurd (show (3 : Int) = 0 from f) (by decide)⟩, fun f => absurd (show (3 : Int) = 0 from f) (by decide)⟩
  · rw [if_neg z1]
    by_cases z2 : wm X N j 2 = true
    · rw [if_pos z2]
      have pr := (wm_iff.mp z2).1
      have w1 : wl 2 = 3 := by unfold wl; decide
      unfold rWay
      by_cases z : w < 24
      · rw [if_pos z]
        have r := y_rg (X := X) pr
        have r3 := sE_rg (X := X) r.2.2.2.2.2.2.2
        refine ⟨⟨⟨?_, ?_⟩, ⟨?_, ?_⟩, fun f => ?_⟩, fun _ => ?_⟩
        · show 0 ≤ sE X N _; omega
        · show sE X N _ ≤ N; omega
        · show 0 ≤ w + 1; omega
        · show w + 1 ≤ 24; omega
        · have q := a9_0 f
          refine ⟨q.1, hg.2.1, fun k k0 k1 => ?_⟩
          have k1' : k < w + 1 := k1
          show WOk P (wT X N _ w tb) k
          unfold WOk
          by_cases e : k = w
          · rw [e]
            have t := wT_at (X := X) (N := N) (p := sk X N j + wl 2) (w := w) (tb := tb)
            rw [t.1, t.2.1, t.2.2.1, t.2.2.2.1, t.2.2.2.2.1, t.2.2.2.2.2.1, t.2.2.2.2.2.2]
            have n1 := nF_0 q.2.1
            have n2 := nF_0 q.2.2.1
            have n4 := nF_0 q.2.2.2.2.1
            have o1 := oF_0 (d := -1) q.2.2.2.2.2.1
            have o2 := oF_0 (d := 9) q.2.2.2.2.2.2.1
            have o3 := oF_0 (d := 99) q.2.2.2.2.2.2.2.1
            have o4 := oF_0 (d := 0) q.2.2.2.2.2.2.2.2.1
            have ne := q.2.2.2.1
            exact ⟨⟨by omega, by omega, by omega, by omega, ne⟩, ⟨by omega, by omega, by omega⟩, by omega⟩
          · have t : ∀ x, 0 ≤ x → x < 7 → wT X N (sk X N j + wl 2) w tb (k * 7 + x) = tb (k * 7 + x) := fun x x0 x1 => wT_lo (by omega)
            rw [t 0 (by omega) (by omega), t 1 (by omega) (by omega), t 2 (by omega) (by omega), t 3 (by omega) (by omega), t 4 (by omega) (by omega), t 5 (by omega) (by omega), t 6 (by omega) (by omega)]
            exact hg.2.2 k k0 (show k < w by omega)
        · show j < sE X N _; omega
      · rw [if_neg z]
        exact ⟨⟨⟨by show 0 ≤ sk X N j + wl 2; omega, pr⟩, hw, fun f => absurd (show (4 : Int) = 0 from f) (by decide)⟩, fun f => absurd (show (4 : Int) = 0 from f) (by decide)⟩
    · rw [if_neg z2]
      exact ⟨⟨⟨by show 0 ≤ sk X N j; omega, s2⟩, hw, fun f => absurd (show (1 : Int) = 0 from f) (by decide)⟩, fun f => absurd (show (1 : Int) = 0 from f) (by decide)⟩
theorem gd_pl (hN : 0 ≤ N) (tb : Int → Int) : GdC N (pP X N) (rPl X N tb) ∧ (0 ≤ pP X N ∧ pP X N ≤ 999) ∧ ((rPl X N tb).1.1 = 0 → 2 ≤ pP X N ∧ pP X N ≤ 12) := by
  have s1 := sk_ge X N 0
  have s2 := sk_le (X := X) hN
  unfold pP rPl
  by_cases z : wm X N 0 0 = true
  · rw [if_pos z, if_pos z]
    have pr := (wm_iff.mp z).1
    have w1 : wl 0 = 6 := by unfold wl; decide
    have r1 := nE_rg (X := X) pr
    have r3 := sE_rg (X := X) r1.2.2
    have nr := nV_rg (X := X) pr
    refine ⟨⟨⟨?_, ?_⟩, ⟨Int.le_refl _, show (0 : Int) ≤ 24 by decide⟩, fun f => ?_⟩, nr, fun f => ?_⟩
    · show 0 ≤ sE X N _; omega
    · show sE X N _ ≤ N; omega
    · have h2 := bl_0 f
      have h1 := bl_0 h2.1
      exact ⟨h2.2.2.trans h1.2.2, Or.inl rfl, fun k a b => by have b' : k < 0 := b; omega⟩
    · have h2 := bl_0 f
      have h1 := bl_0 h2.1
      have n1 := nF_0 h1.2.1
      exact ⟨n1.2.2.1, n1.2.2.2⟩
  · rw [if_neg z, if_neg z]
    exact ⟨⟨⟨s1, s2⟩, ⟨Int.le_refl _, show (0 : Int) ≤ 24 by decide⟩, fun f => absurd (show (1 : Int) = 0 from f) (by decide)⟩, by omega, fun f => absurd (show (1 : Int) = 0 from f) (by decide)⟩
/-- at the end without a fault all is read -/
theorem rP_end : ∀ (r : Nat) (c : CR), N - c.2.1 ≤ r → GdC N P c → GdC N P (rP X N P r c) ∧ ((rP X N P r c).1.1 = 0 → (rP X N P r c).2.1 = N)
  | 0, c, hr, hG => by
    rw [rP.eq_1]
    exact ⟨hG, fun _ => by have := hG.1; omega⟩
  | r + 1, c, hr, hG => by
    obtain ⟨a, i, sh, li, w, tb⟩ := c
    rw [rP.eq_2]
    by_cases z : ¬ a.1 = 0
    · rw [if_pos z]; exact ⟨hG, fun f => absurd f z⟩
    · rw [if_neg z]
      have i0 : 0 ≤ i ∧ i ≤ N := hG.1
      have a0 : a.1 = 0 := Classical.byContradiction z
      have s1 := sk_ge X N i
      have s2 := sk_le (X := X) i0.2
      by_cases z2 : N ≤ sk X N i
      · rw [if_pos z2]
        refine ⟨⟨⟨?_, ?_⟩, hG.2⟩, fun _ => ?_⟩
        · show 0 ≤ sk X N i; omega
        · show sk X N i ≤ N; omega
        · show sk X N i = N; omega
      · rw [if_neg z2]
        have ea : a = (0, -1) := (hG.2.2 a0).1
        have hG' : GdC N P ((0, -1), sk X N i, sh, li, w, tb) := by
          rw [ea] at hG
          exact ⟨⟨by show 0 ≤ sk X N i; omega, s2⟩, hG.2⟩
        have g := gd_cl (X := X) (P := P) (j := sk X N i) (by omega) s2 hG'
        have hr' : N - i ≤ ((r + 1 : Nat) : Int) := hr
        by_cases f : (rCl X N P (sk X N i) sh li w tb).1.1 = 0
        · have := g.2 f
          exact rP_end r (rCl X N P (sk X N i) sh li w tb) (by omega) g.1
        · have st : ∀ r : Nat, rP X N P r (rCl X N P (sk X N i) sh li w tb) = rCl X N P (sk X N i) sh li w tb := by
            intro r
            cases r with
            | zero => rw [rP.eq_1]
            | succ r => rw [rP.eq_2, if_pos f]
          show GdC N P (rP X N P r (rCl X N P (sk X N i) sh li w tb)) ∧ _
          rw [st]
          exact ⟨g.1, fun q => absurd q f⟩
end PURE
set_option maxHeartbeats 4000000 in
set_option maxRecDepth 100000 in
theorem S_X5_read {post : Int → ax_M → Prop} {X : Int → Int} {N : Int} {M : ax_M} (hT : TX X N M) (h : ∀ M2, Ofs [3, 4, 5] M M2 → M2 3 5 = (rE (rP X N (pP X N) 400 (rPl X N (M 5)))).2 → M2 4 0 = pP X N → M2 4 1 = (rP X N (pP X N) 400 (rPl X N (M 5))).2.2.2.2.1 → M2 4 2 = (rP X N (pP X N) 400 (rPl X N (M 5))).2.2.1 → M2 4 3 = (rP X N (pP X N) 400 (rPl X N (M 5))).2.2.2.1 → M2 5 = (rP X N (pP X N) 400 (rPl X N (M 5))).2.2.2.2.2 → post (rE (rP X N (pP X N) 400 (rPl X N (M 5)))).1 M2) : ax_Ti Y_X5_read [aR 3] SH M post := by
  have N4 := hT.2.1
  have gp := gd_pl (X := X) (N := N) N4.1 (M 5)
  generalize hP : pP X N = P at *
  -- what stands at the end
  have fin : ∀ (M1 : ax_M) (c : CR), CSt N M M1 P c → rE c = rE (rP X N P 400 (rPl X N (M 5))) → c.2.2 = (rP X N P 400 (rPl X N (M 5))).2.2 → (((¬ M1 4 2 = -1) → post (M1 3 4) M1) ∧ ((M1 4 2 = -1) → ((¬ M1 3 4 = 0) → post (M1 3 4) M1) ∧ ((M1 3 4 = 0) → post 1 (ax_up (ax_up M1 3 4 1) 3 5 (M1 3 2))))) := by
    intro M1 c c1 e1 e2
    obtain ⟨R1, d0, d1, d2, d3, d5⟩ := c1
    rw [← e1, ← e2] at h
    have key : ∀ M2, Rs N M M2 c.2.1 (rE c) → R45 M1 M2 → post (rE c).1 M2 := by
      intro M2 R2 q
      exact h M2 R2.1 R2.2.2.2.1 (by rw [q.1]; exact d0) (by rw [q.1]; exact d1) (by rw [q.1]; exact d2) (by rw [q.1]; exact d3) (by rw [q.2]; exact d5)
    rw [d2, R1.2.1]
    refine ⟨fun y => ?_, fun y => ⟨fun y1 => ?_, fun y1 => ?_⟩⟩
    · have er : rE c = c.1 := by unfold rE; rw [if_neg y, bl_z]
      have K := key M1 (by rw [er]; exact R1) R45.rf
      rw [er, ← R1.2.2.1] at K
      exact K
    · have er : rE c = c.1 := by unfold rE; rw [bl_n (fun z => y1 (R1.2.2.1.trans z))]
      have K := key M1 (by rw [er]; exact R1) R45.rf
      rw [er, ← R1.2.2.1] at K
      exact K
    · have er : rE c = bl c.1 1 c.2.1 := by unfold rE; rw [if_pos y]
      have R2 := R1.blm (g := 1) (q := c.2.1) (by decide) y1
      have e11 : (rE c).1 = 1 := by
        rw [er]
        show bf_ c.1.1 1 = 1
        unfold bf_
        rw [if_pos (R1.2.2.1.symm.trans y1)]
      have K := key _ (by rw [er]; exact R2) (R45.up.tr R45.up)
      rw [e11] at K
      exact K
  have stay : ∀ (r : Nat) (c : CR), ¬ c.1.1 = 0 → rP X N P r c = c := by
    intro r c f
    cases r with
    | zero => rw [rP.eq_1]
    | succ r => rw [rP.eq_2, if_pos f]
  have L : ∀ (r : Nat) (x : Int) (M1 : ax_M) (c : CR), x + r = 400 → 0 ≤ x → N - c.2.1 ≤ r → CSt N M M1 P c → GdC N P c → rP X N P r c = rP X N P 400 (rPl X N (M 5)) → ax_J Y_X5_read (ax_Ki Y_X5_read SH post) 0 0 28 [(0, aR 3), (1, aI x)] [] SH M1 := by
    intro r
    induction r with
    | zero =>
      intro x M1 c hx hx0 hr c1 g e
      rw [rP.eq_1] at e
      have F := fin M1 c c1 (by rw [e]) (by rw [e])
      exact B_X5_read_28 ⟨fun _ => ⟨F.1, F.2⟩, fun z => by omega⟩
    | succ r ih =>
      intro x M1 c hx hx0 hr c1 g e
      obtain ⟨a, i, sh, li, w, tb⟩ := c
      refine B_X5_read_28 ⟨fun z => by omega, fun _ => ⟨fun y => ?_, fun y => ?_⟩⟩
      · have f : ¬ a.1 = 0 := fun z => y (c1.1.2.2.1.trans z)
        rw [stay _ _ f] at e
        have F := fin M1 _ c1 (by rw [e]) (by rw [e])
        exact ⟨F.1, fun z => (F.2 z).1 y⟩
      · have a0 : a.1 = 0 := c1.1.2.2.1.symm.trans y
        have ea : a = (0, -1) := (g.2.2 a0).1
        subst ea
        have s1 := sk_ge X N i
        have i0 : 0 ≤ i ∧ i ≤ N := g.1
        have s2 := sk_le (X := X) i0.2
        have hr' : N - i ≤ ((r + 1 : Nat) : Int) := hr
        refine S_X5_atEnd hT c1.1 (fun M2 R2 q2 _ => ?_)
        have c2 := c1.mv R2 q2
        rw [rP.eq_2, if_neg (fun z => z rfl)] at e
        by_cases z : N ≤ sk X N i
        · rw [if_pos z]
          rw [if_pos (show N ≤ sk X N i from z)] at e
          have F := fin M2 _ c2 (by rw [← e]) (by rw [← e])
          exact ⟨fun _ => ⟨F.1, F.2⟩, fun y => absurd y (by decide)⟩
        · rw [if_neg z]
          rw [if_neg (show ¬ N ≤ sk X N i from z)] at e
          have hG' : GdC N P ((0, -1), sk X N i, sh, li, w, tb) := ⟨⟨by show 0 ≤ sk X N i; omega, s2⟩, g.2⟩
          have gc := gd_cl (X := X) (P := P) (j := sk X N i) (by omega) s2 hG'
          refine ⟨fun y => absurd rfl y, fun _ => S_X5_readClause hT gp.2.1 g.2.1.1 c2 (fun M3 c3 => ⟨by omega, ?_⟩)⟩
          by_cases f : (rCl X N P (sk X N i) sh li w tb).1.1 = 0
          · have := gc.2 f
            exact ih (x + 1) M3 (rCl X N P (sk X N i) sh li w tb) (by omega) (by omega) (by omega) c3 gc.1 e
          · have e' : rCl X N P (sk X N i) sh li w tb = rP X N P 400 (rPl X N (M 5)) := by
              rw [← e]; exact (stay _ _ f).symm
            have F := fin M3 _ c3 (by rw [e']) (by rw [e'])
            have y3 : ¬ M3 3 4 = 0 := fun z => f (c3.1.2.2.1.symm.trans z)
            exact B_X5_read_28 ⟨fun _ => ⟨F.1, F.2⟩, fun _ => ⟨fun _ => ⟨F.1, fun z => (F.2 z).1 y3⟩, fun z => absurd z y3⟩⟩
  refine E_X5_read (fun _ => E_X3_vanish (fun _ => ?_))
  generalize hM1 : ax_up (ax_up (ax_up (ax_up (ax_up (ax_up (ax_up M 3 2 0) 3 4 0) 3 5 (-1)) 4 0 0) 4 1 0) 4 2 (-1)) 4 3 0 = M1
  have R1 : Rs N M M1 0 (0, -1) := by
    rw [← hM1]
    refine ⟨((((((Ofs.up (by decide)).tr (Ofs.up (by decide))).tr (Ofs.up (by decide))).tr (Ofs.up (by decide))).tr (Ofs.up (by decide))).tr (Ofs.up (by decide))).tr (Ofs.up (by decide)), ?_, ?_, ?_, Int.le_refl _, N4.1⟩
    · rw [up_off _ _ _ (by decide), up_off _ _ _ (by decide), up_off _ _ _ (by decide), up_off _ _ _ (by decide), up_ne _ _ _ (by decide), up_ne _ _ _ (by decide), up_at]
    · rw [up_off _ _ _ (by decide), up_off _ _ _ (by decide), up_off _ _ _ (by decide), up_off _ _ _ (by decide), up_ne _ _ _ (by decide), up_at]
    · rw [up_off _ _ _ (by decide), up_off _ _ _ (by decide), up_off _ _ _ (by decide), up_off _ _ _ (by decide), up_at]
  have e4 : M1 4 0 = 0 ∧ M1 4 1 = 0 ∧ M1 4 2 = -1 ∧ M1 4 3 = 0 := by
    rw [← hM1]
    refine ⟨?_, ?_, ?_, up_at _ _ _ _⟩
    · rw [up_ne _ _ _ (by decide), up_ne _ _ _ (by decide), up_ne _ _ _ (by decide), up_at]
    · rw [up_ne _ _ _ (by decide), up_ne _ _ _ (by decide), up_at]
    · rw [up_ne _ _ _ (by decide), up_at]
  have e5 : M1 5 = M 5 := by
    rw [← hM1, up_off _ _ _ (by decide), up_off _ _ _ (by decide), up_off _ _ _ (by decide), up_off _ _ _ (by decide), up_off _ _ _ (by decide), up_off _ _ _ (by decide), up_off _ _ _ (by decide)]
  have start : ∀ M2, CSt N M M2 P (rPl X N (M 5)) → ax_J Y_X5_read (ax_Ki Y_X5_read SH post) 0 0 28 [(0, aR 3), (1, aI 0)] [] SH M2 := fun M2 c2 => L 400 0 M2 _ (by omega) (Int.le_refl _) (by have := gp.1.1; omega) c2 gp.1 rfl
  refine E_X5_readPlaces (fun _ => S_X5_takeWord0 hT R1 (fun wy M2 R2 q2 => ⟨fun z => absurd z (by decide), fun _ => S_X5_number hT R2 (fun M3 R3 q3 _ => S_X5_takeClauseEnd hT R3.m4 (fun M4 R4 q4 => start M4 ?_))⟩) (fun wn M2 R2 q2 => ⟨fun _ => ?_, fun z => absurd rfl z⟩))
  · have eP : P = nV X N (sk X N 0 + wl 0) := by rw [← hP]; unfold pP; rw [if_pos wy]
    have f4 : M4 4 = u1 (M1 4) 0 (nV X N (sk X N 0 + wl 0)) := by rw [q4.1, up_u1, q3.1, q2.1]
    have f5 : M4 5 = M 5 := by rw [q4.2, up_off _ _ _ (by decide), q3.2, q2.2, e5]
    unfold rPl
    rw [if_pos wy]
    refine ⟨R4, ?_, ?_, ?_, ?_, f5⟩
    · rw [f4, eP]; rfl
    · rw [f4]; exact e4.2.1
    · rw [f4]; exact e4.2.2.1
    · rw [f4]; exact e4.2.2.2
  · have f0 : M2 3 4 = 0 := R2.2.2.1
    refine ⟨fun z => absurd f0 z, fun _ => start _ ?_⟩
    have eP : P = 0 := by rw [← hP]; unfold pP; rw [if_neg (by rw [wn]; decide)]
    rw [R2.2.1]
    have R3 := R2.blm (g := 1) (q := sk X N 0) (by decide) f0
    rw [bl_g (by decide)] at R3
    unfold rPl
    rw [if_neg (by rw [wn]; decide)]
    refine ⟨R3, ?_, ?_, ?_, ?_, ?_⟩
    · rw [up_off _ _ _ (by decide), up_off _ _ _ (by decide), q2.1, eP]; exact e4.1
    · rw [up_off _ _ _ (by decide), up_off _ _ _ (by decide), q2.1]; exact e4.2.1
    · rw [up_off _ _ _ (by decide), up_off _ _ _ (by decide), q2.1]; exact e4.2.2.1
    · rw [up_off _ _ _ (by decide), up_off _ _ _ (by decide), q2.1]; exact e4.2.2.2
    · rw [up_off _ _ _ (by decide), up_off _ _ _ (by decide), q2.2, e5]
