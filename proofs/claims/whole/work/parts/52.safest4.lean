/-- a further row from u by a place from i on -/
def Rf (M : ax_M) (e : Int) (i : Int) : Nat → Int → Int → Int → (Int → Prop) → Int → Prop
  | 0, _, _, _, _, _ => False
  | g + 1, u, t, c, V, x => ¬ u = M 61 1 ∧ ∃ v k, i ≤ v ∧ v < M 61 0 ∧ ¬ V v ∧ wt M (-1) (-1) e 0 u v t (M 61 3).toNat = k ∧ 0 ≤ k ∧ Rz M e g v (gg M (-1) (-1) e 0 k t) (c * nbt (1000 - M 68 k) (gg M (-1) (-1) e 0 k t).toNat / 1000000) (fun w => V w ∨ w = v) x
theorem rz_rf {M : ax_M} {e : Int} (f : Nat) {u t c x : Int} {V : Int → Prop} (h : Rz M e f u t c V x) : (u = M 61 1 ∧ x = c) ∨ Rf M e 0 f u t c V x := by
  cases f with
  | zero => exact Or.inl h
  | succ f =>
    rcases h with h | ⟨h1, v, k, v0, v1, h2, h3, h4, h5⟩
    · exact Or.inl h
    · exact Or.inr ⟨h1, v, k, v0, v1, h2, h3, h4, h5⟩
abbrev bfJ (post : Int → ax_M → Prop) (e x4 x5 x6 : Int) (M : ax_M) : Prop := ax_J Y_X11_bestFrom (ax_Ki Y_X11_bestFrom SH post) 0 0 41 [(0, aR 61), (3, aI e), (4, aI x4), (5, aI x5), (6, aL x6)] [] SH M
abbrev bfK (post : Int → ax_M → Prop) (e x4 x5 x6 u : Int) (M : ax_M) : Prop := ax_J Y_X11_bestFrom (ax_Ki Y_X11_bestFrom SH post) 0 0 86 [(0, aR 61), (3, aI e), (4, aI x4), (5, aI x5), (6, aL x6), (8, aI u)] [] SH M
def Bel (d : Int) (M M' : ax_M) : Prop := ∀ j, j < d → M' 92 j = M 92 j ∧ M' 93 j = M 93 j ∧ M' 94 j = M 94 j ∧ M' 95 j = M 95 j
theorem Bel.tr {d : Int} {M M1 M2 : ax_M} (h : Bel d M M1) (h2 : Bel d M1 M2) : Bel d M M2 := fun j hj => ⟨(h2 j hj).1.trans (h j hj).1, (h2 j hj).2.1.trans (h j hj).2.1, (h2 j hj).2.2.1.trans (h j hj).2.2.1, (h2 j hj).2.2.2.trans (h j hj).2.2.2⟩
theorem Bel.dn {d d' : Int} {M M' : ax_M} (hd : d' ≤ d) (h : Bel d M M') : Bel d' M M' := fun j hj => h j (by omega)
theorem Bel.up {d x v : Int} {M : ax_M} {a : Nat} (h : d ≤ x) : Bel d M (ax_up M a x v) := by
  intro j hj
  have hne : j ≠ x := by omega
  refine ⟨?_, ?_, ?_, ?_⟩ <;> (unfold ax_up; rw [if_neg (fun z => hne z.2)])
def Fr (M : ax_M) (d u t c i : Int) : Prop := M 92 d = u ∧ M 93 d = t ∧ M 94 d = c ∧ M 95 d = i
set_option maxHeartbeats 4000000 in
set_option maxRecDepth 100000 in
theorem S_bf {post : Int → ax_M → Prop} {M : ax_M} {e : Int} (hp : PitOk M) (hm : M 61 32 = -1) : ∀ (f r : Nat) (d i u t c x5 x6 : Int) (V : Int → Prop) (M' : ax_M), d + f = 6 → 0 ≤ d → i + r = M 61 0 → 0 ≤ i → Fr M' d u t c i → (0 ≤ u ∧ u < M 61 0) → (0 ≤ t ∧ t ≤ 99) → (0 ≤ c ∧ c ≤ 1000000) → (0 ≤ x6 ∧ x6 ≤ 1000000) → Ofs [92, 93, 94, 95] M M' → (∀ w, 0 ≤ w → w < M 61 0 → (tb x5 w = true ↔ V w)) → (∀ M2 x5' R, Ofs [92, 93, 94, 95] M M2 → Bel d M' M2 → (∀ w, 0 ≤ w → w < M 61 0 → (tb x5' w = true ↔ V w ∧ ¬ w = u)) → x6 ≤ R → R ≤ 1000000 → (∀ x, Rf M e i f u t c V x → x ≤ R) → (R = x6 ∨ Rz M e f u t c V R) → bfJ post e (d + (-1)) x5' R M2) → bfK post e d x5 x6 u M' := by
  have hb := hp.2.1
  have h12 : M 61 0 ≤ 12 := by have := hp.2.2; omega
  intro f
  induction f with
  | zero =>
    intro r d i u t c x5 x6 V M' hd hd0 hi hi0 fr hu ht hc hx6 o hV K
    have hlv : ax_J Y_X11_bestFrom (ax_Ki Y_X11_bestFrom SH post) 0 0 120 [(0, aR 61), (3, aI e), (4, aI d), (5, aI x5), (6, aL x6), (8, aI u)] [] SH M' := by
      refine B_X11_bestFrom_120 ⟨by omega, B_X11_bestFrom_271 (K M' _ x6 o (fun _ _ => ⟨rfl, rfl, rfl, rfl⟩) (fun w w0 w1 => ?_) (Int.le_refl _) hx6.2 (fun x hx => absurd hx id) (Or.inl rfl))⟩
      rw [tb_and, tb_xor, tb_m1 (by omega), tb_shl hu.1 (by omega) w0 (by omega), Bool.and_eq_true, hV w w0 w1]
      simp
    exact B_X11_bestFrom_86 ⟨by omega, fun _ => hlv, fun _ => ⟨fun _ => hlv, fun q => by omega⟩⟩
  | succ g ihg =>
    intro r
    induction r with
    | zero =>
      intro d i u t c x5 x6 V M' hd hd0 hi hi0 fr hu ht hc hx6 o hV K
      have hlv : ax_J Y_X11_bestFrom (ax_Ki Y_X11_bestFrom SH post) 0 0 120 [(0, aR 61), (3, aI e), (4, aI d), (5, aI x5), (6, aL x6), (8, aI u)] [] SH M' := by
        refine B_X11_bestFrom_120 ⟨by omega, B_X11_bestFrom_271 (K M' _ x6 o (fun _ _ => ⟨rfl, rfl, rfl, rfl⟩) (fun w w0 w1 => ?_) (Int.le_refl _) hx6.2 (fun x hx => ?_) (Or.inl rfl))⟩
        · rw [tb_and, tb_xor, tb_m1 (by omega), tb_shl hu.1 (by omega) w0 (by omega), Bool.and_eq_true, hV w w0 w1]
          simp
        · obtain ⟨-, v, k, v0, v1, -⟩ := hx
          omega
      refine B_X11_bestFrom_86 ⟨by omega, fun _ => hlv, fun _ => ⟨fun _ => hlv, fun _ => ⟨fun q => ?_, fun _ => hlv⟩⟩⟩
      rw [o 61 (by decide), fr.2.2.2] at q
      omega
    | succ r ihr =>
      intro d i u t c x5 x6 V M' hd hd0 hi hi0 fr hu ht hc hx6 o hV K
      have e61 : M' 61 = M 61 := o 61 (by decide)
      refine B_X11_bestFrom_86 ?_
      rw [e61, fr.2.2.2, fr.2.1]
      refine ⟨by omega, fun q => ?_, fun hns => ⟨fun q => by omega, fun _ => ⟨fun _ => ⟨by omega, ?_⟩, fun q => by omega⟩⟩⟩
      · refine B_X11_bestFrom_120 ⟨by omega, B_X11_bestFrom_271 (K M' _ x6 o (fun _ _ => ⟨rfl, rfl, rfl, rfl⟩) (fun w w0 w1 => ?_) (Int.le_refl _) hx6.2 (fun x hx => absurd q hx.1) (Or.inl rfl))⟩
        rw [tb_and, tb_xor, tb_m1 (by omega), tb_shl hu.1 (by omega) w0 (by omega), Bool.and_eq_true, hV w w0 w1]
        simp
      · generalize hM1 : ax_up M' 95 d (i + 1) = M1
        have o1 : Ofs [92, 93, 94, 95] M M1 := by rw [← hM1]; exact o.tr (Ofs.up (by decide))
        have b1 : Bel d M' M1 := by rw [← hM1]; exact Bel.up (Int.le_refl _)
        have fr1 : Fr M1 d u t c (i + 1) := by
          rw [← hM1]
          exact ⟨by rw [up_off _ _ _ (by decide)]; exact fr.1, by rw [up_off _ _ _ (by decide)]; exact fr.2.1, by rw [up_off _ _ _ (by decide)]; exact fr.2.2.1, up_at _ _ _ _⟩
        -- on with the next place
        have next : ∀ (M2 : ax_M) (y5 R : Int), Ofs [92, 93, 94, 95] M M2 → Bel d M' M2 → Fr M2 d u t c (i + 1) → (∀ w, 0 ≤ w → w < M 61 0 → (tb y5 w = true ↔ V w)) → x6 ≤ R → R ≤ 1000000 → (∀ x k, ¬ V i → wt M (-1) (-1) e 0 u i t (M 61 3).toNat = k → 0 ≤ k → Rz M e g i (gg M (-1) (-1) e 0 k t) (c * nbt (1000 - M 68 k) (gg M (-1) (-1) e 0 k t).toNat / 1000000) (fun w => V w ∨ w = i) x → x ≤ R) → (R = x6 ∨ Rz M e (g + 1) u t c V R) → bfJ post e d y5 R M2 := by
          intro M2 y5 R o2 b2 fr2 hy h1 h2 h3 h4
          have s61 : M2 61 = M 61 := o2 61 (by decide)
          refine B_X11_bestFrom_41 ?_
          rw [fr2.1, s61]
          refine ⟨fun q => by omega, fun _ => ⟨by omega, fun _ => ihr d (i + 1) u t c y5 R V M2 hd hd0 (by omega) (by omega) fr2 hu ht hc (by omega) o2 hy (fun M3 y R' o3 b3 hy3 q1 q2 q3 q4 => K M3 y R' o3 (b2.tr b3) hy3 (by omega) q2 (fun x hx => ?_) ?_), fun q => absurd q hns⟩⟩
          · obtain ⟨z, v, k, v0, v1, g1, g2, g3, g4⟩ := hx
            by_cases ev : v = i
            · subst ev
              exact Int.le_trans (h3 x k g1 g2 g3 g4) q1
            · exact q3 x ⟨z, v, k, by omega, v1, g1, g2, g3, g4⟩
          · rcases q4 with q4 | q4
            · rw [q4]; exact h4
            · exact Or.inr q4
        have ti := tb_yes (x := x5) (i := i) hi0 (by omega)
        have hVi := hV i hi0 (by omega)
        have hg : gg M1 = gg M := gg_ofs o1 (by decide)
        have pk1 : PitOk M1 := c_PitOk (o1 62 (by decide)) (o1 63 (by decide)) (o1 64 (by decide)) (o1 65 (by decide)) (o1 66 (by decide)) (o1 67 (by decide)) (o1 68 (by decide)) (by rw [o1 61 (by decide)]) (by rw [o1 61 (by decide)]) (by rw [o1 61 (by decide)]) (by rw [o1 61 (by decide)]) hp
        have s61 : M1 61 = M 61 := o1 61 (by decide)
        refine ⟨fun y => S_X11_wayTo pk1 ht ?_, fun y => B_X11_bestFrom_179 ⟨fun _ => B_X11_bestFrom_271 (next M1 x5 x6 o1 b1 fr1 hV (Int.le_refl _) hx6.2 (fun x k a => absurd (hVi.mp (ti.mp y)) a) (Or.inl rfl)), fun q => by omega⟩⟩
        have nV : ¬ V i := fun q => y (ti.mpr (hVi.mpr q))
        rw [s61, hm, wt_nm, wt_c (o1 62 (by decide)) (o1 63 (by decide)) hg]
        generalize hk : wt M (-1) (-1) e 0 u i t (M 61 3).toNat = k
        have ws := wt_sp M (-1) (-1) e 0 u i t (M 61 3).toNat
        rw [hk] at ws
        refine B_X11_bestFrom_179 ⟨fun q => B_X11_bestFrom_271 (next M1 x5 x6 o1 b1 fr1 hV (Int.le_refl _) hx6.2 (fun x k' a b c' => by omega) (Or.inl rfl)), fun hk0 => ⟨by omega, ?_⟩⟩
        have ws := ws.resolve_left (by omega)
        have hkn : k < M 61 3 := by omega
        have w0 := hp.1 k hk0 hkn
        rw [fr1.2.1]
        refine S_X11_through pk1 hk0 (by rw [s61]; exact hkn) ht.1 ht.2 ?_
        rw [s61, hm, gg_nomark, hg]
        have g9 := gg_99 hp (-1) (-1) e 0 (k := k) (t := t) hk0 hkn
        have g0 := ws.2.2.2
        generalize hq : gg M (-1) (-1) e 0 k t = t' at *
        have nb := nbt_rg (c := 1000 - M 68 k) (by omega) (by omega) t'.toNat
        have rr := mul_rg hc.1 hc.2 nb.1 nb.2
        have rr2 := mul_rg hc.1 (Int.le_refl c) nb.1 nb.2
        refine ⟨by omega, S_X11_opensOf hk0 (by omega) g0 g9 (by rw [o1 68 (by decide)]; omega) (by rw [o1 68 (by decide)]; omega) ?_⟩
        rw [o1 68 (by decide), fr1.2.2.1]
        generalize hcc : c * nbt (1000 - M 68 k) t'.toNat = cc at *
        refine ⟨by omega, by omega, by omega, B_X11_bestFrom_271 ?_⟩
        generalize hM2 : ax_up (ax_up (ax_up (ax_up M1 94 (d + 1) (cc / 1000000)) 92 (d + 1) i) 93 (d + 1) t') 95 (d + 1) 0 = M2
        have o2 : Ofs [92, 93, 94, 95] M M2 := by rw [← hM2]; exact (((o1.tr (Ofs.up (by decide))).tr (Ofs.up (by decide))).tr (Ofs.up (by decide))).tr (Ofs.up (by decide))
        have b2 : Bel (d + 1) M1 M2 := by rw [← hM2]; exact (((Bel.up (Int.le_refl _)).tr (Bel.up (Int.le_refl _))).tr (Bel.up (Int.le_refl _))).tr (Bel.up (Int.le_refl _))
        have fr2 : Fr M2 (d + 1) i t' (cc / 1000000) 0 := by
          rw [← hM2]
          refine ⟨?_, ?_, ?_, up_at _ _ _ _⟩
          · rw [up_off _ _ _ (by decide), up_off _ _ _ (by decide), up_at]
          · rw [up_off _ _ _ (by decide), up_at]
          · rw [up_off _ _ _ (by decide), up_off _ _ _ (by decide), up_off _ _ _ (by decide), up_at]
        have frd : ∀ M3, Bel (d + 1) M2 M3 → Fr M3 d u t c (i + 1) := by
          intro M3 b3
          have q1 := b3 d (by omega)
          have q2 := b2 d (by omega)
          exact ⟨q1.1.trans (q2.1.trans fr1.1), q1.2.1.trans (q2.2.1.trans fr1.2.1), q1.2.2.1.trans (q2.2.2.1.trans fr1.2.2.1), q1.2.2.2.trans (q2.2.2.2.trans fr1.2.2.2)⟩
        have vc : ∀ w, 0 ≤ w → w < M 61 0 → (tb (bo_or x5 (bo_shl 1 i)) w = true ↔ (V w ∨ w = i)) := by
          intro w w0 w1
          rw [tb_or, tb_shl hi0 (by omega) w0 (by omega), Bool.or_eq_true, hV w w0 w1]
          simp
        have go : ∀ y6, x6 ≤ y6 → y6 ≤ 1000000 → (i = M 61 1 → cc / 1000000 ≤ y6) → (y6 = x6 ∨ (i = M 61 1 ∧ y6 = cc / 1000000)) → bfK post e (d + 1) (bo_or x5 (bo_shl 1 i)) y6 i M2 := by
          intro y6 l1 l2 l3 l4
          refine ihg (M 61 0).toNat (d + 1) 0 i t' (cc / 1000000) _ y6 (fun w => V w ∨ w = i) M2 (by omega) (by omega) (by omega) (Int.le_refl _) fr2 ⟨hi0, by omega⟩ ⟨g0, g9⟩ (by omega) (by omega) o2 vc (fun M3 y R o3 b3 hy3 q1 q2 q3 q4 => ?_)
          have K3 := next M3 y R o3 (b1.tr ((b2.tr b3).dn (by omega))) (frd M3 b3) (fun w w0 w1 => ?_) (by omega) q2 (fun x k' a b c' hx => ?_) ?_
          · rw [show d + 1 + -1 = d by omega]
            exact K3
          · rw [hy3 w w0 w1]
            exact ⟨fun z => z.1.resolve_right z.2, fun z => ⟨Or.inl z, fun q => nV (by rw [← q]; exact z)⟩⟩
          · have ek : k = k' := hk.symm.trans b
            subst ek
            rw [hq, hcc] at hx
            rcases rz_rf g hx with z | z
            · rw [z.2]; have := l3 z.1; omega
            · exact q3 x z
          · have up1 : ∀ z, Rz M e g i t' (cc / 1000000) (fun w => V w ∨ w = i) z → Rz M e (g + 1) u t c V z := by
              intro z hz
              refine Or.inr ⟨hns, i, k, hi0, by omega, nV, hk, hk0, ?_⟩
              rw [hq, hcc]
              exact hz
            rcases q4 with q4 | q4
            · rcases l4 with l4 | l4
              · exact Or.inl (q4.trans l4)
              · refine Or.inr (up1 R ?_)
                rw [q4, l4.2]
                cases g with
                | zero => exact ⟨l4.1, rfl⟩
                | succ g => exact Or.inl ⟨l4.1, rfl⟩
            · exact Or.inr (up1 R q4)
        refine B_X11_bestFrom_41 ?_
        rw [fr2.1, fr2.2.2.1, o2 61 (by decide)]
        refine ⟨fun q => by omega, fun _ => ⟨by omega, fun q => go x6 (Int.le_refl _) hx6.2 (fun z => absurd z q) (Or.inl rfl), fun q => ⟨fun q1 => go x6 (Int.le_refl _) hx6.2 (fun _ => q1) (Or.inl rfl), fun q1 => go (cc / 1000000) (by omega) (by omega) (fun _ => Int.le_refl _) (Or.inr ⟨q, rfl⟩)⟩⟩⟩
set_option maxHeartbeats 4000000 in
set_option maxRecDepth 100000 in
theorem S_X11_safest {n : Int} {post : Int → ax_M → Prop} {M : ax_M} {x1 x2 x3 : Int} (hI : Inv n M) (hb : x1 < 0 ∨ M 61 0 ≤ x1 → post (-1001) M) (hb2 : ¬ (x1 < 0 ∨ M 61 0 ≤ x1) → (x2 < 0 ∨ 99 < x2 ∨ x3 < -1 ∨ 99 < x3) → post (-1002) M) (h : ¬ (x1 < 0 ∨ M 61 0 ≤ x1) → ¬ (x2 < 0 ∨ 99 < x2 ∨ x3 < -1 ∨ 99 < x3) → ∀ M' R, Sam M M' → Mz M x3 6 x1 x2 1000000 (fun w => w = x1) 0 R → post R M') : ax_Ti Y_X11_safest [aR 61, aI x1, aI x2, aI x3] SH M post := by
  have hnp := hI.1.1.2.2
  refine E_X11_safest (fun _ => ?_)
  refine ⟨by omega, fun c => hb (by omega), fun c => ⟨fun c1 => hb (by omega), fun c1 => ⟨fun c2 => hb2 (by omega) (by omega), fun c2 => ⟨fun c3 => hb2 (by omega) (by omega), fun c3 => ⟨fun c4 => hb2 (by omega) (by omega), fun c4 => ⟨fun c5 => hb2 (by omega) (by omega), fun c5 => ?_⟩⟩⟩⟩⟩⟩
  refine E_X11_bestFrom (fun _ => ?_)
  generalize hM2 : ax_up (ax_up (ax_up (ax_up M 92 0 x1) 93 0 x2) 94 0 1000000) 95 0 0 = M2
  have o2 : Ofs [92, 93, 94, 95] M M2 := by rw [← hM2]; exact (((Ofs.up (by decide)).tr (Ofs.up (by decide))).tr (Ofs.up (by decide))).tr (Ofs.up (by decide))
  have fr2 : Fr M2 0 x1 x2 1000000 0 := by
    rw [← hM2]
    refine ⟨?_, ?_, ?_, up_at _ _ _ _⟩
    · rw [up_off _ _ _ (by decide), up_off _ _ _ (by decide), up_off _ _ _ (by decide), up_at]
    · rw [up_off _ _ _ (by decide), up_off _ _ _ (by decide), up_at]
    · rw [up_off _ _ _ (by decide), up_at]
  have vc : ∀ w, 0 ≤ w → w < M 61 0 → (tb (bo_shl 1 x1) w = true ↔ w = x1) := by
    intro w w0 w1
    rw [tb_shl (by omega) (by omega) w0 (by omega)]
    simp
  have go : ∀ y6, 0 ≤ y6 → y6 ≤ 1000000 → (x1 = M 61 1 → 1000000 ≤ y6) → (y6 = 0 ∨ (x1 = M 61 1 ∧ y6 = 1000000)) → bfK post x3 0 (bo_shl 1 x1) y6 x1 M2 := by
    intro y6 l1 l2 l3 l4
    refine S_bf hI.1.1 hI.2.2.2.2.2.2.1 6 (M 61 0).toNat 0 0 x1 x2 1000000 _ y6 (fun w => w = x1) M2 (by omega) (Int.le_refl _) (by omega) (Int.le_refl _) fr2 (by omega) (by omega) (by omega) (by omega) o2 vc (fun M3 y R o3 b3 hy3 q1 q2 q3 q4 => ?_)
    refine B_X11_bestFrom_41 ⟨fun _ => ⟨by omega, h (by omega) (by omega) M3 R (sam_ofs o3 (by decide)) ⟨by omega, fun x hx => ?_, ?_⟩⟩, fun q => by omega⟩
    · rcases rz_rf 6 hx with z | z
      · rw [z.2]; have := l3 z.1; omega
      · exact q3 x z
    · rcases q4 with q4 | q4
      · rcases l4 with l4 | l4
        · exact Or.inl (q4.trans l4)
        · exact Or.inr (Or.inl ⟨l4.1, q4.trans l4.2⟩)
      · exact Or.inr q4
  refine B_X11_bestFrom_41 ?_
  rw [fr2.1, fr2.2.2.1, o2 61 (by decide)]
  exact ⟨fun q => by omega, fun _ => ⟨by omega, fun q => go 0 (by omega) (by omega) (fun z => absurd z q) (Or.inl rfl), fun q => ⟨fun q1 => by omega, fun q1 => go 1000000 (by omega) (by omega) (fun _ => Int.le_refl _) (Or.inr ⟨q, rfl⟩)⟩⟩⟩
theorem rz_sam {M M1 : ax_M} (s : Sam M M1) {e : Int} : ∀ (f : Nat) (u t c : Int) (vis : Int → Prop) (x : Int), Rz M1 e f u t c vis x ↔ Rz M e f u t c vis x := by
  have hg : gg M1 = gg M := gg_c (s.1 62 (by decide)) (s.1 63 (by decide)) (s.1 64 (by decide)) (s.1 65 (by decide)) (s.1 67 (by decide)) (s.1 69 (by decide))
  intro f
  induction f with
  | zero => intro u t c vis x; unfold Rz; rw [s.2 1 (by decide)]
  | succ f ih =>
    intro u t c vis x
    unfold Rz
    simp only [ih, s.2 0 (by decide), s.2 1 (by decide), s.2 3 (by decide), hg, wt_c (s.1 62 (by decide)) (s.1 63 (by decide)) hg, s.1 68 (by decide)]
theorem mz_sam {M M1 : ax_M} (s : Sam M M1) {e : Int} {f : Nat} {u t c b R : Int} {vis : Int → Prop} (h : Mz M1 e f u t c vis b R) : Mz M e f u t c vis b R :=
  ⟨h.1, fun x hx => h.2.1 x ((rz_sam s _ _ _ _ _ _).mpr hx), h.2.2.imp id (fun q => (rz_sam s _ _ _ _ _ _).mp q)⟩
theorem C_safest {n : Int} {M : ax_M} {x1 x2 x3 : Int} (hI : Inv n M) : ax_Ti Y_X10_safest [aR 0, aI x1, aI x2, aI x3] SH M (fun z1 u1 => ax_Ti Y_X11_safest [aR 61, aI x1, aI x2, aI x3] SH u1 (fun z2 u2 => z1 = z2 ∧ Inv (n + 1) u2)) := by
  refine S_X10_safest hI (fun c => S_X11_safest hI (fun _ => ⟨rfl, inv_up hI⟩) (fun d => absurd c d) (fun d => absurd c d)) (fun c c1 => S_X11_safest hI (fun d => absurd d c) (fun _ _ => ⟨rfl, inv_up hI⟩) (fun _ d => absurd c1 d)) (fun c c1 M1 R s1 hz => ?_)
  have e0 : M1 61 0 = M 61 0 := s1.2 0 (by decide)
  refine S_X11_safest (inv_sam s1 hI) (fun d => absurd (e0 ▸ d) c) (fun _ d => absurd d c1) (fun _ _ M2 R2 s2 hz2 => ⟨mz_un (fun _ _ _ => Iff.rfl) hz (mz_sam s1 hz2), inv_up (inv_sam s2 (inv_sam s1 hI))⟩)
