set_option maxHeartbeats 4000000 in
set_option maxRecDepth 100000 in
theorem S_X4_goOn {M : ax_M} {e : Int} (hw : WX M) (hP : Prep M (-1) (-1) e 0) (he : -1 ≤ e ∧ e ≤ 99) : ∀ (f r : Nat) (u t c S d : Int) (M' : ax_M) (post : ax_M → Prop), f ≤ r → (0 ≤ d ∧ d + f = 7) → 0 ≤ u ∧ u < M 61 0 → 0 ≤ t ∧ t ≤ 99 → 0 ≤ c ∧ c ≤ 1000000 → Ofs [60] M M' → (∀ M2, Ofs [60] M M2 → Mz M e f u t c (fun w => tb S w = true) (M' 60 6) (M2 60 6) → post M2) → ax_Tv (Y_X4_goOnFrom (r + 1)) [aR 60, aI u, aI t, aI c, aI S, aI d] SH M' post := by
  have hb := hw.1.2.1
  have h12 : M 61 0 ≤ 12 := by have := hw.1.2.2; omega
  have e61 : M 6 1 = M 61 3 := hw.2.2.1
  have e62 : M 6 2 = M 61 1 := hw.2.2.2.1
  intro f
  induction f with
  | zero =>
    intro r u t c S d M' post hr hd hu ht hc o h
    refine E_X4_goOnFrom (fun _ => ?_)
    rw [o 6 (by decide), e62]
    refine ⟨fun z => ⟨fun z1 => by omega, fun z1 => h M' o ⟨Int.le_refl _, fun x hx => absurd hx.1 z, Or.inl rfl⟩⟩, fun z => h _ (o.tr (Ofs.up (by decide))) ?_⟩
    rw [up_at]
    refine ⟨by omega, fun x hx => by rw [hx.2]; omega, ?_⟩
    by_cases q : c ≤ M' 60 6
    · exact Or.inl (by omega)
    · exact Or.inr ⟨z, by omega⟩
  | succ f ihf =>
    intro r u t c S d M' post hr hd hu ht hc o h
    refine E_X4_goOnFrom (fun _ => ?_)
    rw [o 6 (by decide), e62]
    refine ⟨fun zu => ⟨fun z1 => ?_, fun z1 => by omega⟩, fun z => h _ (o.tr (Ofs.up (by decide))) ?_⟩
    · have L : ∀ (s k : Nat) (M2 : ax_M), (M 61 3).toNat = k + s → Ofs [60] M M2 → M' 60 6 ≤ M2 60 6 → (∀ v (j : Int), 0 ≤ v → v < M 61 0 → ¬ tb S v = true → wt M (-1) (-1) e 0 u v t (M 61 3).toNat = j → 0 ≤ j → j < k → ∀ x, Rz M e f v (gg M (-1) (-1) e 0 j t) (c * nbt (1000 - M 68 j) (gg M (-1) (-1) e 0 j t).toNat / 1000000) (fun w => tb S w = true ∨ w = v) x → x ≤ M2 60 6) → (M2 60 6 = M' 60 6 ∨ Rz M e (f + 1) u t c (fun w => tb S w = true) (M2 60 6)) → ax_J (Y_X4_goOnFrom (r + 1)) (ax_Kv (Y_X4_goOnFrom (r + 1)) SH post) 0 0 35 [(0, aR 60), (1, aI u), (2, aI t), (3, aI c), (4, aI S), (5, aI d), (6, aI k)] [] SH M2 := by
        intro s
        induction s with
        | zero =>
          intro k M2 hk o2 h1 h2 h3
          refine B_X4_goOnFrom_35 ?_
          rw [o2 6 (by decide)]
          refine ⟨fun _ => h M2 o2 ⟨h1, fun x hx => ?_, h3⟩, fun z => by omega⟩
          rcases hx with hx | ⟨_, v, j, v0, v1, g1, g2, g3, g4⟩
          · exact absurd hx.1 zu
          · have ws := wt_sp M (-1) (-1) e 0 u v t (M 61 3).toNat
            rw [g2] at ws
            exact h2 v j v0 v1 g1 g2 g3 (by omega) x g4
        | succ s ih =>
          intro k M2 hk o2 h1 h2 h3
          have w0 := hw.1.1 k (by omega) (by omega)
          have f61 : M2 61 = M 61 := o2 61 (by decide)
          have hw2 := wx_of o2 (by decide) hw
          have skip : (∀ v, 0 ≤ v → v < M 61 0 → ¬ tb S v = true → wt M (-1) (-1) e 0 u v t (M 61 3).toNat = k → ∀ x, Rz M e f v (gg M (-1) (-1) e 0 k t) (c * nbt (1000 - M 68 k) (gg M (-1) (-1) e 0 k t).toNat / 1000000) (fun w => tb S w = true ∨ w = v) x → x ≤ M2 60 6) → ax_J (Y_X4_goOnFrom (r + 1)) (ax_Kv (Y_X4_goOnFrom (r + 1)) SH post) 0 0 35 [(0, aR 60), (1, aI u), (2, aI t), (3, aI c), (4, aI S), (5, aI d), (6, aI ((k : Int) + 1))] [] SH M2 := by
            intro hn
            refine ih (k + 1) M2 (by omega) o2 h1 (fun v j v0 v1 g1 g2 g3 g4 => ?_) h3
            by_cases q : j = k
            · subst q; exact hn v v0 v1 g1 g2
            · exact h2 v j v0 v1 g1 g2 g3 (by omega)
          refine B_X4_goOnFrom_35 ?_
          rw [o2 6 (by decide)]
          refine ⟨fun _ => by omega, fun z => S_X3_touches hw2 (by omega) (by rw [f61]; omega) (fun z1 hz1 => ⟨fun y => S_X3_beyond hw2 (by omega) (by rw [f61]; omega) ?_, fun y => ⟨by omega, skip (fun v v0 v1 g1 g2 x _ => ?_)⟩⟩)⟩
          · rw [o2 62 (by decide), o2 63 (by decide)] at hz1 ⊢
            generalize hv : (if M 62 k = u then M 63 k else M 62 k) = v
            have hvr : 0 ≤ v ∧ v < M 61 0 ∧ Jn M k u v := by
              unfold Jn
              by_cases q : M 62 k = u
              · rw [if_pos q] at hv; omega
              · rw [if_neg q] at hv; omega
            have only : ∀ v', wt M (-1) (-1) e 0 u v' t (M 61 3).toNat = k → v' = v := by
              intro v' g
              have ws := wt_sp M (-1) (-1) e 0 u v' t (M 61 3).toNat
              rw [g] at ws
              have ws := (ws.resolve_left (by omega)).2.2.1
              have j2 := hvr.2.2
              unfold Jn at ws j2
              omega
            have t4 := tb_shr (x := S) (i := v) hvr.1 (by omega)
            refine ⟨fun y1 => ⟨by omega, skip (fun v' v0 v1 g1 g2 x _ => ?_)⟩, fun y1 => ?_⟩
            · rw [only v' g2] at g1
              rw [t4, if_neg g1] at y1
              exact absurd rfl y1
            · have nS : ¬ tb S v = true := by
                intro q
                rw [t4, if_pos q] at y1
                exact absurd y1 (by decide)
              have hgg := row_ofs o2
              refine S_X9_choice hw2 (prep_ofs o2 hP) (by omega) he (by omega) ht ?_
              rw [wt_c (o2 62 (by decide)) (o2 63 (by decide)) hgg, f61]
              have ws := wt_sp M (-1) (-1) e 0 u v t (M 61 3).toNat
              refine ⟨fun y2 => ?_, fun y2 => ⟨by omega, skip (fun v' v0 v1 g1 g2 x _ => ?_)⟩⟩
              · rw [y2] at ws
                have ws := ws.resolve_left (by omega)
                have q68 := (hw.2.2.2.2.2 k (by omega) (by omega)).2.2.2.1
                have g9 := gg_99 hw.1 (-1) (-1) e 0 (k := k) (t := t) (by omega) (by omega)
                refine S_X9_through hw2.1 (prep_ofs o2 hP) (by omega) he (by omega) (by omega) (by rw [f61]; omega) ht ?_
                rw [hgg]
                have nb := nbt_rg (c := 1000 - M 68 k) (by omega) (by omega) (gg M (-1) (-1) e 0 k t).toNat
                have rr := mul_rg hc.1 (Int.le_refl c) nb.1 nb.2
                have e7 : M2 7 ((k : Int) * 7 + 6) = M 68 k := by rw [o2 7 (by decide)]; exact q68
                refine S_X3_notBad (by omega) (by omega) (by omega) g9 (by rw [e7]; omega) (by rw [e7]; omega) ?_
                rw [e7]
                generalize hc' : c * nbt (1000 - M 68 k) (gg M (-1) (-1) e 0 k t).toNat = cc at *
                refine ⟨by omega, by omega, by omega, fun y3 => ⟨by omega, skip (fun v' v0 v1 g1 g2 x hx => ?_)⟩, fun y3 => ⟨by omega, ?_⟩⟩
                · have := rz_rg hw.1 f (by omega) (by omega) hx
                  omega
                · obtain ⟨r', rfl⟩ : ∃ r', r = r' + 1 := ⟨r - 1, by omega⟩
                  refine ihf r' v _ _ _ (d + 1) M2 _ (by omega) (by omega) ⟨hvr.1, hvr.2.1⟩ (by omega) (by omega) o2 (fun M3 o3 hz => ⟨by omega, ?_⟩)
                  have vc : ∀ w, 0 ≤ w → w < M 61 0 → (tb (bo_or S (bo_shl 1 v)) w = true ↔ (tb S w = true ∨ w = v)) := by
                    intro w w0 w1
                    rw [tb_or, tb_shl hvr.1 (by omega) w0 (by omega), Bool.or_eq_true]
                    simp
                  refine ih (k + 1) M3 (by omega) o3 (Int.le_trans h1 hz.1) (fun v' j v0 v1 g1 g2 g3 g4 x hx => ?_) ?_
                  · by_cases q : j = k
                    · subst q
                      have ev := only v' g2
                      subst ev
                      rw [hc'] at hx
                      exact hz.2.1 x (rz_c f (fun w w0 w1 => (vc w w0 w1).symm) hx)
                    · exact Int.le_trans (h2 v' j v0 v1 g1 g2 g3 (by omega) x hx) hz.1
                  · rcases hz.2.2 with q | q
                    · rw [q]; exact h3
                    · refine Or.inr (Or.inr ⟨zu, v, k, hvr.1, hvr.2.1, nS, y2, by omega, ?_⟩)
                      rw [hc']
                      exact rz_c f vc q
              · have ev := only v' g2
                subst ev
                exact absurd g2 y2
          · have ws := wt_sp M (-1) (-1) e 0 u v t (M 61 3).toNat
            rw [g2] at ws
            have ws := (ws.resolve_left (by omega)).2.2.1
            rw [o2 62 (by decide), o2 63 (by decide)] at hz1
            unfold Jn at ws
            omega
      exact L _ 0 M' (Nat.zero_add _).symm o (Int.le_refl _) (fun v j _ _ _ _ a b => by omega) (Or.inl rfl)
    · rw [up_at]
      refine ⟨by omega, fun x hx => ?_, ?_⟩
      · rcases hx with hx | hx
        · rw [hx.2]; omega
        · exact absurd z hx.1
      · by_cases q : c ≤ M' 60 6
        · exact Or.inl (by omega)
        · exact Or.inr (Or.inl ⟨z, by omega⟩)
