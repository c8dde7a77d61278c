/-- a told row, gone from t0 on: the step that is wrong, the minute, the chance, after i steps -/
def fo (M : ax_M) (ma me e s t0 : Int) : Nat → Int × Int × Int
  | 0 => (-1, t0, 1000000)
  | i + 1 => if ¬ (fo M ma me e s t0 i).1 = -1 then fo M ma me e s t0 i else if wt M ma me e s (M 91 i) (M 91 ((i : Int) + 1)) (fo M ma me e s t0 i).2.1 (M 61 3).toNat = -1 then ((i : Int) + 1, (fo M ma me e s t0 i).2.1, (fo M ma me e s t0 i).2.2) else (-1, gg M ma me e s (wt M ma me e s (M 91 i) (M 91 ((i : Int) + 1)) (fo M ma me e s t0 i).2.1 (M 61 3).toNat) (fo M ma me e s t0 i).2.1, (fo M ma me e s t0 i).2.2 * nbt (1000 - M 68 (wt M ma me e s (M 91 i) (M 91 ((i : Int) + 1)) (fo M ma me e s t0 i).2.1 (M 61 3).toNat)) (gg M ma me e s (wt M ma me e s (M 91 i) (M 91 ((i : Int) + 1)) (fo M ma me e s t0 i).2.1 (M 61 3).toNat) (fo M ma me e s t0 i).2.1).toNat / 1000000)
theorem fo_c {M M' : ax_M} (h2 : M' 62 = M 62) (h3 : M' 63 = M 63) (hg : gg M' = gg M) (h8 : M' 68 = M 68) (h91 : M' 91 = M 91) (h613 : M' 61 3 = M 61 3) (ma me e s t0 : Int) : ∀ i, fo M' ma me e s t0 i = fo M ma me e s t0 i
  | 0 => rfl
  | i + 1 => by
    rw [fo.eq_2, fo.eq_2, fo_c h2 h3 hg h8 h91 h613 ma me e s t0 i, hg, h8, h91, h613]
    simp only [wt_c h2 h3 hg]
theorem fo_bad {M : ax_M} {ma me e s t0 m c : Int} {i : Nat} (h : fo M ma me e s t0 i = (-1, m, c)) (hw : wt M ma me e s (M 91 i) (M 91 ((i : Int) + 1)) m (M 61 3).toNat = -1) : fo M ma me e s t0 (i + 1) = ((i : Int) + 1, m, c) := by
  rw [fo.eq_2, h]
  rw [if_neg (by simp), if_pos hw]
theorem fo_ok {M : ax_M} {ma me e s t0 m c k : Int} {i : Nat} (h : fo M ma me e s t0 i = (-1, m, c)) (hw : wt M ma me e s (M 91 i) (M 91 ((i : Int) + 1)) m (M 61 3).toNat = k) (hk : ¬ k = -1) : fo M ma me e s t0 (i + 1) = (-1, gg M ma me e s k m, c * nbt (1000 - M 68 k) (gg M ma me e s k m).toNat / 1000000) := by
  rw [fo.eq_2, h]
  simp only []
  rw [if_neg (by simp), hw, if_neg hk]
theorem fo_stay {M : ax_M} {ma me e s t0 : Int} {i : Nat} (h : ¬ (fo M ma me e s t0 i).1 = -1) : ∀ d, fo M ma me e s t0 (i + d) = fo M ma me e s t0 i
  | 0 => rfl
  | d + 1 => by
    have k := fo_stay h d
    have e2 : fo M ma me e s t0 (i + (d + 1)) = fo M ma me e s t0 ((i + d) + 1) := rfl
    rw [e2, fo.eq_2, k, if_pos h]
def Fin3 (N : Nat) (M M' : ax_M) (ma me e s t0 : Int) : Prop := Ofs [60] M M' ∧ M' 60 3 = (fo M ma me e s t0 N).1 ∧ M' 60 4 = (fo M ma me e s t0 N).2.1 ∧ M' 60 5 = (fo M ma me e s t0 N).2.2
theorem row_ofs {M M' : ax_M} (o : Ofs [60] M M') : gg M' = gg M := gg_c (o 62 (by decide)) (o 63 (by decide)) (o 64 (by decide)) (o 65 (by decide)) (o 67 (by decide)) (o 69 (by decide))
theorem prep_ofs {M M' : ax_M} {ma me e s : Int} (o : Ofs [60] M M') (h : Prep M ma me e s) : Prep M' ma me e s := by
  unfold Prep at *
  rw [o 61 (by decide), o 34 (by decide), o 35 (by decide), o 36 (by decide), o 37 (by decide), o 62 (by decide), o 63 (by decide), o 64 (by decide), o 65 (by decide), o 67 (by decide), o 69 (by decide)]
  exact h
set_option maxHeartbeats 4000000 in
set_option maxRecDepth 100000 in
theorem S_X4_follow {post : ax_M → Prop} {M : ax_M} {ma me e s t : Int} (hw : WX M) (hr : RowEq M) (hn : 1 ≤ M 61 50) (hP : Prep M ma me e s) (hma : -1 ≤ ma) (he : -1 ≤ e ∧ e ≤ 99) (hme : -1 ≤ me ∧ me ≤ 99) (ht : 0 ≤ t ∧ t ≤ 99) (h : ∀ M', Fin3 (M 61 50 - 1).toNat M M' ma me e s t → post M') : ax_Tv Y_X4_follow [aR 60, aI t] SH M post := by
  have hb := hw.1.2.1
  have L : ∀ (r i : Nat) (m c : Int) (M' : ax_M), (M 61 50).toNat = i + 1 + r → Ofs [60] M M' → fo M ma me e s t i = (-1, m, c) → M' 60 3 = -1 → M' 60 4 = m → M' 60 5 = c → (0 ≤ m ∧ m ≤ 99) → (0 ≤ c ∧ c ≤ 1000000) → ax_J Y_X4_follow (ax_Kv Y_X4_follow SH post) 0 0 18 [(0, aR 60), (2, aI ((i : Int) + 1))] [] SH M' := by
    intro r
    induction r with
    | zero =>
      intro i m c M' hi o hf h3 h4 h5 _ _
      refine B_X4_follow_18 ?_
      rw [o 31 (by decide), hr.1]
      refine ⟨fun _ => h M' ⟨o, ?_⟩, fun z => by omega⟩
      rw [show (M 61 50 - 1).toNat = i by omega, hf]
      exact ⟨h3, h4, h5⟩
    | succ r ih =>
      intro i m c M' hi o hf h3 h4 h5 hm hc
      have e61 : M' 61 = M 61 := o 61 (by decide)
      have hw' := wx_of o (by decide) hw
      have hgg := row_ofs o
      have e1 := (hr.2.2.2 i (by omega) (by omega)).1
      have e2 := (hr.2.2.2 ((i : Int) + 1) (by omega) (by omega)).1
      have h12 := hr.2.2.1
      refine B_X4_follow_18 ?_
      rw [o 31 (by decide), hr.1, o 32 (by decide), show (i : Int) + 1 - 1 = i by omega, e1, e2, h4]
      refine ⟨fun z => by omega, fun z => ⟨by omega, by omega, by omega, S_X9_choice hw' (prep_ofs o hP) hma he hme hm ?_⟩⟩
      rw [wt_c (o 62 (by decide)) (o 63 (by decide)) hgg, e61]
      have ws := wt_sp M ma me e s (M 91 i) (M 91 ((i : Int) + 1)) m (M 61 3).toNat
      generalize hk : wt M ma me e s (M 91 i) (M 91 ((i : Int) + 1)) m (M 61 3).toNat = k at ws
      refine ⟨fun y => ?_, fun y => h _ ⟨Ofs.tr o (Ofs.up (by decide)), ?_⟩⟩
      · have ws := ws.resolve_left y
        have w0 := hw.1.1 k ws.1 (by omega)
        have q := (hw.2.2.2.2.2 k ws.1 (by omega)).2.2.2.1
        have g9 := gg_99 hw.1 ma me e s (k := k) (t := m) ws.1 (by omega)
        rw [h4]
        refine S_X9_through hw'.1 (prep_ofs o hP) hma he hme ws.1 (by rw [e61]; omega) hm ?_
        rw [hgg]
        have nb := nbt_rg (c := 1000 - M 68 k) (by omega) (by omega) (gg M ma me e s k m).toNat
        have rr := mul_rg hc.1 hc.2 nb.1 nb.2
        have e7 : ax_up M' 60 4 (gg M ma me e s k m) 7 (k * 7 + 6) = M 68 k := by rw [up_off _ _ _ (by decide), o 7 (by decide)]; exact q
        refine S_X3_notBad ws.1 (by omega) (by omega) g9 (by rw [e7]; omega) (by rw [e7]; omega) ?_
        rw [e7, h5]
        refine ⟨by omega, by omega, by omega, by omega, ih (i + 1) _ _ _ (by omega) (Ofs.tr o (Ofs.tr (Ofs.up (by decide)) (Ofs.up (by decide)))) (fo_ok hf hk y) ?_ ?_ ?_ (by omega) (by omega)⟩
        · rw [up_ne _ _ _ (by decide), up_ne _ _ _ (by decide)]; exact h3
        · rw [up_ne _ _ _ (by decide), up_at]
        · rw [up_at]
      · have fb := fo_bad hf (by rw [hk]; exact y)
        have fs := fo_stay (i := i + 1) (by rw [fb]; show ¬ ((i : Int) + 1 = -1); omega) r
        rw [show (M 61 50 - 1).toNat = i + 1 + r by omega, fs, fb]
        refine ⟨?_, ?_, ?_⟩
        · rw [up_at]
        · rw [up_ne _ _ _ (by decide)]; exact h4
        · rw [up_ne _ _ _ (by decide)]; exact h5
  refine E_X4_follow (fun _ => L ((M 61 50).toNat - 1) 0 t 1000000 _ (by omega) (Ofs.tr (Ofs.up (by decide)) (Ofs.tr (Ofs.up (by decide)) (Ofs.up (by decide)))) rfl rfl rfl rfl ht (by omega))
def G61 (M M' : ax_M) : Prop := (∀ a, a ≠ 61 → M' a = M a) ∧ ∀ i, i ≠ 52 → i ≠ 53 → M' 61 i = M 61 i
theorem G61.sam {M M' : ax_M} (h : G61 M M') : Sam M M' := ⟨fun a ha => h.1 a (by rintro rfl; revert ha; decide), fun i hi => h.2 i (by rintro rfl; revert hi; decide) (by rintro rfl; revert hi; decide)⟩
theorem G61.up2 {M M' : ax_M} {v : Int} (h : G61 M M') : G61 M (ax_up M' 61 52 v) := ⟨fun a ha => by rw [up_off _ _ _ ha]; exact h.1 a ha, fun i a b => by rw [up_ne _ _ _ a]; exact h.2 i a b⟩
theorem G61.up3 {M M' : ax_M} {v : Int} (h : G61 M M') : G61 M (ax_up M' 61 53 v) := ⟨fun a ha => by rw [up_off _ _ _ ha]; exact h.1 a ha, fun i a b => by rw [up_ne _ _ _ b]; exact h.2 i a b⟩
theorem G61.rf {M : ax_M} : G61 M M := ⟨fun _ _ => rfl, fun _ _ _ => rfl⟩
theorem G61.pit {M M' : ax_M} (h : G61 M M') (hp : PitOk M) : PitOk M' := c_PitOk (h.1 62 (by decide)) (h.1 63 (by decide)) (h.1 64 (by decide)) (h.1 65 (by decide)) (h.1 66 (by decide)) (h.1 67 (by decide)) (h.1 68 (by decide)) (h.2 0 (by decide) (by decide)) (h.2 1 (by decide) (by decide)) (h.2 2 (by decide) (by decide)) (h.2 3 (by decide) (by decide)) hp
theorem G61.gg {M M' : ax_M} (h : G61 M M') : gg M' = gg M := gg_c (h.1 62 (by decide)) (h.1 63 (by decide)) (h.1 64 (by decide)) (h.1 65 (by decide)) (h.1 67 (by decide)) (h.1 69 (by decide))
set_option maxHeartbeats 4000000 in
set_option maxRecDepth 100000 in
theorem S_X11_goRow {post : Int → ax_M → Prop} {M : ax_M} {e s t : Int} (hp : PitOk M) (h12 : M 61 50 ≤ 12) (hn : 1 ≤ M 61 50) (ht : 0 ≤ t ∧ t ≤ 99) (h : ∀ M', G61 M M' → M' 61 52 = (fo M (M 61 32) (M 61 33) e s t (M 61 50 - 1).toNat).2.1 → M' 61 53 = (fo M (M 61 32) (M 61 33) e s t (M 61 50 - 1).toNat).2.2 → post (fo M (M 61 32) (M 61 33) e s t (M 61 50 - 1).toNat).1 M') : ax_Ti Y_X11_goRow [aR 61, aI t, aI e, aI s] SH M post := by
  have hb := hp.2.1
  generalize hma : M 61 32 = ma at h
  generalize hme : M 61 33 = me at h
  have L : ∀ (r i : Nat) (m c : Int) (M' : ax_M), (M 61 50).toNat = i + 1 + r → G61 M M' → fo M ma me e s t i = (-1, m, c) → M' 61 52 = m → M' 61 53 = c → (0 ≤ m ∧ m ≤ 99) → (0 ≤ c ∧ c ≤ 1000000) → ax_J Y_X11_goRow (ax_Ki Y_X11_goRow SH post) 0 0 15 [(0, aR 61), (2, aI e), (3, aI s), (4, aI ((i : Int) + 1))] [] SH M' := by
    intro r
    induction r with
    | zero =>
      intro i m c M' hi o hf h4 h5 _ _
      refine B_X11_goRow_15 ?_
      rw [o.2 50 (by decide) (by decide)]
      have k := h M' o
      rw [show (M 61 50 - 1).toNat = i by omega, hf] at k
      exact ⟨fun _ => k h4 h5, fun z => by omega⟩
    | succ r ih =>
      intro i m c M' hi o hf h4 h5 hm hc
      have e32 : M' 61 32 = ma := by rw [o.2 32 (by decide) (by decide)]; exact hma
      have e33 : M' 61 33 = me := by rw [o.2 33 (by decide) (by decide)]; exact hme
      have hgg := o.gg
      refine B_X11_goRow_15 ?_
      rw [o.2 50 (by decide) (by decide), o.1 91 (by decide), show (i : Int) + 1 - 1 = i by omega, h4]
      refine ⟨fun z => by omega, fun z => ⟨by omega, by omega, by omega, S_X11_wayTo (o.pit hp) hm ?_⟩⟩
      rw [wt_c (o.1 62 (by decide)) (o.1 63 (by decide)) hgg, e32, e33, o.2 3 (by decide) (by decide)]
      have ws := wt_sp M ma me e s (M 91 i) (M 91 ((i : Int) + 1)) m (M 61 3).toNat
      generalize hk : wt M ma me e s (M 91 i) (M 91 ((i : Int) + 1)) m (M 61 3).toNat = k at ws
      refine ⟨fun y => ?_, fun y => ?_⟩
      · have ws := ws.resolve_left (by omega)
        have w0 := hp.1 k ws.1 (by omega)
        have g9 := gg_99 hp ma me e s (k := k) (t := m) ws.1 (by omega)
        rw [h4]
        refine S_X11_through (o.pit hp) ws.1 (by rw [o.2 3 (by decide) (by decide)]; omega) hm.1 hm.2 ?_
        rw [hgg, e32, e33]
        have nb := nbt_rg (c := 1000 - M 68 k) (by omega) (by omega) (gg M ma me e s k m).toNat
        have rr := mul_rg hc.1 hc.2 nb.1 nb.2
        have e7 : ax_up M' 61 52 (gg M ma me e s k m) 68 k = M 68 k := by rw [up_off _ _ _ (by decide), o.1 68 (by decide)]
        refine S_X11_opensOf ws.1 (by omega) (by omega) g9 (by rw [e7]; omega) (by rw [e7]; omega) ?_
        rw [e7, h5]
        refine ⟨by omega, by omega, by omega, ih (i + 1) _ _ _ (by omega) o.up2.up3 (fo_ok hf hk (by omega)) ?_ ?_ (by omega) (by omega)⟩
        · rw [up_ne _ _ _ (by decide), up_at]
        · rw [up_at]
      · have k1 := h M' o
        have fb := fo_bad hf (by rw [hk]; omega)
        have fs := fo_stay (i := i + 1) (by rw [fb]; show ¬ ((i : Int) + 1 = -1); omega) r
        rw [show (M 61 50 - 1).toNat = i + 1 + r by omega, fs, fb] at k1
        exact k1 h4 h5
  refine E_X11_goRow (fun _ => L ((M 61 50).toNat - 1) 0 t 1000000 _ (by omega) G61.rf.up2.up3 rfl rfl rfl ht (by omega))
