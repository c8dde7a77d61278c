/-- the class's pit is the reference's -/
def PitEq (M : ax_M) : Prop := M 6 0 = M 61 0 ∧ M 6 1 = M 61 3 ∧ M 6 2 = M 61 1 ∧ M 6 3 = M 61 2 ∧ ∀ k, 0 ≤ k → k < M 61 3 → (M 7 (k * 7 + 0) = M 62 k ∧ M 7 (k * 7 + 1) = M 63 k ∧ M 7 (k * 7 + 2) = M 64 k ∧ M 7 (k * 7 + 3) = M 65 k) ∧ (M 7 (k * 7 + 4) = M 66 k ∧ M 7 (k * 7 + 5) = M 67 k ∧ M 7 (k * 7 + 6) = M 68 k ∧ M 14 k = M 69 k)
def WX (M : ax_M) : Prop := PitOk M ∧ PitEq M
theorem wx_of {l : List Nat} {M M' : ax_M} (h : Ofs l M M') (hl : [6, 7, 14, 61, 62, 63, 64, 65, 66, 67, 68, 69].all (fun a => !l.contains a) = true) (hw : WX M) : WX M' := by
  have e : ∀ a, a ∈ [6, 7, 14, 61, 62, 63, 64, 65, 66, 67, 68, 69] → M' a = M a := fun a ha => h a (fun z => by
    have h1 := List.all_eq_true.mp hl a ha
    simp at h1
    exact h1 z)
  have e6 := e 6 (by decide)
  have e7 := e 7 (by decide)
  have e14 := e 14 (by decide)
  have e61 := e 61 (by decide)
  have e62 := e 62 (by decide)
  have e63 := e 63 (by decide)
  have e64 := e 64 (by decide)
  have e65 := e 65 (by decide)
  have e66 := e 66 (by decide)
  have e67 := e 67 (by decide)
  have e68 := e 68 (by decide)
  have e69 := e 69 (by decide)
  unfold WX PitOk WayOk PitEq at *
  rw [e6, e7, e14, e61, e62, e63, e64, e65, e66, e67, e68, e69]
  exact hw
theorem gg_ofs {l : List Nat} {M M' : ax_M} (h : Ofs l M M') (hl : [62, 63, 64, 65, 67, 69].all (fun a => !l.contains a) = true) : gg M' = gg M := by
  have e : ∀ a, a ∈ [62, 63, 64, 65, 67, 69] → M' a = M a := fun a ha => h a (fun z => by
    have h1 := List.all_eq_true.mp hl a ha
    simp at h1
    exact h1 z)
  funext ma me e' s k t
  unfold gg
  rw [e 62 (by decide), e 63 (by decide), e 64 (by decide), e 65 (by decide), e 67 (by decide), e 69 (by decide)]
theorem hh_ofs {l : List Nat} {M M' : ax_M} (h : Ofs l M M') (hl : [62, 63, 64, 65, 67, 69].all (fun a => !l.contains a) = true) : hh M' = hh M := by
  have e : ∀ a, a ∈ [62, 63, 64, 65, 67, 69] → M' a = M a := fun a ha => h a (fun z => by
    have h1 := List.all_eq_true.mp hl a ha
    simp at h1
    exact h1 z)
  funext ma me e' s k t
  unfold hh hB
  rw [e 62 (by decide), e 63 (by decide), e 64 (by decide), e 65 (by decide), e 67 (by decide), e 69 (by decide)]
theorem S_X3_touches {post : Int → ax_M → Prop} {M : ax_M} {k p : Int} (hw : WX M) (hk : 0 ≤ k) (hkn : k < M 61 3) (h : ∀ z, (z = 1 ∧ (M 62 k = p ∨ M 63 k = p) ∨ z = 0 ∧ ¬ (M 62 k = p ∨ M 63 k = p)) → post z M) : ax_Ti Y_X3_touches [aR 6, aI k, aI p] SH M post := by
  have hb := hw.1.2.1
  obtain ⟨e, -⟩ := hw.2.2.2.2.2 k hk hkn
  refine E_X3_touches (fun _ => ⟨by omega, by omega, by omega, fun c => h 1 (by omega), fun c => ⟨by omega, by omega, fun c1 => h 0 (by omega), fun c1 => h 1 (by omega)⟩⟩)
theorem S_X3_beyond {post : Int → ax_M → Prop} {M : ax_M} {k p : Int} (hw : WX M) (hk : 0 ≤ k) (hkn : k < M 61 3) (h : post (if M 62 k = p then M 63 k else M 62 k) M) : ax_Ti Y_X3_beyond [aR 6, aI k, aI p] SH M post := by
  have hb := hw.1.2.1
  obtain ⟨⟨e0, e1, -, -⟩, -⟩ := hw.2.2.2.2.2 k hk hkn
  refine E_X3_beyond (fun _ => ⟨by omega, by omega, by omega, fun c => ?_, fun c => ⟨by omega, by omega, ?_⟩⟩)
  · rw [e0] at c ⊢
    rw [if_neg c] at h
    exact h
  · rw [e0] at c
    rw [e1]
    rw [if_pos c] at h
    exact h
def Prep (M : ax_M) (ma me e s : Int) : Prop := ∀ k, 0 ≤ k → k < M 61 3 → M 34 k = gx s * M 64 k ∧ M 35 k = (if M 65 k < 0 then -1 else gx s * M 65 k) ∧ M 36 k = (if M 62 k = ma ∨ M 63 k = ma then max e me else e) ∧ M 37 k = (if M 69 k = 0 then M 67 k else -1)
def PrepK (M0 M : ax_M) (ma me e s n : Int) : Prop := ∀ k, 0 ≤ k → k < n → M 34 k = gx s * M0 64 k ∧ M 35 k = (if M0 65 k < 0 then -1 else gx s * M0 65 k) ∧ M 36 k = (if M0 62 k = ma ∨ M0 63 k = ma then max e me else e) ∧ M 37 k = (if M0 69 k = 0 then M0 67 k else -1)
set_option maxHeartbeats 4000000 in
set_option maxRecDepth 100000 in
theorem S_X9_prepareMarked {post : ax_M → Prop} {M : ax_M} {ma me e s : Int} (hw : WX M) (he : -1 ≤ e ∧ e ≤ 99) (hme : -1 ≤ me ∧ me ≤ 99) (h : ∀ M', Ofs [34, 35, 36, 37] M M' → Prep M' ma me e s → post M') : ax_Tv Y_X9_prepareMarked [aR 33, aI e, aI s, aI ma, aI me] SH M post := by
  have hb := hw.1.2.1
  have key : ∀ (j : Nat) (k : Int) (M1 : ax_M), 0 ≤ k → k + (j : Int) = M 61 3 → Ofs [34, 35, 36, 37] M M1 → PrepK M M1 ma me e s k → ax_J Y_X9_prepareMarked (ax_Kv Y_X9_prepareMarked SH post) 0 0 14 [(0, aR 33), (1, aI e), (3, aI ma), (4, aI me), (5, aI (gx s)), (6, aI k)] [] SH M1 := by
    intro j
    induction j with
    | zero =>
      intro k M1 hk hkj hO hP
      have hk3 : k = M 61 3 := by omega
      refine B_X9_prepareMarked_14 ⟨fun _ => h M1 hO ?_, fun c => ?_⟩
      · unfold Prep
        rw [hO 61 (by decide), hO 62 (by decide), hO 63 (by decide), hO 64 (by decide), hO 65 (by decide), hO 67 (by decide), hO 69 (by decide)]
        rw [hk3] at hP
        exact hP
      · rw [hO 6 (by decide), hw.2.2.1] at c; omega
    | succ j ih =>
      intro k M1 hk hkj hO hP
      have hkn : k < M 61 3 := by omega
      obtain ⟨⟨f0, f1, f2, f3⟩, f4, f5, f6, f7⟩ := hw.2.2.2.2.2 k hk hkn
      obtain ⟨b0, b1, b2⟩ := hw.1.1 k hk hkn
      have e7 := hO 7 (by decide)
      have e6 := hO 6 (by decide)
      have e14 := hO 14 (by decide)
      have hk24 : 0 ≤ k ∧ k < 24 := by omega
      have g64 : 0 ≤ gx s * M 64 k ∧ gx s * M 64 k ≤ 60 := by rcases gx_12 s with hs | hs <;> rw [hs] <;> omega
      have hw1 : ∀ M2, Ofs [34, 35, 36, 37] M M2 → WX M2 := fun M2 h2 => wx_of h2 (by decide) hw
      have J143 : ∀ (M2 : ax_M) (v : Int), Ofs [34, 35, 36, 37] M M2 → PrepK M M2 ma me e s k → M2 34 k = gx s * M 64 k → M2 35 k = (if M 65 k < 0 then -1 else gx s * M 65 k) → M2 36 k = (if M 62 k = ma ∨ M 63 k = ma then max e me else e) → v = (if M 69 k = 0 then M 67 k else -1) → ax_J Y_X9_prepareMarked (ax_Kv Y_X9_prepareMarked SH post) 0 0 143 [(0, aR 33), (1, aI e), (3, aI ma), (4, aI me), (5, aI (gx s)), (6, aI k)] [aI v, aI k, aR 37] SH M2 := by
        intro M2 v h1 h2 h3 h4 h5 h6
        refine B_X9_prepareMarked_143 ⟨hk24, by omega, ih (k + 1) _ (by omega) (by omega) (h1.tr (Ofs.up (by decide))) (fun k' q0 q1 => ?_)⟩
        rw [up_off M2 k v (by decide : 34 ≠ 37), up_off M2 k v (by decide : 35 ≠ 37), up_off M2 k v (by decide : 36 ≠ 37)]
        by_cases hkk : k' = k
        · subst hkk
          rw [up_at]
          exact ⟨h3, h4, h5, h6⟩
        · rw [up_ne M2 37 v hkk]
          exact h2 k' q0 (by omega)
      have J109 : ∀ (M2 : ax_M) (v : Int), Ofs [34, 35, 36, 37] M M2 → PrepK M M2 ma me e s k → M2 34 k = gx s * M 64 k → M2 35 k = (if M 65 k < 0 then -1 else gx s * M 65 k) → v = (if M 62 k = ma ∨ M 63 k = ma then max e me else e) → ax_J Y_X9_prepareMarked (ax_Kv Y_X9_prepareMarked SH post) 0 0 109 [(0, aR 33), (1, aI e), (3, aI ma), (4, aI me), (5, aI (gx s)), (6, aI k)] [aI v, aI k, aR 36] SH M2 := by
        intro M2 v h1 h2 h3 h4 h5
        have hO3 : Ofs [34, 35, 36, 37] M (ax_up M2 36 k v) := h1.tr (Ofs.up (by decide))
        have hP3 : PrepK M (ax_up M2 36 k v) ma me e s k := by
          intro k' q0 q1
          rw [up_off M2 k v (by decide : 34 ≠ 36), up_off M2 k v (by decide : 35 ≠ 36), up_off M2 k v (by decide : 37 ≠ 36), up_ne M2 36 v (by omega)]
          exact h2 k' q0 q1
        refine B_X9_prepareMarked_109 ⟨hk24, hk24, ⟨fun c => ⟨by omega, by omega, by omega, J143 _ _ hO3 hP3 ?_ ?_ ?_ ?_⟩, fun c => J143 _ _ hO3 hP3 ?_ ?_ ?_ ?_⟩⟩
        · rw [up_off M2 k v (by decide : 34 ≠ 36)]; exact h3
        · rw [up_off M2 k v (by decide : 35 ≠ 36)]; exact h4
        · rw [up_at]; exact h5
        · rw [h1 14 (by decide), f7] at c
          rw [h1 7 (by decide), f5, if_pos c]
        · rw [up_off M2 k v (by decide : 34 ≠ 36)]; exact h3
        · rw [up_off M2 k v (by decide : 35 ≠ 36)]; exact h4
        · rw [up_at]; exact h5
        · rw [h1 14 (by decide), f7] at c
          rw [if_neg c]
      have J79 : ∀ (M2 : ax_M) (v : Int), Ofs [34, 35, 36, 37] M M2 → PrepK M M2 ma me e s k → M2 34 k = gx s * M 64 k → v = (if M 65 k < 0 then -1 else gx s * M 65 k) → ax_J Y_X9_prepareMarked (ax_Kv Y_X9_prepareMarked SH post) 0 0 79 [(0, aR 33), (1, aI e), (3, aI ma), (4, aI me), (5, aI (gx s)), (6, aI k)] [aI v, aI k, aR 35] SH M2 := by
        intro M2 v h1 h2 h3 h4
        have hO3 : Ofs [34, 35, 36, 37] M (ax_up M2 35 k v) := h1.tr (Ofs.up (by decide))
        have hP3 : PrepK M (ax_up M2 35 k v) ma me e s k := by
          intro k' q0 q1
          rw [up_off M2 k v (by decide : 34 ≠ 35), up_off M2 k v (by decide : 36 ≠ 35), up_off M2 k v (by decide : 37 ≠ 35), up_ne M2 35 v (by omega)]
          exact h2 k' q0 q1
        have h34 : ax_up M2 35 k v 34 k = gx s * M 64 k := by rw [up_off M2 k v (by decide : 34 ≠ 35)]; exact h3
        have h35 : ax_up M2 35 k v 35 k = (if M 65 k < 0 then -1 else gx s * M 65 k) := by rw [up_at]; exact h4
        refine B_X9_prepareMarked_79 ⟨hk24, S_X3_touches (hw1 _ hO3) hk (by rw [hO3 61 (by decide)]; exact hkn) (fun z hz => ?_)⟩
        rw [hO3 62 (by decide), hO3 63 (by decide)] at hz
        refine ⟨fun c => J109 _ _ hO3 hP3 h34 h35 ?_, fun c => J109 _ _ hO3 hP3 h34 h35 ?_⟩
        · rw [if_neg (by omega)]
        · rw [if_pos (by omega)]
      have hO3 : Ofs [34, 35, 36, 37] M (ax_up M1 34 k (gx s * M1 7 (k * 7 + 2))) := hO.tr (Ofs.up (by decide))
      have hP3 : PrepK M (ax_up M1 34 k (gx s * M1 7 (k * 7 + 2))) ma me e s k := by
        intro k' q0 q1
        rw [up_off M1 _ _ (by decide : 35 ≠ 34), up_off M1 _ _ (by decide : 36 ≠ 34), up_off M1 _ _ (by decide : 37 ≠ 34), up_ne M1 34 _ (by omega)]
        exact hP k' q0 q1
      have h34 : ax_up M1 34 k (gx s * M1 7 (k * 7 + 2)) 34 k = gx s * M 64 k := by rw [up_at, e7, f2]
      have g65 : ¬ M 65 k = -1 → 0 ≤ gx s * M 65 k ∧ gx s * M 65 k ≤ 120 := by
        intro hn
        rcases gx_12 s with hs | hs <;> rw [hs] <;> omega
      refine B_X9_prepareMarked_14 ⟨fun c => by rw [e6, hw.2.2.1] at c; omega, fun c => ⟨by omega, by omega, by omega, by omega, by omega, by rw [e7, f2]; omega, hk24, ⟨fun c1 => ⟨?_, J79 _ _ hO3 hP3 h34 ?_⟩, fun c1 => J79 _ _ hO3 hP3 h34 ?_⟩⟩⟩
      · rw [e7, f3] at c1 ⊢
        have := g65 c1
        omega
      · rw [e7, f3] at c1 ⊢
        rw [if_neg (by omega)]
      · rw [e7, f3] at c1
        rw [if_pos (by omega)]
  have h0 := key (M 61 3).toNat 0 M (Int.le_refl _) (by omega) Ofs.rf (fun k' q0 q1 => by omega)
  refine E_X9_prepareMarked (fun _ => ⟨fun c => B_X9_prepareMarked_9 ?_, fun c => B_X9_prepareMarked_9 ?_⟩)
  · have : gx s = 1 := if_pos c
    rw [this] at h0; exact h0
  · have : gx s = 2 := if_neg c
    rw [this] at h0; exact h0
theorem prep_hB {M : ax_M} {ma me e s k : Int} (hp : PitOk M) (hP : Prep M ma me e s) (hma : -1 ≤ ma) (hk : 0 ≤ k) (hkn : k < M 61 3) : hB M ma me e k = M 36 k := by
  obtain ⟨p0, p1, p2, p3⟩ := hP k hk hkn
  obtain ⟨b0, -, -⟩ := hp.1 k hk hkn
  rw [p2]
  unfold hB
  by_cases h : M 62 k = ma ∨ M 63 k = ma
  · rw [if_pos h, if_pos h, if_pos (by omega)]
  · rw [if_neg h, if_neg h]
theorem prep_gg {M : ax_M} {ma me e s k t : Int} (hp : PitOk M) (hP : Prep M ma me e s) (hma : -1 ≤ ma) (hk : 0 ≤ k) (hkn : k < M 61 3) (ht : 0 ≤ t) : gg M ma me e s k t = gcore (M 34 k) (M 35 k) (M 36 k) (M 37 k) t := by
  rw [gg_core hp ma me e s hk hkn ht, prep_hB hp hP hma hk hkn]
  obtain ⟨p0, p1, p2, p3⟩ := hP k hk hkn
  rw [p0, p1, p3]
theorem prep_r {M : ax_M} {ma me e s k : Int} (hp : PitOk M) (hP : Prep M ma me e s) (he : -1 ≤ e ∧ e ≤ 99) (hme : -1 ≤ me ∧ me ≤ 99) (hk : 0 ≤ k) (hkn : k < M 61 3) : (1 ≤ M 34 k ∧ M 34 k ≤ 60) ∧ (M 35 k = -1 ∨ (M 34 k ≤ M 35 k ∧ M 35 k ≤ 120)) ∧ (-1 ≤ M 36 k ∧ M 36 k ≤ 99) ∧ (-1 ≤ M 37 k ∧ M 37 k ≤ 99) := by
  obtain ⟨b0, b1, b2⟩ := hp.1 k hk hkn
  obtain ⟨p0, p1, p2, p3⟩ := hP k hk hkn
  refine ⟨by rw [p0]; rcases gx_12 s with hs | hs <;> rw [hs] <;> omega, ?_, by rw [p2]; split <;> omega, by rw [p3]; split <;> omega⟩
  rw [p1, p0]
  by_cases h5 : M 65 k < 0
  · rw [if_pos h5]; exact Or.inl rfl
  · rw [if_neg h5]; right; rcases gx_12 s with hs | hs <;> rw [hs] <;> omega
theorem S_X9_through {post : Int → ax_M → Prop} {M : ax_M} {ma me e s k t : Int} (hp : PitOk M) (hP : Prep M ma me e s) (hma : -1 ≤ ma) (he : -1 ≤ e ∧ e ≤ 99) (hme : -1 ≤ me ∧ me ≤ 99) (hk : 0 ≤ k) (hkn : k < M 61 3) (ht : 0 ≤ t ∧ t ≤ 99) (h : post (gg M ma me e s k t) M) : ax_Ti Y_X9_through [aR 33, aI k, aI t] SH M post := by
  have hb := hp.2.1
  obtain ⟨r34, r35, r36, r37⟩ := prep_r hp hP he hme hk hkn
  rw [prep_gg hp hP hma hk hkn ht.1] at h
  unfold gcore at h
  refine E_X9_through (fun _ => ⟨by omega, by omega, fun c => ⟨fun c1 => ?_, fun c1 => ?_⟩, fun c => ⟨fun c1 => ⟨by omega, fun c2 => ?_, fun c2 => ?_⟩, fun c1 => ?_⟩⟩)
  · rw [if_pos c, if_neg (by omega)] at h; exact h
  · rw [if_pos c, if_pos c1] at h; exact h
  · rw [if_neg (by omega), if_neg c1, if_neg (by omega)] at h; exact h
  · rw [if_neg (by omega), if_neg c1, if_pos c2] at h; exact h
  · rw [if_neg (by omega), if_pos c1] at h; exact h
theorem prep_hh {M : ax_M} {ma me e s k b : Int} (hp : PitOk M) (hP : Prep M ma me e s) (hma : -1 ≤ ma) (hk : 0 ≤ k) (hkn : k < M 61 3) : hh M ma me e s k b = hcore (M 34 k) (M 35 k) (M 36 k) (min b (M 37 k)) := by
  unfold hh
  rw [prep_hB hp hP hma hk hkn]
  obtain ⟨p0, p1, p2, p3⟩ := hP k hk hkn
  rw [p0, p1, p3]
theorem S_X9_lastInto {post : Int → ax_M → Prop} {M : ax_M} {ma me e s k b : Int} (hp : PitOk M) (hP : Prep M ma me e s) (hma : -1 ≤ ma) (he : -1 ≤ e ∧ e ≤ 99) (hme : -1 ≤ me ∧ me ≤ 99) (hk : 0 ≤ k) (hkn : k < M 61 3) (ht : 0 ≤ b ∧ b ≤ 99) (h : post (hh M ma me e s k b) M) : ax_Ti Y_X9_lastInto [aR 33, aI k, aI b] SH M post := by
  have hb := hp.2.1
  obtain ⟨b0, b1, b2⟩ := hp.1 k hk hkn
  rw [prep_hh hp hP hma hk hkn] at h
  obtain ⟨r34, r35, r36, r37⟩ := prep_r hp hP he hme hk hkn
  have hk24 : 0 ≤ k ∧ k < 24 := by omega
  have J83 : ∀ v, hin (M 34 k) (M 35 k) (M 36 k) (min b (M 37 k)) = v → ax_J Y_X9_lastInto (ax_Ki Y_X9_lastInto SH post) 0 0 83 [(4, aI v)] [] SH M := by
    intro v hv
    unfold hcore at h
    rw [hv] at h
    refine B_X9_lastInto_83 ⟨fun c => ?_, fun c => ?_⟩
    · rw [if_neg (by omega)] at h; exact h
    · rw [if_pos c] at h; exact h
  have J41 : ∀ v w, w = min b (M 37 k) → v = min w (M 36 k) → ax_J Y_X9_lastInto (ax_Ki Y_X9_lastInto SH post) 0 0 41 [(0, aR 33), (1, aI k), (3, aI w)] [aI v] SH M := by
    intro v w hw hv
    refine B_X9_lastInto_41 ⟨hk24, by omega, ⟨fun c => J83 _ ?_, fun c => ⟨by omega, ⟨fun c1 => J83 _ ?_, fun c1 => J83 _ ?_⟩⟩⟩⟩
    · unfold hin; rw [if_pos c, ← hw, ← hv]
    · unfold hin; rw [if_neg c, ← hw, ← hv]; omega
    · unfold hin; rw [if_neg c, ← hw, ← hv]; omega
  have J20 : ∀ w, w = min b (M 37 k) → ax_J Y_X9_lastInto (ax_Ki Y_X9_lastInto SH post) 0 0 20 [(0, aR 33), (1, aI k)] [aI w] SH M := fun w hw => B_X9_lastInto_20 ⟨hk24, fun c => J41 _ _ hw (by omega), fun c => J41 _ _ hw (by omega)⟩
  exact E_X9_lastInto (fun _ => ⟨hk24, fun c => J20 _ (by omega), fun c => J20 _ (by omega)⟩)
