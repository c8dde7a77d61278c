abbrev Jn (M : ax_M) (k p q : Int) : Prop := (M 62 k = p ∧ M 63 k = q) ∨ (M 62 k = q ∧ M 63 k = p)
/-- the way that one takes from p to q at t: the soonest there, the first of those -/
def wt (M : ax_M) (ma me e s p q t : Int) : Nat → Int
  | 0 => -1
  | k + 1 => if Jn M k p q ∧ 0 ≤ gg M ma me e s k t ∧ (wt M ma me e s p q t k = -1 ∨ gg M ma me e s k t < gg M ma me e s (wt M ma me e s p q t k) t) then k else wt M ma me e s p q t k
theorem wt_sp (M : ax_M) (ma me e s p q t : Int) : ∀ k : Nat, wt M ma me e s p q t k = -1 ∨ (0 ≤ wt M ma me e s p q t k ∧ wt M ma me e s p q t k < k ∧ Jn M (wt M ma me e s p q t k) p q ∧ 0 ≤ gg M ma me e s (wt M ma me e s p q t k) t)
  | 0 => Or.inl rfl
  | k + 1 => by
    have h := wt_sp M ma me e s p q t k
    unfold wt
    split
    · rename_i c
      exact Or.inr ⟨by omega, by omega, c.1, c.2.1⟩
    · rcases h with h | h
      · exact Or.inl h
      · exact Or.inr ⟨h.1, by omega, h.2.2⟩
theorem wt_yes {M : ax_M} {ma me e s p q t : Int} {k : Nat} (h : Jn M k p q ∧ 0 ≤ gg M ma me e s k t ∧ (wt M ma me e s p q t k = -1 ∨ gg M ma me e s k t < gg M ma me e s (wt M ma me e s p q t k) t)) : wt M ma me e s p q t (k + 1) = k := by rw [wt.eq_2, if_pos h]
theorem wt_no {M : ax_M} {ma me e s p q t : Int} {k : Nat} (h : ¬ (Jn M k p q ∧ 0 ≤ gg M ma me e s k t ∧ (wt M ma me e s p q t k = -1 ∨ gg M ma me e s k t < gg M ma me e s (wt M ma me e s p q t k) t))) : wt M ma me e s p q t (k + 1) = wt M ma me e s p q t k := by rw [wt.eq_2, if_neg h]
theorem wt_c {M M' : ax_M} (h2 : M' 62 = M 62) (h3 : M' 63 = M 63) (hg : gg M' = gg M) (ma me e s p q t : Int) : ∀ k, wt M' ma me e s p q t k = wt M ma me e s p q t k
  | 0 => rfl
  | k + 1 => by
    rw [wt.eq_2, wt.eq_2, wt_c h2 h3 hg ma me e s p q t k, hg]
    unfold Jn
    rw [h2, h3]
theorem gg_c {M M' : ax_M} (h2 : M' 62 = M 62) (h3 : M' 63 = M 63) (h4 : M' 64 = M 64) (h5 : M' 65 = M 65) (h7 : M' 67 = M 67) (h9 : M' 69 = M 69) : gg M' = gg M := by
  funext ma me e s k t
  unfold gg
  rw [h2, h3, h4, h5, h7, h9]
set_option maxHeartbeats 4000000 in
set_option maxRecDepth 100000 in
theorem S_X9_choice {post : Int → ax_M → Prop} {M : ax_M} {ma me e s p q t : Int} (hw : WX M) (hP : Prep M ma me e s) (hma : -1 ≤ ma) (he : -1 ≤ e ∧ e ≤ 99) (hme : -1 ≤ me ∧ me ≤ 99) (ht : 0 ≤ t ∧ t ≤ 99) (h : post (wt M ma me e s p q t (M 61 3).toNat) M) : ax_Ti Y_X9_choice [aR 33, aI p, aI q, aI t] SH M post := by
  have hb := hw.1.2.1
  have e61 : M 6 1 = M 61 3 := hw.2.2.1
  have L : ∀ (r k : Nat) (x5 : Int), (M 61 3).toNat = k + r → (¬ wt M ma me e s p q t k = -1 → x5 = gg M ma me e s (wt M ma me e s p q t k) t) → ax_J Y_X9_choice (ax_Ki Y_X9_choice SH post) 0 0 9 [(0, aR 33), (1, aI p), (2, aI q), (3, aI t), (4, aI (wt M ma me e s p q t k)), (5, aI x5), (6, aI k)] [] SH M := by
    intro r
    induction r with
    | zero => intro k x5 hk hx; refine B_X9_choice_9 ⟨fun _ => ?_, fun z => by omega⟩; rw [show (M 61 3).toNat = k by omega] at h; exact h
    | succ r ih =>
      intro k x5 hk hx
      have w0 := hw.1.1 k (by omega) (by omega)
      have no : ¬ (Jn M k p q ∧ 0 ≤ gg M ma me e s k t ∧ (wt M ma me e s p q t k = -1 ∨ gg M ma me e s k t < gg M ma me e s (wt M ma me e s p q t k) t)) → ax_J Y_X9_choice (ax_Ki Y_X9_choice SH post) 0 0 9 [(0, aR 33), (1, aI p), (2, aI q), (3, aI t), (4, aI (wt M ma me e s p q t k)), (5, aI x5), (6, aI ((k : Int) + 1))] [] SH M := by
        intro hn
        have k1 := ih (k + 1) x5 (by omega) (by rw [wt_no hn]; exact hx)
        rw [wt_no hn] at k1
        exact k1
      have yes : (Jn M k p q ∧ 0 ≤ gg M ma me e s k t ∧ (wt M ma me e s p q t k = -1 ∨ gg M ma me e s k t < gg M ma me e s (wt M ma me e s p q t k) t)) → ax_J Y_X9_choice (ax_Ki Y_X9_choice SH post) 0 0 9 [(0, aR 33), (1, aI p), (2, aI q), (3, aI t), (4, aI k), (5, aI (gg M ma me e s k t)), (6, aI ((k : Int) + 1))] [] SH M := by
        intro hn
        have k1 := ih (k + 1) (gg M ma me e s k t) (by omega) (by rw [wt_yes hn]; exact fun _ => rfl)
        rw [wt_yes hn] at k1
        exact k1
      refine B_X9_choice_9 ⟨fun _ => by omega, fun z => S_X3_touches hw (by omega) (by omega) (fun z1 hz1 => ⟨fun y => ⟨by omega, no (fun hh => ?_)⟩, fun y => S_X3_beyond hw (by omega) (by omega) ⟨fun y1 => ?_, fun y1 => ⟨by omega, no (fun hh => ?_)⟩⟩⟩)⟩
      · rcases hh.1 with g | g <;> omega
      · have hj : Jn M k p q := by
          unfold Jn
          by_cases hp : M 62 k = p
          · rw [if_pos hp] at y1; exact Or.inl ⟨hp, y1⟩
          · rw [if_neg hp] at y1; exact Or.inr ⟨y1, by omega⟩
        refine S_X9_through hw.1 hP hma he hme (by omega) (by omega) ht ⟨fun y2 => ⟨by omega, no (fun hh => by omega)⟩, fun y2 => ?_⟩
        have gd := (gg_gd hw.1 ma me e s) 
        have g0 : 0 ≤ gg M ma me e s k t := by
          unfold gg at y2 ⊢
          have b0 := w0.2.1
          rcases gx_12 s with hs | hs <;> rw [hs] at y2 ⊢ <;> (repeat' split at y2) <;> omega
        refine ⟨fun y3 => ⟨by omega, yes ⟨hj, g0, Or.inl y3⟩⟩, fun y3 => ⟨fun y4 => ⟨by omega, no (fun hh => ?_)⟩, fun y4 => ⟨by omega, yes ⟨hj, g0, Or.inr ?_⟩⟩⟩⟩
        · have := hx y3; omega
        · have := hx y3; omega
      · have : ¬ Jn M k p q := by
          unfold Jn
          by_cases hp : M 62 k = p
          · rw [if_pos hp] at y1; omega
          · rw [if_neg hp] at y1; omega
        exact this hh.1
  exact E_X9_choice (fun _ => L _ 0 (-1) (Nat.zero_add _).symm (fun z => absurd rfl z))
set_option maxHeartbeats 4000000 in
set_option maxRecDepth 100000 in
theorem S_X11_wayTo {post : Int → ax_M → Prop} {M : ax_M} {e s p q t : Int} (hp0 : PitOk M) (ht : 0 ≤ t ∧ t ≤ 99) (h : post (wt M (M 61 32) (M 61 33) e s p q t (M 61 3).toNat) M) : ax_Ti Y_X11_wayTo [aR 61, aI p, aI q, aI t, aI e, aI s] SH M post := by
  have hb := hp0.2.1
  generalize hma : M 61 32 = ma at h
  generalize hme : M 61 33 = me at h
  have L : ∀ (r k : Nat) (x5 : Int), (M 61 3).toNat = k + r → (¬ wt M ma me e s p q t k = -1 → x5 = gg M ma me e s (wt M ma me e s p q t k) t) → ax_J Y_X11_wayTo (ax_Ki Y_X11_wayTo SH post) 0 0 9 [(0, aR 61), (1, aI p), (2, aI q), (3, aI t), (4, aI e), (5, aI s), (6, aI (wt M ma me e s p q t k)), (7, aI x5), (8, aI k)] [] SH M := by
    intro r
    induction r with
    | zero => intro k x5 hk hx; refine B_X11_wayTo_9 ⟨fun _ => ?_, fun z => by omega⟩; rw [show (M 61 3).toNat = k by omega] at h; exact h
    | succ r ih =>
      intro k x5 hk hx
      have ws := wt_sp M ma me e s p q t k
      have J116 : ∀ x6 x7, wt M ma me e s p q t (k + 1) = x6 → (¬ x6 = -1 → x7 = gg M ma me e s x6 t) → ax_J Y_X11_wayTo (ax_Ki Y_X11_wayTo SH post) 0 0 116 [(0, aR 61), (1, aI p), (2, aI q), (3, aI t), (4, aI e), (5, aI s), (6, aI x6), (7, aI x7), (8, aI k)] [] SH M := by
        intro x6 x7 h6 h7
        have k1 := ih (k + 1) x7 (by omega) (by rw [h6]; exact h7)
        rw [h6] at k1
        exact B_X11_wayTo_116 ⟨by omega, k1⟩
      have J89 : ∀ v, (0 ≤ v → Jn M k p q ∧ gg M ma me e s k t = v) → (v < 0 → ¬ (Jn M k p q ∧ 0 ≤ gg M ma me e s k t)) → ax_J Y_X11_wayTo (ax_Ki Y_X11_wayTo SH post) 0 0 89 [(0, aR 61), (1, aI p), (2, aI q), (3, aI t), (4, aI e), (5, aI s), (6, aI (wt M ma me e s p q t k)), (7, aI x5), (8, aI k)] [aI v] SH M := by
        intro v hv hv2
        refine B_X11_wayTo_89 ⟨fun y => J116 _ _ (wt_no (fun hh => hv2 y ⟨hh.1, hh.2.1⟩)) hx, fun y => ⟨fun y1 => B_X11_wayTo_108 (J116 _ _ (wt_yes ⟨(hv y).1, by have := (hv y).2; omega, Or.inl (by omega)⟩) (fun _ => (hv y).2.symm)), fun y1 => ⟨fun y2 => J116 _ _ (wt_no (fun hh => ?_)) hx, fun y2 => B_X11_wayTo_108 (J116 _ _ (wt_yes ⟨(hv y).1, by have := (hv y).2; omega, Or.inr ?_⟩) (fun _ => (hv y).2.symm))⟩⟩⟩
        · have a := hx (by omega); have b := (hv y).2; omega
        · have a := hx (by omega); have b := (hv y).2; omega
      have J67 : ∀ v, (v = 0 → ¬ Jn M k p q) → (¬ v = 0 → Jn M k p q) → ax_J Y_X11_wayTo (ax_Ki Y_X11_wayTo SH post) 0 0 67 [(0, aR 61), (1, aI p), (2, aI q), (3, aI t), (4, aI e), (5, aI s), (6, aI (wt M ma me e s p q t k)), (7, aI x5), (8, aI k)] [aI v] SH M := by
        intro v hv hv2
        refine B_X11_wayTo_67 ⟨fun y => J89 _ (fun y1 => by omega) (fun _ hh => hv y hh.1), fun y => S_X11_through hp0 (by omega) (by omega) ht.1 ht.2 ?_⟩
        rw [hma, hme]
        exact J89 _ (fun _ => ⟨hv2 y, rfl⟩) (fun y1 hh => by omega)
      have j0 : ¬ Jn M k p q → ax_J Y_X11_wayTo (ax_Ki Y_X11_wayTo SH post) 0 0 66 [(0, aR 61), (1, aI p), (2, aI q), (3, aI t), (4, aI e), (5, aI s), (6, aI (wt M ma me e s p q t k)), (7, aI x5), (8, aI k)] [] SH M := fun hh => B_X11_wayTo_66 (J67 0 (fun _ => hh) (fun c => absurd rfl c))
      have j1 : Jn M k p q → ax_J Y_X11_wayTo (ax_Ki Y_X11_wayTo SH post) 0 0 62 [(0, aR 61), (1, aI p), (2, aI q), (3, aI t), (4, aI e), (5, aI s), (6, aI (wt M ma me e s p q t k)), (7, aI x5), (8, aI k)] [] SH M := fun hh => B_X11_wayTo_62 (J67 1 (fun c => absurd c (by decide)) (fun _ => hh))
      have j40 : ¬ (M 62 k = p ∧ M 63 k = q) → ax_J Y_X11_wayTo (ax_Ki Y_X11_wayTo SH post) 0 0 40 [(0, aR 61), (1, aI p), (2, aI q), (3, aI t), (4, aI e), (5, aI s), (6, aI (wt M ma me e s p q t k)), (7, aI x5), (8, aI k)] [] SH M := by
        intro hn
        exact B_X11_wayTo_40 ⟨by omega, fun y => j0 (by unfold Jn; omega), fun y => ⟨fun y1 => j0 (by unfold Jn; omega), fun y1 => j1 (Or.inr ⟨y, y1⟩)⟩⟩
      exact B_X11_wayTo_9 ⟨fun _ => by omega, fun z => ⟨by omega, fun y => j40 (fun g => y g.1), fun y => ⟨fun y1 => j1 (Or.inl ⟨y, y1⟩), fun y1 => j40 (fun g => y1 g.2)⟩⟩⟩
  exact E_X11_wayTo (fun _ => L _ 0 0 (Nat.zero_add _).symm (fun z => absurd rfl z))
