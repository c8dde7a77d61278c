/-- what holds within the reference's walk: M0 at the start, M now -/
def WkI (M0 : ax_M) (e s p t : Int) (M : ax_M) : Prop := Of 77 M0 M ∧ (∀ v, 0 ≤ v → v < M0 61 0 → So1 (M 77 v)) ∧ Lo (so M0 (M0 61 32) (M0 61 33) e s p t) (mk (M0 61 0) (M 77)) ∧ M 77 p = t
theorem wkI_step {M0 M M' : ax_M} {e s p t k u v : Int} (hp : PitOk M0) (ht : 0 ≤ t) (hpp : 0 ≤ p ∧ p < M0 61 0) (hI : WkI M0 e s p t M) (he : Ed (M0 62) (M0 63) (M0 61 3) k u v) (hx : Rx (gg M0 (M0 61 32) (M0 61 33) e s) k u v (M 77) (M' 77)) (hc : M' = M ∨ ∃ x, M' = ax_up M 77 v x ∧ 0 ≤ x ∧ x ≤ 99 ∧ (M 77 v = -1 ∨ x < M 77 v)) : WkI M0 e s p t M' := by
  have hG := gg_gd hp (M0 61 32) (M0 61 33) e s
  obtain ⟨h1, h2, h3, h4⟩ := hI
  obtain ⟨e1, -, -⟩ := hp.1 k he.1 he.2.1
  have huv : (0 ≤ u ∧ u < M0 61 0) ∧ (0 ≤ v ∧ v < M0 61 0) := by
    rcases he.2.2 with ⟨a, b⟩ | ⟨a, b⟩ <;> rw [a, b] <;> omega
  have h3' : Lo (so M0 (M0 61 32) (M0 61 33) e s p t) (mk (M0 61 0) (M' 77)) := rx_lo hG ht he (rx_mk huv.1 huv.2 hx) h3
  rcases hc with rfl | ⟨x, rfl, x0, x1, x2⟩
  · exact ⟨h1, h2, h3, h4⟩
  · refine ⟨h1.tr Of.up, fun j j0 j1 => ?_, h3', ?_⟩
    · by_cases hj : j = v
      · subst hj; rw [up_at]; exact Or.inr ⟨x0, x1⟩
      · rw [up_ne M 77 _ hj]; exact h2 j j0 j1
    · by_cases hj : p = v
      · subst hj
        have h5 := h3' p
        rw [mk_in hpp, up_at] at h5
        have h6 : so M0 (M0 61 32) (M0 61 33) e s p t p = t := ds_src hG ht
        rw [up_at]
        rw [h6] at h5
        omega
      · rw [up_ne M 77 _ hj]; exact h4
theorem wkI_end {M0 M : ax_M} {e s p t : Int} (hp : PitOk M0) (ht : 0 ≤ t) (hpp : 0 ≤ p ∧ p < M0 61 0) (hI : WkI M0 e s p t M) (hN : Nc (gg M0 (M0 61 32) (M0 61 33) e s) (M0 62) (M0 63) (M0 61 3) (M 77) (M0 61 3)) {v : Int} (hv : 0 ≤ v ∧ v < M0 61 0) : M 77 v = so M0 (M0 61 32) (M0 61 33) e s p t v := by
  have hG := gg_gd hp (M0 61 32) (M0 61 33) e s
  obtain ⟨h1, h2, h3, h4⟩ := hI
  have h5 := ds_fix (ea := M0 62) (eb := M0 63) (p := p) (W := mk (M0 61 0) (M 77)) hG ht h3 (by rw [mk_in hpp, h4]; omega) (fun k u w he q1 q2 => by
    obtain ⟨e1, -, -⟩ := hp.1 k he.1 he.2.1
    have huv : (0 ≤ u ∧ u < M0 61 0) ∧ (0 ≤ w ∧ w < M0 61 0) := by
      rcases he.2.2 with ⟨a, b⟩ | ⟨a, b⟩ <;> rw [a, b] <;> omega
    rw [mk_in huv.1] at q1 q2 ⊢
    rw [mk_in huv.2]
    exact hN k u w he he.2.1 q1 q2) v
  rw [mk_in hv] at h5
  exact h5
set_option maxHeartbeats 4000000 in
set_option maxRecDepth 100000 in
theorem L_X11_walk_50 {post : ax_M → Prop} {M0 Ms : ax_M} {e s p t : Int} (hp : PitOk M0) (ht : 0 ≤ t) (hpp : 0 ≤ p ∧ p < M0 61 0) (hS : Of 77 M0 Ms)
    (hx : ∀ M f, WkI M0 e s p t M → (f = 0 ∧ M = Ms ∧ Nc (gg M0 (M0 61 32) (M0 61 33) e s) (M0 62) (M0 63) (M0 61 3) (M 77) (M0 61 3) ∨ ¬ f = 0 ∧ mu (M 77) 12 < mu (Ms 77) 12) → ax_J Y_X11_walk (ax_Kv Y_X11_walk SH post) 0 0 39 [(0, aR 61), (3, aI e), (4, aI s), (5, aI f)] [] SH M) :
    ∀ (j : Nat) (k f : Int) (M : ax_M), 0 ≤ k → k + (j : Int) = M0 61 3 → WkI M0 e s p t M → (f = 0 ∧ M = Ms ∧ Nc (gg M0 (M0 61 32) (M0 61 33) e s) (M0 62) (M0 63) (M0 61 3) (M 77) k ∨ ¬ f = 0 ∧ mu (M 77) 12 < mu (Ms 77) 12) → ax_J Y_X11_walk (ax_Kv Y_X11_walk SH post) 0 0 50 [(0, aR 61), (3, aI e), (4, aI s), (5, aI f), (6, aI k)] [] SH M := by
  have hw24 := hp.2.1
  have hp12 : M0 61 0 ≤ 12 := by have := hp.2.2; omega
  intro j
  induction j with
  | zero =>
    intro k f M hk hkj hI hf
    have hk3 : k = M0 61 3 := by omega
    have e61 : M 61 = M0 61 := hI.1 61 (by decide)
    refine B_X11_walk_50 ⟨fun _ => hx M f hI (by rw [hk3] at hf; exact hf), fun c => ?_⟩
    rw [e61] at c; omega
  | succ j ih =>
    intro k f M hk hkj hI hf
    have hkn : k < M0 61 3 := by omega
    have e61 : M 61 = M0 61 := hI.1 61 (by decide)
    have e62 : M 62 = M0 62 := hI.1 62 (by decide)
    have e63 : M 63 = M0 63 := hI.1 63 (by decide)
    have hpM := pit_of hI.1 (by decide) hp
    obtain ⟨e1, -, -⟩ := hp.1 k hk hkn
    have he1 : Ed (M0 62) (M0 63) (M0 61 3) k (M0 62 k) (M0 63 k) := ⟨hk, hkn, Or.inl ⟨rfl, rfl⟩⟩
    have he2 : Ed (M0 62) (M0 63) (M0 61 3) k (M0 63 k) (M0 62 k) := ⟨hk, hkn, Or.inr ⟨rfl, rfl⟩⟩
    refine B_X11_walk_50 ⟨fun c => by rw [e61] at c; omega, fun c => ⟨by omega, ?_⟩⟩
    rw [e62, e63]
    refine S_X11_step hpM hk (by rw [e61]; exact hkn) (by omega) (by omega) (hI.2.1 _ (by omega) (by omega)) (hI.2.1 _ (by omega) (by omega)) (fun z M1 hx1 hc1 => ?_)
    rw [gg_of hI.1 (by decide), e61] at hx1
    have hI1 : WkI M0 e s p t M1 := wkI_step hp ht hpp hI he1 hx1 (by rcases hc1 with ⟨-, h⟩ | ⟨-, h⟩; exact Or.inl h; exact Or.inr h)
    have f61 : M1 61 = M0 61 := hI1.1 61 (by decide)
    have f62 : M1 62 = M0 62 := hI1.1 62 (by decide)
    have f63 : M1 63 = M0 63 := hI1.1 63 (by decide)
    have second : ∀ (post2 : Int → ax_M → Prop), (∀ z2 M2, WkI M0 e s p t M2 → Rx (gg M0 (M0 61 32) (M0 61 33) e s) k (M0 63 k) (M0 62 k) (M1 77) (M2 77) → (z2 = 0 ∧ M2 = M1 ∨ z2 = 1 ∧ ∃ x, M2 = ax_up M1 77 (M0 62 k) x ∧ 0 ≤ x ∧ x ≤ 99 ∧ (M1 77 (M0 62 k) = -1 ∨ x < M1 77 (M0 62 k))) → post2 z2 M2) → ax_Ti Y_X11_step [aR 61, aI k, aI (M1 63 k), aI (M1 62 k), aI e, aI s] SH M1 post2 := by
      intro post2 hq
      rw [f62, f63]
      refine S_X11_step (pit_of hI1.1 (by decide) hp) hk (by rw [f61]; exact hkn) (by omega) (by omega) (hI1.2.1 _ (by omega) (by omega)) (hI1.2.1 _ (by omega) (by omega)) (fun z2 M2 hx2 hc2 => ?_)
      rw [gg_of hI1.1 (by decide), f61] at hx2
      exact hq z2 M2 (wkI_step hp ht hpp hI1 he2 hx2 (by rcases hc2 with ⟨-, h⟩ | ⟨-, h⟩; exact Or.inl h; exact Or.inr h)) hx2 hc2
    have mu1 : z = 0 ∧ M1 = M ∨ z = 1 ∧ mu (M1 77) 12 < mu (M 77) 12 := by
      rcases hc1 with h | ⟨h, x, rfl, x0, x1, x2⟩
      · exact Or.inl h
      · exact Or.inr ⟨h, mu_lt (v := M0 63 k) (fun j hj => up_ne M 77 _ hj) (by omega) (by rw [up_at]; exact ⟨x0, x1, x2⟩) 12 (by omega)⟩
    have mu2 : ∀ (z2 : Int) (M2 : ax_M), (z2 = 0 ∧ M2 = M1 ∨ z2 = 1 ∧ ∃ x, M2 = ax_up M1 77 (M0 62 k) x ∧ 0 ≤ x ∧ x ≤ 99 ∧ (M1 77 (M0 62 k) = -1 ∨ x < M1 77 (M0 62 k))) → (z2 = 0 ∧ M2 = M1 ∨ z2 = 1 ∧ mu (M2 77) 12 < mu (M1 77) 12) := by
      intro z2 M2 h
      rcases h with h | ⟨h, x, rfl, x0, x1, x2⟩
      · exact Or.inl h
      · exact Or.inr ⟨h, mu_lt (v := M0 62 k) (fun j hj => up_ne M1 77 _ hj) (by omega) (by rw [up_at]; exact ⟨x0, x1, x2⟩) 12 (by omega)⟩
    have i1 : -2147483648 ≤ k + 1 ∧ k + 1 ≤ 2147483647 := by omega
    refine ⟨fun c1 => second _ (fun z2 M2 hI2 hx2 hc2 => ?_), fun c1 => ⟨fun c2 => second _ (fun z2 M2 hI2 hx2 hc2 => ?_), fun c2 => second _ (fun z2 M2 hI2 hx2 hc2 => ?_)⟩⟩
    · have m1 := mu2 z2 M2 hc2
      have hlt : mu (M2 77) 12 < mu (Ms 77) 12 := by
        rcases mu1 with ⟨a, -⟩ | ⟨a, b⟩
        · exact absurd a c1
        · rcases m1 with ⟨-, d⟩ | ⟨-, d⟩
          · rw [d]; rcases hf with ⟨-, q, -⟩ | ⟨-, q⟩
            · rw [← q]; exact b
            · omega
          · rcases hf with ⟨-, q, -⟩ | ⟨-, q⟩
            · rw [← q]; omega
            · omega
      exact ⟨fun _ => ⟨i1, ih (k + 1) 1 M2 (by omega) (by omega) hI2 (Or.inr ⟨by decide, hlt⟩)⟩, fun _ => ⟨i1, ih (k + 1) 1 M2 (by omega) (by omega) hI2 (Or.inr ⟨by decide, hlt⟩)⟩⟩
    · have m1 := mu2 z2 M2 hc2
      have hM1 : M1 = M := by
        rcases mu1 with ⟨-, b⟩ | ⟨a, -⟩
        · exact b
        · omega
      obtain ⟨-, hMs, hN⟩ : f = 0 ∧ M = Ms ∧ Nc (gg M0 (M0 61 32) (M0 61 33) e s) (M0 62) (M0 63) (M0 61 3) (M 77) k := by
        rcases hf with h | ⟨h, -⟩
        · exact h
        · exact absurd c2 h
      refine ⟨fun c3 => ⟨i1, ih (k + 1) 1 M2 (by omega) (by omega) hI2 (Or.inr ⟨by decide, ?_⟩)⟩, fun c3 => ⟨i1, ih (k + 1) 0 M2 (by omega) (by omega) hI2 (Or.inl ⟨rfl, ?_, ?_⟩)⟩⟩
      · rcases m1 with ⟨a, -⟩ | ⟨-, d⟩
        · exact absurd a c3
        · rw [hM1, hMs] at d; exact d
      · rcases m1 with ⟨-, d⟩ | ⟨a, -⟩
        · rw [d, hM1]; exact hMs
        · omega
      · have hM2 : M2 = M := by
          rcases m1 with ⟨-, d⟩ | ⟨a, -⟩
          · rw [d, hM1]
          · omega
        rw [hM2]
        rw [hM1] at hx1
        rw [hM2, hM1] at hx2
        intro k' u v he hk' q1 q2
        rcases Int.lt_or_le k' k with h | h
        · exact hN k' u v he h q1 q2
        · have hkk : k' = k := by omega
          subst hkk
          rcases he.2.2 with ⟨a, b⟩ | ⟨a, b⟩
          · subst a; subst b
            rcases hx1.2 with ⟨-, d⟩ | ⟨-, -, d, d2⟩
            · exact d q1 q2
            · omega
          · subst a; subst b
            rcases hx2.2 with ⟨-, d⟩ | ⟨-, -, d, d2⟩
            · exact d q1 q2
            · omega
    · have m1 := mu2 z2 M2 hc2
      have hM1 : M1 = M := by
        rcases mu1 with ⟨-, b⟩ | ⟨a, -⟩
        · exact b
        · omega
      have hlt : mu (M2 77) 12 < mu (Ms 77) 12 := by
        rcases hf with ⟨q, -⟩ | ⟨-, q⟩
        · exact absurd q c2
        · rcases m1 with ⟨-, d⟩ | ⟨-, d⟩
          · rw [d, hM1]; exact q
          · rw [hM1] at d; omega
      exact ⟨fun _ => ⟨i1, ih (k + 1) 1 M2 (by omega) (by omega) hI2 (Or.inr ⟨by decide, hlt⟩)⟩, fun _ => ⟨i1, ih (k + 1) 1 M2 (by omega) (by omega) hI2 (Or.inr ⟨by decide, hlt⟩)⟩⟩
set_option maxHeartbeats 4000000 in
set_option maxRecDepth 100000 in
theorem L_X11_walk_39 {post : ax_M → Prop} {M0 : ax_M} {e s p t : Int} (hp : PitOk M0) (ht : 0 ≤ t) (hpp : 0 ≤ p ∧ p < M0 61 0) (hx : ∀ M, Of 77 M0 M → (∀ v, 0 ≤ v ∧ v < M0 61 0 → M 77 v = so M0 (M0 61 32) (M0 61 33) e s p t v) → post M) :
    ∀ (j : Nat) (f : Int) (M : ax_M), mu (M 77) 12 < (j : Int) → WkI M0 e s p t M → (f = 0 → Nc (gg M0 (M0 61 32) (M0 61 33) e s) (M0 62) (M0 63) (M0 61 3) (M 77) (M0 61 3)) → ax_J Y_X11_walk (ax_Kv Y_X11_walk SH post) 0 0 39 [(0, aR 61), (3, aI e), (4, aI s), (5, aI f)] [] SH M := by
  have hw24 := hp.2.1
  intro j
  induction j with
  | zero =>
    intro f M hj
    have := mu_0 (M 77) 12
    omega
  | succ j ih =>
    intro f M hj hI hf
    refine B_X11_walk_39 ⟨fun c => hx M hI.1 (fun v hv => wkI_end hp ht hpp hI (hf c) hv), fun c => ?_⟩
    refine L_X11_walk_50 (M0 := M0) (Ms := M) (p := p) (t := t) hp ht hpp hI.1 (fun M1 f1 hI1 h1 => ?_) (M0 61 3).toNat 0 0 M (Int.le_refl _) (by omega) hI (Or.inl ⟨rfl, rfl, fun k u v he hk => by have := he.1; omega⟩)
    rcases h1 with ⟨a, b, d⟩ | ⟨a, b⟩
    · refine B_X11_walk_39 ⟨fun c => hx M1 hI1.1 (fun v hv => wkI_end hp ht hpp hI1 d hv), fun c => absurd a c⟩
    · exact ih f1 M1 (by omega) hI1 (fun z => absurd z a)
