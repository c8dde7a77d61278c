theorem up_self (M : ax_M) (k : Nat) (i : Int) : ax_up M k i (M k i) = M := by
  funext a j
  unfold ax_up
  by_cases h : a = k ∧ j = i
  · rw [if_pos h, h.1, h.2]
  · rw [if_neg h]
theorem up_at (M : ax_M) (k : Nat) (i v : Int) : ax_up M k i v k i = v := by
  unfold ax_up
  rw [if_pos ⟨rfl, rfl⟩]
theorem up_ne (M : ax_M) (k : Nat) {i j : Int} (v : Int) (h : j ≠ i) : ax_up M k i v k j = M k j := by
  unfold ax_up
  rw [if_neg (fun z => h z.2)]
theorem up_off (M : ax_M) {k a : Nat} (i v : Int) (h : a ≠ k) : ax_up M k i v a = M a := by
  funext j
  unfold ax_up
  rw [if_neg (fun z => h z.1)]
/-- memories that are the same but for one place -/
def Of (q : Nat) (M M' : ax_M) : Prop := ∀ a, a ≠ q → M' a = M a
theorem Of.rf {q : Nat} {M : ax_M} : Of q M M := fun _ _ => rfl
theorem Of.tr {q : Nat} {M M1 M2 : ax_M} (h : Of q M M1) (h2 : Of q M1 M2) : Of q M M2 := fun a ha => (h2 a ha).trans (h a ha)
theorem Of.up {q : Nat} {M : ax_M} {i v : Int} : Of q M (ax_up M q i v) := fun _ ha => up_off M i v ha
theorem gg_of {q : Nat} {M M' : ax_M} (h : Of q M M') (hq : 70 ≤ q) : gg M' = gg M := by
  funext ma me e s k t
  unfold gg
  rw [h 69 (by omega), h 64 (by omega), h 62 (by omega), h 63 (by omega), h 67 (by omega), h 65 (by omega)]
theorem pit_of {q : Nat} {M M' : ax_M} (h : Of q M M') (hq : 70 ≤ q) (hp : PitOk M) : PitOk M' := by
  unfold PitOk WayOk at *
  rw [h 61 (by omega), h 62 (by omega), h 63 (by omega), h 64 (by omega), h 65 (by omega), h 66 (by omega), h 67 (by omega), h 68 (by omega)]
  exact hp
set_option maxHeartbeats 4000000 in
set_option maxRecDepth 100000 in
theorem S_X11_through {post : Int → ax_M → Prop} {M : ax_M} {k t e s : Int} (hp : PitOk M) (hk : 0 ≤ k) (hkn : k < M 61 3) (ht : 0 ≤ t) (ht2 : t ≤ 99) (h : post (gg M (M 61 32) (M 61 33) e s k t) M) : ax_Ti Y_X11_through [aR 61, aI k, aI t, aI e, aI s] SH M post := by
  obtain ⟨b0, b1, b2⟩ := hp.1 k hk hkn
  have hk2 : 0 ≤ k ∧ k < 24 := by have := hp.2.1; omega
  have J129 : ∀ v, (v ≤ M 67 k → gg M (M 61 32) (M 61 33) e s k t = v) → (M 67 k < v → gg M (M 61 32) (M 61 33) e s k t = -1) → ax_J Y_X11_through (ax_Ki Y_X11_through SH post) 0 0 129 [(0, aR 61), (1, aI k)] [aI v] SH M := by
    intro v h1 h2
    refine B_X11_through_129 ⟨hk2, fun c => ?_, fun c => ?_⟩
    · rw [← h2 c]; exact h
    · have h3 := h1 c
      rw [h3] at h
      exact h
  have J79 : ∀ (m : Int), ((¬ m = 0) ↔ (0 ≤ M 61 32 ∧ (M 62 k = M 61 32 ∨ M 63 k = M 61 32) ∧ t + gx s * M 64 k ≤ M 61 33)) → M 69 k = 0 → ax_J Y_X11_through (ax_Ki Y_X11_through SH post) 0 0 79 [(0, aR 61), (1, aI k), (2, aI t), (3, aI e), (4, aI s), (5, aI (t + gx s * M 64 k))] [aI m] SH M := by
    intro m hm h0
    refine B_X11_through_79 ⟨fun c => B_X11_through_92 (J129 _ (fun c2 => ?_) (fun c2 => ?_)), fun c => ⟨fun c1 => ⟨hk2, fun c2 => ?_, fun c2 => J129 _ (fun c3 => ?_) (fun c3 => ?_)⟩, fun c1 => B_X11_through_92 (J129 _ (fun c2 => ?_) (fun c2 => ?_))⟩⟩
    · unfold gg; omega
    · unfold gg; omega
    · have h121 : ∀ w, w = gx s → ax_J Y_X11_through (ax_Ki Y_X11_through SH post) 0 0 121 [(0, aR 61), (1, aI k)] [aI w, aI t] SH M := by
        intro w hw
        have hb : w * M 65 k ≤ 120 ∧ 0 ≤ w * M 65 k := by
          rcases gx_12 s with hs | hs <;> rw [hw, hs] <;> omega
        refine B_X11_through_121 ⟨hk2, by omega, by omega, J129 _ (fun c3 => ?_) (fun c3 => ?_)⟩
        · subst hw; unfold gg; omega
        · subst hw; unfold gg; omega
      exact ⟨fun c3 => h121 1 (by unfold gx; rw [if_pos c3]), fun c3 => h121 2 (by unfold gx; rw [if_neg c3])⟩
    · unfold gg; omega
    · unfold gg; omega
    · unfold gg; omega
    · unfold gg; omega
  have J22 : ∀ w, w = gx s → M 69 k = 0 → ax_J Y_X11_through (ax_Ki Y_X11_through SH post) 0 0 22 [(0, aR 61), (1, aI k), (2, aI t), (3, aI e), (4, aI s)] [aI w, aI t] SH M := by
    intro w hw h0
    have hb : w * M 64 k ≤ 60 ∧ 0 ≤ w * M 64 k := by
      rcases gx_12 s with hs | hs <;> rw [hw, hs] <;> omega
    subst hw
    have J78 : ¬ (0 ≤ M 61 32 ∧ (M 62 k = M 61 32 ∨ M 63 k = M 61 32) ∧ t + gx s * M 64 k ≤ M 61 33) → ax_J Y_X11_through (ax_Ki Y_X11_through SH post) 0 0 78 [(0, aR 61), (1, aI k), (2, aI t), (3, aI e), (4, aI s), (5, aI (t + gx s * M 64 k))] [] SH M := fun hn => B_X11_through_78 (J79 0 (by omega) h0)
    have J65 : 0 ≤ M 61 32 ∧ (M 62 k = M 61 32 ∨ M 63 k = M 61 32) → ax_J Y_X11_through (ax_Ki Y_X11_through SH post) 0 0 65 [(0, aR 61), (1, aI k), (2, aI t), (3, aI e), (4, aI s), (5, aI (t + gx s * M 64 k))] [] SH M := fun hn => B_X11_through_65 ⟨fun c => J78 (by omega), fun c => J79 1 (by omega) h0⟩
    exact B_X11_through_22 ⟨hk2, by omega, by omega, fun c => J78 (by omega), fun c => ⟨fun c1 => J65 (by omega), fun c1 => ⟨fun c2 => J78 (by omega), fun c2 => J65 (by omega)⟩⟩⟩
  refine E_X11_through (fun _ => ⟨hk2, fun c => ⟨fun c1 => J22 1 (by unfold gx; rw [if_pos c1]) c, fun c1 => J22 2 (by unfold gx; rw [if_neg c1]) c⟩, fun c => ?_⟩)
  have h3 : gg M (M 61 32) (M 61 33) e s k t = -1 := by unfold gg; rw [if_pos c]
  rw [h3] at h
  exact h
/-- a value of soon, when -/
def So1 (x : Int) : Prop := x = -1 ∨ (0 ≤ x ∧ x ≤ 99)
set_option maxHeartbeats 4000000 in
set_option maxRecDepth 100000 in
theorem S_X11_step {post : Int → ax_M → Prop} {M : ax_M} {k u v e s : Int} (hp : PitOk M) (hk : 0 ≤ k) (hkn : k < M 61 3) (hu : 0 ≤ u ∧ u < 12) (hv : 0 ≤ v ∧ v < 12) (hu2 : So1 (M 77 u)) (hv2 : So1 (M 77 v)) (h : ∀ z M', Rx (gg M (M 61 32) (M 61 33) e s) k u v (M 77) (M' 77) → (z = 0 ∧ M' = M ∨ z = 1 ∧ ∃ x, M' = ax_up M 77 v x ∧ 0 ≤ x ∧ x ≤ 99 ∧ (M 77 v = -1 ∨ x < M 77 v)) → post z M') : ax_Ti Y_X11_step [aR 61, aI k, aI u, aI v, aI e, aI s] SH M post := by
  unfold So1 at hu2 hv2
  have hk0 : ∀ (hn : 0 ≤ M 77 u → 0 ≤ gg M (M 61 32) (M 61 33) e s k (M 77 u) → 0 ≤ M 77 v ∧ M 77 v ≤ gg M (M 61 32) (M 61 33) e s k (M 77 u)), post 0 (ax_up M 77 v (M 77 v)) := by
    intro hn
    rw [up_self]
    exact h 0 M ⟨fun j _ => rfl, Or.inl ⟨rfl, hn⟩⟩ (Or.inl ⟨rfl, rfl⟩)
  refine E_X11_step (fun _ => ⟨hu, fun c => ?_, fun c => ⟨hv, hk0 (fun q => by omega)⟩⟩)
  refine S_X11_through hp hk hkn c (by omega) ?_
  have hg := gg_99 hp (M 61 32) (M 61 33) e s (t := M 77 u) hk hkn
  have hk1 : 0 ≤ gg M (M 61 32) (M 61 33) e s k (M 77 u) → (M 77 v = -1 ∨ gg M (M 61 32) (M 61 33) e s k (M 77 u) < M 77 v) → post 1 (ax_up M 77 v (gg M (M 61 32) (M 61 33) e s k (M 77 u))) := by
    intro q1 q2
    exact h 1 _ ⟨fun j hj => up_ne M 77 _ hj, Or.inr ⟨c, q1, up_at _ _ _ _, q2⟩⟩ (Or.inr ⟨rfl, _, rfl, q1, hg, q2⟩)
  refine ⟨fun c1 => ⟨hv, hk0 (fun _ q => by omega)⟩, fun c1 => ⟨hv, fun c2 => hk1 c1 (by omega), fun c2 => ⟨fun c3 => hk0 (fun _ _ => ⟨c2, c3⟩), fun c3 => hk1 c1 (by omega)⟩⟩⟩
/-- an array, none beyond n -/
def mk (n : Int) (f : Int → Int) : Int → Int := fun v => if 0 ≤ v ∧ v < n then f v else -1
theorem mk_in {n : Int} {f : Int → Int} {v : Int} (h : 0 ≤ v ∧ v < n) : mk n f v = f v := if_pos h
theorem rx_mk {G : Int → Int → Int} {k u v n : Int} {W W' : Int → Int} (hu : 0 ≤ u ∧ u < n) (hv : 0 ≤ v ∧ v < n) (h : Rx G k u v W W') : Rx G k u v (mk n W) (mk n W') := by
  refine ⟨fun j hj => ?_, ?_⟩
  · unfold mk
    rw [h.1 j hj]
  · rw [mk_in hu, mk_in hv, mk_in hv]
    exact h.2
/-- how much there is to do -/
def mu (W : Int → Int) : Nat → Int
  | 0 => 0
  | i + 1 => mu W i + (if W (i : Int) < 0 then 100 else W (i : Int))
theorem mu_0 (W : Int → Int) : ∀ i, 0 ≤ mu W i
  | 0 => Int.le_refl _
  | i + 1 => by
    have h := mu_0 W i
    unfold mu
    split <;> omega
theorem mu_eq {W W' : Int → Int} {v : Int} (h : ∀ j, j ≠ v → W' j = W j) : ∀ i : Nat, (i : Int) ≤ v → mu W' i = mu W i
  | 0, _ => rfl
  | i + 1, hi => by
    have h1 := mu_eq h i (by omega)
    unfold mu
    rw [h1, h (i : Int) (by omega)]
theorem mu_lt {W W' : Int → Int} {v : Int} (h : ∀ j, j ≠ v → W' j = W j) (h0 : 0 ≤ v) (hv : 0 ≤ W' v ∧ W' v ≤ 99 ∧ (W v = -1 ∨ W' v < W v)) : ∀ i : Nat, v < (i : Int) → mu W' i < mu W i
  | 0, hi => by omega
  | i + 1, hi => by
    by_cases hvi : v = (i : Int)
    · have h1 := mu_eq h i (by omega)
      unfold mu
      rw [h1, ← hvi]
      split <;> split <;> omega
    · have h1 := mu_lt h h0 hv i (by omega)
      unfold mu
      rw [h (i : Int) (by omega)]
      omega
/-- ways below k0 have nothing to give -/
def Nc (G : Int → Int → Int) (ea eb : Int → Int) (n : Int) (W : Int → Int) (k0 : Int) : Prop := ∀ k u v, Ed ea eb n k u v → k < k0 → 0 ≤ W u → 0 ≤ G k (W u) → 0 ≤ W v ∧ W v ≤ G k (W u)
