theorem cp_in {M : ax_M} {b0 b1 : Nat} {n k : Int} (h0 : 0 ≤ k) (h1 : k < n) : ax_cp M b0 b1 0 0 n b1 k = M b0 k := by
  unfold ax_cp
  rw [if_pos ⟨rfl, h0, by omega⟩, show 0 + (k - 0) = k by omega]
theorem cp_off {M : ax_M} {b0 b1 a : Nat} {s d n : Int} (h : a ≠ b1) : ax_cp M b0 b1 s d n a = M a := by
  funext j
  unfold ax_cp
  rw [if_neg (fun z => h z.1)]
set_option maxHeartbeats 4000000 in
set_option maxRecDepth 100000 in
theorem S_become_16_8 {post : ax_M → Prop} {M : ax_M} (h : ∀ M', Ofs [16, 17, 18, 19, 20, 21, 22] M M' → M' 16 0 = M 8 0 → M' 16 1 = M 8 1 → (∀ k, 0 ≤ k → k < 8 → M' 17 k = M 9 k ∧ M' 18 k = M 10 k ∧ M' 19 k = M 11 k) → (∀ k, 0 ≤ k → k < 4 → M' 20 k = M 12 k ∧ M' 21 k = M 13 k) → (∀ k, 0 ≤ k → k < 24 → M' 22 k = M 14 k) → post M') : ax_Tv Y_X0_become [aR 16, aR 8] SH M post := by
  refine E_X0_become_16_8 (fun _ => h _ ?_ rfl rfl ?_ ?_ ?_)
  · intro a ha
    simp only [List.mem_cons, List.not_mem_nil, or_false, not_or] at ha
    rw [cp_off ha.2.2.2.2.2.2, cp_off ha.2.2.2.2.2.1, cp_off ha.2.2.2.2.1, cp_off ha.2.2.2.1, cp_off ha.2.2.1, cp_off ha.2.1, up_off _ _ _ ha.1, up_off _ _ _ ha.1]
  · intro k h0 h1
    refine ⟨?_, ?_, ?_⟩
    · rw [cp_off (by decide), cp_off (by decide), cp_off (by decide), cp_off (by decide), cp_off (by decide), cp_in h0 h1, up_off _ _ _ (by decide), up_off _ _ _ (by decide)]
    · rw [cp_off (by decide), cp_off (by decide), cp_off (by decide), cp_off (by decide), cp_in h0 h1, cp_off (by decide), up_off _ _ _ (by decide), up_off _ _ _ (by decide)]
    · rw [cp_off (by decide), cp_off (by decide), cp_off (by decide), cp_in h0 h1, cp_off (by decide), cp_off (by decide), up_off _ _ _ (by decide), up_off _ _ _ (by decide)]
  · intro k h0 h1
    refine ⟨?_, ?_⟩
    · rw [cp_off (by decide), cp_off (by decide), cp_in h0 h1, cp_off (by decide), cp_off (by decide), cp_off (by decide), up_off _ _ _ (by decide), up_off _ _ _ (by decide)]
    · rw [cp_off (by decide), cp_in h0 h1, cp_off (by decide), cp_off (by decide), cp_off (by decide), cp_off (by decide), up_off _ _ _ (by decide), up_off _ _ _ (by decide)]
  · intro k h0 h1
    rw [cp_in h0 h1, cp_off (by decide), cp_off (by decide), cp_off (by decide), cp_off (by decide), cp_off (by decide), up_off _ _ _ (by decide), up_off _ _ _ (by decide)]
set_option maxHeartbeats 4000000 in
set_option maxRecDepth 100000 in
theorem S_become_23_8 {post : ax_M → Prop} {M : ax_M} (h : ∀ M', Ofs [23, 24, 25, 26, 27, 28, 29] M M' → M' 23 0 = M 8 0 → M' 23 1 = M 8 1 → (∀ k, 0 ≤ k → k < 8 → M' 24 k = M 9 k ∧ M' 25 k = M 10 k ∧ M' 26 k = M 11 k) → (∀ k, 0 ≤ k → k < 4 → M' 27 k = M 12 k ∧ M' 28 k = M 13 k) → (∀ k, 0 ≤ k → k < 24 → M' 29 k = M 14 k) → post M') : ax_Tv Y_X0_become [aR 23, aR 8] SH M post := by
  refine E_X0_become_23_8 (fun _ => h _ ?_ rfl rfl ?_ ?_ ?_)
  · intro a ha
    simp only [List.mem_cons, List.not_mem_nil, or_false, not_or] at ha
    rw [cp_off ha.2.2.2.2.2.2, cp_off ha.2.2.2.2.2.1, cp_off ha.2.2.2.2.1, cp_off ha.2.2.2.1, cp_off ha.2.2.1, cp_off ha.2.1, up_off _ _ _ ha.1, up_off _ _ _ ha.1]
  · intro k h0 h1
    refine ⟨?_, ?_, ?_⟩
    · rw [cp_off (by decide), cp_off (by decide), cp_off (by decide), cp_off (by decide), cp_off (by decide), cp_in h0 h1, up_off _ _ _ (by decide), up_off _ _ _ (by decide)]
    · rw [cp_off (by decide), cp_off (by decide), cp_off (by decide), cp_off (by decide), cp_in h0 h1, cp_off (by decide), up_off _ _ _ (by decide), up_off _ _ _ (by decide)]
    · rw [cp_off (by decide), cp_off (by decide), cp_off (by decide), cp_in h0 h1, cp_off (by decide), cp_off (by decide), up_off _ _ _ (by decide), up_off _ _ _ (by decide)]
  · intro k h0 h1
    refine ⟨?_, ?_⟩
    · rw [cp_off (by decide), cp_off (by decide), cp_in h0 h1, cp_off (by decide), cp_off (by decide), cp_off (by decide), up_off _ _ _ (by decide), up_off _ _ _ (by decide)]
    · rw [cp_off (by decide), cp_in h0 h1, cp_off (by decide), cp_off (by decide), cp_off (by decide), cp_off (by decide), up_off _ _ _ (by decide), up_off _ _ _ (by decide)]
  · intro k h0 h1
    rw [cp_in h0 h1, cp_off (by decide), cp_off (by decide), cp_off (by decide), cp_off (by decide), cp_off (by decide), up_off _ _ _ (by decide), up_off _ _ _ (by decide)]
set_option maxHeartbeats 4000000 in
set_option maxRecDepth 100000 in
theorem S_become_8_16 {post : ax_M → Prop} {M : ax_M} (h : ∀ M', Ofs [8, 9, 10, 11, 12, 13, 14] M M' → M' 8 0 = M 16 0 → M' 8 1 = M 16 1 → (∀ k, 0 ≤ k → k < 8 → M' 9 k = M 17 k ∧ M' 10 k = M 18 k ∧ M' 11 k = M 19 k) → (∀ k, 0 ≤ k → k < 4 → M' 12 k = M 20 k ∧ M' 13 k = M 21 k) → (∀ k, 0 ≤ k → k < 24 → M' 14 k = M 22 k) → post M') : ax_Tv Y_X0_become [aR 8, aR 16] SH M post := by
  refine E_X0_become_8_16 (fun _ => h _ ?_ rfl rfl ?_ ?_ ?_)
  · intro a ha
    simp only [List.mem_cons, List.not_mem_nil, or_false, not_or] at ha
    rw [cp_off ha.2.2.2.2.2.2, cp_off ha.2.2.2.2.2.1, cp_off ha.2.2.2.2.1, cp_off ha.2.2.2.1, cp_off ha.2.2.1, cp_off ha.2.1, up_off _ _ _ ha.1, up_off _ _ _ ha.1]
  · intro k h0 h1
    refine ⟨?_, ?_, ?_⟩
    · rw [cp_off (by decide), cp_off (by decide), cp_off (by decide), cp_off (by decide), cp_off (by decide), cp_in h0 h1, up_off _ _ _ (by decide), up_off _ _ _ (by decide)]
    · rw [cp_off (by decide), cp_off (by decide), cp_off (by decide), cp_off (by decide), cp_in h0 h1, cp_off (by decide), up_off _ _ _ (by decide), up_off _ _ _ (by decide)]
    · rw [cp_off (by decide), cp_off (by decide), cp_off (by decide), cp_in h0 h1, cp_off (by decide), cp_off (by decide), up_off _ _ _ (by decide), up_off _ _ _ (by decide)]
  · intro k h0 h1
    refine ⟨?_, ?_⟩
    · rw [cp_off (by decide), cp_off (by decide), cp_in h0 h1, cp_off (by decide), cp_off (by decide), cp_off (by decide), up_off _ _ _ (by decide), up_off _ _ _ (by decide)]
    · rw [cp_off (by decide), cp_in h0 h1, cp_off (by decide), cp_off (by decide), cp_off (by decide), cp_off (by decide), up_off _ _ _ (by decide), up_off _ _ _ (by decide)]
  · intro k h0 h1
    rw [cp_in h0 h1, cp_off (by decide), cp_off (by decide), cp_off (by decide), cp_off (by decide), cp_off (by decide), up_off _ _ _ (by decide), up_off _ _ _ (by decide)]
set_option maxHeartbeats 4000000 in
set_option maxRecDepth 100000 in
theorem S_become_8_23 {post : ax_M → Prop} {M : ax_M} (h : ∀ M', Ofs [8, 9, 10, 11, 12, 13, 14] M M' → M' 8 0 = M 23 0 → M' 8 1 = M 23 1 → (∀ k, 0 ≤ k → k < 8 → M' 9 k = M 24 k ∧ M' 10 k = M 25 k ∧ M' 11 k = M 26 k) → (∀ k, 0 ≤ k → k < 4 → M' 12 k = M 27 k ∧ M' 13 k = M 28 k) → (∀ k, 0 ≤ k → k < 24 → M' 14 k = M 29 k) → post M') : ax_Tv Y_X0_become [aR 8, aR 23] SH M post := by
  refine E_X0_become_8_23 (fun _ => h _ ?_ rfl rfl ?_ ?_ ?_)
  · intro a ha
    simp only [List.mem_cons, List.not_mem_nil, or_false, not_or] at ha
    rw [cp_off ha.2.2.2.2.2.2, cp_off ha.2.2.2.2.2.1, cp_off ha.2.2.2.2.1, cp_off ha.2.2.2.1, cp_off ha.2.2.1, cp_off ha.2.1, up_off _ _ _ ha.1, up_off _ _ _ ha.1]
  · intro k h0 h1
    refine ⟨?_, ?_, ?_⟩
    · rw [cp_off (by decide), cp_off (by decide), cp_off (by decide), cp_off (by decide), cp_off (by decide), cp_in h0 h1, up_off _ _ _ (by decide), up_off _ _ _ (by decide)]
    · rw [cp_off (by decide), cp_off (by decide), cp_off (by decide), cp_off (by decide), cp_in h0 h1, cp_off (by decide), up_off _ _ _ (by decide), up_off _ _ _ (by decide)]
    · rw [cp_off (by decide), cp_off (by decide), cp_off (by decide), cp_in h0 h1, cp_off (by decide), cp_off (by decide), up_off _ _ _ (by decide), up_off _ _ _ (by decide)]
  · intro k h0 h1
    refine ⟨?_, ?_⟩
    · rw [cp_off (by decide), cp_off (by decide), cp_in h0 h1, cp_off (by decide), cp_off (by decide), cp_off (by decide), up_off _ _ _ (by decide), up_off _ _ _ (by decide)]
    · rw [cp_off (by decide), cp_in h0 h1, cp_off (by decide), cp_off (by decide), cp_off (by decide), cp_off (by decide), up_off _ _ _ (by decide), up_off _ _ _ (by decide)]
  · intro k h0 h1
    rw [cp_in h0 h1, cp_off (by decide), cp_off (by decide), cp_off (by decide), cp_off (by decide), cp_off (by decide), up_off _ _ _ (by decide), up_off _ _ _ (by decide)]
def kc (M : ax_M) (k : Int) : Int := (if M 73 k = 0 then 0 else 1) + (if M 74 k = 0 then 0 else 2)
def kf (M : ax_M) (k : Int) : Int := if M 69 k = 0 then 0 else 1
/-- the reference's image, written so far -/
def KP (b m8 m4 m24 : Int) (M M' : ax_M) : Prop := Ofs [97] M M' ∧ (M' 97 b = M 61 25 ∧ M' 97 (b + 1) = M 61 29) ∧ (∀ k, 0 ≤ k → k < m8 → M' 97 (b + 2 + k) = M 72 k ∧ M' 97 (b + 10 + k) = kc M k) ∧ (∀ k, 0 ≤ k → k < m4 → M' 97 (b + 18 + k) = M 75 k ∧ M' 97 (b + 22 + k) = M 76 k) ∧ (∀ k, 0 ≤ k → k < m24 → M' 97 (b + 26 + k) = kf M k) ∧ ∀ j, (j < b ∨ b + 50 ≤ j) → M' 97 j = M 97 j
theorem kp_8 {b m : Int} {M M' : ax_M} {v : Int} (h0 : 0 ≤ m) (h8 : m < 8) (hv : v = kc M m) (h : KP b m 0 0 M M') : KP b (m + 1) 0 0 M (ax_up (ax_up M' 97 (b + 2 + m) (M' 72 m)) 97 (b + 10 + m) v) := by
  obtain ⟨h1, h2, h3, h4, h5, h6⟩ := h
  have e : M' 72 = M 72 := h1 72 (by decide)
  refine ⟨Ofs.tr h1 (Ofs.tr (Ofs.up (by simp)) (Ofs.up (by simp))), ⟨?_, ?_⟩, fun k a c => ⟨?_, ?_⟩, fun k a c => by omega, fun k a c => by omega, fun j hj => ?_⟩
  · rw [up_ne _ _ _ (by omega), up_ne _ _ _ (by omega)]; exact h2.1
  · rw [up_ne _ _ _ (by omega), up_ne _ _ _ (by omega)]; exact h2.2
  · rw [up_ne _ _ _ (by omega)]
    by_cases hk : k = m
    · subst hk; rw [up_at, e]
    · rw [up_ne _ _ _ (by omega)]; exact (h3 k a (by omega)).1
  · by_cases hk : k = m
    · subst hk; rw [up_at, hv]
    · rw [up_ne _ _ _ (by omega), up_ne _ _ _ (by omega)]; exact (h3 k a (by omega)).2
  · rw [up_ne _ _ _ (by omega), up_ne _ _ _ (by omega)]; exact h6 j hj
theorem kp_4 {b m : Int} {M M' : ax_M} (h0 : 0 ≤ m) (h8 : m < 4) (h : KP b 8 m 0 M M') : KP b 8 (m + 1) 0 M (ax_up (ax_up M' 97 (b + 18 + m) (M' 75 m)) 97 (b + 22 + m) (M' 76 m)) := by
  obtain ⟨h1, h2, h3, h4, h5, h6⟩ := h
  have e : M' 75 = M 75 := h1 75 (by decide)
  have e2 : M' 76 = M 76 := h1 76 (by decide)
  refine ⟨Ofs.tr h1 (Ofs.tr (Ofs.up (by simp)) (Ofs.up (by simp))), ⟨?_, ?_⟩, fun k a c => ⟨?_, ?_⟩, fun k a c => ⟨?_, ?_⟩, fun k a c => by omega, fun j hj => ?_⟩
  · rw [up_ne _ _ _ (by omega), up_ne _ _ _ (by omega)]; exact h2.1
  · rw [up_ne _ _ _ (by omega), up_ne _ _ _ (by omega)]; exact h2.2
  · rw [up_ne _ _ _ (by omega), up_ne _ _ _ (by omega)]; exact (h3 k a c).1
  · rw [up_ne _ _ _ (by omega), up_ne _ _ _ (by omega)]; exact (h3 k a c).2
  · rw [up_ne _ _ _ (by omega)]
    by_cases hk : k = m
    · subst hk; rw [up_at, e]
    · rw [up_ne _ _ _ (by omega)]; exact (h4 k a (by omega)).1
  · by_cases hk : k = m
    · subst hk; rw [up_at, e2]
    · rw [up_ne _ _ _ (by omega), up_ne _ _ _ (by omega)]; exact (h4 k a (by omega)).2
  · rw [up_ne _ _ _ (by omega), up_ne _ _ _ (by omega)]; exact h6 j hj
theorem kp_24 {b m v : Int} {M M' : ax_M} (h0 : 0 ≤ m) (h8 : m < 24) (hv : v = kf M m) (h : KP b 8 4 m M M') : KP b 8 4 (m + 1) M (ax_up M' 97 (b + 26 + m) v) := by
  obtain ⟨h1, h2, h3, h4, h5, h6⟩ := h
  refine ⟨Ofs.tr h1 (Ofs.up (by simp)), ⟨?_, ?_⟩, fun k a c => ⟨?_, ?_⟩, fun k a c => ⟨?_, ?_⟩, fun k a c => ?_, fun j hj => ?_⟩
  · rw [up_ne _ _ _ (by omega)]; exact h2.1
  · rw [up_ne _ _ _ (by omega)]; exact h2.2
  · rw [up_ne _ _ _ (by omega)]; exact (h3 k a c).1
  · rw [up_ne _ _ _ (by omega)]; exact (h3 k a c).2
  · rw [up_ne _ _ _ (by omega)]; exact (h4 k a c).1
  · rw [up_ne _ _ _ (by omega)]; exact (h4 k a c).2
  · by_cases hk : k = m
    · subst hk; rw [up_at, hv]
    · rw [up_ne _ _ _ (by omega)]; exact h5 k a (by omega)
  · rw [up_ne _ _ _ (by omega)]; exact h6 j hj
set_option maxHeartbeats 4000000 in
set_option maxRecDepth 100000 in
theorem S_X11_keep {post : Int → ax_M → Prop} {M : ax_M} {i : Int} (h0 : 0 ≤ i) (h1 : i ≤ 1) (h : ∀ M', KP (60 * i) 8 4 24 M M' → post 1 (ax_up M' 98 i 1)) : ax_Ti Y_X11_keep [aR 61, aI i] SH M post := by
  have L3 : ∀ (r : Nat) (m : Int) (M' : ax_M), m + r = 24 → 0 ≤ m → KP (60 * i) 8 4 m M M' → ax_J Y_X11_keep (ax_Ki Y_X11_keep SH post) 0 0 160 [(0, aR 61), (1, aI i), (2, aI (60 * i)), (3, aI m)] [] SH M' := by
    intro r
    induction r with
    | zero => intro m M' hm h0 hK; rw [show m = 24 by omega] at hK ⊢; exact B_X11_keep_160 ⟨fun _ => ⟨by omega, h _ hK⟩, fun c => by omega⟩
    | succ r ih =>
      intro m M' hm h0 hK
      have e : M' 69 = M 69 := hK.1 69 (by decide)
      refine B_X11_keep_160 ⟨fun _ => by omega, fun c => ⟨by omega, by omega, by omega, fun z => ⟨by omega, by omega, ih (m + 1) _ (by omega) (by omega) (kp_24 h0 c ?_ hK)⟩, fun z => ⟨by omega, by omega, ih (m + 1) _ (by omega) (by omega) (kp_24 h0 c ?_ hK)⟩⟩⟩
      · rw [e] at z; unfold kf; rw [if_pos z]
      · rw [e] at z; unfold kf; rw [if_neg z]
  have L2 : ∀ (r : Nat) (m : Int) (M' : ax_M), m + r = 4 → 0 ≤ m → KP (60 * i) 8 m 0 M M' → ax_J Y_X11_keep (ax_Ki Y_X11_keep SH post) 0 0 113 [(0, aR 61), (1, aI i), (2, aI (60 * i)), (3, aI m)] [] SH M' := by
    intro r
    induction r with
    | zero => intro m M' hm h0 hK; rw [show m = 4 by omega] at hK ⊢; exact B_X11_keep_113 ⟨fun _ => L3 24 0 _ (by omega) (by omega) hK, fun c => by omega⟩
    | succ r ih =>
      intro m M' hm h0 hK
      exact B_X11_keep_113 ⟨fun _ => by omega, fun c => ⟨by omega, by omega, by omega, by omega, by omega, by omega, by omega, by omega, ih (m + 1) _ (by omega) (by omega) (kp_4 h0 c hK)⟩⟩
  have L1 : ∀ (r : Nat) (m : Int) (M' : ax_M), m + r = 8 → 0 ≤ m → KP (60 * i) m 0 0 M M' → ax_J Y_X11_keep (ax_Ki Y_X11_keep SH post) 0 0 43 [(0, aR 61), (1, aI i), (2, aI (60 * i)), (3, aI m)] [] SH M' := by
    intro r
    induction r with
    | zero => intro m M' hm h0 hK; rw [show m = 8 by omega] at hK ⊢; exact B_X11_keep_43 ⟨fun _ => L2 4 0 _ (by omega) (by omega) hK, fun c => by omega⟩
    | succ r ih =>
      intro m M' hm h0 hK
      have e : M' 73 = M 73 := hK.1 73 (by decide)
      have e2 : M' 74 = M 74 := hK.1 74 (by decide)
      refine B_X11_keep_43 ⟨fun _ => by omega, fun c => ⟨by omega, by omega, by omega, by omega, by omega, by omega, fun z => ⟨fun y => ⟨by omega, by omega, ih (m + 1) _ (by omega) (by omega) (kp_8 h0 c ?_ hK)⟩, fun y => ⟨by omega, by omega, ih (m + 1) _ (by omega) (by omega) (kp_8 h0 c ?_ hK)⟩⟩, fun z => ⟨fun y => ⟨by omega, by omega, ih (m + 1) _ (by omega) (by omega) (kp_8 h0 c ?_ hK)⟩, fun y => ⟨by omega, by omega, ih (m + 1) _ (by omega) (by omega) (kp_8 h0 c ?_ hK)⟩⟩⟩⟩
      all_goals (rw [e] at z; rw [e2] at y; unfold kc; simp [z, y])
  refine E_X11_keep (fun _ => ⟨fun c => by omega, fun c => ⟨fun c => by omega, fun _ => ⟨by omega, by omega, by omega, by omega, L1 8 0 _ (by omega) (by omega) ?_⟩⟩⟩)
  refine ⟨Ofs.tr (Ofs.up (by simp)) (Ofs.up (by simp)), ⟨?_, ?_⟩, fun k a c => by omega, fun k a c => by omega, fun k a c => by omega, fun j hj => ?_⟩
  · rw [up_ne _ _ _ (by omega), up_at]
  · rw [up_at]
  · rw [up_ne _ _ _ (by omega), up_ne _ _ _ (by omega)]
theorem imgr_c {M M' : ax_M} {i : Int} {c a1 a2 a3 a4 a5 a6 : Nat} (h97 : ∀ j, 60 * i ≤ j → j < 60 * i + 60 → M' 97 j = M 97 j) (hc : M' c = M c) (p1 : M' a1 = M a1) (p2 : M' a2 = M a2) (p3 : M' a3 = M a3) (p4 : M' a4 = M a4) (p5 : M' a5 = M a5) (p6 : M' a6 = M a6) (q0 : M' 61 0 = M 61 0) (q3 : M' 61 3 = M 61 3) (hp : M 61 3 ≤ 24) (h : ImgR M i c a1 a2 a3 a4 a5 a6) : ImgR M' i c a1 a2 a3 a4 a5 a6 := by
  obtain ⟨h1, h2, h3, h4⟩ := h
  have e0 := h97 (60 * i) (by omega) (by omega)
  have e1 := h97 (60 * i + 1) (by omega) (by omega)
  unfold ImgR
  rw [hc, p1, p2, p3, p4, p5, p6, q0, q3, e0, e1]
  refine ⟨h1, fun k a c => ?_, fun k a c => ?_, fun k a c => ?_⟩
  · rw [h97 _ (by omega) (by omega), h97 _ (by omega) (by omega)]; exact h2 k a c
  · rw [h97 _ (by omega) (by omega), h97 _ (by omega) (by omega)]; exact h3 k a c
  · rw [h97 _ (by omega) (by omega)]; exact h4 k a c
theorem kc_rg (M : ax_M) (k : Int) : 0 ≤ kc M k := by unfold kc; split <;> split <;> omega
theorem kc_bl {M : ax_M} {k : Int} (h1 : Bl (M 73 k)) (h2 : Bl (M 74 k)) : kc M k = M 73 k + 2 * M 74 k := by
  unfold kc
  rcases h1 with h1 | h1 <;> rcases h2 with h2 | h2 <;> rw [h1, h2] <;> decide
theorem kf_bl {M : ax_M} {k : Int} (h1 : Bl (M 69 k)) : kf M k = M 69 k := by
  unfold kf
  rcases h1 with h1 | h1 <;> rw [h1] <;> decide
