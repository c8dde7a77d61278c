theorem cp_in {M : ax_M} {b0 b1 : Nat} {n k : Int} (h0 : 0 ≤ k) (h1 : k < n) : ax_cp M b0 b1 0 0 n b1 k = M b0 k := by
  unfold ax_cp
  rw [if_pos ⟨rfl, h0, by omega⟩, show 0 + (k - 0) = k by omega]
theorem cp_off {M : ax_M} {b0 b1 a : Nat} {s d n : Int} (h : a ≠ b1) : ax_cp M b0 b1 s d n a = M a := by
  funext j
  unfold ax_cp
  rw [if_neg (fun z => h z.1)]
set_option maxHeartbeats 4000000 in
set_option maxRecDepth 100000 in
theorem S_X0_copy_10_18 {post : ax_M → Prop} {M : ax_M} (h : ∀ M', Of 18 M M' → (∀ k, 0 ≤ k → k < 8 → M' 18 k = M 10 k) → post M') : ax_Tv Y_X0_copy [aR 10, aR 18] SH M post := by
  have key : ∀ (r : Nat) (i : Int) (M' : ax_M), i + (r : Int) = 8 → 0 ≤ i → (∀ k, 0 ≤ k → k < 8 → M 10 k = 0 ∨ M 10 k = 1) → Of 18 M M' → (∀ k, 0 ≤ k → k < i → M' 18 k = M 10 k) → ax_J Y_X0_copy (ax_Kv Y_X0_copy SH post) 0 0 2 [(0, aR 10), (1, aR 18), (2, aI i)] [] SH M' := by
    intro r
    induction r with
    | zero => intro i M' hi h0 hb hO hk; exact B_X0_copy_10_18_2 ⟨fun _ => h M' hO (fun k a c => hk k a (by omega)), fun c => by omega⟩
    | succ r ih =>
      intro i M' hi h0 hb hO hk
      have e : M' 10 = M 10 := hO 10 (by decide)
      refine B_X0_copy_10_18_2 ⟨fun c => by omega, fun c => ⟨⟨by omega, by omega⟩, ?_, by omega, ih (i + 1) _ (by omega) (by omega) hb (hO.tr Of.up) (fun k a d => ?_)⟩⟩
      · rw [e]; exact hb i h0 c
      · rw [up_k]
        by_cases hk2 : k = i
        · subst hk2; rw [if_pos rfl, e]
        · rw [if_neg hk2]; exact hk k a (by omega)
  exact E_X0_copy_10_18 (fun q => key 8 0 M (by omega) (by omega) (fun k a c => mr_a q sh_10 a c) (fun a _ => rfl) (fun k a c => by omega))
set_option maxHeartbeats 4000000 in
set_option maxRecDepth 100000 in
theorem S_X0_copy_11_19 {post : ax_M → Prop} {M : ax_M} (h : ∀ M', Of 19 M M' → (∀ k, 0 ≤ k → k < 8 → M' 19 k = M 11 k) → post M') : ax_Tv Y_X0_copy [aR 11, aR 19] SH M post := by
  have key : ∀ (r : Nat) (i : Int) (M' : ax_M), i + (r : Int) = 8 → 0 ≤ i → (∀ k, 0 ≤ k → k < 8 → M 11 k = 0 ∨ M 11 k = 1) → Of 19 M M' → (∀ k, 0 ≤ k → k < i → M' 19 k = M 11 k) → ax_J Y_X0_copy (ax_Kv Y_X0_copy SH post) 0 0 2 [(0, aR 11), (1, aR 19), (2, aI i)] [] SH M' := by
    intro r
    induction r with
    | zero => intro i M' hi h0 hb hO hk; exact B_X0_copy_11_19_2 ⟨fun _ => h M' hO (fun k a c => hk k a (by omega)), fun c => by omega⟩
    | succ r ih =>
      intro i M' hi h0 hb hO hk
      have e : M' 11 = M 11 := hO 11 (by decide)
      refine B_X0_copy_11_19_2 ⟨fun c => by omega, fun c => ⟨⟨by omega, by omega⟩, ?_, by omega, ih (i + 1) _ (by omega) (by omega) hb (hO.tr Of.up) (fun k a d => ?_)⟩⟩
      · rw [e]; exact hb i h0 c
      · rw [up_k]
        by_cases hk2 : k = i
        · subst hk2; rw [if_pos rfl, e]
        · rw [if_neg hk2]; exact hk k a (by omega)
  exact E_X0_copy_11_19 (fun q => key 8 0 M (by omega) (by omega) (fun k a c => mr_a q sh_11 a c) (fun a _ => rfl) (fun k a c => by omega))
set_option maxHeartbeats 4000000 in
set_option maxRecDepth 100000 in
theorem S_X0_copy_14_22 {post : ax_M → Prop} {M : ax_M} (h : ∀ M', Of 22 M M' → (∀ k, 0 ≤ k → k < 24 → M' 22 k = M 14 k) → post M') : ax_Tv Y_X0_copy [aR 14, aR 22] SH M post := by
  have key : ∀ (r : Nat) (i : Int) (M' : ax_M), i + (r : Int) = 24 → 0 ≤ i → (∀ k, 0 ≤ k → k < 24 → M 14 k = 0 ∨ M 14 k = 1) → Of 22 M M' → (∀ k, 0 ≤ k → k < i → M' 22 k = M 14 k) → ax_J Y_X0_copy (ax_Kv Y_X0_copy SH post) 0 0 2 [(0, aR 14), (1, aR 22), (2, aI i)] [] SH M' := by
    intro r
    induction r with
    | zero => intro i M' hi h0 hb hO hk; exact B_X0_copy_14_22_2 ⟨fun _ => h M' hO (fun k a c => hk k a (by omega)), fun c => by omega⟩
    | succ r ih =>
      intro i M' hi h0 hb hO hk
      have e : M' 14 = M 14 := hO 14 (by decide)
      refine B_X0_copy_14_22_2 ⟨fun c => by omega, fun c => ⟨⟨by omega, by omega⟩, ?_, by omega, ih (i + 1) _ (by omega) (by omega) hb (hO.tr Of.up) (fun k a d => ?_)⟩⟩
      · rw [e]; exact hb i h0 c
      · rw [up_k]
        by_cases hk2 : k = i
        · subst hk2; rw [if_pos rfl, e]
        · rw [if_neg hk2]; exact hk k a (by omega)
  exact E_X0_copy_14_22 (fun q => key 24 0 M (by omega) (by omega) (fun k a c => mr_a q sh_14 a c) (fun a _ => rfl) (fun k a c => by omega))
set_option maxHeartbeats 4000000 in
set_option maxRecDepth 100000 in
theorem S_become_16_8 {post : ax_M → Prop} {M : ax_M} (h : ∀ M', Ofs [16, 17, 18, 19, 20, 21, 22] M M' → M' 16 0 = M 8 0 → M' 16 1 = M 8 1 → (∀ k, 0 ≤ k → k < 8 → M' 17 k = M 9 k ∧ M' 18 k = M 10 k ∧ M' 19 k = M 11 k) → (∀ k, 0 ≤ k → k < 4 → M' 20 k = M 12 k ∧ M' 21 k = M 13 k) → (∀ k, 0 ≤ k → k < 24 → M' 22 k = M 14 k) → post M') : ax_Tv Y_X0_become [aR 16, aR 8] SH M post := by
  refine E_X0_become_16_8 (fun _ => S_X0_copy_10_18 (fun N1 o1 p1 => S_X0_copy_11_19 (fun N2 o2 p2 => S_X0_copy_14_22 (fun N3 o3 p3 => h N3 ?_ ?_ ?_ ?_ ?_ ?_))))
  · intro a ha
    simp only [List.mem_cons, List.not_mem_nil, or_false, not_or] at ha
    rw [o3 a ha.2.2.2.2.2.2, o2 a ha.2.2.2.1, o1 a ha.2.2.1, cp_off ha.2.2.2.2.2.1, cp_off ha.2.2.2.2.1, cp_off ha.2.1, up_off _ _ _ ha.1, up_off _ _ _ ha.1]
  · rw [o3 16 (by decide), o2 16 (by decide), o1 16 (by decide)] <;> rfl
  · rw [o3 16 (by decide), o2 16 (by decide), o1 16 (by decide)] <;> rfl
  · intro k h0 h1
    refine ⟨?_, ?_, ?_⟩
    · rw [o3 17 (by decide), o2 17 (by decide), o1 17 (by decide), cp_off (by decide), cp_off (by decide), cp_in h0 h1, up_off _ _ _ (by decide), up_off _ _ _ (by decide)]
    · rw [o3 18 (by decide), o2 18 (by decide), p1 k h0 h1, cp_off (by decide), cp_off (by decide), cp_off (by decide), up_off _ _ _ (by decide), up_off _ _ _ (by decide)]
    · rw [o3 19 (by decide), p2 k h0 h1, o1 11 (by decide), cp_off (by decide), cp_off (by decide), cp_off (by decide), up_off _ _ _ (by decide), up_off _ _ _ (by decide)]
  · intro k h0 h1
    refine ⟨?_, ?_⟩
    · rw [o3 20 (by decide), o2 20 (by decide), o1 20 (by decide), cp_off (by decide), cp_in h0 h1, cp_off (by decide), up_off _ _ _ (by decide), up_off _ _ _ (by decide)]
    · rw [o3 21 (by decide), o2 21 (by decide), o1 21 (by decide), cp_in h0 h1, cp_off (by decide), cp_off (by decide), up_off _ _ _ (by decide), up_off _ _ _ (by decide)]
  · intro k h0 h1
    rw [p3 k h0 h1, o2 14 (by decide), o1 14 (by decide), cp_off (by decide), cp_off (by decide), cp_off (by decide), up_off _ _ _ (by decide), up_off _ _ _ (by decide)]
set_option maxHeartbeats 4000000 in
set_option maxRecDepth 100000 in
theorem S_X0_copy_10_25 {post : ax_M → Prop} {M : ax_M} (h : ∀ M', Of 25 M M' → (∀ k, 0 ≤ k → k < 8 → M' 25 k = M 10 k) → post M') : ax_Tv Y_X0_copy [aR 10, aR 25] SH M post := by
  have key : ∀ (r : Nat) (i : Int) (M' : ax_M), i + (r : Int) = 8 → 0 ≤ i → (∀ k, 0 ≤ k → k < 8 → M 10 k = 0 ∨ M 10 k = 1) → Of 25 M M' → (∀ k, 0 ≤ k → k < i → M' 25 k = M 10 k) → ax_J Y_X0_copy (ax_Kv Y_X0_copy SH post) 0 0 2 [(0, aR 10), (1, aR 25), (2, aI i)] [] SH M' := by
    intro r
    induction r with
    | zero => intro i M' hi h0 hb hO hk; exact B_X0_copy_10_25_2 ⟨fun _ => h M' hO (fun k a c => hk k a (by omega)), fun c => by omega⟩
    | succ r ih =>
      intro i M' hi h0 hb hO hk
      have e : M' 10 = M 10 := hO 10 (by decide)
      refine B_X0_copy_10_25_2 ⟨fun c => by omega, fun c => ⟨⟨by omega, by omega⟩, ?_, by omega, ih (i + 1) _ (by omega) (by omega) hb (hO.tr Of.up) (fun k a d => ?_)⟩⟩
      · rw [e]; exact hb i h0 c
      · rw [up_k]
        by_cases hk2 : k = i
        · subst hk2; rw [if_pos rfl, e]
        · rw [if_neg hk2]; exact hk k a (by omega)
  exact E_X0_copy_10_25 (fun q => key 8 0 M (by omega) (by omega) (fun k a c => mr_a q sh_10 a c) (fun a _ => rfl) (fun k a c => by omega))
set_option maxHeartbeats 4000000 in
set_option maxRecDepth 100000 in
theorem S_X0_copy_11_26 {post : ax_M → Prop} {M : ax_M} (h : ∀ M', Of 26 M M' → (∀ k, 0 ≤ k → k < 8 → M' 26 k = M 11 k) → post M') : ax_Tv Y_X0_copy [aR 11, aR 26] SH M post := by
  have key : ∀ (r : Nat) (i : Int) (M' : ax_M), i + (r : Int) = 8 → 0 ≤ i → (∀ k, 0 ≤ k → k < 8 → M 11 k = 0 ∨ M 11 k = 1) → Of 26 M M' → (∀ k, 0 ≤ k → k < i → M' 26 k = M 11 k) → ax_J Y_X0_copy (ax_Kv Y_X0_copy SH post) 0 0 2 [(0, aR 11), (1, aR 26), (2, aI i)] [] SH M' := by
    intro r
    induction r with
    | zero => intro i M' hi h0 hb hO hk; exact B_X0_copy_11_26_2 ⟨fun _ => h M' hO (fun k a c => hk k a (by omega)), fun c => by omega⟩
    | succ r ih =>
      intro i M' hi h0 hb hO hk
      have e : M' 11 = M 11 := hO 11 (by decide)
      refine B_X0_copy_11_26_2 ⟨fun c => by omega, fun c => ⟨⟨by omega, by omega⟩, ?_, by omega, ih (i + 1) _ (by omega) (by omega) hb (hO.tr Of.up) (fun k a d => ?_)⟩⟩
      · rw [e]; exact hb i h0 c
      · rw [up_k]
        by_cases hk2 : k = i
        · subst hk2; rw [if_pos rfl, e]
        · rw [if_neg hk2]; exact hk k a (by omega)
  exact E_X0_copy_11_26 (fun q => key 8 0 M (by omega) (by omega) (fun k a c => mr_a q sh_11 a c) (fun a _ => rfl) (fun k a c => by omega))
set_option maxHeartbeats 4000000 in
set_option maxRecDepth 100000 in
theorem S_X0_copy_14_29 {post : ax_M → Prop} {M : ax_M} (h : ∀ M', Of 29 M M' → (∀ k, 0 ≤ k → k < 24 → M' 29 k = M 14 k) → post M') : ax_Tv Y_X0_copy [aR 14, aR 29] SH M post := by
  have key : ∀ (r : Nat) (i : Int) (M' : ax_M), i + (r : Int) = 24 → 0 ≤ i → (∀ k, 0 ≤ k → k < 24 → M 14 k = 0 ∨ M 14 k = 1) → Of 29 M M' → (∀ k, 0 ≤ k → k < i → M' 29 k = M 14 k) → ax_J Y_X0_copy (ax_Kv Y_X0_copy SH post) 0 0 2 [(0, aR 14), (1, aR 29), (2, aI i)] [] SH M' := by
    intro r
    induction r with
    | zero => intro i M' hi h0 hb hO hk; exact B_X0_copy_14_29_2 ⟨fun _ => h M' hO (fun k a c => hk k a (by omega)), fun c => by omega⟩
    | succ r ih =>
      intro i M' hi h0 hb hO hk
      have e : M' 14 = M 14 := hO 14 (by decide)
      refine B_X0_copy_14_29_2 ⟨fun c => by omega, fun c => ⟨⟨by omega, by omega⟩, ?_, by omega, ih (i + 1) _ (by omega) (by omega) hb (hO.tr Of.up) (fun k a d => ?_)⟩⟩
      · rw [e]; exact hb i h0 c
      · rw [up_k]
        by_cases hk2 : k = i
        · subst hk2; rw [if_pos rfl, e]
        · rw [if_neg hk2]; exact hk k a (by omega)
  exact E_X0_copy_14_29 (fun q => key 24 0 M (by omega) (by omega) (fun k a c => mr_a q sh_14 a c) (fun a _ => rfl) (fun k a c => by omega))
set_option maxHeartbeats 4000000 in
set_option maxRecDepth 100000 in
theorem S_become_23_8 {post : ax_M → Prop} {M : ax_M} (h : ∀ M', Ofs [23, 24, 25, 26, 27, 28, 29] M M' → M' 23 0 = M 8 0 → M' 23 1 = M 8 1 → (∀ k, 0 ≤ k → k < 8 → M' 24 k = M 9 k ∧ M' 25 k = M 10 k ∧ M' 26 k = M 11 k) → (∀ k, 0 ≤ k → k < 4 → M' 27 k = M 12 k ∧ M' 28 k = M 13 k) → (∀ k, 0 ≤ k → k < 24 → M' 29 k = M 14 k) → post M') : ax_Tv Y_X0_become [aR 23, aR 8] SH M post := by
  refine E_X0_become_23_8 (fun _ => S_X0_copy_10_25 (fun N1 o1 p1 => S_X0_copy_11_26 (fun N2 o2 p2 => S_X0_copy_14_29 (fun N3 o3 p3 => h N3 ?_ ?_ ?_ ?_ ?_ ?_))))
  · intro a ha
    simp only [List.mem_cons, List.not_mem_nil, or_false, not_or] at ha
    rw [o3 a ha.2.2.2.2.2.2, o2 a ha.2.2.2.1, o1 a ha.2.2.1, cp_off ha.2.2.2.2.2.1, cp_off ha.2.2.2.2.1, cp_off ha.2.1, up_off _ _ _ ha.1, up_off _ _ _ ha.1]
  · rw [o3 23 (by decide), o2 23 (by decide), o1 23 (by decide)] <;> rfl
  · rw [o3 23 (by decide), o2 23 (by decide), o1 23 (by decide)] <;> rfl
  · intro k h0 h1
    refine ⟨?_, ?_, ?_⟩
    · rw [o3 24 (by decide), o2 24 (by decide), o1 24 (by decide), cp_off (by decide), cp_off (by decide), cp_in h0 h1, up_off _ _ _ (by decide), up_off _ _ _ (by decide)]
    · rw [o3 25 (by decide), o2 25 (by decide), p1 k h0 h1, cp_off (by decide), cp_off (by decide), cp_off (by decide), up_off _ _ _ (by decide), up_off _ _ _ (by decide)]
    · rw [o3 26 (by decide), p2 k h0 h1, o1 11 (by decide), cp_off (by decide), cp_off (by decide), cp_off (by decide), up_off _ _ _ (by decide), up_off _ _ _ (by decide)]
  · intro k h0 h1
    refine ⟨?_, ?_⟩
    · rw [o3 27 (by decide), o2 27 (by decide), o1 27 (by decide), cp_off (by decide), cp_in h0 h1, cp_off (by decide), up_off _ _ _ (by decide), up_off _ _ _ (by decide)]
    · rw [o3 28 (by decide), o2 28 (by decide), o1 28 (by decide), cp_in h0 h1, cp_off (by decide), cp_off (by decide), up_off _ _ _ (by decide), up_off _ _ _ (by decide)]
  · intro k h0 h1
    rw [p3 k h0 h1, o2 14 (by decide), o1 14 (by decide), cp_off (by decide), cp_off (by decide), cp_off (by decide), up_off _ _ _ (by decide), up_off _ _ _ (by decide)]
set_option maxHeartbeats 4000000 in
set_option maxRecDepth 100000 in
theorem S_X0_copy_18_10 {post : ax_M → Prop} {M : ax_M} (h : ∀ M', Of 10 M M' → (∀ k, 0 ≤ k → k < 8 → M' 10 k = M 18 k) → post M') : ax_Tv Y_X0_copy [aR 18, aR 10] SH M post := by
  have key : ∀ (r : Nat) (i : Int) (M' : ax_M), i + (r : Int) = 8 → 0 ≤ i → (∀ k, 0 ≤ k → k < 8 → M 18 k = 0 ∨ M 18 k = 1) → Of 10 M M' → (∀ k, 0 ≤ k → k < i → M' 10 k = M 18 k) → ax_J Y_X0_copy (ax_Kv Y_X0_copy SH post) 0 0 2 [(0, aR 18), (1, aR 10), (2, aI i)] [] SH M' := by
    intro r
    induction r with
    | zero => intro i M' hi h0 hb hO hk; exact B_X0_copy_18_10_2 ⟨fun _ => h M' hO (fun k a c => hk k a (by omega)), fun c => by omega⟩
    | succ r ih =>
      intro i M' hi h0 hb hO hk
      have e : M' 18 = M 18 := hO 18 (by decide)
      refine B_X0_copy_18_10_2 ⟨fun c => by omega, fun c => ⟨⟨by omega, by omega⟩, ?_, by omega, ih (i + 1) _ (by omega) (by omega) hb (hO.tr Of.up) (fun k a d => ?_)⟩⟩
      · rw [e]; exact hb i h0 c
      · rw [up_k]
        by_cases hk2 : k = i
        · subst hk2; rw [if_pos rfl, e]
        · rw [if_neg hk2]; exact hk k a (by omega)
  exact E_X0_copy_18_10 (fun q => key 8 0 M (by omega) (by omega) (fun k a c => mr_a q sh_18 a c) (fun a _ => rfl) (fun k a c => by omega))
set_option maxHeartbeats 4000000 in
set_option maxRecDepth 100000 in
theorem S_X0_copy_19_11 {post : ax_M → Prop} {M : ax_M} (h : ∀ M', Of 11 M M' → (∀ k, 0 ≤ k → k < 8 → M' 11 k = M 19 k) → post M') : ax_Tv Y_X0_copy [aR 19, aR 11] SH M post := by
  have key : ∀ (r : Nat) (i : Int) (M' : ax_M), i + (r : Int) = 8 → 0 ≤ i → (∀ k, 0 ≤ k → k < 8 → M 19 k = 0 ∨ M 19 k = 1) → Of 11 M M' → (∀ k, 0 ≤ k → k < i → M' 11 k = M 19 k) → ax_J Y_X0_copy (ax_Kv Y_X0_copy SH post) 0 0 2 [(0, aR 19), (1, aR 11), (2, aI i)] [] SH M' := by
    intro r
    induction r with
    | zero => intro i M' hi h0 hb hO hk; exact B_X0_copy_19_11_2 ⟨fun _ => h M' hO (fun k a c => hk k a (by omega)), fun c => by omega⟩
    | succ r ih =>
      intro i M' hi h0 hb hO hk
      have e : M' 19 = M 19 := hO 19 (by decide)
      refine B_X0_copy_19_11_2 ⟨fun c => by omega, fun c => ⟨⟨by omega, by omega⟩, ?_, by omega, ih (i + 1) _ (by omega) (by omega) hb (hO.tr Of.up) (fun k a d => ?_)⟩⟩
      · rw [e]; exact hb i h0 c
      · rw [up_k]
        by_cases hk2 : k = i
        · subst hk2; rw [if_pos rfl, e]
        · rw [if_neg hk2]; exact hk k a (by omega)
  exact E_X0_copy_19_11 (fun q => key 8 0 M (by omega) (by omega) (fun k a c => mr_a q sh_19 a c) (fun a _ => rfl) (fun k a c => by omega))
set_option maxHeartbeats 4000000 in
set_option maxRecDepth 100000 in
theorem S_X0_copy_22_14 {post : ax_M → Prop} {M : ax_M} (h : ∀ M', Of 14 M M' → (∀ k, 0 ≤ k → k < 24 → M' 14 k = M 22 k) → post M') : ax_Tv Y_X0_copy [aR 22, aR 14] SH M post := by
  have key : ∀ (r : Nat) (i : Int) (M' : ax_M), i + (r : Int) = 24 → 0 ≤ i → (∀ k, 0 ≤ k → k < 24 → M 22 k = 0 ∨ M 22 k = 1) → Of 14 M M' → (∀ k, 0 ≤ k → k < i → M' 14 k = M 22 k) → ax_J Y_X0_copy (ax_Kv Y_X0_copy SH post) 0 0 2 [(0, aR 22), (1, aR 14), (2, aI i)] [] SH M' := by
    intro r
    induction r with
    | zero => intro i M' hi h0 hb hO hk; exact B_X0_copy_22_14_2 ⟨fun _ => h M' hO (fun k a c => hk k a (by omega)), fun c => by omega⟩
    | succ r ih =>
      intro i M' hi h0 hb hO hk
      have e : M' 22 = M 22 := hO 22 (by decide)
      refine B_X0_copy_22_14_2 ⟨fun c => by omega, fun c => ⟨⟨by omega, by omega⟩, ?_, by omega, ih (i + 1) _ (by omega) (by omega) hb (hO.tr Of.up) (fun k a d => ?_)⟩⟩
      · rw [e]; exact hb i h0 c
      · rw [up_k]
        by_cases hk2 : k = i
        · subst hk2; rw [if_pos rfl, e]
        · rw [if_neg hk2]; exact hk k a (by omega)
  exact E_X0_copy_22_14 (fun q => key 24 0 M (by omega) (by omega) (fun k a c => mr_a q sh_22 a c) (fun a _ => rfl) (fun k a c => by omega))
set_option maxHeartbeats 4000000 in
set_option maxRecDepth 100000 in
theorem S_become_8_16 {post : ax_M → Prop} {M : ax_M} (h : ∀ M', Ofs [8, 9, 10, 11, 12, 13, 14] M M' → M' 8 0 = M 16 0 → M' 8 1 = M 16 1 → (∀ k, 0 ≤ k → k < 8 → M' 9 k = M 17 k ∧ M' 10 k = M 18 k ∧ M' 11 k = M 19 k) → (∀ k, 0 ≤ k → k < 4 → M' 12 k = M 20 k ∧ M' 13 k = M 21 k) → (∀ k, 0 ≤ k → k < 24 → M' 14 k = M 22 k) → post M') : ax_Tv Y_X0_become [aR 8, aR 16] SH M post := by
  refine E_X0_become_8_16 (fun _ => S_X0_copy_18_10 (fun N1 o1 p1 => S_X0_copy_19_11 (fun N2 o2 p2 => S_X0_copy_22_14 (fun N3 o3 p3 => h N3 ?_ ?_ ?_ ?_ ?_ ?_))))
  · intro a ha
    simp only [List.mem_cons, List.not_mem_nil, or_false, not_or] at ha
    rw [o3 a ha.2.2.2.2.2.2, o2 a ha.2.2.2.1, o1 a ha.2.2.1, cp_off ha.2.2.2.2.2.1, cp_off ha.2.2.2.2.1, cp_off ha.2.1, up_off _ _ _ ha.1, up_off _ _ _ ha.1]
  · rw [o3 8 (by decide), o2 8 (by decide), o1 8 (by decide)] <;> rfl
  · rw [o3 8 (by decide), o2 8 (by decide), o1 8 (by decide)] <;> rfl
  · intro k h0 h1
    refine ⟨?_, ?_, ?_⟩
    · rw [o3 9 (by decide), o2 9 (by decide), o1 9 (by decide), cp_off (by decide), cp_off (by decide), cp_in h0 h1, up_off _ _ _ (by decide), up_off _ _ _ (by decide)]
    · rw [o3 10 (by decide), o2 10 (by decide), p1 k h0 h1, cp_off (by decide), cp_off (by decide), cp_off (by decide), up_off _ _ _ (by decide), up_off _ _ _ (by decide)]
    · rw [o3 11 (by decide), p2 k h0 h1, o1 19 (by decide), cp_off (by decide), cp_off (by decide), cp_off (by decide), up_off _ _ _ (by decide), up_off _ _ _ (by decide)]
  · intro k h0 h1
    refine ⟨?_, ?_⟩
    · rw [o3 12 (by decide), o2 12 (by decide), o1 12 (by decide), cp_off (by decide), cp_in h0 h1, cp_off (by decide), up_off _ _ _ (by decide), up_off _ _ _ (by decide)]
    · rw [o3 13 (by decide), o2 13 (by decide), o1 13 (by decide), cp_in h0 h1, cp_off (by decide), cp_off (by decide), up_off _ _ _ (by decide), up_off _ _ _ (by decide)]
  · intro k h0 h1
    rw [p3 k h0 h1, o2 22 (by decide), o1 22 (by decide), cp_off (by decide), cp_off (by decide), cp_off (by decide), up_off _ _ _ (by decide), up_off _ _ _ (by decide)]
set_option maxHeartbeats 4000000 in
set_option maxRecDepth 100000 in
theorem S_X0_copy_25_10 {post : ax_M → Prop} {M : ax_M} (h : ∀ M', Of 10 M M' → (∀ k, 0 ≤ k → k < 8 → M' 10 k = M 25 k) → post M') : ax_Tv Y_X0_copy [aR 25, aR 10] SH M post := by
  have key : ∀ (r : Nat) (i : Int) (M' : ax_M), i + (r : Int) = 8 → 0 ≤ i → (∀ k, 0 ≤ k → k < 8 → M 25 k = 0 ∨ M 25 k = 1) → Of 10 M M' → (∀ k, 0 ≤ k → k < i → M' 10 k = M 25 k) → ax_J Y_X0_copy (ax_Kv Y_X0_copy SH post) 0 0 2 [(0, aR 25), (1, aR 10), (2, aI i)] [] SH M' := by
    intro r
    induction r with
    | zero => intro i M' hi h0 hb hO hk; exact B_X0_copy_25_10_2 ⟨fun _ => h M' hO (fun k a c => hk k a (by omega)), fun c => by omega⟩
    | succ r ih =>
      intro i M' hi h0 hb hO hk
      have e : M' 25 = M 25 := hO 25 (by decide)
      refine B_X0_copy_25_10_2 ⟨fun c => by omega, fun c => ⟨⟨by omega, by omega⟩, ?_, by omega, ih (i + 1) _ (by omega) (by omega) hb (hO.tr Of.up) (fun k a d => ?_)⟩⟩
      · rw [e]; exact hb i h0 c
      · rw [up_k]
        by_cases hk2 : k = i
        · subst hk2; rw [if_pos rfl, e]
        · rw [if_neg hk2]; exact hk k a (by omega)
  exact E_X0_copy_25_10 (fun q => key 8 0 M (by omega) (by omega) (fun k a c => mr_a q sh_25 a c) (fun a _ => rfl) (fun k a c => by omega))
set_option maxHeartbeats 4000000 in
set_option maxRecDepth 100000 in
theorem S_X0_copy_26_11 {post : ax_M → Prop} {M : ax_M} (h : ∀ M', Of 11 M M' → (∀ k, 0 ≤ k → k < 8 → M' 11 k = M 26 k) → post M') : ax_Tv Y_X0_copy [aR 26, aR 11] SH M post := by
  have key : ∀ (r : Nat) (i : Int) (M' : ax_M), i + (r : Int) = 8 → 0 ≤ i → (∀ k, 0 ≤ k → k < 8 → M 26 k = 0 ∨ M 26 k = 1) → Of 11 M M' → (∀ k, 0 ≤ k → k < i → M' 11 k = M 26 k) → ax_J Y_X0_copy (ax_Kv Y_X0_copy SH post) 0 0 2 [(0, aR 26), (1, aR 11), (2, aI i)] [] SH M' := by
    intro r
    induction r with
    | zero => intro i M' hi h0 hb hO hk; exact B_X0_copy_26_11_2 ⟨fun _ => h M' hO (fun k a c => hk k a (by omega)), fun c => by omega⟩
    | succ r ih =>
      intro i M' hi h0 hb hO hk
      have e : M' 26 = M 26 := hO 26 (by decide)
      refine B_X0_copy_26_11_2 ⟨fun c => by omega, fun c => ⟨⟨by omega, by omega⟩, ?_, by omega, ih (i + 1) _ (by omega) (by omega) hb (hO.tr Of.up) (fun k a d => ?_)⟩⟩
      · rw [e]; exact hb i h0 c
      · rw [up_k]
        by_cases hk2 : k = i
        · subst hk2; rw [if_pos rfl, e]
        · rw [if_neg hk2]; exact hk k a (by omega)
  exact E_X0_copy_26_11 (fun q => key 8 0 M (by omega) (by omega) (fun k a c => mr_a q sh_26 a c) (fun a _ => rfl) (fun k a c => by omega))
set_option maxHeartbeats 4000000 in
set_option maxRecDepth 100000 in
theorem S_X0_copy_29_14 {post : ax_M → Prop} {M : ax_M} (h : ∀ M', Of 14 M M' → (∀ k, 0 ≤ k → k < 24 → M' 14 k = M 29 k) → post M') : ax_Tv Y_X0_copy [aR 29, aR 14] SH M post := by
  have key : ∀ (r : Nat) (i : Int) (M' : ax_M), i + (r : Int) = 24 → 0 ≤ i → (∀ k, 0 ≤ k → k < 24 → M 29 k = 0 ∨ M 29 k = 1) → Of 14 M M' → (∀ k, 0 ≤ k → k < i → M' 14 k = M 29 k) → ax_J Y_X0_copy (ax_Kv Y_X0_copy SH post) 0 0 2 [(0, aR 29), (1, aR 14), (2, aI i)] [] SH M' := by
    intro r
    induction r with
    | zero => intro i M' hi h0 hb hO hk; exact B_X0_copy_29_14_2 ⟨fun _ => h M' hO (fun k a c => hk k a (by omega)), fun c => by omega⟩
    | succ r ih =>
      intro i M' hi h0 hb hO hk
      have e : M' 29 = M 29 := hO 29 (by decide)
      refine B_X0_copy_29_14_2 ⟨fun c => by omega, fun c => ⟨⟨by omega, by omega⟩, ?_, by omega, ih (i + 1) _ (by omega) (by omega) hb (hO.tr Of.up) (fun k a d => ?_)⟩⟩
      · rw [e]; exact hb i h0 c
      · rw [up_k]
        by_cases hk2 : k = i
        · subst hk2; rw [if_pos rfl, e]
        · rw [if_neg hk2]; exact hk k a (by omega)
  exact E_X0_copy_29_14 (fun q => key 24 0 M (by omega) (by omega) (fun k a c => mr_a q sh_29 a c) (fun a _ => rfl) (fun k a c => by omega))
set_option maxHeartbeats 4000000 in
set_option maxRecDepth 100000 in
theorem S_become_8_23 {post : ax_M → Prop} {M : ax_M} (h : ∀ M', Ofs [8, 9, 10, 11, 12, 13, 14] M M' → M' 8 0 = M 23 0 → M' 8 1 = M 23 1 → (∀ k, 0 ≤ k → k < 8 → M' 9 k = M 24 k ∧ M' 10 k = M 25 k ∧ M' 11 k = M 26 k) → (∀ k, 0 ≤ k → k < 4 → M' 12 k = M 27 k ∧ M' 13 k = M 28 k) → (∀ k, 0 ≤ k → k < 24 → M' 14 k = M 29 k) → post M') : ax_Tv Y_X0_become [aR 8, aR 23] SH M post := by
  refine E_X0_become_8_23 (fun _ => S_X0_copy_25_10 (fun N1 o1 p1 => S_X0_copy_26_11 (fun N2 o2 p2 => S_X0_copy_29_14 (fun N3 o3 p3 => h N3 ?_ ?_ ?_ ?_ ?_ ?_))))
  · intro a ha
    simp only [List.mem_cons, List.not_mem_nil, or_false, not_or] at ha
    rw [o3 a ha.2.2.2.2.2.2, o2 a ha.2.2.2.1, o1 a ha.2.2.1, cp_off ha.2.2.2.2.2.1, cp_off ha.2.2.2.2.1, cp_off ha.2.1, up_off _ _ _ ha.1, up_off _ _ _ ha.1]
  · rw [o3 8 (by decide), o2 8 (by decide), o1 8 (by decide)] <;> rfl
  · rw [o3 8 (by decide), o2 8 (by decide), o1 8 (by decide)] <;> rfl
  · intro k h0 h1
    refine ⟨?_, ?_, ?_⟩
    · rw [o3 9 (by decide), o2 9 (by decide), o1 9 (by decide), cp_off (by decide), cp_off (by decide), cp_in h0 h1, up_off _ _ _ (by decide), up_off _ _ _ (by decide)]
    · rw [o3 10 (by decide), o2 10 (by decide), p1 k h0 h1, cp_off (by decide), cp_off (by decide), cp_off (by decide), up_off _ _ _ (by decide), up_off _ _ _ (by decide)]
    · rw [o3 11 (by decide), p2 k h0 h1, o1 26 (by decide), cp_off (by decide), cp_off (by decide), cp_off (by decide), up_off _ _ _ (by decide), up_off _ _ _ (by decide)]
  · intro k h0 h1
    refine ⟨?_, ?_⟩
    · rw [o3 12 (by decide), o2 12 (by decide), o1 12 (by decide), cp_off (by decide), cp_in h0 h1, cp_off (by decide), up_off _ _ _ (by decide), up_off _ _ _ (by decide)]
    · rw [o3 13 (by decide), o2 13 (by decide), o1 13 (by decide), cp_in h0 h1, cp_off (by decide), cp_off (by decide), up_off _ _ _ (by decide), up_off _ _ _ (by decide)]
  · intro k h0 h1
    rw [p3 k h0 h1, o2 29 (by decide), o1 29 (by decide), cp_off (by decide), cp_off (by decide), cp_off (by decide), up_off _ _ _ (by decide), up_off _ _ _ (by decide)]
def kc (M : ax_M) (k : Int) : Int := (if M 73 k = 0 then 0 else 1) + (if M 74 k = 0 then 0 else 2)
def kf (M : ax_M) (k : Int) : Int := if M 69 k = 0 then 0 else 1
/-- the reference's image, written so far -/
def KP (b m8 m4 m24 : Int) (M M' : ax_M) : Prop := Ofs [97] M M' ∧ (M' 97 b = M 61 25 ∧ M' 97 (b + 1) = M 61 29) ∧ (∀ k, 0 ≤ k → k < m8 → M' 97 (b + 2 + k) = M 72 k ∧ M' 97 (b + 10 + k) = kc M k) ∧ (∀ k, 0 ≤ k → k < m4 → M' 97 (b + 18 + k) = M 75 k ∧ M' 97 (b + 22 + k) = M 76 k) ∧ (∀ k, 0 ≤ k → k < m24 → M' 97 (b + 26 + k) = kf M k) ∧ ∀ j, (j < b ∨ b + 50 ≤ j) → M' 97 j = M 97 j
theorem kp_8 {b m : Int} {M M' : ax_M} {v : Int} (h0 : 0 ≤ m) (h8 : m < 8) (hv : v = kc M m) (h : KP b m 0 0 M M') : KP b (m + 1) 0 0 M (ax_up (ax_up M' 97 (b + 2 + m) (M' 72 m)) 97 (b + 10 + m) v) := by
  obtain ⟨h1, h2, h3, h4, h5, h6⟩ := h
  have e : M' 72 = M 72 := h1 72 (by decide)
  refine ⟨Ofs.tr h1 (Ofs.tr (Ofs.up (by simp)) (Ofs.up (by simp))), ⟨?_, ?_⟩, fun k a c => ⟨?_, ?_⟩, fun k a c => by omega, fun k a c => by omega, fun j hj => ?_⟩
  · rw [up_ne _ _ _ (by omega), up_ne _ _ _ (by omega)]; exact h2.1
  · rw [up_ne _ _ _ (by omega), up_ne _ _ _ (by omega)]; exact h2.2
  · rw [up_ne _ _ _ (by omega)]
    by_cases hk : k = m
    · subst hk; rw [up_at, e]
    · rw [up_ne _ _ _ (by omega)]; exact (h3 k a (by omega)).1
  · by_cases hk : k = m
    · subst hk; rw [up_at, hv]
    · rw [up_ne _ _ _ (by omega), up_ne _ _ _ (by omega)]; exact (h3 k a (by omega)).2
  · rw [up_ne _ _ _ (by omega), up_ne _ _ _ (by omega)]; exact h6 j hj
theorem kp_4 {b m : Int} {M M' : ax_M} (h0 : 0 ≤ m) (h8 : m < 4) (h : KP b 8 m 0 M M') : KP b 8 (m + 1) 0 M (ax_up (ax_up M' 97 (b + 18 + m) (M' 75 m)) 97 (b + 22 + m) (M' 76 m)) := by
  obtain ⟨h1, h2, h3, h4, h5, h6⟩ := h
  have e : M' 75 = M 75 := h1 75 (by decide)
  have e2 : M' 76 = M 76 := h1 76 (by decide)
  refine ⟨Ofs.tr h1 (Ofs.tr (Ofs.up (by simp)) (Ofs.up (by simp))), ⟨?_, ?_⟩, fun k a c => ⟨?_, ?_⟩, fun k a c => ⟨?_, ?_⟩, fun k a c => by omega, fun j hj => ?_⟩
  · rw [up_ne _ _ _ (by omega), up_ne _ _ _ (by omega)]; exact h2.1
  · rw [up_ne _ _ _ (by omega), up_ne _ _ _ (by omega)]; exact h2.2
  · rw [up_ne _ _ _ (by omega), up_ne _ _ _ (by omega)]; exact (h3 k a c).1
  · rw [up_ne _ _ _ (by omega), up_ne _ _ _ (by omega)]; exact (h3 k a c).2
  · rw [up_ne _ _ _ (by omega)]
    by_cases hk : k = m
    · subst hk; rw [up_at, e]
    · rw [up_ne _ _ _ (by omega)]; exact (h4 k a (by omega)).1
  · by_cases hk : k = m
    · subst hk; rw [up_at, e2]
    · rw [up_ne _ _ _ (by omega), up_ne _ _ _ (by omega)]; exact (h4 k a (by omega)).2
  · rw [up_ne _ _ _ (by omega), up_ne _ _ _ (by omega)]; exact h6 j hj
theorem kp_24 {b m v : Int} {M M' : ax_M} (h0 : 0 ≤ m) (h8 : m < 24) (hv : v = kf M m) (h : KP b 8 4 m M M') : KP b 8 4 (m + 1) M (ax_up M' 97 (b + 26 + m) v) := by
  obtain ⟨h1, h2, h3, h4, h5, h6⟩ := h
  refine ⟨Ofs.tr h1 (Ofs.up (by simp)), ⟨?_, ?_⟩, fun k a c => ⟨?_, ?_⟩, fun k a c => ⟨?_, ?_⟩, fun k a c => ?_, fun j hj => ?_⟩
  · rw [up_ne _ _ _ (by omega)]; exact h2.1
  · rw [up_ne _ _ _ (by omega)]; exact h2.2
  · rw [up_ne _ _ _ (by omega)]; exact (h3 k a c).1
  · rw [up_ne _ _ _ (by omega)]; exact (h3 k a c).2
  · rw [up_ne _ _ _ (by omega)]; exact (h4 k a c).1
  · rw [up_ne _ _ _ (by omega)]; exact (h4 k a c).2
  · by_cases hk : k = m
    · subst hk; rw [up_at, hv]
    · rw [up_ne _ _ _ (by omega)]; exact h5 k a (by omega)
  · rw [up_ne _ _ _ (by omega)]; exact h6 j hj
set_option maxHeartbeats 4000000 in
set_option maxRecDepth 100000 in
theorem S_X11_keep {post : Int → ax_M → Prop} {M : ax_M} {i : Int} (h0 : 0 ≤ i) (h1 : i ≤ 1) (h : ∀ M', KP (60 * i) 8 4 24 M M' → post 1 (ax_up M' 98 i 1)) : ax_Ti Y_X11_keep [aR 61, aI i] SH M post := by
  have L3 : ∀ (r : Nat) (m : Int) (M' : ax_M), m + r = 24 → 0 ≤ m → KP (60 * i) 8 4 m M M' → ax_J Y_X11_keep (ax_Ki Y_X11_keep SH post) 0 0 160 [(0, aR 61), (1, aI i), (2, aI (60 * i)), (3, aI m)] [] SH M' := by
    intro r
    induction r with
    | zero => intro m M' hm h0 hK; rw [show m = 24 by omega] at hK ⊢; exact B_X11_keep_160 ⟨fun _ => ⟨by omega, h _ hK⟩, fun c => by omega⟩
    | succ r ih =>
      intro m M' hm h0 hK
      have e : M' 69 = M 69 := hK.1 69 (by decide)
      refine B_X11_keep_160 ⟨fun _ => by omega, fun c => ⟨by omega, by omega, by omega, fun z => ⟨by omega, by omega, ih (m + 1) _ (by omega) (by omega) (kp_24 h0 c ?_ hK)⟩, fun z => ⟨by omega, by omega, ih (m + 1) _ (by omega) (by omega) (kp_24 h0 c ?_ hK)⟩⟩⟩
      · rw [e] at z; unfold kf; rw [if_pos z]
      · rw [e] at z; unfold kf; rw [if_neg z]
  have L2 : ∀ (r : Nat) (m : Int) (M' : ax_M), m + r = 4 → 0 ≤ m → KP (60 * i) 8 m 0 M M' → ax_J Y_X11_keep (ax_Ki Y_X11_keep SH post) 0 0 113 [(0, aR 61), (1, aI i), (2, aI (60 * i)), (3, aI m)] [] SH M' := by
    intro r
    induction r with
    | zero => intro m M' hm h0 hK; rw [show m = 4 by omega] at hK ⊢; exact B_X11_keep_113 ⟨fun _ => L3 24 0 _ (by omega) (by omega) hK, fun c => by omega⟩
    | succ r ih =>
      intro m M' hm h0 hK
      exact B_X11_keep_113 ⟨fun _ => by omega, fun c => ⟨by omega, by omega, by omega, by omega, by omega, by omega, by omega, by omega, ih (m + 1) _ (by omega) (by omega) (kp_4 h0 c hK)⟩⟩
  have L1 : ∀ (r : Nat) (m : Int) (M' : ax_M), m + r = 8 → 0 ≤ m → KP (60 * i) m 0 0 M M' → ax_J Y_X11_keep (ax_Ki Y_X11_keep SH post) 0 0 43 [(0, aR 61), (1, aI i), (2, aI (60 * i)), (3, aI m)] [] SH M' := by
    intro r
    induction r with
    | zero => intro m M' hm h0 hK; rw [show m = 8 by omega] at hK ⊢; exact B_X11_keep_43 ⟨fun _ => L2 4 0 _ (by omega) (by omega) hK, fun c => by omega⟩
    | succ r ih =>
      intro m M' hm h0 hK
      have e : M' 73 = M 73 := hK.1 73 (by decide)
      have e2 : M' 74 = M 74 := hK.1 74 (by decide)
      refine B_X11_keep_43 ⟨fun _ => by omega, fun c => ⟨by omega, by omega, by omega, by omega, by omega, by omega, fun z => ⟨fun y => ⟨by omega, by omega, ih (m + 1) _ (by omega) (by omega) (kp_8 h0 c ?_ hK)⟩, fun y => ⟨by omega, by omega, ih (m + 1) _ (by omega) (by omega) (kp_8 h0 c ?_ hK)⟩⟩, fun z => ⟨fun y => ⟨by omega, by omega, ih (m + 1) _ (by omega) (by omega) (kp_8 h0 c ?_ hK)⟩, fun y => ⟨by omega, by omega, ih (m + 1) _ (by omega) (by omega) (kp_8 h0 c ?_ hK)⟩⟩⟩⟩
      all_goals (rw [e] at z; rw [e2] at y; unfold kc; simp [z, y])
  refine E_X11_keep (fun _ => ⟨fun c => by omega, fun c => ⟨fun c => by omega, fun _ => ⟨by omega, by omega, by omega, by omega, L1 8 0 _ (by omega) (by omega) ?_⟩⟩⟩)
  refine ⟨Ofs.tr (Ofs.up (by simp)) (Ofs.up (by simp)), ⟨?_, ?_⟩, fun k a c => by omega, fun k a c => by omega, fun k a c => by omega, fun j hj => ?_⟩
  · rw [up_ne _ _ _ (by omega), up_at]
  · rw [up_at]
  · rw [up_ne _ _ _ (by omega), up_ne _ _ _ (by omega)]
theorem imgr_c {M M' : ax_M} {i : Int} {c a1 a2 a3 a4 a5 a6 : Nat} (h97 : ∀ j, 60 * i ≤ j → j < 60 * i + 60 → M' 97 j = M 97 j) (hc : M' c = M c) (p1 : M' a1 = M a1) (p2 : M' a2 = M a2) (p3 : M' a3 = M a3) (p4 : M' a4 = M a4) (p5 : M' a5 = M a5) (p6 : M' a6 = M a6) (q0 : M' 61 0 = M 61 0) (q3 : M' 61 3 = M 61 3) (hp : M 61 3 ≤ 24) (h : ImgR M i c a1 a2 a3 a4 a5 a6) : ImgR M' i c a1 a2 a3 a4 a5 a6 := by
  obtain ⟨h1, h2, h3, h4⟩ := h
  have e0 := h97 (60 * i) (by omega) (by omega)
  have e1 := h97 (60 * i + 1) (by omega) (by omega)
  unfold ImgR
  rw [hc, p1, p2, p3, p4, p5, p6, q0, q3, e0, e1]
  refine ⟨h1, fun k a c => ?_, fun k a c => ?_, fun k a c => ?_⟩
  · rw [h97 _ (by omega) (by omega), h97 _ (by omega) (by omega)]; exact h2 k a c
  · rw [h97 _ (by omega) (by omega), h97 _ (by omega) (by omega)]; exact h3 k a c
  · rw [h97 _ (by omega) (by omega)]; exact h4 k a c
theorem kc_rg (M : ax_M) (k : Int) : 0 ≤ kc M k := by unfold kc; split <;> split <;> omega
theorem kc_bl {M : ax_M} {k : Int} (h1 : Bl (M 73 k)) (h2 : Bl (M 74 k)) : kc M k = M 73 k + 2 * M 74 k := by
  unfold kc
  rcases h1 with h1 | h1 <;> rcases h2 with h2 | h2 <;> rw [h1, h2] <;> decide
theorem kf_bl {M : ax_M} {k : Int} (h1 : Bl (M 69 k)) : kf M k = M 69 k := by
  unfold kf
  rcases h1 with h1 | h1 <;> rw [h1] <;> decide
set_option maxHeartbeats 4000000 in
set_option maxRecDepth 100000 in
theorem inv_keep_0 {n : Int} {M B M' M2 : ax_M} (hI : Inv n M) (hB : Ofs [16, 17, 18, 19, 20, 21, 22] M B) (hB0 : B 16 0 = M 8 0) (hB1 : B 16 1 = M 8 1) (hB8 : ∀ k, 0 ≤ k → k < 8 → B 17 k = M 9 k ∧ B 18 k = M 10 k ∧ B 19 k = M 11 k) (hB4 : ∀ k, 0 ≤ k → k < 4 → B 20 k = M 12 k ∧ B 21 k = M 13 k) (hB24 : ∀ k, 0 ≤ k → k < 24 → B 22 k = M 14 k) (hK : KP (60 * 0) 8 4 24 (ax_up B 30 0 1) M') (h2 : M2 = ax_up M' 98 0 1) : Inv n M2 := by
  have gB : ∀ a, a ∉ [30, 97, 98] → M2 a = B a := by
    intro a ha
    simp only [List.mem_cons, List.not_mem_nil, or_false, not_or] at ha
    rw [h2, up_off _ _ _ ha.2.2, hK.1 a (by simp [ha]), up_off _ _ _ ha.1]
  have g : ∀ a, a ∉ [16, 17, 18, 19, 20, 21, 22, 30, 97, 98] → M2 a = M a := by
    intro a ha
    simp only [List.mem_cons, List.not_mem_nil, or_false, not_or] at ha
    rw [gB a (by simp [ha]), hB a (by simp [ha])]
  have g97 : M2 97 = M' 97 := by rw [h2, up_off _ _ _ (by decide)]
  have g30 : ∀ j, M2 30 j = if j = 0 then 1 else M 30 j := by
    intro j
    rw [h2, up_off _ _ _ (by decide), hK.1 30 (by decide), up_k, hB 30 (by decide)]
  have g98 : ∀ j, M2 98 j = if j = 0 then 1 else M 98 j := by
    intro j
    rw [h2, up_k, hK.1 98 (by decide), up_off _ _ _ (by decide), hB 98 (by decide)]
  have m1 : ∀ a, a ∉ [16, 17, 18, 19, 20, 21, 22, 30] → ax_up B 30 0 1 a = M a := by
    intro a ha
    simp only [List.mem_cons, List.not_mem_nil, or_false, not_or] at ha
    rw [up_off _ _ _ (by simp [ha]), hB a (by simp [ha])]
  have hkc : ∀ k, kc (ax_up B 30 0 1) k = kc M k := by
    intro k; unfold kc; rw [m1 73 (by decide), m1 74 (by decide)]
  have hkf : ∀ k, kf (ax_up B 30 0 1) k = kf M k := by
    intro k; unfold kf; rw [m1 69 (by decide)]
  obtain ⟨k1, k2, k3, k4, k5, k6⟩ := hK
  rw [m1 61 (by decide)] at k2
  rw [m1 72 (by decide)] at k3
  rw [m1 75 (by decide), m1 76 (by decide)] at k4
  rw [m1 97 (by decide)] at k6
  have q61 : M2 61 = M 61 := g 61 (by decide)
  have hp := hI.1.1.2.1.2
  have kk := hI.2.1
  have kb := kk.1
  obtain ⟨⟨h1, h2'⟩, h3, h4, h5, h6, h7, h8⟩ := hI
  refine ⟨⟨c_PitOk (g 62 (by decide)) (g 63 (by decide)) (g 64 (by decide)) (g 65 (by decide)) (g 66 (by decide)) (g 67 (by decide)) (g 68 (by decide)) (congrFun (g 61 (by decide)) 0) (congrFun (g 61 (by decide)) 1) (congrFun (g 61 (by decide)) 2) (congrFun (g 61 (by decide)) 3) h1, c_PitEq (g 6 (by decide)) (g 7 (by decide)) (g 14 (by decide)) (g 62 (by decide)) (g 63 (by decide)) (g 64 (by decide)) (g 65 (by decide)) (g 66 (by decide)) (g 67 (by decide)) (g 68 (by decide)) (g 69 (by decide)) (congrFun (g 61 (by decide)) 0) (congrFun (g 61 (by decide)) 1) (congrFun (g 61 (by decide)) 2) (congrFun (g 61 (by decide)) 3) h2'⟩, c_CrewEq (g 8 (by decide)) (g 9 (by decide)) (g 10 (by decide)) (g 11 (by decide)) (g 12 (by decide)) (g 13 (by decide)) (g 69 (by decide)) (g 72 (by decide)) (g 73 (by decide)) (g 74 (by decide)) (g 75 (by decide)) (g 76 (by decide)) (congrFun (g 61 (by decide)) 0) (congrFun (g 61 (by decide)) 3) (congrFun (g 61 (by decide)) 25) (congrFun (g 61 (by decide)) 29) h3, c_RowEq (g 31 (by decide)) (g 32 (by decide)) (g 91 (by decide)) (congrFun (g 61 (by decide)) 0) (congrFun (g 61 (by decide)) 50) h4, c_TextEq (g 1 (by decide)) (g 2 (by decide)) (g 70 (by decide)) (congrFun (g 61 (by decide)) 13) h5, ⟨⟨?o1, Or.inr ?o2, fun _ => ?o3⟩, ⟨?t1, ?t2, fun hx => ?t3⟩, fun k a c => ?z⟩, c_TelEq (g 51 (by decide)) (g 59 (by decide)) h7, c_Mis (g 0 (by decide)) (g 15 (by decide)) (congrFun (g 61 (by decide)) 32) (congrFun (g 61 (by decide)) 14) h8⟩
  case o1 => rw [g30, g98, if_pos rfl, if_pos rfl]
  case o2 => rw [g98, if_pos rfl]
  case o3 =>
    refine ⟨?_, fun k a c => ?_, fun k a c => ?_, fun k a c => ?_⟩
    · rw [gB 16 (by decide), hB0, hB1, g97, k2.1, k2.2]; exact kk.1
    · rw [g97, k2.1] at c
      have r := k3 k a (by omega)
      have s := hB8 k a (by omega)
      have t := kk.2.1 k a c
      rw [gB 17 (by decide), gB 18 (by decide), gB 19 (by decide), g97, r.1, r.2, s.1, s.2.1, s.2.2, q61, hkc, kc_bl t.2.2.2.2.2.1 t.2.2.2.2.2.2, t.1, t.2.2.2.1, t.2.2.2.2.1]
      exact ⟨rfl, t.2.1, t.2.2.1, t.2.2.2.2.2.1, t.2.2.2.2.2.2, rfl⟩
    · rw [g97, k2.2] at c
      have r := k4 k a (by omega)
      have s := hB4 k a (by omega)
      have t := kk.2.2.1 k a c
      rw [gB 20 (by decide), gB 21 (by decide), g97, r.1, r.2, s.1, s.2, q61]
      omega
    · rw [q61] at c
      have r := k5 k a (by omega)
      have s := hB24 k a (by omega)
      have t := kk.2.2.2 k a c
      have u := (h2'.2.2.2.2 k a c).2.2.2.2
      rw [gB 22 (by decide), g97, r, s, hkf, kf_bl t, u]
      exact ⟨rfl, t⟩
  case t1 => rw [g30, g98, if_neg (by decide), if_neg (by decide)]; exact h6.2.1.1
  case t2 => rw [g98, if_neg (by decide)]; exact h6.2.1.2.1
  case t3 =>
    rw [g98, if_neg (by decide)] at hx
    exact imgr_c (fun j a b => by rw [g97]; exact k6 j (by omega)) (g 23 (by decide)) (g 24 (by decide)) (g 25 (by decide)) (g 26 (by decide)) (g 27 (by decide)) (g 28 (by decide)) (g 29 (by decide)) (congrFun q61 0) (congrFun q61 3) hp (h6.2.1.2.2 hx)
  case z =>
    have o := h6.2.2 k a c
    have v := (k3 k a c).2
    rw [hkc] at v
    have v2 := kc_rg M k
    have e := k6 (70 + k) (by omega)
    rw [g97]
    rw [show (60 : Int) * 0 + 10 + k = 10 + k by omega] at v
    omega
theorem C_keep_0 {n : Int} {M : ax_M} (hI : Inv n M) : ax_Ti Y_X10_keep [aR 0, aI 0] SH M (fun z1 u1 => ax_Ti Y_X11_keep [aR 61, aI 0] SH u1 (fun z2 u2 => z1 = z2 ∧ Inv (n + 1) u2)) := by
  have hu := inv_up hI
  have h15 : M 15 0 = 16 := hI.2.2.2.2.2.2.2.2.1
  exact E_X10_keep_16 (fun _ => ⟨fun c => by omega, fun c => ⟨fun c => by omega, fun _ => ⟨by omega, h15, S_become_16_8 (fun B b1 b2 b3 b4 b5 b6 => S_X11_keep (by omega) (by omega) (fun M' hK => ⟨rfl, inv_keep_0 hu b1 b2 b3 b4 b5 b6 hK rfl⟩))⟩⟩⟩)
set_option maxHeartbeats 4000000 in
set_option maxRecDepth 100000 in
theorem inv_keep_1 {n : Int} {M B M' M2 : ax_M} (hI : Inv n M) (hB : Ofs [23, 24, 25, 26, 27, 28, 29] M B) (hB0 : B 23 0 = M 8 0) (hB1 : B 23 1 = M 8 1) (hB8 : ∀ k, 0 ≤ k → k < 8 → B 24 k = M 9 k ∧ B 25 k = M 10 k ∧ B 26 k = M 11 k) (hB4 : ∀ k, 0 ≤ k → k < 4 → B 27 k = M 12 k ∧ B 28 k = M 13 k) (hB24 : ∀ k, 0 ≤ k → k < 24 → B 29 k = M 14 k) (hK : KP (60 * 1) 8 4 24 (ax_up B 30 1 1) M') (h2 : M2 = ax_up M' 98 1 1) : Inv n M2 := by
  have gB : ∀ a, a ∉ [30, 97, 98] → M2 a = B a := by
    intro a ha
    simp only [List.mem_cons, List.not_mem_nil, or_false, not_or] at ha
    rw [h2, up_off _ _ _ ha.2.2, hK.1 a (by simp [ha]), up_off _ _ _ ha.1]
  have g : ∀ a, a ∉ [23, 24, 25, 26, 27, 28, 29, 30, 97, 98] → M2 a = M a := by
    intro a ha
    simp only [List.mem_cons, List.not_mem_nil, or_false, not_or] at ha
    rw [gB a (by simp [ha]), hB a (by simp [ha])]
  have g97 : M2 97 = M' 97 := by rw [h2, up_off _ _ _ (by decide)]
  have g30 : ∀ j, M2 30 j = if j = 1 then 1 else M 30 j := by
    intro j
    rw [h2, up_off _ _ _ (by decide), hK.1 30 (by decide), up_k, hB 30 (by decide)]
  have g98 : ∀ j, M2 98 j = if j = 1 then 1 else M 98 j := by
    intro j
    rw [h2, up_k, hK.1 98 (by decide), up_off _ _ _ (by decide), hB 98 (by decide)]
  have m1 : ∀ a, a ∉ [23, 24, 25, 26, 27, 28, 29, 30] → ax_up B 30 1 1 a = M a := by
    intro a ha
    simp only [List.mem_cons, List.not_mem_nil, or_false, not_or] at ha
    rw [up_off _ _ _ (by simp [ha]), hB a (by simp [ha])]
  have hkc : ∀ k, kc (ax_up B 30 1 1) k = kc M k := by
    intro k; unfold kc; rw [m1 73 (by decide), m1 74 (by decide)]
  have hkf : ∀ k, kf (ax_up B 30 1 1) k = kf M k := by
    intro k; unfold kf; rw [m1 69 (by decide)]
  obtain ⟨k1, k2, k3, k4, k5, k6⟩ := hK
  rw [m1 61 (by decide)] at k2
  rw [m1 72 (by decide)] at k3
  rw [m1 75 (by decide), m1 76 (by decide)] at k4
  rw [m1 97 (by decide)] at k6
  have q61 : M2 61 = M 61 := g 61 (by decide)
  have hp := hI.1.1.2.1.2
  have kk := hI.2.1
  have kb := kk.1
  obtain ⟨⟨h1, h2'⟩, h3, h4, h5, h6, h7, h8⟩ := hI
  refine ⟨⟨c_PitOk (g 62 (by decide)) (g 63 (by decide)) (g 64 (by decide)) (g 65 (by decide)) (g 66 (by decide)) (g 67 (by decide)) (g 68 (by decide)) (congrFun (g 61 (by decide)) 0) (congrFun (g 61 (by decide)) 1) (congrFun (g 61 (by decide)) 2) (congrFun (g 61 (by decide)) 3) h1, c_PitEq (g 6 (by decide)) (g 7 (by decide)) (g 14 (by decide)) (g 62 (by decide)) (g 63 (by decide)) (g 64 (by decide)) (g 65 (by decide)) (g 66 (by decide)) (g 67 (by decide)) (g 68 (by decide)) (g 69 (by decide)) (congrFun (g 61 (by decide)) 0) (congrFun (g 61 (by decide)) 1) (congrFun (g 61 (by decide)) 2) (congrFun (g 61 (by decide)) 3) h2'⟩, c_CrewEq (g 8 (by decide)) (g 9 (by decide)) (g 10 (by decide)) (g 11 (by decide)) (g 12 (by decide)) (g 13 (by decide)) (g 69 (by decide)) (g 72 (by decide)) (g 73 (by decide)) (g 74 (by decide)) (g 75 (by decide)) (g 76 (by decide)) (congrFun (g 61 (by decide)) 0) (congrFun (g 61 (by decide)) 3) (congrFun (g 61 (by decide)) 25) (congrFun (g 61 (by decide)) 29) h3, c_RowEq (g 31 (by decide)) (g 32 (by decide)) (g 91 (by decide)) (congrFun (g 61 (by decide)) 0) (congrFun (g 61 (by decide)) 50) h4, c_TextEq (g 1 (by decide)) (g 2 (by decide)) (g 70 (by decide)) (congrFun (g 61 (by decide)) 13) h5, ⟨⟨?t1, ?t2, fun hx => ?t3⟩, ⟨?o1, Or.inr ?o2, fun _ => ?o3⟩, fun k a c => ?z⟩, c_TelEq (g 51 (by decide)) (g 59 (by decide)) h7, c_Mis (g 0 (by decide)) (g 15 (by decide)) (congrFun (g 61 (by decide)) 32) (congrFun (g 61 (by decide)) 14) h8⟩
  case o1 => rw [g30, g98, if_pos rfl, if_pos rfl]
  case o2 => rw [g98, if_pos rfl]
  case o3 =>
    refine ⟨?_, fun k a c => ?_, fun k a c => ?_, fun k a c => ?_⟩
    · rw [gB 23 (by decide), hB0, hB1, g97, k2.1, k2.2]; exact kk.1
    · rw [g97, k2.1] at c
      have r := k3 k a (by omega)
      have s := hB8 k a (by omega)
      have t := kk.2.1 k a c
      rw [gB 24 (by decide), gB 25 (by decide), gB 26 (by decide), g97, r.1, r.2, s.1, s.2.1, s.2.2, q61, hkc, kc_bl t.2.2.2.2.2.1 t.2.2.2.2.2.2, t.1, t.2.2.2.1, t.2.2.2.2.1]
      exact ⟨rfl, t.2.1, t.2.2.1, t.2.2.2.2.2.1, t.2.2.2.2.2.2, rfl⟩
    · rw [g97, k2.2] at c
      have r := k4 k a (by omega)
      have s := hB4 k a (by omega)
      have t := kk.2.2.1 k a c
      rw [gB 27 (by decide), gB 28 (by decide), g97, r.1, r.2, s.1, s.2, q61]
      omega
    · rw [q61] at c
      have r := k5 k a (by omega)
      have s := hB24 k a (by omega)
      have t := kk.2.2.2 k a c
      have u := (h2'.2.2.2.2 k a c).2.2.2.2
      rw [gB 29 (by decide), g97, r, s, hkf, kf_bl t, u]
      exact ⟨rfl, t⟩
  case t1 => rw [g30, g98, if_neg (by decide), if_neg (by decide)]; exact h6.1.1
  case t2 => rw [g98, if_neg (by decide)]; exact h6.1.2.1
  case t3 =>
    rw [g98, if_neg (by decide)] at hx
    exact imgr_c (fun j a b => by rw [g97]; exact k6 j (by omega)) (g 16 (by decide)) (g 17 (by decide)) (g 18 (by decide)) (g 19 (by decide)) (g 20 (by decide)) (g 21 (by decide)) (g 22 (by decide)) (congrFun q61 0) (congrFun q61 3) hp (h6.1.2.2 hx)
  case z =>
    have o := h6.2.2 k a c
    have v := (k3 k a c).2
    rw [hkc] at v
    have v2 := kc_rg M k
    have e := k6 (10 + k) (by omega)
    rw [g97]
    rw [show (60 : Int) * 1 + 10 + k = 70 + k by omega] at v
    omega
theorem C_keep_1 {n : Int} {M : ax_M} (hI : Inv n M) : ax_Ti Y_X10_keep [aR 0, aI 1] SH M (fun z1 u1 => ax_Ti Y_X11_keep [aR 61, aI 1] SH u1 (fun z2 u2 => z1 = z2 ∧ Inv (n + 1) u2)) := by
  have hu := inv_up hI
  have h15 : M 15 1 = 23 := hI.2.2.2.2.2.2.2.2.2
  exact E_X10_keep_23 (fun _ => ⟨fun c => by omega, fun c => ⟨fun c => by omega, fun _ => ⟨by omega, h15, S_become_23_8 (fun B b1 b2 b3 b4 b5 b6 => S_X11_keep (by omega) (by omega) (fun M' hK => ⟨rfl, inv_keep_1 hu b1 b2 b3 b4 b5 b6 hK rfl⟩))⟩⟩⟩)
set_option maxHeartbeats 4000000 in
set_option maxRecDepth 100000 in
theorem C_keep {n : Int} {M : ax_M} {x1 : Int} (hI : Inv n M) : ax_Ti Y_X10_keep [aR 0, aI x1] SH M (fun z1 u1 => ax_Ti Y_X11_keep [aR 61, aI x1] SH u1 (fun z2 u2 => z1 = z2 ∧ Inv (n + 1) u2)) := by
  have hu := inv_up hI
  by_cases c0 : x1 < 0
  · exact E_X10_keep_16 (fun _ => ⟨fun _ => E_X11_keep (fun _ => ⟨fun _ => ⟨rfl, hu⟩, fun d => by omega⟩), fun d => by omega⟩)
  · by_cases c1 : 1 < x1
    · exact E_X10_keep_16 (fun _ => ⟨fun _ => by omega, fun _ => ⟨fun _ => E_X11_keep (fun _ => ⟨fun _ => by omega, fun d => ⟨fun _ => ⟨rfl, hu⟩, fun d => by omega⟩⟩), fun d => by omega⟩⟩)
    · by_cases c2 : x1 = 0
      · subst c2; exact C_keep_0 hI
      · have c3 : x1 = 1 := by omega
        subst c3; exact C_keep_1 hI
/-- the reference goes back to its image: written so far -/
def GB (b m8 m4 m24 : Int) (M M' : ax_M) : Prop := Ofs [61, 69, 72, 73, 74, 75, 76] M M' ∧ ((∀ i, i ≠ 25 → i ≠ 29 → M' 61 i = M 61 i) ∧ M' 61 25 = M 97 b ∧ M' 61 29 = M 97 (b + 1)) ∧ (∀ k, 0 ≤ k → k < m8 → M' 72 k = M 97 (b + 2 + k) ∧ M' 73 k = (if M 97 (b + 10 + k) % 2 = 1 then 1 else 0) ∧ M' 74 k = (if M 97 (b + 10 + k) ≤ 1 then 0 else 1)) ∧ (∀ k, 0 ≤ k → k < m4 → M' 75 k = M 97 (b + 18 + k) ∧ M' 76 k = M 97 (b + 22 + k)) ∧ ∀ k, 0 ≤ k → k < m24 → M' 69 k = (if M 97 (b + 26 + k) = 1 then 1 else 0)
theorem gb_8 {b m v w : Int} {M M' : ax_M} (h0 : 0 ≤ m) (hv : v = (if M 97 (b + 10 + m) % 2 = 1 then 1 else 0)) (hw : w = (if M 97 (b + 10 + m) ≤ 1 then 0 else 1)) (h : GB b m 0 0 M M') : GB b (m + 1) 0 0 M (ax_up (ax_up (ax_up M' 72 m (M' 97 (b + 2 + m))) 73 m v) 74 m w) := by
  obtain ⟨h1, h2, h3, h4, h5⟩ := h
  have e : M' 97 = M 97 := h1 97 (by decide)
  refine ⟨Ofs.tr h1 (Ofs.tr (Ofs.up (by simp)) (Ofs.tr (Ofs.up (by simp)) (Ofs.up (by simp)))), h2, fun k a c => ⟨?_, ?_, ?_⟩, fun k a c => by omega, fun k a c => by omega⟩
  · rw [up_off _ _ _ (by decide), up_off _ _ _ (by decide), up_k]
    by_cases hk : k = m
    · subst hk; rw [if_pos rfl, e]
    · rw [if_neg hk]; exact (h3 k a (by omega)).1
  · rw [up_off _ _ _ (by decide), up_k, up_off _ _ _ (by decide)]
    by_cases hk : k = m
    · subst hk; rw [if_pos rfl, hv]
    · rw [if_neg hk]; exact (h3 k a (by omega)).2.1
  · rw [up_k, up_off _ _ _ (by decide), up_off _ _ _ (by decide)]
    by_cases hk : k = m
    · subst hk; rw [if_pos rfl, hw]
    · rw [if_neg hk]; exact (h3 k a (by omega)).2.2
theorem gb_4 {b m : Int} {M M' : ax_M} (h0 : 0 ≤ m) (h : GB b 8 m 0 M M') : GB b 8 (m + 1) 0 M (ax_up (ax_up M' 75 m (M' 97 (b + 18 + m))) 76 m (M' 97 (b + 22 + m))) := by
  obtain ⟨h1, h2, h3, h4, h5⟩ := h
  have e : M' 97 = M 97 := h1 97 (by decide)
  refine ⟨Ofs.tr h1 (Ofs.tr (Ofs.up (by simp)) (Ofs.up (by simp))), h2, h3, fun k a c => ⟨?_, ?_⟩, fun k a c => by omega⟩
  · rw [up_off _ _ _ (by decide), up_k]
    by_cases hk : k = m
    · subst hk; rw [if_pos rfl, e]
    · rw [if_neg hk]; exact (h4 k a (by omega)).1
  · rw [up_k, up_off _ _ _ (by decide)]
    by_cases hk : k = m
    · subst hk; rw [if_pos rfl, e]
    · rw [if_neg hk]; exact (h4 k a (by omega)).2
theorem gb_24 {b m v : Int} {M M' : ax_M} (h0 : 0 ≤ m) (hv : v = (if M 97 (b + 26 + m) = 1 then 1 else 0)) (h : GB b 8 4 m M M') : GB b 8 4 (m + 1) M (ax_up M' 69 m v) := by
  obtain ⟨h1, h2, h3, h4, h5⟩ := h
  refine ⟨Ofs.tr h1 (Ofs.up (by simp)), h2, h3, h4, fun k a c => ?_⟩
  rw [up_k]
  by_cases hk : k = m
  · subst hk; rw [if_pos rfl, hv]
  · rw [if_neg hk]; exact h5 k a (by omega)
set_option maxHeartbeats 4000000 in
set_option maxRecDepth 100000 in
theorem S_X11_goBack {post : Int → ax_M → Prop} {M : ax_M} {i : Int} (h0 : 0 ≤ i) (h1 : i ≤ 1) (h98 : ¬ M 98 i = 0) (hn : ∀ k, 0 ≤ k → k < 8 → 0 ≤ M 97 (60 * i + 10 + k)) (h : ∀ M', GB (60 * i) 8 4 24 M M' → post 1 M') : ax_Ti Y_X11_goBack [aR 61, aI i] SH M post := by
  have L3 : ∀ (r : Nat) (m : Int) (M' : ax_M), m + r = 24 → 0 ≤ m → GB (60 * i) 8 4 m M M' → ax_J Y_X11_goBack (ax_Ki Y_X11_goBack SH post) 0 0 187 [(0, aR 61), (2, aI (60 * i)), (3, aI m)] [] SH M' := by
    intro r
    induction r with
    | zero => intro m M' hm h0 hK; rw [show m = 24 by omega] at hK ⊢; exact B_X11_goBack_187 ⟨fun _ => h _ hK, fun c => by omega⟩
    | succ r ih =>
      intro m M' hm h0 hK
      have e : M' 97 = M 97 := hK.1 97 (by decide)
      refine B_X11_goBack_187 ⟨fun _ => by omega, fun c => ⟨by omega, by omega, by omega, fun z => ⟨by omega, by omega, ih (m + 1) _ (by omega) (by omega) (gb_24 h0 ?_ hK)⟩, fun z => ⟨by omega, by omega, ih (m + 1) _ (by omega) (by omega) (gb_24 h0 ?_ hK)⟩⟩⟩
      · rw [e] at z; rw [if_neg z]
      · rw [e] at z; rw [if_pos z]
  have L2 : ∀ (r : Nat) (m : Int) (M' : ax_M), m + r = 4 → 0 ≤ m → GB (60 * i) 8 m 0 M M' → ax_J Y_X11_goBack (ax_Ki Y_X11_goBack SH post) 0 0 140 [(0, aR 61), (2, aI (60 * i)), (3, aI m)] [] SH M' := by
    intro r
    induction r with
    | zero => intro m M' hm h0 hK; rw [show m = 4 by omega] at hK ⊢; exact B_X11_goBack_140 ⟨fun _ => L3 24 0 _ (by omega) (by omega) hK, fun c => by omega⟩
    | succ r ih =>
      intro m M' hm h0 hK
      exact B_X11_goBack_140 ⟨fun _ => by omega, fun c => ⟨by omega, by omega, by omega, by omega, by omega, by omega, by omega, by omega, ih (m + 1) _ (by omega) (by omega) (gb_4 h0 hK)⟩⟩
  have L1 : ∀ (r : Nat) (m : Int) (M' : ax_M), m + r = 8 → 0 ≤ m → GB (60 * i) m 0 0 M M' → ax_J Y_X11_goBack (ax_Ki Y_X11_goBack SH post) 0 0 56 [(0, aR 61), (2, aI (60 * i)), (3, aI m)] [] SH M' := by
    intro r
    induction r with
    | zero => intro m M' hm h0 hK; rw [show m = 8 by omega] at hK ⊢; exact B_X11_goBack_56 ⟨fun _ => L2 4 0 _ (by omega) (by omega) hK, fun c => by omega⟩
    | succ r ih =>
      intro m M' hm h0 hK
      have e : M' 97 = M 97 := hK.1 97 (by decide)
      have hn' := hn m h0 (by omega)
      rw [← e] at hn'
      refine B_X11_goBack_56 ⟨fun _ => by omega, fun c => ⟨by omega, by omega, by omega, by omega, by omega, by omega, by omega, hn', fun z => ⟨fun y => ⟨by omega, ih (m + 1) _ (by omega) (by omega) (gb_8 h0 ?_ ?_ hK)⟩, fun y => ⟨by omega, ih (m + 1) _ (by omega) (by omega) (gb_8 h0 ?_ ?_ hK)⟩⟩, fun z => ⟨fun y => ⟨by omega, ih (m + 1) _ (by omega) (by omega) (gb_8 h0 ?_ ?_ hK)⟩, fun y => ⟨by omega, ih (m + 1) _ (by omega) (by omega) (gb_8 h0 ?_ ?_ hK)⟩⟩⟩⟩
      all_goals (rw [e] at z y; first | rw [if_pos z] | rw [if_neg z] | rw [if_pos y] | rw [if_neg (by omega)])
  refine E_X11_goBack (fun _ => ⟨fun c => by omega, fun c => ⟨fun c => by omega, fun _ => ⟨by omega, fun _ => ⟨by omega, by omega, by omega, by omega, L1 8 0 _ (by omega) (by omega) ?_⟩, fun z => absurd z h98⟩⟩⟩)
  refine ⟨Ofs.tr (Ofs.up (by simp)) (Ofs.up (by simp)), ⟨fun i a b => ?_, ?_, ?_⟩, fun k a c => by omega, fun k a c => by omega, fun k a c => by omega⟩
  · rw [up_ne _ _ _ b, up_ne _ _ _ a]
  · rw [up_ne _ _ _ (by decide), up_at]
  · rw [up_at]
set_option maxHeartbeats 4000000 in
set_option maxRecDepth 100000 in
theorem inv_back_0 {n : Int} {M B M2 : ax_M} (hI : Inv n M) (h98 : M 98 0 = 1) (hB : Ofs [8, 9, 10, 11, 12, 13, 14] M B) (hB0 : B 8 0 = M 16 0) (hB1 : B 8 1 = M 16 1) (hB8 : ∀ k, 0 ≤ k → k < 8 → B 9 k = M 17 k ∧ B 10 k = M 18 k ∧ B 11 k = M 19 k) (hB4 : ∀ k, 0 ≤ k → k < 4 → B 12 k = M 20 k ∧ B 13 k = M 21 k) (hB24 : ∀ k, 0 ≤ k → k < 24 → B 14 k = M 22 k) (hK : GB (60 * 0) 8 4 24 B M2) : Inv n M2 := by
  have g : ∀ a, a ∉ [8, 9, 10, 11, 12, 13, 14, 61, 69, 72, 73, 74, 75, 76] → M2 a = M a := by
    intro a ha
    simp only [List.mem_cons, List.not_mem_nil, or_false, not_or] at ha
    rw [hK.1 a (by simp [ha]), hB a (by simp [ha])]
  have gB : ∀ a, a ∉ [61, 69, 72, 73, 74, 75, 76] → M2 a = B a := fun a ha => hK.1 a ha
  have b97 : B 97 = M 97 := hB 97 (by decide)
  have q : ∀ j, j ≠ 25 → j ≠ 29 → M2 61 j = M 61 j := fun j a b => by rw [hK.2.1.1 j a b, hB 61 (by decide)]
  obtain ⟨k1, k2, k3, k4, k5⟩ := hK
  rw [b97] at k2 k3 k4 k5
  have q3 := q 3 (by decide) (by decide)
  have q0 := q 0 (by decide) (by decide)
  have hp := hI.1.1.2.1.2
  obtain ⟨⟨h1, h2⟩, h3, h4, h5, h6, h7, h8⟩ := hI
  obtain ⟨i1, i2, i3, i4⟩ := h6.1.2.2 h98
  have r24 : ∀ k, 0 ≤ k → k < M 61 3 → M2 14 k = M2 69 k ∧ Bl (M2 69 k) := by
    intro k a c
    obtain ⟨s1, s2⟩ := i4 k a c
    rw [gB 14 (by decide), hB24 k a (by omega), k5 k a (by omega), ← s1]
    rcases s2 with s2 | s2 <;> rw [s2]
    · exact ⟨rfl, Or.inl rfl⟩
    · exact ⟨rfl, Or.inr rfl⟩
  refine ⟨⟨c_PitOk (g 62 (by decide)) (g 63 (by decide)) (g 64 (by decide)) (g 65 (by decide)) (g 66 (by decide)) (g 67 (by decide)) (g 68 (by decide)) (q 0 (by decide) (by decide)) (q 1 (by decide) (by decide)) (q 2 (by decide) (by decide)) (q 3 (by decide) (by decide)) h1, ?_⟩, ⟨?_, ?_, ?_, ?_⟩, c_RowEq (g 31 (by decide)) (g 32 (by decide)) (g 91 (by decide)) (q 0 (by decide) (by decide)) (q 50 (by decide) (by decide)) h4, c_TextEq (g 1 (by decide)) (g 2 (by decide)) (g 70 (by decide)) (q 13 (by decide) (by decide)) h5, c_ImgEq (g 30 (by decide)) (g 98 (by decide)) (g 97 (by decide)) (g 16 (by decide)) (g 17 (by decide)) (g 18 (by decide)) (g 19 (by decide)) (g 20 (by decide)) (g 21 (by decide)) (g 22 (by decide)) (g 23 (by decide)) (g 24 (by decide)) (g 25 (by decide)) (g 26 (by decide)) (g 27 (by decide)) (g 28 (by decide)) (g 29 (by decide)) (q 0 (by decide) (by decide)) (q 3 (by decide) (by decide)) h6, c_TelEq (g 51 (by decide)) (g 59 (by decide)) h7, c_Mis (g 0 (by decide)) (g 15 (by decide)) (q 32 (by decide) (by decide)) (q 14 (by decide) (by decide)) h8⟩
  · refine ⟨?_, ?_, ?_, ?_, fun k a c => ?_⟩
    · rw [g 6 (by decide), q0]; exact h2.1
    · rw [g 6 (by decide), q3]; exact h2.2.1
    · rw [g 6 (by decide), q 1 (by decide) (by decide)]; exact h2.2.2.1
    · rw [g 6 (by decide), q 2 (by decide) (by decide)]; exact h2.2.2.2.1
    · rw [q3] at c
      have t := h2.2.2.2.2 k a c
      rw [g 7 (by decide), g 62 (by decide), g 63 (by decide), g 64 (by decide), g 65 (by decide), g 66 (by decide), g 67 (by decide), g 68 (by decide)]
      exact ⟨t.1, t.2.1, t.2.2.1, t.2.2.2.1, (r24 k a c).1⟩
  · rw [gB 8 (by decide), hB0, hB1, k2.2.1, k2.2.2]; exact i1
  · intro k a c
    rw [k2.2.1] at c
    have r := k3 k a (by omega)
    have s := hB8 k a (by omega)
    obtain ⟨t1, t2, t3, t4, t5, t6⟩ := i2 k a c
    rw [gB 9 (by decide), gB 10 (by decide), gB 11 (by decide), r.1, r.2.1, r.2.2, s.1, s.2.1, s.2.2, q0, t6, ← t1]
    refine ⟨rfl, t2, t3, ?_⟩
    rcases t4 with t4 | t4 <;> rcases t5 with t5 | t5 <;> rw [t4, t5] <;> refine ⟨by decide, by decide, ?_⟩ <;> unfold Bl <;> decide
  · intro k a c
    rw [k2.2.2] at c
    have r := k4 k a (by omega)
    have s := hB4 k a (by omega)
    have t := i3 k a c
    rw [gB 12 (by decide), gB 13 (by decide), r.1, r.2, s.1, s.2, q0]
    omega
  · intro k a c
    rw [q3] at c
    exact (r24 k a c).2
theorem C_goBack_0 {n : Int} {M : ax_M} (hI : Inv n M) : ax_Ti Y_X10_goBack [aR 0, aI 0] SH M (fun z1 u1 => ax_Ti Y_X11_goBack [aR 61, aI 0] SH u1 (fun z2 u2 => z1 = z2 ∧ Inv (n + 1) u2)) := by
  have hu := inv_up hI
  have h6 := hI.2.2.2.2.1
  have h15 : M 15 0 = 16 := hI.2.2.2.2.2.2.2.2.1
  have e30 : M 30 0 = M 98 0 := h6.1.1
  have b98 := h6.1.2.1
  unfold Bl at b98
  refine E_X10_goBack_16 (fun _ => ⟨fun c => by omega, fun c => ⟨fun c => by omega, fun _ => ⟨by omega, fun z => ⟨h15, S_become_8_16 (fun B b1 b2 b3 b4 b5 b6 => S_X11_goBack (by omega) (by omega) ?_ (fun k a c => ?_) (fun M' hK => ⟨rfl, inv_back_0 hu (by omega) b1 b2 b3 b4 b5 b6 hK⟩))⟩, fun z => E_X11_goBack (fun _ => ⟨fun _ => by omega, fun _ => ⟨fun _ => by omega, fun _ => ⟨by omega, fun y => by omega, fun _ => ⟨rfl, hu⟩⟩⟩⟩)⟩⟩⟩)
  · rw [b1 98 (by decide)]; omega
  · have o := h6.2.2 k a c
    rw [b1 97 (by decide), show (60 : Int) * 0 + 10 + k = 10 + k by omega]
    omega
set_option maxHeartbeats 4000000 in
set_option maxRecDepth 100000 in
theorem inv_back_1 {n : Int} {M B M2 : ax_M} (hI : Inv n M) (h98 : M 98 1 = 1) (hB : Ofs [8, 9, 10, 11, 12, 13, 14] M B) (hB0 : B 8 0 = M 23 0) (hB1 : B 8 1 = M 23 1) (hB8 : ∀ k, 0 ≤ k → k < 8 → B 9 k = M 24 k ∧ B 10 k = M 25 k ∧ B 11 k = M 26 k) (hB4 : ∀ k, 0 ≤ k → k < 4 → B 12 k = M 27 k ∧ B 13 k = M 28 k) (hB24 : ∀ k, 0 ≤ k → k < 24 → B 14 k = M 29 k) (hK : GB (60 * 1) 8 4 24 B M2) : Inv n M2 := by
  have g : ∀ a, a ∉ [8, 9, 10, 11, 12, 13, 14, 61, 69, 72, 73, 74, 75, 76] → M2 a = M a := by
    intro a ha
    simp only [List.mem_cons, List.not_mem_nil, or_false, not_or] at ha
    rw [hK.1 a (by simp [ha]), hB a (by simp [ha])]
  have gB : ∀ a, a ∉ [61, 69, 72, 73, 74, 75, 76] → M2 a = B a := fun a ha => hK.1 a ha
  have b97 : B 97 = M 97 := hB 97 (by decide)
  have q : ∀ j, j ≠ 25 → j ≠ 29 → M2 61 j = M 61 j := fun j a b => by rw [hK.2.1.1 j a b, hB 61 (by decide)]
  obtain ⟨k1, k2, k3, k4, k5⟩ := hK
  rw [b97] at k2 k3 k4 k5
  have q3 := q 3 (by decide) (by decide)
  have q0 := q 0 (by decide) (by decide)
  have hp := hI.1.1.2.1.2
  obtain ⟨⟨h1, h2⟩, h3, h4, h5, h6, h7, h8⟩ := hI
  obtain ⟨i1, i2, i3, i4⟩ := h6.2.1.2.2 h98
  have r24 : ∀ k, 0 ≤ k → k < M 61 3 → M2 14 k = M2 69 k ∧ Bl (M2 69 k) := by
    intro k a c
    obtain ⟨s1, s2⟩ := i4 k a c
    rw [gB 14 (by decide), hB24 k a (by omega), k5 k a (by omega), ← s1]
    rcases s2 with s2 | s2 <;> rw [s2]
    · exact ⟨rfl, Or.inl rfl⟩
    · exact ⟨rfl, Or.inr rfl⟩
  refine ⟨⟨c_PitOk (g 62 (by decide)) (g 63 (by decide)) (g 64 (by decide)) (g 65 (by decide)) (g 66 (by decide)) (g 67 (by decide)) (g 68 (by decide)) (q 0 (by decide) (by decide)) (q 1 (by decide) (by decide)) (q 2 (by decide) (by decide)) (q 3 (by decide) (by decide)) h1, ?_⟩, ⟨?_, ?_, ?_, ?_⟩, c_RowEq (g 31 (by decide)) (g 32 (by decide)) (g 91 (by decide)) (q 0 (by decide) (by decide)) (q 50 (by decide) (by decide)) h4, c_TextEq (g 1 (by decide)) (g 2 (by decide)) (g 70 (by decide)) (q 13 (by decide) (by decide)) h5, c_ImgEq (g 30 (by decide)) (g 98 (by decide)) (g 97 (by decide)) (g 16 (by decide)) (g 17 (by decide)) (g 18 (by decide)) (g 19 (by decide)) (g 20 (by decide)) (g 21 (by decide)) (g 22 (by decide)) (g 23 (by decide)) (g 24 (by decide)) (g 25 (by decide)) (g 26 (by decide)) (g 27 (by decide)) (g 28 (by decide)) (g 29 (by decide)) (q 0 (by decide) (by decide)) (q 3 (by decide) (by decide)) h6, c_TelEq (g 51 (by decide)) (g 59 (by decide)) h7, c_Mis (g 0 (by decide)) (g 15 (by decide)) (q 32 (by decide) (by decide)) (q 14 (by decide) (by decide)) h8⟩
  · refine ⟨?_, ?_, ?_, ?_, fun k a c => ?_⟩
    · rw [g 6 (by decide), q0]; exact h2.1
    · rw [g 6 (by decide), q3]; exact h2.2.1
    · rw [g 6 (by decide), q 1 (by decide) (by decide)]; exact h2.2.2.1
    · rw [g 6 (by decide), q 2 (by decide) (by decide)]; exact h2.2.2.2.1
    · rw [q3] at c
      have t := h2.2.2.2.2 k a c
      rw [g 7 (by decide), g 62 (by decide), g 63 (by decide), g 64 (by decide), g 65 (by decide), g 66 (by decide), g 67 (by decide), g 68 (by decide)]
      exact ⟨t.1, t.2.1, t.2.2.1, t.2.2.2.1, (r24 k a c).1⟩
  · rw [gB 8 (by decide), hB0, hB1, k2.2.1, k2.2.2]; exact i1
  · intro k a c
    rw [k2.2.1] at c
    have r := k3 k a (by omega)
    have s := hB8 k a (by omega)
    obtain ⟨t1, t2, t3, t4, t5, t6⟩ := i2 k a c
    rw [gB 9 (by decide), gB 10 (by decide), gB 11 (by decide), r.1, r.2.1, r.2.2, s.1, s.2.1, s.2.2, q0, t6, ← t1]
    refine ⟨rfl, t2, t3, ?_⟩
    rcases t4 with t4 | t4 <;> rcases t5 with t5 | t5 <;> rw [t4, t5] <;> refine ⟨by decide, by decide, ?_⟩ <;> unfold Bl <;> decide
  · intro k a c
    rw [k2.2.2] at c
    have r := k4 k a (by omega)
    have s := hB4 k a (by omega)
    have t := i3 k a c
    rw [gB 12 (by decide), gB 13 (by decide), r.1, r.2, s.1, s.2, q0]
    omega
  · intro k a c
    rw [q3] at c
    exact (r24 k a c).2
theorem C_goBack_1 {n : Int} {M : ax_M} (hI : Inv n M) : ax_Ti Y_X10_goBack [aR 0, aI 1] SH M (fun z1 u1 => ax_Ti Y_X11_goBack [aR 61, aI 1] SH u1 (fun z2 u2 => z1 = z2 ∧ Inv (n + 1) u2)) := by
  have hu := inv_up hI
  have h6 := hI.2.2.2.2.1
  have h15 : M 15 1 = 23 := hI.2.2.2.2.2.2.2.2.2
  have e30 : M 30 1 = M 98 1 := h6.2.1.1
  have b98 := h6.2.1.2.1
  unfold Bl at b98
  refine E_X10_goBack_23 (fun _ => ⟨fun c => by omega, fun c => ⟨fun c => by omega, fun _ => ⟨by omega, fun z => ⟨h15, S_become_8_23 (fun B b1 b2 b3 b4 b5 b6 => S_X11_goBack (by omega) (by omega) ?_ (fun k a c => ?_) (fun M' hK => ⟨rfl, inv_back_1 hu (by omega) b1 b2 b3 b4 b5 b6 hK⟩))⟩, fun z => E_X11_goBack (fun _ => ⟨fun _ => by omega, fun _ => ⟨fun _ => by omega, fun _ => ⟨by omega, fun y => by omega, fun _ => ⟨rfl, hu⟩⟩⟩⟩)⟩⟩⟩)
  · rw [b1 98 (by decide)]; omega
  · have o := h6.2.2 k a c
    rw [b1 97 (by decide), show (60 : Int) * 1 + 10 + k = 70 + k by omega]
    omega
set_option maxHeartbeats 4000000 in
set_option maxRecDepth 100000 in
theorem C_goBack {n : Int} {M : ax_M} {x1 : Int} (hI : Inv n M) : ax_Ti Y_X10_goBack [aR 0, aI x1] SH M (fun z1 u1 => ax_Ti Y_X11_goBack [aR 61, aI x1] SH u1 (fun z2 u2 => z1 = z2 ∧ Inv (n + 1) u2)) := by
  have hu := inv_up hI
  by_cases c0 : x1 < 0
  · exact E_X10_goBack_16 (fun _ => ⟨fun _ => E_X11_goBack (fun _ => ⟨fun _ => ⟨rfl, hu⟩, fun d => by omega⟩), fun d => by omega⟩)
  · by_cases c1 : 1 < x1
    · exact E_X10_goBack_16 (fun _ => ⟨fun _ => by omega, fun _ => ⟨fun _ => E_X11_goBack (fun _ => ⟨fun _ => by omega, fun d => ⟨fun _ => ⟨rfl, hu⟩, fun d => by omega⟩⟩), fun d => by omega⟩⟩)
    · by_cases c2 : x1 = 0
      · subst c2; exact C_goBack_0 hI
      · have c3 : x1 = 1 := by omega
        subst c3; exact C_goBack_1 hI
