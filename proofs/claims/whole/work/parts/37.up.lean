/-- how many of the first j men stand at p, know, and are slow or not as s says -/
def cl (M : ax_M) (p s : Int) : Nat → Int
  | 0 => 0
  | j + 1 => cl M p s j + (if M 72 j = p ∧ ¬ M 73 j = 0 ∧ M 74 j = s then 1 else 0)
theorem cl_0 (M : ax_M) (p s : Int) : ∀ j, 0 ≤ cl M p s j
  | 0 => Int.le_refl 0
  | j + 1 => by have := cl_0 M p s j; unfold cl; split <;> omega
theorem cl_mono (M : ax_M) (p s : Int) {j : Nat} : ∀ d : Nat, cl M p s j ≤ cl M p s (j + d)
  | 0 => Int.le_refl _
  | d + 1 => by
    have := cl_mono M p s (j := j) d
    have e : cl M p s (j + (d + 1)) = cl M p s (j + d) + (if M 72 (j + d : Nat) = p ∧ ¬ M 73 (j + d : Nat) = 0 ∧ M 74 (j + d : Nat) = s then 1 else 0) := rfl
    rw [e]; split <;> omega
theorem cl_8 (M : ax_M) (p : Int) : ∀ j : Nat, cl M p 0 j + cl M p 1 j ≤ j
  | 0 => Int.le_refl 0
  | j + 1 => by have := cl_8 M p j; unfold cl; split <;> split <;> omega
theorem cl_m {M M' : ax_M} (p s : Int) (h2 : M' 72 = M 72) (h3 : M' 73 = M 73) (h4 : M' 74 = M 74) : ∀ j, cl M' p s j = cl M p s j
  | 0 => rfl
  | j + 1 => by unfold cl; rw [cl_m p s h2 h3 h4 j, h2, h3, h4]
/-- a line so far: at a, filled from z on -/
def LU (a : Nat) (z p s : Int) (j : Nat) (M M' : ax_M) : Prop := (∀ i, i < z → M' a i = M a i) ∧ ∀ i, z ≤ i → i < z + cl M p s j → 0 ≤ M' a i ∧ M' a i < M 61 25 ∧ M 74 (M' a i) = s
theorem lu_no {a : Nat} {z p s : Int} {j : Nat} {M M' : ax_M} (hn : ¬ (M 72 j = p ∧ ¬ M 73 j = 0 ∧ M 74 j = s)) (h : LU a z p s j M M') : cl M p s (j + 1) = cl M p s j ∧ LU a z p s (j + 1) M M' := by
  have e : cl M p s (j + 1) = cl M p s j := by
    show cl M p s j + _ = _
    rw [if_neg hn]; omega
  refine ⟨e, h.1, ?_⟩
  rw [e]; exact h.2
theorem lu_yes {a : Nat} {z p s : Int} {j : Nat} {M M' M2 : ax_M} (hj : (j : Int) < M 61 25) (hy : M 72 j = p ∧ ¬ M 73 j = 0 ∧ M 74 j = s) (h2 : M2 a = ax_up M' a (z + cl M p s j) j a) (h : LU a z p s j M M') : cl M p s (j + 1) = cl M p s j + 1 ∧ LU a z p s (j + 1) M M2 := by
  have e : cl M p s (j + 1) = cl M p s j + 1 := by
    show cl M p s j + _ = _
    rw [if_pos hy]
  have c0 := cl_0 M p s j
  refine ⟨e, fun i hi => ?_, fun i a b => ?_⟩
  · rw [h2, up_ne _ _ _ (by omega)]; exact h.1 i hi
  · rw [h2, up_k]
    rw [e] at b
    by_cases hk : i = z + cl M p s j
    · rw [if_pos hk]; exact ⟨by omega, hj, hy.2.2⟩
    · rw [if_neg hk]; exact h.2 i a (by omega)
set_option maxHeartbeats 4000000 in
set_option maxRecDepth 100000 in
theorem S_X1_lineUp {post : ax_M → Prop} {M : ax_M} {p s : Int} (hc : CrewEq M) (hz : 0 ≤ M 49 4) (h8 : M 49 4 + cl M p s (M 61 25).toNat ≤ 8) (h : ∀ M', Ofs [49, 50] M M' → (∀ i, i ≠ 4 → M' 49 i = M 49 i) → M' 49 4 = M 49 4 + cl M p s (M 61 25).toNat → LU 50 (M 49 4) p s (M 61 25).toNat M M' → post M') : ax_Tv Y_X1_lineUp [aR 49, aI p, aI s] SH M post := by
  obtain ⟨b, hk, -⟩ := hc
  have L : ∀ (r j : Nat) (M' : ax_M), (M 61 25).toNat = j + r → Ofs [49, 50] M M' → (∀ i, i ≠ 4 → M' 49 i = M 49 i) → M' 49 4 = M 49 4 + cl M p s j → LU 50 (M 49 4) p s j M M' → ax_J Y_X1_lineUp (ax_Kv Y_X1_lineUp SH post) 0 0 2 [(0, aR 49), (1, aI p), (2, aI s), (3, aI j)] [] SH M' := by
    intro r
    induction r with
    | zero =>
      intro j M' hj h1 h2 h3 h4
      have e : j = (M 61 25).toNat := by omega
      have e8 : M' 8 = M 8 := h1 8 (by decide)
      refine B_X1_lineUp_2 ⟨fun _ => ?_, fun c => ?_⟩
      · subst e; exact h M' h1 h2 h3 h4
      · rw [e8] at c; omega
    | succ r ih =>
      intro j M' hj h1 h2 h3 h4
      have e8 : M' 8 = M 8 := h1 8 (by decide)
      have e9 : M' 9 = M 9 := h1 9 (by decide)
      have e10 : M' 10 = M 10 := h1 10 (by decide)
      have e11 : M' 11 = M 11 := h1 11 (by decide)
      have q := hk j (by omega) (by omega)
      have no : ¬ (M 72 j = p ∧ ¬ M 73 j = 0 ∧ M 74 j = s) → ax_J Y_X1_lineUp (ax_Kv Y_X1_lineUp SH post) 0 0 2 [(0, aR 49), (1, aI p), (2, aI s), (3, aI ((j : Int) + 1))] [] SH M' := by
        intro hn
        have g := lu_no hn h4
        exact ih (j + 1) M' (by omega) h1 h2 (by rw [g.1]; exact h3) g.2
      have m1 := cl_mono M p s (j := j + 1) r
      rw [show j + 1 + r = (M 61 25).toNat by omega] at m1
      have m0 := cl_0 M p s j
      refine B_X1_lineUp_2 ?_
      rw [e8, e9, e10, e11, h3]
      refine ⟨fun c => by omega, fun c => ⟨by omega, fun c1 => ⟨by omega, no (by omega)⟩, fun c1 => ⟨fun c2 => ⟨by omega, no (by omega)⟩, fun c2 => ⟨fun c3 => ⟨by omega, no (by omega)⟩, fun c3 => ?_⟩⟩⟩⟩
      have g := lu_yes (M2 := ax_up (ax_up M' 50 (M 49 4 + cl M p s j) j) 49 4 (M 49 4 + cl M p s j + 1)) (by omega) ⟨by omega, by omega, by omega⟩ rfl h4
      refine ⟨by omega, by omega, by omega, ih (j + 1) _ (by omega) (Ofs.tr h1 (Ofs.tr (Ofs.up (by decide)) (Ofs.up (by decide)))) (fun i hi => ?_) ?_ g.2⟩
      · rw [up_ne _ _ _ hi, up_off _ _ _ (by decide)]; exact h2 i hi
      · rw [up_at, g.1]; omega
  exact E_X1_lineUp (fun _ => L _ 0 M (Nat.zero_add _).symm Ofs.rf (fun _ _ => rfl) (by show _ = _ + (0 : Int); omega) ⟨fun _ _ => rfl, fun i a b => by have : cl M p s 0 = 0 := rfl; omega⟩)
/-- the line at p: how many of it are not slow, how many there are -/
def cA (M : ax_M) (p : Int) : Int := cl M p 0 (M 61 25).toNat
def cN (M : ax_M) (p : Int) : Int := cl M p 0 (M 61 25).toNat + cl M p 1 (M 61 25).toNat
/-- the line stands at a: those that are not slow first -/
def Ln (a : Nat) (M M' : ax_M) (p : Int) : Prop := ∀ i, 0 ≤ i → i < cN M p → 0 ≤ M' a i ∧ M' a i < M 61 25 ∧ M 74 (M' a i) = (if i < cA M p then 0 else 1)
theorem cN_8 {M : ax_M} (h0 : 0 ≤ M 61 25) (h8 : M 61 25 ≤ 8) (p : Int) : 0 ≤ cA M p ∧ cA M p ≤ cN M p ∧ cN M p ≤ 8 := by
  have a := cl_8 M p (M 61 25).toNat
  have b := cl_0 M p 0 (M 61 25).toNat
  have c := cl_0 M p 1 (M 61 25).toNat
  unfold cA cN
  omega
theorem ln_of {a : Nat} {M M1 M2 : ax_M} {p : Int} (h1 : LU a 0 p 0 (M 61 25).toNat M M1) (h2 : LU a (cl M p 0 (M 61 25).toNat) p 1 (M 61 25).toNat M1 M2) (e61 : M1 61 25 = M 61 25) (e2 : M1 72 = M 72) (e3 : M1 73 = M 73) (e4 : M1 74 = M 74) : Ln a M M2 p := by
  intro i i0 i1
  unfold cN at i1
  have hc := cl_m p 1 e2 e3 e4 (M 61 25).toNat
  unfold cA
  by_cases hi : i < cl M p 0 (M 61 25).toNat
  · rw [if_pos hi, h2.1 i hi]
    exact h1.2 i i0 (by omega)
  · rw [if_neg hi]
    have q := h2.2 i (by omega) (by omega)
    rw [e61, e4] at q
    exact q
set_option maxHeartbeats 4000000 in
set_option maxRecDepth 100000 in
theorem S_X11_lineUp {post : Int → ax_M → Prop} {M : ax_M} {p : Int} (h0 : 0 ≤ M 61 25) (h8 : M 61 25 ≤ 8) (h : ∀ M', Of 86 M M' → Ln 86 M M' p → post (cN M p) M') : ax_Ti Y_X11_lineUp [aR 61, aI p] SH M post := by
  have c8 := cN_8 h0 h8 p
  have P : ∀ (s z : Int) (M0 : ax_M), (s = 0 ∨ s = 1) → Of 86 M M0 → 0 ≤ z → z + cl M p s (M 61 25).toNat ≤ 8 → (∀ M', Of 86 M M' → LU 86 z p s (M 61 25).toNat M0 M' → ax_J Y_X11_lineUp (ax_Ki Y_X11_lineUp SH post) 0 0 4 [(0, aR 61), (1, aI p), (2, aI (z + cl M p s (M 61 25).toNat)), (3, aI (s + 1))] [] SH M') → ax_J Y_X11_lineUp (ax_Ki Y_X11_lineUp SH post) 0 0 12 [(0, aR 61), (1, aI p), (2, aI z), (3, aI s), (4, aI 0)] [] SH M0 := by
    intro s z M0 hs hO hz hz8 hk
    have f61 : M0 61 = M 61 := hO 61 (by decide)
    have hcl : ∀ j, cl M0 p s j = cl M p s j := cl_m p s (hO 72 (by decide)) (hO 73 (by decide)) (hO 74 (by decide))
    have L : ∀ (r j : Nat) (M' : ax_M), (M 61 25).toNat = j + r → Of 86 M M' → LU 86 z p s j M0 M' → ax_J Y_X11_lineUp (ax_Ki Y_X11_lineUp SH post) 0 0 12 [(0, aR 61), (1, aI p), (2, aI (z + cl M p s j)), (3, aI s), (4, aI j)] [] SH M' := by
      intro r
      induction r with
      | zero =>
        intro j M' hj h1 h4
        have e : j = (M 61 25).toNat := by omega
        have e61 : M' 61 = M 61 := h1 61 (by decide)
        refine B_X11_lineUp_12 ⟨fun _ => ⟨by omega, ?_⟩, fun c => ?_⟩
        · subst e; exact hk M' h1 h4
        · rw [e61] at c; omega
      | succ r ih =>
        intro j M' hj h1 h4
        have e61 : M' 61 = M 61 := h1 61 (by decide)
        have e9 : M' 72 = M0 72 := (h1 72 (by decide)).trans (hO 72 (by decide)).symm
        have e10 : M' 73 = M0 73 := (h1 73 (by decide)).trans (hO 73 (by decide)).symm
        have e11 : M' 74 = M0 74 := (h1 74 (by decide)).trans (hO 74 (by decide)).symm
        have no : ¬ (M0 72 j = p ∧ ¬ M0 73 j = 0 ∧ M0 74 j = s) → ax_J Y_X11_lineUp (ax_Ki Y_X11_lineUp SH post) 0 0 12 [(0, aR 61), (1, aI p), (2, aI (z + cl M p s j)), (3, aI s), (4, aI ((j : Int) + 1))] [] SH M' := by
          intro hn
          have g := lu_no hn h4
          have k := ih (j + 1) M' (by omega) h1 g.2
          rw [hcl, hcl] at g
          rw [g.1] at k
          exact k
        have m1 := cl_mono M p s (j := j + 1) r
        rw [show j + 1 + r = (M 61 25).toNat by omega] at m1
        have m0 := cl_0 M p s j
        have yes : M0 72 j = p ∧ ¬ M0 73 j = 0 ∧ M0 74 j = s → (0 ≤ z + cl M p s j ∧ z + cl M p s j < 8) ∧ (-2147483648 ≤ z + cl M p s j + 1 ∧ z + cl M p s j + 1 ≤ 2147483647) ∧ (-2147483648 ≤ (j : Int) + 1 ∧ (j : Int) + 1 ≤ 2147483647) ∧ ax_J Y_X11_lineUp (ax_Ki Y_X11_lineUp SH post) 0 0 12 [(0, aR 61), (1, aI p), (2, aI (z + cl M p s j + 1)), (3, aI s), (4, aI ((j : Int) + 1))] [] SH (ax_up M' 86 (z + cl M p s j) j) := by
          intro hy
          have g := lu_yes (a := 86) (z := z) (M2 := ax_up M' 86 (z + cl M p s j) j) (by rw [f61]; omega) hy (by rw [hcl]) h4
          have k := ih (j + 1) _ (by omega) (Of.tr h1 Of.up) g.2
          rw [hcl, hcl] at g
          rw [g.1, ← Int.add_assoc] at k
          exact ⟨by omega, by omega, by omega, k⟩
        refine B_X11_lineUp_12 ?_
        rw [e61, e9, e10, e11]
        refine ⟨fun c => by omega, fun c => ⟨by omega, fun c1 => ⟨by omega, no (by omega)⟩, fun c1 => ⟨fun c2 => ⟨by omega, no (by omega)⟩, fun c2 => ⟨fun c3 => ⟨fun c4 => ⟨by omega, no (by omega)⟩, fun c4 => yes ⟨c1, c2, by omega⟩⟩, fun c3 => ⟨fun c4 => ⟨by omega, no (by omega)⟩, fun c4 => yes ⟨c1, c2, by omega⟩⟩⟩⟩⟩⟩
    have k := L _ 0 M0 (Nat.zero_add _).symm hO ⟨fun _ _ => rfl, fun i a b => by have : cl M0 p s 0 = 0 := rfl; omega⟩
    rw [show cl M p s 0 = 0 from rfl, Int.add_zero] at k
    exact k
  unfold cN cA at c8
  have c1 := cl_0 M p 1 (M 61 25).toNat
  refine E_X11_lineUp (fun _ => B_X11_lineUp_4 ⟨fun c => by omega, fun _ => P 0 0 M (Or.inl rfl) Of.rf (by omega) (by omega) (fun M1 o1 l1 => ?_)⟩)
  refine B_X11_lineUp_4 ⟨fun c => by omega, fun _ => ?_⟩
  have e : M1 61 25 = M 61 25 := by rw [o1 61 (by decide)]
  refine P 1 (0 + cl M p 0 (M 61 25).toNat) M1 (Or.inr rfl) o1 (by omega) (by omega) (fun M2 o2 l2 => ?_)
  rw [Int.zero_add] at l2 ⊢
  exact B_X11_lineUp_4 ⟨fun _ => h M2 o2 (ln_of l1 l2 e (o1 72 (by decide)) (o1 73 (by decide)) (o1 74 (by decide))), fun c => by omega⟩
set_option maxHeartbeats 4000000 in
set_option maxRecDepth 100000 in
theorem S_X1_line2 {post : ax_M → Prop} {M : ax_M} {p : Int} (hc : CrewEq M) (h : ∀ M', Ofs [49, 50] M M' → (∀ i, i ≠ 4 → M' 49 i = M 49 i) → M' 49 4 = cN M p → Ln 50 M M' p → post M') : ax_Tv Y_X1_lineUp [aR 49, aI p, aI 0] SH (ax_up M 49 4 0) (fun u1 => ax_Tv Y_X1_lineUp [aR 49, aI p, aI 1] SH u1 post) := by
  have hb := hc.1
  have c8 := cN_8 hb.2.1 hb.2.2.1 p
  unfold cN cA at c8
  have hc1 : CrewEq (ax_up M 49 4 0) := (c_CrewEq rfl rfl rfl rfl rfl rfl rfl rfl rfl rfl rfl rfl rfl rfl rfl rfl hc)
  have q0 : cl (ax_up M 49 4 0) p 0 (M 61 25).toNat = cl M p 0 (M 61 25).toNat := cl_m (M := M) (M' := ax_up M 49 4 0) p 0 rfl rfl rfl _
  refine S_X1_lineUp hc1 (Int.le_refl 0) (by show 0 + cl (ax_up M 49 4 0) p 0 (M 61 25).toNat ≤ 8; omega) (fun M1 o1 i1 n1 l1 => ?_)
  have n1 : M1 49 4 = 0 + cl (ax_up M 49 4 0) p 0 (M 61 25).toNat := n1
  have l1 : LU 50 0 p 0 (M 61 25).toNat (ax_up M 49 4 0) M1 := l1
  have e61 : M1 61 = M 61 := o1 61 (by decide)
  have e72 : M1 72 = M 72 := o1 72 (by decide)
  have e73 : M1 73 = M 73 := o1 73 (by decide)
  have e74 : M1 74 = M 74 := o1 74 (by decide)
  have hc2 : CrewEq M1 := c_CrewEq (o1 8 (by decide)) (o1 9 (by decide)) (o1 10 (by decide)) (o1 11 (by decide)) (o1 12 (by decide)) (o1 13 (by decide)) (o1 69 (by decide)) e72 e73 e74 (o1 75 (by decide)) (o1 76 (by decide)) (by rw [e61]; rfl) (by rw [e61]; rfl) (by rw [e61]; rfl) (by rw [e61]; rfl) hc1
  have q1 : cl M1 p 1 (M 61 25).toNat = cl M p 1 (M 61 25).toNat := cl_m p 1 e72 e73 e74 _
  refine S_X1_lineUp hc2 (by omega) (by rw [e61, q1]; omega) (fun M2 o2 i2 n2 l2 => ?_)
  rw [e61, q1] at n2
  rw [e61, n1, q0, Int.zero_add] at l2
  refine h M2 (Ofs.tr (Ofs.up (by decide)) (Ofs.tr o1 o2)) (fun i hi => ?_) (by unfold cN; omega) ?_
  · rw [i2 i hi, i1 i hi, up_ne _ _ _ hi]
  · exact ln_of (M1 := M1) ⟨l1.1, fun i a b => l1.2 i a (by rw [q0]; exact b)⟩ l2 (by rw [e61]) e72 e73 e74
