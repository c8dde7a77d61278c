abbrev FP : Type := Int × Int
def bl (a : FP) (g q : Int) : FP := (bf_ a.1 g, bp_ a.1 a.2 g q)
theorem bl_0 {a : FP} {g q : Int} (h : (bl a g q).1 = 0) : a.1 = 0 ∧ g = 0 ∧ bl a g q = a := by
  have h' : bf_ a.1 g = 0 := h
  unfold bf_ at h'
  by_cases z : a.1 = 0
  · rw [if_pos z] at h'
    refine ⟨z, h', ?_⟩
    unfold bl bf_ bp_
    rw [if_pos z, if_pos z, if_pos h', h']
    exact Prod.ext z.symm rfl
  · rw [if_neg z] at h'
    exact absurd h' z
theorem bl_n {a : FP} {g q : Int} (h : ¬ a.1 = 0) : bl a g q = a := by
  unfold bl bf_ bp_
  rw [if_neg h, if_neg h]
theorem bl_z {a : FP} {q : Int} : bl a 0 q = a := by
  unfold bl bf_ bp_
  by_cases h : a.1 = 0
  · rw [if_pos h, if_pos h, if_pos rfl]; exact Prod.ext h.symm rfl
  · rw [if_neg h, if_neg h]
theorem bl_g {g q : Int} (h : ¬ g = 0) {p : Int} : bl (0, p) g q = (g, q) := by
  unfold bl bf_ bp_
  rw [if_pos rfl, if_pos rfl, if_neg h]
def sgn (x : Int) : Int := if x < 128 then x else x - 256
def TX (X : Int → Int) (N : Int) (M : ax_M) : Prop := M 1 1 = N ∧ (0 ≤ N ∧ N ≤ 400) ∧ ∀ k, 0 ≤ k → k < N → (0 ≤ X k ∧ X k ≤ 255) ∧ M 2 k = sgn (X k)
theorem sg_f {x : Int} (h : 0 ≤ x ∧ x ≤ 255) : (sgn x = 32 ↔ x = 32) ∧ (sgn x = 59 ↔ x = 59) ∧ (48 ≤ sgn x ∧ sgn x ≤ 57 ↔ Dg x) ∧ (97 ≤ sgn x ∧ sgn x ≤ 122 ↔ Lt x) ∧ (Dg x → sgn x = x) ∧ (∀ c, 97 ≤ c → c ≤ 122 → (sgn x = c ↔ x = c)) := by
  unfold sgn
  split <;> (refine ⟨?_, ?_, ?_, ?_, ?_, ?_⟩ <;> (try intro c) <;> omega)
/-- the class while it reads: where, and the first fault -/
def Rs (N : Int) (M0 M' : ax_M) (i : Int) (a : FP) : Prop := Ofs [3, 4, 5] M0 M' ∧ M' 3 2 = i ∧ M' 3 4 = a.1 ∧ M' 3 5 = a.2 ∧ 0 ≤ i ∧ i ≤ N
def R45 (M M' : ax_M) : Prop := M' 4 = M 4 ∧ M' 5 = M 5
theorem R45.rf {M : ax_M} : R45 M M := ⟨rfl, rfl⟩
theorem R45.tr {M M1 M2 : ax_M} (h : R45 M M1) (h2 : R45 M1 M2) : R45 M M2 := ⟨h2.1.trans h.1, h2.2.trans h.2⟩
theorem R45.up {M : ax_M} {i v : Int} : R45 M (ax_up M 3 i v) := ⟨up_off _ _ _ (by decide), up_off _ _ _ (by decide)⟩
theorem Rs.mv {N : Int} {M0 M' : ax_M} {i j : Int} {a : FP} (h : Rs N M0 M' i a) (j0 : 0 ≤ j) (j1 : j ≤ N) : Rs N M0 (ax_up M' 3 2 j) j a :=
  ⟨h.1.tr (Ofs.up (by decide)), up_at _ _ _ _, by rw [up_ne _ _ _ (by decide)]; exact h.2.2.1, by rw [up_ne _ _ _ (by decide)]; exact h.2.2.2.1, j0, j1⟩
theorem Rs.m4 {N : Int} {M0 M' : ax_M} {i k v : Int} {a : FP} (h : Rs N M0 M' i a) : Rs N M0 (ax_up M' 4 k v) i a :=
  ⟨h.1.tr (Ofs.up (by decide)), by rw [up_off _ _ _ (by decide)]; exact h.2.1, by rw [up_off _ _ _ (by decide)]; exact h.2.2.1, by rw [up_off _ _ _ (by decide)]; exact h.2.2.2.1, h.2.2.2.2⟩
theorem Rs.m5 {N : Int} {M0 M' : ax_M} {i k v : Int} {a : FP} (h : Rs N M0 M' i a) : Rs N M0 (ax_up M' 5 k v) i a :=
  ⟨h.1.tr (Ofs.up (by decide)), by rw [up_off _ _ _ (by decide)]; exact h.2.1, by rw [up_off _ _ _ (by decide)]; exact h.2.2.1, by rw [up_off _ _ _ (by decide)]; exact h.2.2.2.1, h.2.2.2.2⟩
theorem Rs.m3 {N : Int} {M0 M' : ax_M} {i v : Int} {a : FP} (h : Rs N M0 M' i a) : Rs N M0 (ax_up M' 3 3 v) i a :=
  ⟨h.1.tr (Ofs.up (by decide)), by rw [up_ne _ _ _ (by decide)]; exact h.2.1, by rw [up_ne _ _ _ (by decide)]; exact h.2.2.1, by rw [up_ne _ _ _ (by decide)]; exact h.2.2.2.1, h.2.2.2.2⟩
/-- a blame -/
theorem Rs.blm {N : Int} {M0 M' : ax_M} {i g q : Int} {a : FP} (h : Rs N M0 M' i a) (hg : ¬ g = 0) (h0 : M' 3 4 = 0) : Rs N M0 (ax_up (ax_up M' 3 4 g) 3 5 q) i (bl a g q) := by
  have a0 : a.1 = 0 := h.2.2.1.symm.trans h0
  have e1 : (bl a g q).1 = g := by show bf_ a.1 g = g; unfold bf_; rw [if_pos a0]
  have e2 : (bl a g q).2 = q := by show bp_ a.1 a.2 g q = q; unfold bp_; rw [if_pos a0, if_neg hg]
  refine ⟨h.1.tr ((Ofs.up (by decide)).tr (Ofs.up (by decide))), ?_, ?_, ?_, h.2.2.2.2⟩
  · rw [up_ne _ _ _ (by decide), up_ne _ _ _ (by decide)]; exact h.2.1
  · rw [up_ne _ _ _ (by decide), up_at, e1]
  · rw [up_at, e2]
theorem Rs.no {N : Int} {M0 M' : ax_M} {i g q : Int} {a : FP} (h : Rs N M0 M' i a) (h0 : ¬ M' 3 4 = 0) : Rs N M0 M' i (bl a g q) := by
  have a0 : ¬ a.1 = 0 := fun z => h0 (h.2.2.1.trans z)
  rw [bl_n a0]; exact h
section READER
variable {X : Int → Int} {N : Int} {M0 M' : ax_M} {i : Int} {a : FP}
theorem tx_1 (hT : TX X N M0) (hR : Rs N M0 M' i a) : M' 1 1 = N := by rw [hR.1 1 (by decide)]; exact hT.1
theorem tx_2 (hT : TX X N M0) (hR : Rs N M0 M' i a) {k : Int} (k0 : 0 ≤ k) (k1 : k < N) : M' 2 k = sgn (X k) := by rw [hR.1 2 (by decide)]; exact (hT.2.2 k k0 k1).2
theorem S_X5_atEnd {post : Int → ax_M → Prop} (hT : TX X N M0) (hR : Rs N M0 M' i a) (h : ∀ M2, Rs N M0 M2 (sk X N i) a → R45 M' M2 → M2 3 3 = M' 3 3 → post (if N ≤ sk X N i then 1 else 0) M2) : ax_Ti Y_X5_atEnd [aR 3] SH M' post := by
  have step : ∀ (r : Nat) (M1 : ax_M) (j : Int), (N - j).toNat = r → Rs N M0 M1 j a → R45 M' M1 → M1 3 3 = M' 3 3 → sk X N j = sk X N i → ax_J Y_X5_atEnd (ax_Ki Y_X5_atEnd SH post) 0 0 0 [(0, aR 3)] [] SH M1 := by
    intro r
    induction r with
    | zero =>
      intro M1 j hj R1 q1 q2 e
      have jr := R1.2.2.2.2
      refine B_X5_atEnd_0 ?_
      rw [tx_1 hT R1, R1.2.1]
      refine ⟨fun _ => ?_, fun z => by omega⟩
      have s := sk_2 (X := X) (N := N) (i := j) (by omega)
      have K := h M1 (by rw [← e, s]; exact R1) q1 q2
      rw [← e, s, if_pos (by omega)] at K
      exact K
    | succ r ih =>
      intro M1 j hj R1 q1 q2 e
      have jr := R1.2.2.2.2
      have sb := sg_f (hT.2.2 j jr.1 (by omega)).1
      refine B_X5_atEnd_0 ?_
      rw [tx_1 hT R1, R1.2.1, tx_2 hT R1 jr.1 (by omega)]
      refine ⟨fun z => by omega, fun _ => ⟨by have := hT.2.1; omega, fun y => ?_, fun y => ⟨by have := hT.2.1; omega, ih _ (j + 1) (by omega) (R1.mv (by omega) (by omega)) (q1.tr R45.up) (by rw [up_ne _ _ _ (by decide)]; exact q2) ?_⟩⟩⟩
      · have s := sk_2 (X := X) (N := N) (i := j) (fun z => y (sb.1.mpr z.2))
        have K := h M1 (by rw [← e, s]; exact R1) q1 q2
        rw [← e, s, if_neg (by omega)] at K
        exact K
      · rw [← e]
        exact (sk_1 ⟨by omega, sb.1.mp y⟩).symm
  have ir := hR.2.2.2.2
  refine E_X5_atEnd (fun _ => ?_)
  rw [tx_1 hT hR, hR.2.1]
  refine ⟨fun z => ?_, fun z => ⟨by have := hT.2.1; omega, ?_⟩⟩
  · have s := sk_2 (X := X) (N := N) (i := i) (by omega)
    have K := h M' (by rw [s]; exact hR) R45.rf rfl
    rw [s, if_pos (by omega)] at K
    exact K
  · have sb := sg_f (hT.2.2 i ir.1 z).1
    rw [tx_2 hT hR ir.1 z]
    refine ⟨fun y => ?_, fun y => ⟨by have := hT.2.1; omega, step _ _ (i + 1) rfl (hR.mv (by omega) (by omega)) R45.up (up_ne _ _ _ (by decide)) (sk_1 ⟨z, sb.1.mp y⟩).symm⟩⟩
    have s := sk_2 (X := X) (N := N) (i := i) (fun w => y (sb.1.mpr w.2))
    have K := h M' (by rw [s]; exact hR) R45.rf rfl
    rw [s, if_neg (by omega)] at K
    exact K
set_option maxHeartbeats 4000000 in
set_option maxRecDepth 100000 in
theorem S_X5_number {post : Int → ax_M → Prop} {lo hi : Int} (hT : TX X N M0) (hR : Rs N M0 M' i a) (h : ∀ M2, Rs N M0 M2 (nE X N i) (bl a (nF X N i lo hi) (nP X N i)) → R45 M' M2 → M2 3 3 = nP X N i → post (nV X N i) M2) : ax_Ti Y_X5_number [aR 3, aI lo, aI hi] SH M' post := by
  have ir := hR.2.2.2.2
  have N4 := hT.2.1
  have rg := nE_rg (X := X) ir.2
  have dr := dg_rg (X := X) (N := N) _ (sk X N i) rfl
  have J87 : ∀ M1 : ax_M, Rs N M0 M1 (nE X N i) a → R45 M' M1 → M1 3 3 = nP X N i → ax_J Y_X5_number (ax_Ki Y_X5_number SH post) 0 0 87 [(0, aR 3), (1, aI lo), (2, aI hi), (3, aI (nV X N i))] [] SH M1 := by
    intro M1 R1 q1 e3
    have two : nF X N i lo hi = 2 → ax_J Y_X5_number (ax_Ki Y_X5_number SH post) 0 0 130 [(0, aR 3), (3, aI (nV X N i))] [] SH M1 := by
      intro f2
      refine B_X5_number_130 ⟨fun y => B_X5_number_139 (h M1 (R1.no y) q1 e3), fun y => B_X5_number_139 ?_⟩
      rw [e3]
      refine h _ ?_ (q1.tr (R45.up.tr R45.up)) (by rw [up_ne _ _ _ (by decide), up_ne _ _ _ (by decide)]; exact e3)
      rw [f2]
      exact R1.blm (by decide) y
    refine B_X5_number_87 ?_
    rw [R1.2.1, e3]
    refine ⟨by omega, fun y => ⟨fun y1 => two ?_, fun y1 => ⟨fun y2 => two ?_, fun y2 => ⟨fun y3 => two ?_, fun y3 => B_X5_number_139 (h M1 ?_ q1 e3)⟩⟩⟩, fun y => ⟨fun y1 => B_X5_number_139 (h M1 (R1.no y1) q1 e3), fun y1 => B_X5_number_139 (h _ ?_ (q1.tr (R45.up.tr R45.up)) (by rw [up_ne _ _ _ (by decide), up_ne _ _ _ (by decide)]; exact e3))⟩⟩
    · unfold nF; rw [if_neg (by omega), if_pos (by omega)]
    · unfold nF; rw [if_neg (by omega), if_pos (by omega)]
    · unfold nF; rw [if_neg (by omega), if_pos (by omega)]
    · have : nF X N i lo hi = 0 := by unfold nF; rw [if_neg (by omega), if_neg (by omega)]
      rw [this, bl_z]; exact R1
    · have : nF X N i lo hi = 1 := by unfold nF; rw [if_pos (by omega)]
      rw [this]
      exact R1.blm (by decide) y1
  have L : ∀ (r c : Nat) (M1 : ax_M), nP X N i + c + r = nE X N i → Rs N M0 M1 (nP X N i + c) a → R45 M' M1 → M1 3 3 = nP X N i → ax_J Y_X5_number (ax_Ki Y_X5_number SH post) 0 0 15 [(0, aR 3), (1, aI lo), (2, aI hi), (3, aI (nvv X (nP X N i) (min 3 c)))] [] SH M1 := by
    intro r
    induction r with
    | zero =>
      intro c M1 hc R1 q1 e3
      have ev : nvv X (nP X N i) (min 3 c) = nV X N i := by
        unfold nV
        rw [show (min 3 (nE X N i - nP X N i)).toNat = min 3 c by omega]
      have ee : nP X N i + c = nE X N i := by omega
      rw [ee] at R1
      rw [ev]
      have nd := dr.2.2.1
      have nd' : ¬ (nE X N i < N ∧ Dg (X (nE X N i))) := nd
      refine B_X5_number_15 ?_
      rw [tx_1 hT R1, R1.2.1]
      refine ⟨fun _ => J87 M1 R1 q1 e3, fun z => ⟨by omega, ?_⟩⟩
      rw [tx_2 hT R1 (by omega) z]
      have sb := sg_f (hT.2.2 (nE X N i) (by omega) z).1
      exact ⟨fun _ => J87 M1 R1 q1 e3, fun y => ⟨fun _ => J87 M1 R1 q1 e3, fun y1 => absurd ⟨z, sb.2.2.1.mp ⟨y, y1⟩⟩ nd'⟩⟩
    | succ r ih =>
      intro c M1 hc R1 q1 e3
      have dgc : Dg (X (nP X N i + c)) := dr.2.2.2 _ (by unfold nP; omega) (by unfold nE at hc; omega)
      have sb := sg_f (hT.2.2 (nP X N i + c) (by omega) (by omega)).1
      have sx := sb.2.2.2.2.1 dgc
      have vr := nvv_rg (X := X) (j := nP X N i) (min 3 c) (fun k u v => dr.2.2.2 k u (by unfold nE nP at *; omega))
      refine B_X5_number_15 ?_
      rw [tx_1 hT R1, R1.2.1, tx_2 hT R1 (by omega) (by omega), sx, e3]
      refine ⟨fun z => by omega, fun _ => ⟨by omega, fun y => by omega, fun _ => ⟨fun y => by omega, fun _ => ⟨by omega, fun y => B_X5_number_74 ?_, fun y => ⟨by omega, by omega, by omega, B_X5_number_74 ?_⟩⟩⟩⟩⟩
      · rw [R1.2.1]
        have K := ih (c + 1) (ax_up M1 3 2 (nP X N i + c + 1)) (by omega) (by have := R1.mv (j := nP X N i + c + 1) (by omega) (by omega); rw [show nP X N i + ((c + 1 : Nat) : Int) = nP X N i + c + 1 by omega]; exact this) (q1.tr R45.up) (by rw [up_ne _ _ _ (by decide)]; exact e3)
        rw [show min 3 (c + 1) = min 3 c by omega] at K
        exact ⟨by omega, K⟩
      · rw [R1.2.1]
        have K := ih (c + 1) (ax_up M1 3 2 (nP X N i + c + 1)) (by omega) (by have := R1.mv (j := nP X N i + c + 1) (by omega) (by omega); rw [show nP X N i + ((c + 1 : Nat) : Int) = nP X N i + c + 1 by omega]; exact this) (q1.tr R45.up) (by rw [up_ne _ _ _ (by decide)]; exact e3)
        rw [show min 3 (c + 1) = c + 1 by omega, nvv.eq_2] at K
        rw [show min 3 c = c by omega]
        exact ⟨by omega, K⟩
  refine E_X5_number (fun _ => S_X5_atEnd hT hR (fun M1 R1 q1 e3 => ?_))
  have R1' : Rs N M0 M1 (nP X N i) a := R1
  rw [R1'.2.1]
  have K := L (nE X N i - nP X N i).toNat 0 (ax_up M1 3 3 (nP X N i)) (by omega) (by rw [show nP X N i + ((0 : Nat) : Int) = nP X N i by omega]; exact R1'.m3) (q1.tr R45.up) (up_at _ _ _ _)
  rw [show min 3 0 = 0 by omega, nvv.eq_1] at K
  exact K
theorem S_X5_takeClauseEnd {post : ax_M → Prop} (hT : TX X N M0) (hR : Rs N M0 M' i a) (h : ∀ M2, Rs N M0 M2 (sE X N i) (bl a (sF X N i) (sk X N i)) → R45 M' M2 → post M2) : ax_Tv Y_X5_takeClauseEnd [aR 3] SH M' post := by
  have ir := hR.2.2.2.2
  have N4 := hT.2.1
  have s1 := sk_ge X N i
  have s2 := sk_le (X := X) ir.2
  refine E_X5_takeClauseEnd (fun _ => S_X5_atEnd hT hR (fun M1 R1 q1 e3 => ?_))
  rw [R1.2.1]
  have bad : ¬ isS' X N i → ((¬ M1 3 4 = 0 → post M1) ∧ (M1 3 4 = 0 → post (ax_up (ax_up M1 3 4 1) 3 5 (sk X N i)))) := by
    intro z
    have e1 : sF X N i = 1 := by unfold sF; rw [if_neg z]
    have e2 : sE X N i = sk X N i := by unfold sE; rw [if_neg z]
    rw [e1, e2] at h
    exact ⟨fun y => h M1 (R1.no y) q1, fun y => h _ (R1.blm (by decide) y) (q1.tr (R45.up.tr R45.up))⟩
  by_cases z : N ≤ sk X N i
  · rw [if_pos z]
    exact ⟨fun _ => bad (fun w => by have := w.1; omega), fun y => absurd y (by decide)⟩
  · rw [if_neg z]
    have sb := sg_f (hT.2.2 (sk X N i) (by omega) (by omega)).1
    refine ⟨fun y => absurd rfl y, fun _ => ⟨by omega, ?_⟩⟩
    rw [tx_2 hT R1 (by omega) (by omega)]
    refine ⟨fun y => bad (fun w => y (sb.2.1.mpr w.2)), fun y => ⟨by omega, ?_⟩⟩
    have is : isS' X N i := ⟨by omega, sb.2.1.mp y⟩
    have e1 : sF X N i = 0 := by unfold sF; rw [if_pos is]
    have e2 : sE X N i = sk X N i + 1 := by unfold sE; rw [if_pos is]
    rw [e1, e2, bl_z] at h
    exact h _ (R1.mv (by omega) (by omega)) (q1.tr R45.up)
theorem S_X5_takeWord0 {post : Int → ax_M → Prop} (hT : TX X N M0) (hR : Rs N M0 M' i a) (h1 : wm X N i 0 = true → ∀ M2, Rs N M0 M2 (sk X N i + wl 0) a → R45 M' M2 → post 1 M2) (h0 : wm X N i 0 = false → ∀ M2, Rs N M0 M2 (sk X N i) a → R45 M' M2 → post 0 M2) : ax_Ti Y_X5_takeWord [aR 3, aR 1000] SH M' post := by
  have ir := hR.2.2.2.2
  have N4 := hT.2.1
  have s1 := sk_ge X N i
  have s2 := sk_le (X := X) ir.2
  have el : wl 0 = 6 := by unfold wl; decide
  have iff := wm_iff (X := X) (N := N) (i := i) (w := 0)
  rw [el] at iff h1
  have no : ∀ M1, Rs N M0 M1 (sk X N i) a → R45 M' M1 → ¬ (sk X N i + 6 ≤ N ∧ (∀ k : Int, 0 ≤ k → k < 6 → X (sk X N i + k) = ax_chr 0 k) ∧ ¬ (sk X N i + 6 < N ∧ Lt (X (sk X N i + 6)))) → post 0 M1 := by
    intro M1 R1 q1 z
    refine h0 ?_ M1 R1 q1
    cases q : wm X N i 0
    · rfl
    · exact absurd (iff.mp q) z
  refine E_X5_takeWord_3_1000 (fun _ => S_X5_atEnd hT hR (fun M1 R1 q1 _ => ?_))
  rw [R1.2.1, tx_1 hT R1]
  have J45 : sk X N i + 6 ≤ N → ¬ (sk X N i + 6 < N ∧ Lt (X (sk X N i + 6))) → ∀ (r : Nat) (k : Int), k + r = 6 → 0 ≤ k → (∀ j : Int, 0 ≤ j → j < k → X (sk X N i + j) = ax_chr 0 j) → ax_J Y_X5_takeWord (ax_Ki Y_X5_takeWord SH post) 0 0 45 [(0, aR 3), (1, aR 1000), (2, aI 6), (3, aI k)] [] SH M1 := by
    intro c1 c2 r
    induction r with
    | zero =>
      intro k hk k0 hm
      refine B_X5_takeWord_3_1000_45 ?_
      rw [R1.2.1]
      exact ⟨fun _ => ⟨by omega, h1 (iff.mpr ⟨c1, fun j u v => hm j u (by omega), c2⟩) _ (R1.mv (by omega) (by omega)) (q1.tr R45.up)⟩, fun z => by omega⟩
    | succ r ih =>
      intro k hk k0 hm
      have sb := sg_f (hT.2.2 (sk X N i + k) (by omega) (by omega)).1
      have cr := chr_l (w := 0) (by decide) k0 (by rw [el]; omega)
      refine B_X5_takeWord_3_1000_45 ?_
      rw [R1.2.1, tx_2 hT R1 (by omega) (by omega), sb.2.2.2.2.2 _ cr.1 cr.2]
      refine ⟨fun z => by omega, fun _ => ⟨by omega, by omega, by omega, fun y => ⟨by omega, ih (k + 1) (by omega) (by omega) (fun j u v => ?_)⟩, fun y => no M1 R1 q1 (fun z => y (z.2.1 k k0 (by omega)))⟩⟩
      by_cases e : j = k
      · rw [e]; exact y
      · exact hm j u (by omega)
  by_cases z : N ≤ sk X N i
  · rw [if_pos z]
    exact ⟨fun _ => no M1 R1 q1 (fun w => by have := w.1; omega), fun y => absurd y (by decide)⟩
  · rw [if_neg z]
    refine ⟨fun y => absurd rfl y, fun _ => ⟨by omega, fun y => no M1 R1 q1 (fun w => by have := w.1; omega), fun y => ⟨fun y1 => J45 y (fun w => by have := w.1; omega) 6 0 (by omega) (Int.le_refl _) (fun j u v => by omega), fun y1 => ⟨by omega, ?_⟩⟩⟩⟩
    have sb := sg_f (hT.2.2 (sk X N i + 6) (by omega) y1).1
    rw [tx_2 hT R1 (by omega) y1]
    exact ⟨fun y2 => J45 y (fun w => by have := sb.2.2.2.1.mpr w.2; omega) 6 0 (by omega) (Int.le_refl _) (fun j u v => by omega), fun y2 => ⟨fun y3 => J45 y (fun w => by have := sb.2.2.2.1.mpr w.2; omega) 6 0 (by omega) (Int.le_refl _) (fun j u v => by omega), fun y3 => no M1 R1 q1 (fun w => w.2.2 ⟨y1, sb.2.2.2.1.mp ⟨y2, y3⟩⟩)⟩⟩
theorem S_X5_takeWord1 {post : Int → ax_M → Prop} (hT : TX X N M0) (hR : Rs N M0 M' i a) (h1 : wm X N i 1 = true → ∀ M2, Rs N M0 M2 (sk X N i + wl 1) a → R45 M' M2 → post 1 M2) (h0 : wm X N i 1 = false → ∀ M2, Rs N M0 M2 (sk X N i) a → R45 M' M2 → post 0 M2) : ax_Ti Y_X5_takeWord [aR 3, aR 1001] SH M' post := by
  have ir := hR.2.2.2.2
  have N4 := hT.2.1
  have s1 := sk_ge X N i
  have s2 := sk_le (X := X) ir.2
  have el : wl 1 = 3 := by unfold wl; decide
  have iff := wm_iff (X := X) (N := N) (i := i) (w := 1)
  rw [el] at iff h1
  have no : ∀ M1, Rs N M0 M1 (sk X N i) a → R45 M' M1 → ¬ (sk X N i + 3 ≤ N ∧ (∀ k : Int, 0 ≤ k → k < 3 → X (sk X N i + k) = ax_chr 1 k) ∧ ¬ (sk X N i + 3 < N ∧ Lt (X (sk X N i + 3)))) → post 0 M1 := by
    intro M1 R1 q1 z
    refine h0 ?_ M1 R1 q1
    cases q : wm X N i 1
    · rfl
    · exact absurd (iff.mp q) z
  refine E_X5_takeWord_3_1001 (fun _ => S_X5_atEnd hT hR (fun M1 R1 q1 _ => ?_))
  rw [R1.2.1, tx_1 hT R1]
  have J45 : sk X N i + 3 ≤ N → ¬ (sk X N i + 3 < N ∧ Lt (X (sk X N i + 3))) → ∀ (r : Nat) (k : Int), k + r = 3 → 0 ≤ k → (∀ j : Int, 0 ≤ j → j < k → X (sk X N i + j) = ax_chr 1 j) → ax_J Y_X5_takeWord (ax_Ki Y_X5_takeWord SH post) 0 0 45 [(0, aR 3), (1, aR 1001), (2, aI 3), (3, aI k)] [] SH M1 := by
    intro c1 c2 r
    induction r with
    | zero =>
      intro k hk k0 hm
      refine B_X5_takeWord_3_1001_45 ?_
      rw [R1.2.1]
      exact ⟨fun _ => ⟨by omega, h1 (iff.mpr ⟨c1, fun j u v => hm j u (by omega), c2⟩) _ (R1.mv (by omega) (by omega)) (q1.tr R45.up)⟩, fun z => by omega⟩
    | succ r ih =>
      intro k hk k0 hm
      have sb := sg_f (hT.2.2 (sk X N i + k) (by omega) (by omega)).1
      have cr := chr_l (w := 1) (by decide) k0 (by rw [el]; omega)
      refine B_X5_takeWord_3_1001_45 ?_
      rw [R1.2.1, tx_2 hT R1 (by omega) (by omega), sb.2.2.2.2.2 _ cr.1 cr.2]
      refine ⟨fun z => by omega, fun _ => ⟨by omega, by omega, by omega, fun y => ⟨by omega, ih (k + 1) (by omega) (by omega) (fun j u v => ?_)⟩, fun y => no M1 R1 q1 (fun z => y (z.2.1 k k0 (by omega)))⟩⟩
      by_cases e : j = k
      · rw [e]; exact y
      · exact hm j u (by omega)
  by_cases z : N ≤ sk X N i
  · rw [if_pos z]
    exact ⟨fun _ => no M1 R1 q1 (fun w => by have := w.1; omega), fun y => absurd y (by decide)⟩
  · rw [if_neg z]
    refine ⟨fun y => absurd rfl y, fun _ => ⟨by omega, fun y => no M1 R1 q1 (fun w => by have := w.1; omega), fun y => ⟨fun y1 => J45 y (fun w => by have := w.1; omega) 3 0 (by omega) (Int.le_refl _) (fun j u v => by omega), fun y1 => ⟨by omega, ?_⟩⟩⟩⟩
    have sb := sg_f (hT.2.2 (sk X N i + 3) (by omega) y1).1
    rw [tx_2 hT R1 (by omega) y1]
    exact ⟨fun y2 => J45 y (fun w => by have := sb.2.2.2.1.mpr w.2; omega) 3 0 (by omega) (Int.le_refl _) (fun j u v => by omega), fun y2 => ⟨fun y3 => J45 y (fun w => by have := sb.2.2.2.1.mpr w.2; omega) 3 0 (by omega) (Int.le_refl _) (fun j u v => by omega), fun y3 => no M1 R1 q1 (fun w => w.2.2 ⟨y1, sb.2.2.2.1.mp ⟨y2, y3⟩⟩)⟩⟩
theorem S_X5_takeWord2 {post : Int → ax_M → Prop} (hT : TX X N M0) (hR : Rs N M0 M' i a) (h1 : wm X N i 2 = true → ∀ M2, Rs N M0 M2 (sk X N i + wl 2) a → R45 M' M2 → post 1 M2) (h0 : wm X N i 2 = false → ∀ M2, Rs N M0 M2 (sk X N i) a → R45 M' M2 → post 0 M2) : ax_Ti Y_X5_takeWord [aR 3, aR 1002] SH M' post := by
  have ir := hR.2.2.2.2
  have N4 := hT.2.1
  have s1 := sk_ge X N i
  have s2 := sk_le (X := X) ir.2
  have el : wl 2 = 3 := by unfold wl; decide
  have iff := wm_iff (X := X) (N := N) (i := i) (w := 2)
  rw [el] at iff h1
  have no : ∀ M1, Rs N M0 M1 (sk X N i) a → R45 M' M1 → ¬ (sk X N i + 3 ≤ N ∧ (∀ k : Int, 0 ≤ k → k < 3 → X (sk X N i + k) = ax_chr 2 k) ∧ ¬ (sk X N i + 3 < N ∧ Lt (X (sk X N i + 3)))) → post 0 M1 := by
    intro M1 R1 q1 z
    refine h0 ?_ M1 R1 q1
    cases q : wm X N i 2
    · rfl
    · exact absurd (iff.mp q) z
  refine E_X5_takeWord_3_1002 (fun _ => S_X5_atEnd hT hR (fun M1 R1 q1 _ => ?_))
  rw [R1.2.1, tx_1 hT R1]
  have J45 : sk X N i + 3 ≤ N → ¬ (sk X N i + 3 < N ∧ Lt (X (sk X N i + 3))) → ∀ (r : Nat) (k : Int), k + r = 3 → 0 ≤ k → (∀ j : Int, 0 ≤ j → j < k → X (sk X N i + j) = ax_chr 2 j) → ax_J Y_X5_takeWord (ax_Ki Y_X5_takeWord SH post) 0 0 45 [(0, aR 3), (1, aR 1002), (2, aI 3), (3, aI k)] [] SH M1 := by
    intro c1 c2 r
    induction r with
    | zero =>
      intro k hk k0 hm
      refine B_X5_takeWord_3_1002_45 ?_
      rw [R1.2.1]
      exact ⟨fun _ => ⟨by omega, h1 (iff.mpr ⟨c1, fun j u v => hm j u (by omega), c2⟩) _ (R1.mv (by omega) (by omega)) (q1.tr R45.up)⟩, fun z => by omega⟩
    | succ r ih =>
      intro k hk k0 hm
      have sb := sg_f (hT.2.2 (sk X N i + k) (by omega) (by omega)).1
      have cr := chr_l (w := 2) (by decide) k0 (by rw [el]; omega)
      refine B_X5_takeWord_3_1002_45 ?_
      rw [R1.2.1, tx_2 hT R1 (by omega) (by omega), sb.2.2.2.2.2 _ cr.1 cr.2]
      refine ⟨fun z => by omega, fun _ => ⟨by omega, by omega, by omega, fun y => ⟨by omega, ih (k + 1) (by omega) (by omega) (fun j u v => ?_)⟩, fun y => no M1 R1 q1 (fun z => y (z.2.1 k k0 (by omega)))⟩⟩
      by_cases e : j = k
      · rw [e]; exact y
      · exact hm j u (by omega)
  by_cases z : N ≤ sk X N i
  · rw [if_pos z]
    exact ⟨fun _ => no M1 R1 q1 (fun w => by have := w.1; omega), fun y => absurd y (by decide)⟩
  · rw [if_neg z]
    refine ⟨fun y => absurd rfl y, fun _ => ⟨by omega, fun y => no M1 R1 q1 (fun w => by have := w.1; omega), fun y => ⟨fun y1 => J45 y (fun w => by have := w.1; omega) 3 0 (by omega) (Int.le_refl _) (fun j u v => by omega), fun y1 => ⟨by omega, ?_⟩⟩⟩⟩
    have sb := sg_f (hT.2.2 (sk X N i + 3) (by omega) y1).1
    rw [tx_2 hT R1 (by omega) y1]
    exact ⟨fun y2 => J45 y (fun w => by have := sb.2.2.2.1.mpr w.2; omega) 3 0 (by omega) (Int.le_refl _) (fun j u v => by omega), fun y2 => ⟨fun y3 => J45 y (fun w => by have := sb.2.2.2.1.mpr w.2; omega) 3 0 (by omega) (Int.le_refl _) (fun j u v => by omega), fun y3 => no M1 R1 q1 (fun w => w.2.2 ⟨y1, sb.2.2.2.1.mp ⟨y2, y3⟩⟩)⟩⟩
theorem S_X5_takeWord3 {post : Int → ax_M → Prop} (hT : TX X N M0) (hR : Rs N M0 M' i a) (h1 : wm X N i 3 = true → ∀ M2, Rs N M0 M2 (sk X N i + wl 3) a → R45 M' M2 → post 1 M2) (h0 : wm X N i 3 = false → ∀ M2, Rs N M0 M2 (sk X N i) a → R45 M' M2 → post 0 M2) : ax_Ti Y_X5_takeWord [aR 3, aR 1003] SH M' post := by
  have ir := hR.2.2.2.2
  have N4 := hT.2.1
  have s1 := sk_ge X N i
  have s2 := sk_le (X := X) ir.2
  have el : wl 3 = 4 := by unfold wl; decide
  have iff := wm_iff (X := X) (N := N) (i := i) (w := 3)
  rw [el] at iff h1
  have no : ∀ M1, Rs N M0 M1 (sk X N i) a → R45 M' M1 → ¬ (sk X N i + 4 ≤ N ∧ (∀ k : Int, 0 ≤ k → k < 4 → X (sk X N i + k) = ax_chr 3 k) ∧ ¬ (sk X N i + 4 < N ∧ Lt (X (sk X N i + 4)))) → post 0 M1 := by
    intro M1 R1 q1 z
    refine h0 ?_ M1 R1 q1
    cases q : wm X N i 3
    · rfl
    · exact absurd (iff.mp q) z
  refine E_X5_takeWord_3_1003 (fun _ => S_X5_atEnd hT hR (fun M1 R1 q1 _ => ?_))
  rw [R1.2.1, tx_1 hT R1]
  have J45 : sk X N i + 4 ≤ N → ¬ (sk X N i + 4 < N ∧ Lt (X (sk X N i + 4))) → ∀ (r : Nat) (k : Int), k + r = 4 → 0 ≤ k → (∀ j : Int, 0 ≤ j → j < k → X (sk X N i + j) = ax_chr 3 j) → ax_J Y_X5_takeWord (ax_Ki Y_X5_takeWord SH post) 0 0 45 [(0, aR 3), (1, aR 1003), (2, aI 4), (3, aI k)] [] SH M1 := by
    intro c1 c2 r
    induction r with
    | zero =>
      intro k hk k0 hm
      refine B_X5_takeWord_3_1003_45 ?_
      rw [R1.2.1]
      exact ⟨fun _ => ⟨by omega, h1 (iff.mpr ⟨c1, fun j u v => hm j u (by omega), c2⟩) _ (R1.mv (by omega) (by omega)) (q1.tr R45.up)⟩, fun z => by omega⟩
    | succ r ih =>
      intro k hk k0 hm
      have sb := sg_f (hT.2.2 (sk X N i + k) (by omega) (by omega)).1
      have cr := chr_l (w := 3) (by decide) k0 (by rw [el]; omega)
      refine B_X5_takeWord_3_1003_45 ?_
      rw [R1.2.1, tx_2 hT R1 (by omega) (by omega), sb.2.2.2.2.2 _ cr.1 cr.2]
      refine ⟨fun z => by omega, fun _ => ⟨by omega, by omega, by omega, fun y => ⟨by omega, ih (k + 1) (by omega) (by omega) (fun j u v => ?_)⟩, fun y => no M1 R1 q1 (fun z => y (z.2.1 k k0 (by omega)))⟩⟩
      by_cases e : j = k
      · rw [e]; exact y
      · exact hm j u (by omega)
  by_cases z : N ≤ sk X N i
  · rw [if_pos z]
    exact ⟨fun _ => no M1 R1 q1 (fun w => by have := w.1; omega), fun y => absurd y (by decide)⟩
  · rw [if_neg z]
    refine ⟨fun y => absurd rfl y, fun _ => ⟨by omega, fun y => no M1 R1 q1 (fun w => by have := w.1; omega), fun y => ⟨fun y1 => J45 y (fun w => by have := w.1; omega) 4 0 (by omega) (Int.le_refl _) (fun j u v => by omega), fun y1 => ⟨by omega, ?_⟩⟩⟩⟩
    have sb := sg_f (hT.2.2 (sk X N i + 4) (by omega) y1).1
    rw [tx_2 hT R1 (by omega) y1]
    exact ⟨fun y2 => J45 y (fun w => by have := sb.2.2.2.1.mpr w.2; omega) 4 0 (by omega) (Int.le_refl _) (fun j u v => by omega), fun y2 => ⟨fun y3 => J45 y (fun w => by have := sb.2.2.2.1.mpr w.2; omega) 4 0 (by omega) (Int.le_refl _) (fun j u v => by omega), fun y3 => no M1 R1 q1 (fun w => w.2.2 ⟨y1, sb.2.2.2.1.mp ⟨y2, y3⟩⟩)⟩⟩
theorem S_X5_takeWord4 {post : Int → ax_M → Prop} (hT : TX X N M0) (hR : Rs N M0 M' i a) (h1 : wm X N i 4 = true → ∀ M2, Rs N M0 M2 (sk X N i + wl 4) a → R45 M' M2 → post 1 M2) (h0 : wm X N i 4 = false → ∀ M2, Rs N M0 M2 (sk X N i) a → R45 M' M2 → post 0 M2) : ax_Ti Y_X5_takeWord [aR 3, aR 1004] SH M' post := by
  have ir := hR.2.2.2.2
  have N4 := hT.2.1
  have s1 := sk_ge X N i
  have s2 := sk_le (X := X) ir.2
  have el : wl 4 = 4 := by unfold wl; decide
  have iff := wm_iff (X := X) (N := N) (i := i) (w := 4)
  rw [el] at iff h1
  have no : ∀ M1, Rs N M0 M1 (sk X N i) a → R45 M' M1 → ¬ (sk X N i + 4 ≤ N ∧ (∀ k : Int, 0 ≤ k → k < 4 → X (sk X N i + k) = ax_chr 4 k) ∧ ¬ (sk X N i + 4 < N ∧ Lt (X (sk X N i + 4)))) → post 0 M1 := by
    intro M1 R1 q1 z
    refine h0 ?_ M1 R1 q1
    cases q : wm X N i 4
    · rfl
    · exact absurd (iff.mp q) z
  refine E_X5_takeWord_3_1004 (fun _ => S_X5_atEnd hT hR (fun M1 R1 q1 _ => ?_))
  rw [R1.2.1, tx_1 hT R1]
  have J45 : sk X N i + 4 ≤ N → ¬ (sk X N i + 4 < N ∧ Lt (X (sk X N i + 4))) → ∀ (r : Nat) (k : Int), k + r = 4 → 0 ≤ k → (∀ j : Int, 0 ≤ j → j < k → X (sk X N i + j) = ax_chr 4 j) → ax_J Y_X5_takeWord (ax_Ki Y_X5_takeWord SH post) 0 0 45 [(0, aR 3), (1, aR 1004), (2, aI 4), (3, aI k)] [] SH M1 := by
    intro c1 c2 r
    induction r with
    | zero =>
      intro k hk k0 hm
      refine B_X5_takeWord_3_1004_45 ?_
      rw [R1.2.1]
      exact ⟨fun _ => ⟨by omega, h1 (iff.mpr ⟨c1, fun j u v => hm j u (by omega), c2⟩) _ (R1.mv (by omega) (by omega)) (q1.tr R45.up)⟩, fun z => by omega⟩
    | succ r ih =>
      intro k hk k0 hm
      have sb := sg_f (hT.2.2 (sk X N i + k) (by omega) (by omega)).1
      have cr := chr_l (w := 4) (by decide) k0 (by rw [el]; omega)
      refine B_X5_takeWord_3_1004_45 ?_
      rw [R1.2.1, tx_2 hT R1 (by omega) (by omega), sb.2.2.2.2.2 _ cr.1 cr.2]
      refine ⟨fun z => by omega, fun _ => ⟨by omega, by omega, by omega, fun y => ⟨by omega, ih (k + 1) (by omega) (by omega) (fun j u v => ?_)⟩, fun y => no M1 R1 q1 (fun z => y (z.2.1 k k0 (by omega)))⟩⟩
      by_cases e : j = k
      · rw [e]; exact y
      · exact hm j u (by omega)
  by_cases z : N ≤ sk X N i
  · rw [if_pos z]
    exact ⟨fun _ => no M1 R1 q1 (fun w => by have := w.1; omega), fun y => absurd y (by decide)⟩
  · rw [if_neg z]
    refine ⟨fun y => absurd rfl y, fun _ => ⟨by omega, fun y => no M1 R1 q1 (fun w => by have := w.1; omega), fun y => ⟨fun y1 => J45 y (fun w => by have := w.1; omega) 4 0 (by omega) (Int.le_refl _) (fun j u v => by omega), fun y1 => ⟨by omega, ?_⟩⟩⟩⟩
    have sb := sg_f (hT.2.2 (sk X N i + 4) (by omega) y1).1
    rw [tx_2 hT R1 (by omega) y1]
    exact ⟨fun y2 => J45 y (fun w => by have := sb.2.2.2.1.mpr w.2; omega) 4 0 (by omega) (Int.le_refl _) (fun j u v => by omega), fun y2 => ⟨fun y3 => J45 y (fun w => by have := sb.2.2.2.1.mpr w.2; omega) 4 0 (by omega) (Int.le_refl _) (fun j u v => by omega), fun y3 => no M1 R1 q1 (fun w => w.2.2 ⟨y1, sb.2.2.2.1.mp ⟨y2, y3⟩⟩)⟩⟩
theorem S_X5_takeWord5 {post : Int → ax_M → Prop} (hT : TX X N M0) (hR : Rs N M0 M' i a) (h1 : wm X N i 5 = true → ∀ M2, Rs N M0 M2 (sk X N i + wl 5) a → R45 M' M2 → post 1 M2) (h0 : wm X N i 5 = false → ∀ M2, Rs N M0 M2 (sk X N i) a → R45 M' M2 → post 0 M2) : ax_Ti Y_X5_takeWord [aR 3, aR 1005] SH M' post := by
  have ir := hR.2.2.2.2
  have N4 := hT.2.1
  have s1 := sk_ge X N i
  have s2 := sk_le (X := X) ir.2
  have el : wl 5 = 5 := by unfold wl; decide
  have iff := wm_iff (X := X) (N := N) (i := i) (w := 5)
  rw [el] at iff h1
  have no : ∀ M1, Rs N M0 M1 (sk X N i) a → R45 M' M1 → ¬ (sk X N i + 5 ≤ N ∧ (∀ k : Int, 0 ≤ k → k < 5 → X (sk X N i + k) = ax_chr 5 k) ∧ ¬ (sk X N i + 5 < N ∧ Lt (X (sk X N i + 5)))) → post 0 M1 := by
    intro M1 R1 q1 z
    refine h0 ?_ M1 R1 q1
    cases q : wm X N i 5
    · rfl
    · exact absurd (iff.mp q) z
  refine E_X5_takeWord_3_1005 (fun _ => S_X5_atEnd hT hR (fun M1 R1 q1 _ => ?_))
  rw [R1.2.1, tx_1 hT R1]
  have J45 : sk X N i + 5 ≤ N → ¬ (sk X N i + 5 < N ∧ Lt (X (sk X N i + 5))) → ∀ (r : Nat) (k : Int), k + r = 5 → 0 ≤ k → (∀ j : Int, 0 ≤ j → j < k → X (sk X N i + j) = ax_chr 5 j) → ax_J Y_X5_takeWord (ax_Ki Y_X5_takeWord SH post) 0 0 45 [(0, aR 3), (1, aR 1005), (2, aI 5), (3, aI k)] [] SH M1 := by
    intro c1 c2 r
    induction r with
    | zero =>
      intro k hk k0 hm
      refine B_X5_takeWord_3_1005_45 ?_
      rw [R1.2.1]
      exact ⟨fun _ => ⟨by omega, h1 (iff.mpr ⟨c1, fun j u v => hm j u (by omega), c2⟩) _ (R1.mv (by omega) (by omega)) (q1.tr R45.up)⟩, fun z => by omega⟩
    | succ r ih =>
      intro k hk k0 hm
      have sb := sg_f (hT.2.2 (sk X N i + k) (by omega) (by omega)).1
      have cr := chr_l (w := 5) (by decide) k0 (by rw [el]; omega)
      refine B_X5_takeWord_3_1005_45 ?_
      rw [R1.2.1, tx_2 hT R1 (by omega) (by omega), sb.2.2.2.2.2 _ cr.1 cr.2]
      refine ⟨fun z => by omega, fun _ => ⟨by omega, by omega, by omega, fun y => ⟨by omega, ih (k + 1) (by omega) (by omega) (fun j u v => ?_)⟩, fun y => no M1 R1 q1 (fun z => y (z.2.1 k k0 (by omega)))⟩⟩
      by_cases e : j = k
      · rw [e]; exact y
      · exact hm j u (by omega)
  by_cases z : N ≤ sk X N i
  · rw [if_pos z]
    exact ⟨fun _ => no M1 R1 q1 (fun w => by have := w.1; omega), fun y => absurd y (by decide)⟩
  · rw [if_neg z]
    refine ⟨fun y => absurd rfl y, fun _ => ⟨by omega, fun y => no M1 R1 q1 (fun w => by have := w.1; omega), fun y => ⟨fun y1 => J45 y (fun w => by have := w.1; omega) 5 0 (by omega) (Int.le_refl _) (fun j u v => by omega), fun y1 => ⟨by omega, ?_⟩⟩⟩⟩
    have sb := sg_f (hT.2.2 (sk X N i + 5) (by omega) y1).1
    rw [tx_2 hT R1 (by omega) y1]
    exact ⟨fun y2 => J45 y (fun w => by have := sb.2.2.2.1.mpr w.2; omega) 5 0 (by omega) (Int.le_refl _) (fun j u v => by omega), fun y2 => ⟨fun y3 => J45 y (fun w => by have := sb.2.2.2.1.mpr w.2; omega) 5 0 (by omega) (Int.le_refl _) (fun j u v => by omega), fun y3 => no M1 R1 q1 (fun w => w.2.2 ⟨y1, sb.2.2.2.1.mp ⟨y2, y3⟩⟩)⟩⟩
theorem S_X5_takeWord6 {post : Int → ax_M → Prop} (hT : TX X N M0) (hR : Rs N M0 M' i a) (h1 : wm X N i 6 = true → ∀ M2, Rs N M0 M2 (sk X N i + wl 6) a → R45 M' M2 → post 1 M2) (h0 : wm X N i 6 = false → ∀ M2, Rs N M0 M2 (sk X N i) a → R45 M' M2 → post 0 M2) : ax_Ti Y_X5_takeWord [aR 3, aR 1006] SH M' post := by
  have ir := hR.2.2.2.2
  have N4 := hT.2.1
  have s1 := sk_ge X N i
  have s2 := sk_le (X := X) ir.2
  have el : wl 6 = 3 := by unfold wl; decide
  have iff := wm_iff (X := X) (N := N) (i := i) (w := 6)
  rw [el] at iff h1
  have no : ∀ M1, Rs N M0 M1 (sk X N i) a → R45 M' M1 → ¬ (sk X N i + 3 ≤ N ∧ (∀ k : Int, 0 ≤ k → k < 3 → X (sk X N i + k) = ax_chr 6 k) ∧ ¬ (sk X N i + 3 < N ∧ Lt (X (sk X N i + 3)))) → post 0 M1 := by
    intro M1 R1 q1 z
    refine h0 ?_ M1 R1 q1
    cases q : wm X N i 6
    · rfl
    · exact absurd (iff.mp q) z
  refine E_X5_takeWord_3_1006 (fun _ => S_X5_atEnd hT hR (fun M1 R1 q1 _ => ?_))
  rw [R1.2.1, tx_1 hT R1]
  have J45 : sk X N i + 3 ≤ N → ¬ (sk X N i + 3 < N ∧ Lt (X (sk X N i + 3))) → ∀ (r : Nat) (k : Int), k + r = 3 → 0 ≤ k → (∀ j : Int, 0 ≤ j → j < k → X (sk X N i + j) = ax_chr 6 j) → ax_J Y_X5_takeWord (ax_Ki Y_X5_takeWord SH post) 0 0 45 [(0, aR 3), (1, aR 1006), (2, aI 3), (3, aI k)] [] SH M1 := by
    intro c1 c2 r
    induction r with
    | zero =>
      intro k hk k0 hm
      refine B_X5_takeWord_3_1006_45 ?_
      rw [R1.2.1]
      exact ⟨fun _ => ⟨by omega, h1 (iff.mpr ⟨c1, fun j u v => hm j u (by omega), c2⟩) _ (R1.mv (by omega) (by omega)) (q1.tr R45.up)⟩, fun z => by omega⟩
    | succ r ih =>
      intro k hk k0 hm
      have sb := sg_f (hT.2.2 (sk X N i + k) (by omega) (by omega)).1
      have cr := chr_l (w := 6) (by decide) k0 (by rw [el]; omega)
      refine B_X5_takeWord_3_1006_45 ?_
      rw [R1.2.1, tx_2 hT R1 (by omega) (by omega), sb.2.2.2.2.2 _ cr.1 cr.2]
      refine ⟨fun z => by omega, fun _ => ⟨by omega, by omega, by omega, fun y => ⟨by omega, ih (k + 1) (by omega) (by omega) (fun j u v => ?_)⟩, fun y => no M1 R1 q1 (fun z => y (z.2.1 k k0 (by omega)))⟩⟩
      by_cases e : j = k
      · rw [e]; exact y
      · exact hm j u (by omega)
  by_cases z : N ≤ sk X N i
  · rw [if_pos z]
    exact ⟨fun _ => no M1 R1 q1 (fun w => by have := w.1; omega), fun y => absurd y (by decide)⟩
  · rw [if_neg z]
    refine ⟨fun y => absurd rfl y, fun _ => ⟨by omega, fun y => no M1 R1 q1 (fun w => by have := w.1; omega), fun y => ⟨fun y1 => J45 y (fun w => by have := w.1; omega) 3 0 (by omega) (Int.le_refl _) (fun j u v => by omega), fun y1 => ⟨by omega, ?_⟩⟩⟩⟩
    have sb := sg_f (hT.2.2 (sk X N i + 3) (by omega) y1).1
    rw [tx_2 hT R1 (by omega) y1]
    exact ⟨fun y2 => J45 y (fun w => by have := sb.2.2.2.1.mpr w.2; omega) 3 0 (by omega) (Int.le_refl _) (fun j u v => by omega), fun y2 => ⟨fun y3 => J45 y (fun w => by have := sb.2.2.2.1.mpr w.2; omega) 3 0 (by omega) (Int.le_refl _) (fun j u v => by omega), fun y3 => no M1 R1 q1 (fun w => w.2.2 ⟨y1, sb.2.2.2.1.mp ⟨y2, y3⟩⟩)⟩⟩
end READER
