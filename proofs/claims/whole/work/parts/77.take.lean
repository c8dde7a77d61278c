/-- what the reference's reading changes -/
def Q61 (M0 M' : ax_M) : Prop := (∀ a, a ≠ 61 → a ≠ 71 → M' a = M0 a) ∧ ∀ i, (i < 14 ∨ 23 < i) → M' 61 i = M0 61 i
theorem Q61.u {M0 M' : ax_M} {i v : Int} (h : Q61 M0 M') (hi : 14 ≤ i ∧ i ≤ 23) : Q61 M0 (ax_up M' 61 i v) := ⟨fun a h1 h2 => by rw [up_off _ _ _ h1]; exact h.1 a h1 h2, fun k hk => by rw [up_ne _ _ _ (by omega)]; exact h.2 k hk⟩
theorem Q61.t {M0 M' : ax_M} {i v : Int} (h : Q61 M0 M') : Q61 M0 (ax_up M' 71 i v) := ⟨fun a h1 h2 => by rw [up_off _ _ _ h2]; exact h.1 a h1 h2, fun k hk => by rw [up_off _ _ _ (by decide)]; exact h.2 k hk⟩
def TR (X : Int → Int) (N : Int) (M0 : ax_M) : Prop := M0 70 = X ∧ M0 61 13 = N ∧ (0 ≤ N ∧ N ≤ 400) ∧ ∀ k, 0 ≤ k → k < N → 0 ≤ X k ∧ X k ≤ 255
theorem up_up (M : ax_M) (k : Nat) (i v v' : Int) : ax_up (ax_up M k i v) k i v' = ax_up M k i v' := by
  funext a j
  unfold ax_up
  by_cases h : a = k ∧ j = i
  · rw [if_pos h, if_pos h]
  · rw [if_neg h, if_neg h, if_neg h]
theorem up_id {M : ax_M} {k : Nat} {i v : Int} (h : M k i = v) : ax_up M k i v = M := by rw [← h]; exact up_self M k i
/-- changes of one object's cells alone -/
def E61 (l : List Int) (M M' : ax_M) : Prop := (∀ a, a ≠ 61 → M' a = M a) ∧ ∀ i, i ∉ l → M' 61 i = M 61 i
theorem E61.q {l : List Int} {M0 M M' : ax_M} (h : Q61 M0 M) (e : E61 l M M') (hl : ∀ i ∈ l, 14 ≤ i ∧ i ≤ 23) : Q61 M0 M' := ⟨fun a h1 h2 => by rw [e.1 a h1]; exact h.1 a h1 h2, fun i hi => by rw [e.2 i (fun z => by have := hl i z; omega)]; exact h.2 i hi⟩
theorem E61.up {l : List Int} {M : ax_M} {i v : Int} (h : i ∈ l) : E61 l M (ax_up M 61 i v) := ⟨fun a ha => up_off _ _ _ ha, fun k hk => up_ne _ _ _ (fun z => hk (by rw [z]; exact h))⟩
theorem E61.tr {l : List Int} {M M1 M2 : ax_M} (h : E61 l M M1) (h2 : E61 l M1 M2) : E61 l M M2 := ⟨fun a ha => (h2.1 a ha).trans (h.1 a ha), fun i hi => (h2.2 i hi).trans (h.2 i hi)⟩
section TAKER
variable {X : Int → Int} {N : Int} {M0 M' : ax_M} {i : Int}
theorem tr_13 (hT : TR X N M0) (hQ : Q61 M0 M') : M' 61 13 = N ∧ M' 70 = X := ⟨by rw [hQ.2 13 (by omega)]; exact hT.2.1, by rw [hQ.1 70 (by decide) (by decide)]; exact hT.1⟩
theorem S_X11_here {post : Int → ax_M → Prop} (hT : TR X N M0) (hQ : Q61 M0 M') (hi : M' 61 15 = i) (h0 : 0 ≤ i ∧ i ≤ N) (h : post (if sk X N i < N then X (sk X N i) else -1) (ax_up M' 61 15 (sk X N i))) : ax_Ti Y_X11_here [aR 61] SH M' post := by
  have N4 := hT.2.2.1
  have step : ∀ (r : Nat) (j : Int), (N - j).toNat = r → 0 ≤ j ∧ j ≤ N → sk X N j = sk X N i → ax_J Y_X11_here (ax_Ki Y_X11_here SH post) 0 0 0 [(0, aR 61)] [] SH (ax_up M' 61 15 j) := by
    intro r
    induction r with
    | zero =>
      intro j hj jr e
      have tq := tr_13 hT (hQ.u (i := 15) (v := j) (by omega))
      have s := sk_2 (X := X) (N := N) (i := j) (by omega)
      refine B_X11_here_0 ?_
      rw [tq.1, up_at]
      refine ⟨fun _ => ?_, fun z => by omega⟩
      rw [← e, s, if_neg (by omega)] at h
      exact h
    | succ r ih =>
      intro j hj jr e
      have tq := tr_13 hT (hQ.u (i := 15) (v := j) (by omega))
      refine B_X11_here_0 ?_
      rw [tq.1, tq.2, up_at, up_up]
      refine ⟨fun z => by omega, fun _ => ⟨by omega, fun y => ?_, fun y => ⟨by omega, ih (j + 1) (by omega) (by omega) ?_⟩⟩⟩
      · have s := sk_2 (X := X) (N := N) (i := j) (fun z => y z.2)
        rw [← e, s, if_pos (by omega)] at h
        exact h
      · rw [← e]; exact (sk_1 ⟨by omega, y⟩).symm
  have tq := tr_13 hT hQ
  refine E_X11_here (fun _ => ?_)
  rw [tq.1, tq.2, hi]
  refine ⟨fun z => ?_, fun z => ⟨by omega, fun y => ?_, fun y => ⟨by omega, step _ (i + 1) rfl (by omega) (sk_1 ⟨z, y⟩).symm⟩⟩⟩
  · have s := sk_2 (X := X) (N := N) (i := i) (by omega)
    rw [s, if_neg (by omega), up_id hi] at h
    exact h
  · have s := sk_2 (X := X) (N := N) (i := i) (fun w => y w.2)
    rw [s, if_pos z, up_id hi] at h
    exact h
set_option maxHeartbeats 4000000 in
set_option maxRecDepth 100000 in
theorem S_X11_readWord {post : ax_M → Prop} (hT : TR X N M0) (hQ : Q61 M0 M') (hi : M' 61 15 = i) (h0 : 0 ≤ i ∧ i ≤ N) (h : ∀ M2, E61 [15, 16, 17] M' M2 → M2 61 15 = sk X N i → M2 61 16 = sdv X (sk X N i) (lt X N (sk X N i) - sk X N i).toNat → M2 61 17 = lt X N (sk X N i) → post M2) : ax_Tv Y_X11_readWord [aR 61] SH M' post := by
  have N4 := hT.2.2.1
  have s1 := sk_ge X N i
  have s2 := sk_le (X := X) h0.2
  have l := lt_rg (X := X) (N := N) _ (sk X N i) rfl
  have l2 := l.2.1 s2
  have L : ∀ (r c : Nat) (M1 : ax_M), sk X N i + c + r = lt X N (sk X N i) → E61 [15, 16, 17] M' M1 → M1 61 15 = sk X N i → M1 61 16 = sdv X (sk X N i) c → M1 61 17 = sk X N i + c → ax_J Y_X11_readWord (ax_Kv Y_X11_readWord SH post) 0 0 18 [(0, aR 61)] [] SH M1 := by
    intro r
    induction r with
    | zero =>
      intro c M1 hc e e15 e16 e17
      have tq := tr_13 hT (E61.q hQ e (by decide))
      have ee : sk X N i + c = lt X N (sk X N i) := by omega
      have fin : post M1 := h M1 e e15 (by rw [e16, show (lt X N (sk X N i) - sk X N i).toNat = c by omega]) (by rw [e17, ee])
      refine B_X11_readWord_18 ?_
      rw [tq.1, tq.2, e17, ee]
      exact ⟨fun _ => fin, fun z => ⟨by omega, fun _ => fin, fun y => ⟨fun _ => fin, fun y1 => absurd ⟨z, y, y1⟩ l.2.2.1⟩⟩⟩
    | succ r ih =>
      intro c M1 hc e e15 e16 e17
      have tq := tr_13 hT (E61.q hQ e (by decide))
      have lc : Lt (X (sk X N i + c)) := l.2.2.2 _ (by omega) (by omega)
      have sr := (sdv_rg (X := X) (j := sk X N i) c (fun k a b => l.2.2.2 k a (by omega))).1
      have nx : ∀ v, v = sdv X (sk X N i) (c + 1) → ax_J Y_X11_readWord (ax_Kv Y_X11_readWord SH post) 0 0 18 [(0, aR 61)] [] SH (ax_up (ax_up M1 61 16 v) 61 17 (sk X N i + c + 1)) := by
        intro v hv
        refine ih (c + 1) _ (by omega) (e.tr ((E61.up (by decide)).tr (E61.up (by decide)))) ?_ ?_ ?_
        · rw [up_ne _ _ _ (by decide), up_ne _ _ _ (by decide)]; exact e15
        · rw [up_ne _ _ _ (by decide), up_at]; exact hv
        · rw [up_at]; omega
      refine B_X11_readWord_18 ?_
      rw [tq.1, tq.2, e17, e16]
      refine ⟨fun z => by omega, fun _ => ⟨by omega, fun y => by omega, fun _ => ⟨fun y => by omega, fun _ => ⟨fun y => ⟨by omega, by omega, by omega, by omega, nx _ ?_⟩, fun y => ⟨by omega, nx _ ?_⟩⟩⟩⟩⟩
      · rw [sdv.eq_2, if_neg (by omega)]
      · rw [sdv.eq_2, if_pos (by omega)]
  refine E_X11_readWord (fun _ => S_X11_here hT hQ hi h0 ?_)
  refine L (lt X N (sk X N i) - sk X N i).toNat 0 _ (by omega) (((E61.up (by decide)).tr (E61.up (by decide))).tr (E61.up (by decide))) ?_ ?_ ?_
  · rw [up_ne _ _ _ (by decide), up_ne _ _ _ (by decide), up_at]
  · rw [up_ne _ _ _ (by decide), up_at, sdv.eq_1]
  · rw [up_at, up_at]; omega
set_option maxHeartbeats 4000000 in
set_option maxRecDepth 100000 in
theorem S_X11_takeNumber {post : Int → ax_M → Prop} {lo hi : Int} (hT : TR X N M0) (hQ : Q61 M0 M') (hi' : M' 61 15 = i) (h0 : 0 ≤ i ∧ i ≤ N) (hg : nF X N i lo hi = 0 → ∀ M2, E61 [14, 15, 18, 19] M' M2 → M2 61 14 = M' 61 14 → M2 61 15 = nE X N i → M2 61 18 = nV X N i → M2 61 19 = nP X N i → post 0 M2) (hb : ¬ nF X N i lo hi = 0 → ∀ M2, E61 [14, 15, 18, 19] M' M2 → M2 61 14 = nP X N i → post (nF X N i lo hi) M2) : ax_Ti Y_X11_takeNumber [aR 61, aI lo, aI hi] SH M' post := by
  have N4 := hT.2.2.1
  have rg := nE_rg (X := X) h0.2
  have dr := dg_rg (X := X) (N := N) _ (sk X N i) rfl
  have one : nE X N i = nP X N i → ∀ M2, E61 [14, 15, 18, 19] M' M2 → M2 61 14 = nP X N i → post 1 M2 := by
    intro e M2 e2 e3
    have f : nF X N i lo hi = 1 := by unfold nF; rw [if_pos e]
    have := hb (by rw [f]; decide) M2 e2 e3
    rw [f] at this; exact this
  have J129 : ∀ M1 : ax_M, nP X N i < nE X N i → E61 [14, 15, 18, 19] M' M1 → M1 61 14 = M' 61 14 → M1 61 15 = nE X N i → M1 61 19 = nP X N i → (nE X N i - nP X N i ≤ 3 → M1 61 18 = nV X N i) → ax_J Y_X11_takeNumber (ax_Ki Y_X11_takeNumber SH post) 0 0 129 [(0, aR 61), (1, aI lo), (2, aI hi)] [] SH M1 := by
    intro M1 hlt e e14 e15 e19 e18
    have two : nF X N i lo hi = 2 → ax_J Y_X11_takeNumber (ax_Ki Y_X11_takeNumber SH post) 0 0 157 [(0, aR 61)] [] SH M1 := by
      intro f
      refine B_X11_takeNumber_157 ?_
      have := hb (by rw [f]; decide) _ (e.tr (E61.up (i := 14) (v := M1 61 19) (by decide))) (by rw [up_at, e19])
      rw [f] at this; exact this
    refine B_X11_takeNumber_129 ?_
    rw [e15, e19]
    refine ⟨by omega, fun y => two (by unfold nF; rw [if_neg (by omega), if_pos (by omega)]), fun y => ?_⟩
    rw [e18 y]
    exact ⟨fun y1 => two (by unfold nF; rw [if_neg (by omega), if_pos (by omega)]), fun y1 => ⟨fun y2 => two (by unfold nF; rw [if_neg (by omega), if_pos (by omega)]), fun y2 => hg (by unfold nF; rw [if_neg (by omega), if_neg (by omega)]) M1 e e14 e15 (e18 y) e19⟩⟩
  have L : ∀ (r c : Nat) (M1 : ax_M), nP X N i + c + r = nE X N i → nP X N i < nE X N i → E61 [14, 15, 18, 19] M' M1 → M1 61 14 = M' 61 14 → M1 61 15 = nP X N i + c → M1 61 19 = nP X N i → (0 ≤ M1 61 18 ∧ M1 61 18 ≤ 100019) → (c ≤ 3 → M1 61 18 = nvv X (nP X N i) c) → ax_J Y_X11_takeNumber (ax_Ki Y_X11_takeNumber SH post) 0 0 42 [(0, aR 61), (1, aI lo), (2, aI hi)] [] SH M1 := by
    intro r
    induction r with
    | zero =>
      intro c M1 hc hlt e e14 e15 e19 rv e18
      have tq := tr_13 hT (E61.q hQ e (by decide))
      have ee : nP X N i + c = nE X N i := by omega
      rw [ee] at e15
      have K := J129 M1 hlt e e14 e15 e19 (fun q => by
        rw [e18 (by omega)]
        unfold nV
        rw [show (min 3 (nE X N i - nP X N i)).toNat = c by omega])
      refine B_X11_takeNumber_42 ?_
      rw [tq.1, tq.2, e15]
      have nd : ¬ (nE X N i < N ∧ Dg (X (nE X N i))) := dr.2.2.1
      exact ⟨fun _ => K, fun z => ⟨by omega, fun _ => K, fun y => ⟨fun _ => K, fun y1 => absurd ⟨z, y, y1⟩ nd⟩⟩⟩
    | succ r ih =>
      intro c M1 hc hlt e e14 e15 e19 rv e18
      have tq := tr_13 hT (E61.q hQ e (by decide))
      have dc : Dg (X (nP X N i + c)) := dr.2.2.2 _ (by unfold nP; omega) (by unfold nE at hc; omega)
      have vr := nvv_rg (X := X) (j := nP X N i) (min 3 c) (fun k u v => dr.2.2.2 k u (by unfold nE nP at *; omega))
      have nx : ∀ v, (0 ≤ v ∧ v ≤ 100019) → (c + 1 ≤ 3 → v = nvv X (nP X N i) (c + 1)) → ax_J Y_X11_takeNumber (ax_Ki Y_X11_takeNumber SH post) 0 0 113 [(0, aR 61), (1, aI lo), (2, aI hi)] [aI v, aR 61] SH M1 := by
        intro v hv hv2
        refine B_X11_takeNumber_113 ?_
        rw [e15]
        refine ⟨by omega, ih (c + 1) _ (by omega) hlt (e.tr ((E61.up (by decide)).tr (E61.up (by decide)))) ?_ ?_ ?_ ?_ ?_⟩
        · rw [up_ne _ _ _ (by decide), up_ne _ _ _ (by decide)]; exact e14
        · rw [up_at]; omega
        · rw [up_ne _ _ _ (by decide), up_ne _ _ _ (by decide)]; exact e19
        · rw [up_ne _ _ _ (by decide), up_at]; exact hv
        · rw [up_ne _ _ _ (by decide), up_at]; exact hv2
      refine B_X11_takeNumber_42 ?_
      rw [tq.1, tq.2, e15]
      refine ⟨fun z => by omega, fun _ => ⟨by omega, fun y => by omega, fun _ => ⟨fun y => by omega, fun _ => ⟨fun y => ⟨by omega, by omega, by omega, nx _ (by omega) (fun q => ?_)⟩, fun y => nx _ rv (fun q => ?_)⟩⟩⟩⟩
      · rw [nvv.eq_2, e18 (by omega)]; omega
      · have := e18 (by omega)
        rw [show min 3 c = c by omega] at vr
        omega
  have np1 : nP X N i = sk X N i := rfl
  refine E_X11_takeNumber (fun _ => S_X11_here hT hQ hi' h0 ?_)
  rw [up_at]
  by_cases z : sk X N i < N
  · rw [if_pos z]
    by_cases d : Dg (X (sk X N i))
    · refine ⟨fun y => by omega, fun _ => ⟨fun y => by omega, fun _ => ?_⟩⟩
      have gt : nP X N i < nE X N i := by
        have a := dg_1 (X := X) ⟨z, d⟩
        have b := (dg_rg (X := X) (N := N) _ (sk X N i + 1) rfl).1
        unfold nP nE
        omega
      refine L (nE X N i - nP X N i).toNat 0 _ (by omega) gt (((E61.up (by decide)).tr (E61.up (by decide))).tr (E61.up (by decide))) ?_ ?_ ?_ ?_ ?_
      · rw [up_ne _ _ _ (by decide), up_ne _ _ _ (by decide), up_ne _ _ _ (by decide)]
      · rw [up_ne _ _ _ (by decide), up_ne _ _ _ (by decide), up_at]; omega
      · rw [up_ne _ _ _ (by decide), up_at]; rfl
      · rw [up_at]; omega
      · rw [up_at, nvv.eq_1]; exact fun _ => rfl
    · have eq : nE X N i = nP X N i := by unfold nE nP; exact dg_2 (fun w => d w.2)
      have K := one eq (ax_up (ax_up M' 61 15 (sk X N i)) 61 14 (sk X N i)) ((E61.up (by decide)).tr (E61.up (by decide))) (up_at _ _ _ _)
      exact ⟨fun _ => K, fun y => ⟨fun _ => K, fun y1 => absurd ⟨y, y1⟩ d⟩⟩
  · rw [if_neg z]
    have eq : nE X N i = nP X N i := by unfold nE nP; exact dg_2 (fun w => z w.1)
    have K := one eq (ax_up (ax_up M' 61 15 (sk X N i)) 61 14 (sk X N i)) ((E61.up (by decide)).tr (E61.up (by decide))) (up_at _ _ _ _)
    exact ⟨fun _ => K, fun y => absurd y (by decide)⟩
theorem S_X11_takeStop {post : Int → ax_M → Prop} (hT : TR X N M0) (hQ : Q61 M0 M') (hi : M' 61 15 = i) (h0 : 0 ≤ i ∧ i ≤ N) (hg : sF X N i = 0 → ∀ M2, E61 [14, 15] M' M2 → M2 61 14 = M' 61 14 → M2 61 15 = sE X N i → post 0 M2) (hb : sF X N i = 1 → ∀ M2, E61 [14, 15] M' M2 → M2 61 14 = sk X N i → post 1 M2) : ax_Ti Y_X11_takeStop [aR 61] SH M' post := by
  have N4 := hT.2.2.1
  have s1 := sk_ge X N i
  have s2 := sk_le (X := X) h0.2
  refine E_X11_takeStop (fun _ => S_X11_here hT hQ hi h0 ?_)
  rw [up_at]
  by_cases z : isS' X N i
  · have f : sF X N i = 0 := by unfold sF; rw [if_pos z]
    have e : sE X N i = sk X N i + 1 := by unfold sE; rw [if_pos z]
    rw [if_pos z.1]
    refine ⟨fun y => ⟨by have := z.1; omega, ?_⟩, fun y => absurd z.2 y⟩
    rw [up_up]
    exact hg f _ (E61.up (by decide)) (up_ne _ _ _ (by decide)) (by rw [up_at, e])
  · have f : sF X N i = 1 := by unfold sF; rw [if_neg z]
    have K := hb f (ax_up (ax_up M' 61 15 (sk X N i)) 61 14 (sk X N i)) ((E61.up (by decide)).tr (E61.up (by decide))) (up_at _ _ _ _)
    refine ⟨fun y => ?_, fun _ => K⟩
    by_cases w : sk X N i < N
    · rw [if_pos w] at y; exact absurd ⟨w, y⟩ z
    · rw [if_neg w] at y; exact absurd y (by decide)
end TAKER
/-- the reference between two clauses -/
def RSt (N : Int) (M0 M' : ax_M) (P : Int) (c : CR) : Prop := Q61 M0 M' ∧ M' 61 14 = -1 ∧ M' 61 15 = c.2.1 ∧ M' 61 20 = P ∧ M' 61 21 = c.2.2.1 ∧ (¬ c.2.2.1 = -1 → M' 61 22 = c.2.2.2.1) ∧ M' 61 23 = c.2.2.2.2.1 ∧ ∀ x, 0 ≤ x → x < 7 * c.2.2.2.2.1 → M' 71 x = c.2.2.2.2.2 x
/-- how a clause ends -/
def Oc (N : Int) (M0 M2 : ax_M) (P : Int) (c : CR) (f : Int) : Prop := f = c.1.1 ∧ (¬ c.1.1 = 0 → Q61 M0 M2 ∧ M2 61 14 = c.1.2) ∧ (c.1.1 = 0 → RSt N M0 M2 P c)
