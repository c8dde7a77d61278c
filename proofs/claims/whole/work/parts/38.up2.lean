/-- whether one at p comes up from minute 0 on -/
noncomputable def upv (M : ax_M) (ma me p e s : Int) : Int := if 0 ≤ so M ma me e s p 0 (M 61 1) then 1 else 0
theorem upv_01 (M : ax_M) (ma me p e s : Int) : upv M ma me p e s = 0 ∨ upv M ma me p e s = 1 := by unfold upv; split <;> simp
theorem upv_ofs {l : List Nat} {M M' : ax_M} (h : Ofs l M M') (hl : [61, 62, 63, 64, 65, 67, 69].all (fun a => !l.contains a) = true) (h61 : M' 61 = M 61) : upv M' = upv M := by
  funext ma me p e s
  unfold upv
  rw [so_ofs h hl, h61]
noncomputable def uS (M : ax_M) (ma me sk p c : Int) : Nat → Int × Int
  | 0 => (0, 0)
  | k + 1 => if (k : Int) = sk ∨ ¬ M 75 k = p then uS M ma me sk p c k else (min (cN M p) ((uS M ma me sk p c k).1 + 1 + c), (uS M ma me sk p c k).2 + (min (cN M p) ((uS M ma me sk p c k).1 + 1 + c) - (uS M ma me sk p c k).1) * upv M ma me p (M 76 k) (if min (cN M p) ((uS M ma me sk p c k).1 + 1 + c) - 1 < cA M p then 0 else 1))
theorem mul_01 {a x : Int} (h : x = 0 ∨ x = 1) : (x = 0 → a * x = 0) ∧ (x = 1 → a * x = a) := ⟨fun e => by rw [e, Int.mul_zero], fun e => by rw [e, Int.mul_one]⟩
theorem uS_rg {M : ax_M} {ma me sk p c : Int} (h0 : 0 ≤ cN M p) (hc : 0 ≤ c) : ∀ k, 0 ≤ (uS M ma me sk p c k).2 ∧ (uS M ma me sk p c k).2 ≤ (uS M ma me sk p c k).1 ∧ (uS M ma me sk p c k).1 ≤ cN M p
  | 0 => ⟨Int.le_refl 0, Int.le_refl 0, h0⟩
  | k + 1 => by
    have q := uS_rg (ma := ma) (me := me) (sk := sk) h0 hc k
    unfold uS
    split
    · exact q
    · generalize hx : upv M ma me p (M 76 k) (if min (cN M p) ((uS M ma me sk p c k).1 + 1 + c) - 1 < cA M p then 0 else 1) = x
      have h01 : x = 0 ∨ x = 1 := by rw [← hx]; exact upv_01 _ _ _ _ _ _
      have hm := mul_01 (a := min (cN M p) ((uS M ma me sk p c k).1 + 1 + c) - (uS M ma me sk p c k).1) h01
      refine ⟨?_, ?_, ?_⟩ <;> simp only [] <;> rcases h01 with h01 | h01 <;> first | (rw [hm.1 h01]; omega) | (rw [hm.2 h01]; omega) | omega
theorem uS_no {M : ax_M} {ma me sk p c : Int} {k : Nat} (h : (k : Int) = sk ∨ ¬ M 75 k = p) : uS M ma me sk p c (k + 1) = uS M ma me sk p c k := by
  show (if _ then _ else _) = _
  rw [if_pos h]
theorem uS_go {M : ax_M} {ma me sk p c A B t x : Int} {k : Nat} (h : ¬ ((k : Int) = sk ∨ ¬ M 75 k = p)) (hA : (uS M ma me sk p c k).1 = A) (hB : (uS M ma me sk p c k).2 = B) (ht : t = min (cN M p) (A + 1 + c)) (hx : upv M ma me p (M 76 k) (if t - 1 < cA M p then 0 else 1) = x) : (uS M ma me sk p c (k + 1)).1 = t ∧ (uS M ma me sk p c (k + 1)).2 = B + (t - A) * x := by
  subst ht hx hA hB
  rw [uS.eq_2, if_neg h]
  exact ⟨rfl, rfl⟩
noncomputable def uT (M : ax_M) (ma me p a : Int) : Nat → Int
  | 0 => 0
  | m + 1 => uT M ma me p a m + upv M ma me p (-1) (if a + m < cA M p then 0 else 1)
theorem uT_rg {M : ax_M} {ma me p a : Int} : ∀ m : Nat, 0 ≤ uT M ma me p a m ∧ uT M ma me p a m ≤ m
  | 0 => ⟨Int.le_refl 0, Int.le_refl 0⟩
  | m + 1 => by
    have q := uT_rg (M := M) (ma := ma) (me := me) (p := p) (a := a) m
    have h01 := upv_01 M ma me p (-1) (if a + m < cA M p then 0 else 1)
    unfold uT
    omega
noncomputable def uf (M : ax_M) (ma me sk p c : Int) : Int := (uS M ma me sk p c (M 61 29).toNat).2 + uT M ma me p (uS M ma me sk p c (M 61 29).toNat).1 (cN M p - (uS M ma me sk p c (M 61 29).toNat).1).toNat
set_option maxHeartbeats 4000000 in
set_option maxRecDepth 100000 in
theorem S_X1_comesUp {post : Int → ax_M → Prop} {M : ax_M} {p e s : Int} (hw : WX M) (he : -1 ≤ e ∧ e ≤ 99) (hp : 0 ≤ p ∧ p < M 61 0) (hma : -1 ≤ M 49 6) (hme : -1 ≤ M 49 7 ∧ M 49 7 ≤ 99) (h : ∀ M', Ofs [34, 35, 36, 37, 39] M M' → post (upv M (M 49 6) (M 49 7) p e s) M') : ax_Ti Y_X1_comesUp [aR 49, aI p, aI e, aI s] SH M post := by
  have hnp := hw.1.2.2
  refine E_X1_comesUp (fun _ => S_X9_prepareMarked hw he hme (fun M1 o1 hP => ?_))
  have e61 : M1 61 = M 61 := o1 61 (by decide)
  have e6 : M1 6 2 = M 61 1 := by rw [o1 6 (by decide)]; exact hw.2.2.2.1
  have hw1 := wx_of o1 (by decide) hw
  refine S_X9_gather hw1 hP hma he hme (by omega) (by rw [e6, e61]; omega) (fun M2 o2 hv => ⟨by omega, ?_, ?_⟩)
  all_goals
    intro c
    rw [hv p (by rw [e61]; omega), e6, la_ofs o1 (by decide)] at c
    have i1 := la_iff hw.1 (ma := M 49 6) (me := M 49 7) (e := e) (s := s) (p := p) (q := M 61 1) (b := 99) (t := 0) (by omega) (by omega)
    have i2 := la_ge hw.1 (ma := M 49 6) (me := M 49 7) (e := e) (s := s) (p := p) (q := M 61 1) (b := 99) (by omega) (by omega)
    have i3 := so_99 hw.1 (ma := M 49 6) (me := M 49 7) (e := e) (s := s) (p := p) (t := 0) (q := M 61 1) (by omega) (by omega)
    have k := h M2 ((o1.mono (by decide)).tr (o2.s (by decide)))
    unfold upv at k
  · rw [if_neg (by omega)] at k; exact k
  · rw [if_pos (by omega)] at k; exact k
set_option maxHeartbeats 4000000 in
set_option maxRecDepth 100000 in
theorem S_X1_upFrom {post : Int → ax_M → Prop} {M : ax_M} {p c : Int} (hw : WX M) (hc : CrewEq M) (hp : 0 ≤ p ∧ p < M 61 0) (hcc : 0 ≤ c ∧ c ≤ 7) (hma : -1 ≤ M 49 6) (hme : -1 ≤ M 49 7 ∧ M 49 7 ≤ 99) (h : ∀ M', Ofs [34, 35, 36, 37, 39, 49, 50] M M' → (∀ i, i ≠ 4 → M' 49 i = M 49 i) → post (uf M (M 49 6) (M 49 7) (M 49 5) p c) M') : ax_Ti Y_X1_upFrom [aR 49, aI p, aI c] SH M post := by
  have hb := hc.1
  have c8 := cN_8 hb.2.1 hb.2.2.1 p
  refine E_X1_upFrom (fun _ => S_X1_line2 hc (fun M1 o1 i1 n1 l1 => ?_))
  have e61 : M1 61 = M 61 := o1 61 (by decide)
  have hw1 : WX M1 := wx_of o1 (by decide) hw
  have q5 := i1 5 (by decide)
  have q6 := i1 6 (by decide)
  have q7 := i1 7 (by decide)
  have T : ∀ (r m : Nat) (M' : ax_M), (cN M p - (uS M (M 49 6) (M 49 7) (M 49 5) p c (M 61 29).toNat).1).toNat = m + r → Ofs [34, 35, 36, 37, 39] M1 M' → ax_J Y_X1_upFrom (ax_Ki Y_X1_upFrom SH post) 0 0 141 [(0, aR 49), (1, aI p), (4, aI ((uS M (M 49 6) (M 49 7) (M 49 5) p c (M 61 29).toNat).2 + uT M (M 49 6) (M 49 7) p (uS M (M 49 6) (M 49 7) (M 49 5) p c (M 61 29).toNat).1 m)), (5, aI ((uS M (M 49 6) (M 49 7) (M 49 5) p c (M 61 29).toNat).1 + m))] [] SH M' := by
    have u := uS_rg (ma := M 49 6) (me := M 49 7) (sk := M 49 5) (c := c) (Int.le_trans c8.1 c8.2.1) hcc.1 (M 61 29).toNat
    have hfin := h
    unfold uf at hfin
    revert hfin u
    generalize (uS M (M 49 6) (M 49 7) (M 49 5) p c (M 61 29).toNat).1 = A
    generalize (uS M (M 49 6) (M 49 7) (M 49 5) p c (M 61 29).toNat).2 = B
    intro u hfin r
    induction r with
    | zero =>
      intro m M' hm o2
      have f49 : M' 49 = M1 49 := o2 49 (by decide)
      refine B_X1_upFrom_141 ⟨fun _ => ?_, fun z => ?_⟩
      · have k := hfin M' (Ofs.tr (o1.mono (by decide)) (o2.mono (by decide))) (fun i hi => by rw [f49]; exact i1 i hi)
        rw [show (cN M p - A).toNat = m by omega] at k
        exact k
      · rw [f49] at z; omega
    | succ r ih =>
      intro m M' hm o2
      have f49 : M' 49 = M1 49 := o2 49 (by decide)
      have f50 : M' 50 = M1 50 := o2 50 (by decide)
      have f11 : M' 11 = M 11 := (o2 11 (by decide)).trans (o1 11 (by decide))
      have f61 : M' 61 = M 61 := (o2 61 (by decide)).trans e61
      have t := uT_rg (M := M) (ma := M 49 6) (me := M 49 7) (p := p) (a := A) m
      have ln := l1 (A + m) (by omega) (by omega)
      have k74 := (hc.2.1 (M1 50 (A + m)) ln.1 ln.2.1).2.2.2.2.1
      have k := ih (m + 1)
      unfold uT at k
      have hv := upv_ofs (Ofs.tr (o1.mono (l' := [34, 35, 36, 37, 39, 49, 50]) (by decide)) (o2.mono (by decide))) (by decide) f61
      refine B_X1_upFrom_141 ?_
      rw [f49, f50, f11, k74, ln.2.2]
      refine ⟨fun z => by omega, fun z => ⟨by omega, by omega, S_X1_comesUp (wx_of o2 (by decide) hw1) (by omega) (by rw [f61]; exact hp) (by rw [f49, q6]; exact hma) (by rw [f49, q7]; exact hme) (fun M2 o3 => ?_)⟩⟩
      rw [hv, f49, q6, q7]
      have k2 := k M2 (by omega) (Ofs.tr o2 o3)
      have a1 : A + ((m + 1 : Nat) : Int) = A + m + 1 := by omega
      rw [a1] at k2
      refine ⟨fun y => ⟨by omega, by omega, ?_⟩, fun y => ⟨by omega, by omega, ?_⟩⟩
      · rw [y, ← Int.add_assoc] at k2; exact k2
      · have y1 := (upv_01 M (M 49 6) (M 49 7) p (-1) (if A + m < cA M p then 0 else 1)).resolve_left y
        rw [y1, ← Int.add_assoc] at k2; exact k2
  have L : ∀ (r k : Nat) (M' : ax_M), (M 61 29).toNat = k + r → Ofs [34, 35, 36, 37, 39] M1 M' → ax_J Y_X1_upFrom (ax_Ki Y_X1_upFrom SH post) 0 0 25 [(0, aR 49), (1, aI p), (2, aI c), (3, aI (uS M (M 49 6) (M 49 7) (M 49 5) p c k).1), (4, aI (uS M (M 49 6) (M 49 7) (M 49 5) p c k).2), (5, aI k)] [] SH M' := by
    intro r
    induction r with
    | zero =>
      intro k M' hk o2
      have f8 : M' 8 = M 8 := (o2 8 (by decide)).trans (o1 8 (by decide))
      refine B_X1_upFrom_25 ⟨fun _ => ?_, fun z => ?_⟩
      · have t := T (cN M p - (uS M (M 49 6) (M 49 7) (M 49 5) p c (M 61 29).toNat).1).toNat 0 M' (Nat.zero_add _).symm o2
        have e0 : uT M (M 49 6) (M 49 7) p (uS M (M 49 6) (M 49 7) (M 49 5) p c (M 61 29).toNat).1 0 = 0 := rfl
        have e1 : ((0 : Nat) : Int) = 0 := rfl
        rw [e0, e1, Int.add_zero, Int.add_zero, show (M 61 29).toNat = k by omega] at t
        exact t
      · rw [f8] at z; omega
    | succ r ih =>
      intro k M' hk o2
      have f8 : M' 8 = M 8 := (o2 8 (by decide)).trans (o1 8 (by decide))
      have f49 : M' 49 = M1 49 := o2 49 (by decide)
      have f50 : M' 50 = M1 50 := o2 50 (by decide)
      have f11 : M' 11 = M 11 := (o2 11 (by decide)).trans (o1 11 (by decide))
      have f12 : M' 12 = M 12 := (o2 12 (by decide)).trans (o1 12 (by decide))
      have f13 : M' 13 = M 13 := (o2 13 (by decide)).trans (o1 13 (by decide))
      have f61 : M' 61 = M 61 := (o2 61 (by decide)).trans e61
      have g := hc.2.2.1 k (by omega) (by omega)
      have u := uS_rg (ma := M 49 6) (me := M 49 7) (sk := M 49 5) (c := c) (Int.le_trans c8.1 c8.2.1) hcc.1 k
      have K := ih (k + 1)
      have hv := upv_ofs (Ofs.tr (o1.mono (l' := [34, 35, 36, 37, 39, 49, 50]) (by decide)) (o2.mono (by decide))) (by decide) f61
      have no : ((k : Int) = M 49 5 ∨ ¬ M 75 k = p) → ax_J Y_X1_upFrom (ax_Ki Y_X1_upFrom SH post) 0 0 25 [(0, aR 49), (1, aI p), (2, aI c), (3, aI (uS M (M 49 6) (M 49 7) (M 49 5) p c k).1), (4, aI (uS M (M 49 6) (M 49 7) (M 49 5) p c k).2), (5, aI ((k : Int) + 1))] [] SH M' := by
        intro hn
        have k1 := K M' (by omega) o2
        rw [uS_no hn] at k1
        exact k1
      revert K u no
      generalize hA : (uS M (M 49 6) (M 49 7) (M 49 5) p c k).1 = A
      generalize hB : (uS M (M 49 6) (M 49 7) (M 49 5) p c k).2 = B
      intro u K no
      refine B_X1_upFrom_25 ?_
      rw [f8, f49, f50, f11, f12, f13, q5, n1]
      refine ⟨fun z => by omega, fun z => ⟨fun z1 => ⟨by omega, no (Or.inl z1)⟩, fun z1 => ⟨by omega, fun z2 => ⟨by omega, no (Or.inr (by omega))⟩, fun z2 => ⟨fun z3 => ?_, fun z3 => ?_⟩⟩⟩⟩
      · generalize ht : min (cN M p) (A + 1 + c) = t
        have ln := l1 (t - 1) (by omega) (by omega)
        have k74 := (hc.2.1 (M1 50 (t - 1)) ln.1 ln.2.1).2.2.2.2.1
        rw [k74, ln.2.2]
        refine ⟨by omega, by omega, by omega, by omega, by omega, S_X1_comesUp (wx_of o2 (by decide) hw1) (by omega) (by rw [f61]; exact hp) (by rw [f49, q6]; exact hma) (by rw [f49, q7]; exact hme) (fun M2 o3 => ?_)⟩
        rw [hv, f49, q6, q7]
        have hgo := uS_go (ma := M 49 6) (me := M 49 7) (sk := M 49 5) (c := c) (k := k) (M := M) (p := p) (by omega) hA hB ht.symm rfl
        have k1 := K M2 (by omega) (Ofs.tr o2 o3)
        rw [hgo.1, hgo.2, ← g.2.2.2.1] at k1
        refine ⟨fun y => ⟨by omega, ?_⟩, fun y => ⟨by omega, by omega, by omega, ?_⟩⟩
        · rw [y, Int.mul_zero, Int.add_zero] at k1; exact k1
        · have y1 := (upv_01 M (M 49 6) (M 49 7) p (M 13 k) (if t - 1 < cA M p then 0 else 1)).resolve_left y
          rw [y1, Int.mul_one] at k1; exact k1
      · have hgo := uS_go (ma := M 49 6) (me := M 49 7) (sk := M 49 5) (c := c) (k := k) (M := M) (p := p) (t := A) (by omega) hA hB (by omega) rfl
        have k1 := K M' (by omega) o2
        rw [hgo.1, hgo.2, Int.sub_self, Int.zero_mul, Int.add_zero] at k1
        exact ⟨by omega, k1⟩
  exact L _ 0 M1 (Nat.zero_add _).symm Ofs.rf
set_option maxHeartbeats 4000000 in
set_option maxRecDepth 100000 in
theorem S_X11_upFrom {post : Int → ax_M → Prop} {M : ax_M} {p c sk : Int} (hp0 : PitOk M) (hb : 0 ≤ M 61 25 ∧ M 61 25 ≤ 8 ∧ 0 ≤ M 61 29 ∧ M 61 29 ≤ 4) (hp : 0 ≤ p ∧ p < M 61 0) (hcc : 0 ≤ c ∧ c ≤ 7) (h : ∀ M', Ofs [77, 86] M M' → post (uf M (M 61 32) (M 61 33) sk p c) M') : ax_Ti Y_X11_upFrom [aR 61, aI p, aI c, aI sk] SH M post := by
  have c8 := cN_8 hb.1 hb.2.1 p
  have hsh : 0 ≤ M 61 1 ∧ M 61 1 < M 61 0 := by have := hp0.2.2; omega
  refine E_X11_upFrom (fun _ => S_X11_lineUp hb.1 hb.2.1 (fun M1 o1 l1 => ?_))
  have C : ∀ (M' : ax_M) (e s : Int) (ps : Int → ax_M → Prop), Of 77 M1 M' → (∀ M2, Of 77 M1 M2 → ∀ z, (z < 0 → upv M (M 61 32) (M 61 33) p e s = 0) → (0 ≤ z → upv M (M 61 32) (M 61 33) p e s = 1) → ps z M2) → ax_Ti Y_X11_comes [aR 61, aI p, aI (M 61 1), aI 0, aI e, aI s] SH M' ps := by
    intro M' e s ps o2 hh
    have oo : Ofs [77, 86] M M' := Ofs.tr (o1.s (by decide)) (o2.s (by decide))
    have f61 : M' 61 = M 61 := oo 61 (by decide)
    refine S_X11_comes (pit_of o2 (by decide) (pit_of o1 (by decide) hp0)) (by omega) (by rw [f61]; exact hp) (by rw [f61]; exact hsh) (fun M2 o3 => ?_)
    rw [so_ofs oo (by decide), f61]
    refine hh M2 (o2.tr o3) _ (fun z => ?_) (fun z => ?_)
    · unfold upv; rw [if_neg (by omega)]
    · unfold upv; rw [if_pos z]
  have T : ∀ (r m : Nat) (M' : ax_M), (cN M p - (uS M (M 61 32) (M 61 33) sk p c (M 61 29).toNat).1).toNat = m + r → Of 77 M1 M' → ax_J Y_X11_upFrom (ax_Ki Y_X11_upFrom SH post) 0 0 170 [(0, aR 61), (1, aI p), (4, aI (cN M p)), (6, aI ((uS M (M 61 32) (M 61 33) sk p c (M 61 29).toNat).2 + uT M (M 61 32) (M 61 33) p (uS M (M 61 32) (M 61 33) sk p c (M 61 29).toNat).1 m)), (7, aI ((uS M (M 61 32) (M 61 33) sk p c (M 61 29).toNat).1 + m))] [] SH M' := by
    have u := uS_rg (ma := M 61 32) (me := M 61 33) (sk := sk) (c := c) (Int.le_trans c8.1 c8.2.1) hcc.1 (M 61 29).toNat
    have hfin := h
    unfold uf at hfin
    revert hfin u
    generalize (uS M (M 61 32) (M 61 33) sk p c (M 61 29).toNat).1 = A
    generalize (uS M (M 61 32) (M 61 33) sk p c (M 61 29).toNat).2 = B
    intro u hfin r
    induction r with
    | zero =>
      intro m M' hm o2
      refine B_X11_upFrom_170 ⟨fun _ => ?_, fun z => by omega⟩
      have k := hfin M' (Ofs.tr (o1.s (by decide)) (o2.s (by decide)))
      rw [show (cN M p - A).toNat = m by omega] at k
      exact k
    | succ r ih =>
      intro m M' hm o2
      have f86 : M' 86 = M1 86 := o2 86 (by decide)
      have f74 : M' 74 = M 74 := (o2 74 (by decide)).trans (o1 74 (by decide))
      have f61 : M' 61 = M 61 := (o2 61 (by decide)).trans (o1 61 (by decide))
      have t := uT_rg (M := M) (ma := M 61 32) (me := M 61 33) (p := p) (a := A) m
      have ln := l1 (A + m) (by omega) (by omega)
      have k := ih (m + 1)
      unfold uT at k
      refine B_X11_upFrom_170 ?_
      rw [f86, f74, f61, ln.2.2]
      refine ⟨fun z => by omega, fun z => ⟨by omega, by omega, C M' _ _ _ o2 (fun M2 o3 w w0 w1 => ?_)⟩⟩
      have k2 := k M2 (by omega) o3
      have a1 : A + ((m + 1 : Nat) : Int) = A + m + 1 := by omega
      rw [a1] at k2
      refine ⟨fun y => ⟨by omega, by omega, ?_⟩, fun y => ⟨by omega, by omega, ?_⟩⟩
      · rw [w0 y, ← Int.add_assoc] at k2; exact k2
      · rw [w1 y, ← Int.add_assoc] at k2; exact k2
  have L : ∀ (r k : Nat) (M' : ax_M), (M 61 29).toNat = k + r → Of 77 M1 M' → ax_J Y_X11_upFrom (ax_Ki Y_X11_upFrom SH post) 0 0 16 [(0, aR 61), (1, aI p), (2, aI c), (3, aI sk), (4, aI (cN M p)), (5, aI (uS M (M 61 32) (M 61 33) sk p c k).1), (6, aI (uS M (M 61 32) (M 61 33) sk p c k).2), (7, aI k)] [] SH M' := by
    intro r
    induction r with
    | zero =>
      intro k M' hk o2
      have f61 : M' 61 = M 61 := (o2 61 (by decide)).trans (o1 61 (by decide))
      refine B_X11_upFrom_16 ⟨fun _ => ?_, fun z => ?_⟩
      · have t := T (cN M p - (uS M (M 61 32) (M 61 33) sk p c (M 61 29).toNat).1).toNat 0 M' (Nat.zero_add _).symm o2
        have e0 : uT M (M 61 32) (M 61 33) p (uS M (M 61 32) (M 61 33) sk p c (M 61 29).toNat).1 0 = 0 := rfl
        have e1 : ((0 : Nat) : Int) = 0 := rfl
        rw [e0, e1, Int.add_zero, Int.add_zero, show (M 61 29).toNat = k by omega] at t
        exact t
      · rw [f61] at z; omega
    | succ r ih =>
      intro k M' hk o2
      have f61 : M' 61 = M 61 := (o2 61 (by decide)).trans (o1 61 (by decide))
      have f75 : M' 75 = M 75 := (o2 75 (by decide)).trans (o1 75 (by decide))
      have f76 : M' 76 = M 76 := (o2 76 (by decide)).trans (o1 76 (by decide))
      have f86 : M' 86 = M1 86 := o2 86 (by decide)
      have f74 : M' 74 = M 74 := (o2 74 (by decide)).trans (o1 74 (by decide))
      have u := uS_rg (ma := M 61 32) (me := M 61 33) (sk := sk) (c := c) (Int.le_trans c8.1 c8.2.1) hcc.1 k
      have K := ih (k + 1)
      have no : ((k : Int) = sk ∨ ¬ M 75 k = p) → ax_J Y_X11_upFrom (ax_Ki Y_X11_upFrom SH post) 0 0 16 [(0, aR 61), (1, aI p), (2, aI c), (3, aI sk), (4, aI (cN M p)), (5, aI (uS M (M 61 32) (M 61 33) sk p c k).1), (6, aI (uS M (M 61 32) (M 61 33) sk p c k).2), (7, aI ((k : Int) + 1))] [] SH M' := by
        intro hn
        have k1 := K M' (by omega) o2
        rw [uS_no hn] at k1
        exact k1
      revert K u no
      generalize hA : (uS M (M 61 32) (M 61 33) sk p c k).1 = A
      generalize hB : (uS M (M 61 32) (M 61 33) sk p c k).2 = B
      intro u K no
      have G : ∀ t, t = min (cN M p) (A + 1 + c) → ¬ ((k : Int) = sk ∨ ¬ M 75 k = p) → ∀ (r2 : Nat) (i w : Int), i + r2 = t → A ≤ i → w = (if A < i ∧ cA M p < i then 1 else 0) → ax_J Y_X11_upFrom (ax_Ki Y_X11_upFrom SH post) 0 0 73 [(0, aR 61), (1, aI p), (2, aI c), (3, aI sk), (4, aI (cN M p)), (5, aI A), (6, aI B), (7, aI k), (8, aI t), (9, aI w), (10, aI i)] [] SH M' := by
        intro t ht hgo0 r2
        have hgo := uS_go (ma := M 61 32) (me := M 61 33) (sk := sk) (c := c) (k := k) (M := M) (p := p) hgo0 hA hB ht rfl
        induction r2 with
        | zero =>
          intro i w hi hAi hw
          refine B_X11_upFrom_73 ?_
          rw [f61, f76]
          refine ⟨fun _ => ⟨fun z => ?_, fun z => ⟨by omega, C M' _ _ _ o2 (fun M2 o3 x x0 x1 => ?_)⟩⟩, fun z => by omega⟩
          · have k1 := K M' (by omega) o2
            have e : t = A := by omega
            rw [hgo.1, hgo.2, e, Int.sub_self, Int.zero_mul] at k1
            rw [e]
            exact ⟨by omega, by omega, k1⟩
          · have hw2 : w = (if t - 1 < cA M p then 0 else 1) := by rw [hw]; split <;> split <;> omega
            rw [hw2] at x0 x1
            have k1 := K M2 (by omega) o3
            rw [hgo.1, hgo.2] at k1
            refine ⟨fun y => ⟨by omega, by omega, ?_⟩, fun y => ⟨by omega, by omega, by omega, ?_⟩⟩
            · rw [x0 y, Int.mul_zero] at k1; exact k1
            · rw [x1 y, Int.mul_one] at k1; exact k1
        | succ r2 ih2 =>
          intro i w hi hAi hw
          have ln := l1 i (by omega) (by omega)
          refine B_X11_upFrom_73 ?_
          rw [f86, f74]
          refine ⟨fun z => by omega, fun _ => ⟨fun z => ⟨by omega, ih2 (i + 1) 1 (by omega) (by omega) ?_⟩, fun z => ⟨by omega, by omega, fun y => ⟨by omega, ?_⟩, fun y => ⟨by omega, ih2 (i + 1) 1 (by omega) (by omega) ?_⟩⟩⟩⟩
          · rw [hw] at z
            by_cases hh : A < i ∧ cA M p < i
            · rw [if_pos (by omega)]
            · rw [if_neg hh] at z; omega
          · refine ih2 (i + 1) 0 (by omega) (by omega) ?_
            rw [ln.2.2] at y
            by_cases hh : i < cA M p
            · rw [if_neg (by omega)]
            · rw [if_neg hh] at y; omega
          · rw [ln.2.2] at y
            by_cases hh : i < cA M p
            · rw [if_pos hh] at y; omega
            · rw [if_pos (by omega)]
      refine B_X11_upFrom_16 ?_
      rw [f61, f75]
      refine ⟨fun z => by omega, fun z => ⟨fun z1 => ⟨by omega, no (Or.inl z1)⟩, fun z1 => ⟨by omega, fun z2 => ⟨by omega, no (Or.inr z2)⟩, fun z2 => ⟨by omega, by omega, fun z3 => ?_, fun z3 => ?_⟩⟩⟩⟩
      · exact G _ (by omega) (by omega) (cN M p - A).toNat A 0 (by omega) (by omega) (by rw [if_neg (by omega)])
      · exact G _ (by omega) (by omega) (A + c + 1 - A).toNat A 0 (by omega) (by omega) (by rw [if_neg (by omega)])
  exact L _ 0 M1 (Nat.zero_add _).symm Of.rf
