set_option maxHeartbeats 4000000 in
set_option maxRecDepth 100000 in
theorem S_X2_send {post : ax_M → Prop} {G M : ax_M} {T m z : Int} {φ lf β nr nc : Int → Int} (hw : WX G) (hc : CrewEq G) (hF : FV G T φ (fun p => mA G p - β p) lf m) (hm : m ≤ 8) (c : CI G T φ lf β nr nc M) (hz : Sn (M 40 10) (M 48) z) (hz1 : z / 61 = G 61 1) (hz2 : lf (z % 61) < G 61 2) (h : ∀ M', Ofs [41, 42, 43] M M' → FV G T (M' 41) (fun p => mA G p - M' 43 p) (M' 42) (m + 1) → post M') : ax_Tv Y_X2_send [aR 40, aI z] SH M post := by
  have h12 : G 61 0 ≤ 12 := by have := hw.1.2.2; omega
  have nd := sn_nd c.2.1 hz
  have nd1 := nd.1
  have nd2 := nd.2.1
  have lr := hF.2.2.1 (z % 61) (by omega) (by omega)
  have lif : G 61 2 ≤ 9 := by have := hw.1.2.2; omega
  have n7 := bf_le h12 c.2.1
  obtain ⟨i0, a0, a1, a2⟩ := hz
  have top : z = 61 * G 61 1 + z % 61 := by omega
  have L : ∀ (r i : Nat) (k : Int) (M' : ax_M), i ≤ r → (i : Int) < M 40 10 → 0 ≤ k → k + i ≤ 731 → Ofs [41, 42] M M' → (∀ u, M' 42 u = if u = z % 61 then lf u + 1 else lf u) → Wk G T φ (M 40 10) m (M 48) (61 * G 61 1 + z % 61) i (M' 41) → ax_J Y_X2_send (ax_Kv Y_X2_send SH post) 0 0 17 [(0, aR 40), (2, aI (M 48 i)), (3, aI k)] [] SH M' := by
    intro r
    induction r with
    | zero =>
      intro i k M' hi hin hk0 hk o e42 wk
      have bi := c.2.1.2.1 i (by omega) hin
      have q1 := bi.1.1
      have q2 := bi.1.2.1
      refine B_X2_send_17 ?_
      rw [o 46 (by decide), o 47 (by decide), o 43 (by decide), c.1.2.2.2.1]
      rcases bi.2 with ⟨b1, b2, b3⟩ | ⟨j, j0, j1, _⟩
      · have br : 0 ≤ mA G (M 48 i / 61) - β (M 48 i / 61) ∧ mA G (M 48 i / 61) - β (M 48 i / 61) ≤ mA G (M 48 i / 61) := hF.2.1 (M 48 i / 61) (by omega) (by omega)
        have b3' : mA G (M 48 i / 61) - β (M 48 i / 61) < mA G (M 48 i / 61) := b3
        have mr : 0 ≤ mA G (M 48 i / 61) ∧ mA G (M 48 i / 61) ≤ ((G 61 25).toNat : Int) := mn_rg G (M 48 i / 61) (G 61 25).toNat
        have hcb := hc.1
        refine ⟨fun y => by omega, fun _ => ⟨by omega, fun _ => ⟨by omega, by omega, by omega, h _ (o.mono (by decide) |>.tr (Ofs.up (by decide))) ?_⟩, fun y => by omega⟩⟩
        have e := wk_e hw.1 (b' := fun p => mA G p - ax_up M' 43 (M 48 i / 61) (β (M 48 i / 61) - 1) 43 p) (l' := M' 42) hF wk ⟨q1, by omega, b2⟩ b3 (by omega) hz2 (fun p p0 p1 => ?_) (fun u _ _ => e42 u)
        · rw [up_off _ _ _ (by decide), up_off (k := 43) (a := 42) _ _ _ (by decide)]
          exact e
        · rw [up_k, o 43 (by decide), c.1.2.2.2.1]
          by_cases w : p = M 48 i / 61
          · rw [if_pos w, if_pos w, w]; omega
          · rw [if_neg w, if_neg w]
      · omega
    | succ r ih =>
      intro i k M' hi hin hk0 hk o e42 wk
      have bi := c.2.1.2.1 i (by omega) hin
      have q1 := bi.1.1
      have q2 := bi.1.2.1
      refine B_X2_send_17 ?_
      rw [o 46 (by decide), o 47 (by decide), o 43 (by decide), c.1.2.2.2.1]
      rcases bi.2 with ⟨b1, b2, b3⟩ | ⟨j, j0, j1, j2, j3⟩
      · have br : 0 ≤ mA G (M 48 i / 61) - β (M 48 i / 61) ∧ mA G (M 48 i / 61) - β (M 48 i / 61) ≤ mA G (M 48 i / 61) := hF.2.1 (M 48 i / 61) (by omega) (by omega)
        have b3' : mA G (M 48 i / 61) - β (M 48 i / 61) < mA G (M 48 i / 61) := b3
        have mr : 0 ≤ mA G (M 48 i / 61) ∧ mA G (M 48 i / 61) ≤ ((G 61 25).toNat : Int) := mn_rg G (M 48 i / 61) (G 61 25).toNat
        have hcb := hc.1
        refine ⟨fun y => by omega, fun _ => ⟨by omega, fun _ => ⟨by omega, by omega, by omega, h _ (o.mono (by decide) |>.tr (Ofs.up (by decide))) ?_⟩, fun y => by omega⟩⟩
        have e := wk_e hw.1 (b' := fun p => mA G p - ax_up M' 43 (M 48 i / 61) (β (M 48 i / 61) - 1) 43 p) (l' := M' 42) hF wk ⟨q1, by omega, b2⟩ b3 (by omega) hz2 (fun p p0 p1 => ?_) (fun u _ _ => e42 u)
        · rw [up_off _ _ _ (by decide), up_off (k := 43) (a := 42) _ _ _ (by decide)]
          exact e
        · rw [up_k, o 43 (by decide), c.1.2.2.2.1]
          by_cases w : p = M 48 i / 61
          · rw [if_pos w, if_pos w, w]; omega
          · rw [if_neg w, if_neg w]
      · have jn := (c.2.1.2.1 j j0 (by omega)).1.1
        rw [j2]
        have hr := j3
        obtain ⟨j', rfl⟩ : ∃ j' : Nat, j = j' := ⟨j.toNat, by omega⟩
        refine ⟨fun y => by omega, fun _ => ⟨by omega, fun y => by omega, fun _ => ⟨fun y => ?_, fun y => ?_⟩⟩⟩
        · have rg : 0 ≤ -1 - M 47 (M 48 i) ∧ -1 - M 47 (M 48 i) < 3660 := by
            rcases hr with w | w
            · omega
            · exact w.2.1.1
          have wa := wk.1 _ rg.1 rg.2
          refine ⟨by omega, by omega, by omega, by omega, ih j' (k + 1) _ (by omega) (by omega) (by omega) (by omega) (o.tr (Ofs.up (by decide))) (fun u => by rw [up_off _ _ _ (by decide)]; exact e42 u) (wk_s c.2.1 wk (fun a b d => (hF.1 a b d).2.1) j0 j1 hin hr (fun w => by omega) (fun _ a b d => ?_))⟩
          rw [up_k]
          by_cases w : a = -1 - M 47 (M 48 i)
          · rw [if_pos w, if_pos w, w]
          · rw [if_neg w, if_neg w]
        · have rg : 0 ≤ M 47 (M 48 i) ∧ M 47 (M 48 i) < 3660 := by
            rcases hr with w | w
            · exact w.2.1.1
            · omega
          have wa := wk.1 _ rg.1 rg.2
          refine ⟨by omega, by omega, by omega, ih j' (k + 1) _ (by omega) (by omega) (by omega) (by omega) (o.tr (Ofs.up (by decide))) (fun u => by rw [up_off _ _ _ (by decide)]; exact e42 u) (wk_s c.2.1 wk (fun a b d => (hF.1 a b d).2.1) j0 j1 hin hr (fun _ a b d => ?_) (fun w => by omega))⟩
          rw [up_k]
          by_cases w : a = M 47 (M 48 i)
          · rw [if_pos w, if_pos w, w]
          · rw [if_neg w, if_neg w]
  obtain ⟨i, rfl⟩ : ∃ i : Nat, i0 = i := ⟨i0.toNat, by omega⟩
  refine E_X2_send (fun _ => ⟨by omega, by omega, by rw [c.1.2.2.1]; omega, ?_⟩)
  have w0 : Wk G T φ (M 40 10) m (M 48) (M 48 i) i φ := wk_0 hF
  rw [c.1.2.2.1]
  have K := L i i 0 (ax_up M 42 (z % 61) (lf (z % 61) + 1)) (Nat.le_refl _) a1 (Int.le_refl _) (by omega) (Ofs.up (by decide)) (fun u => ?_) ?_
  · rw [a2] at K; exact K
  · rw [up_k, c.1.2.2.1]
    by_cases w : u = z % 61
    · rw [if_pos w, if_pos w, w]
    · rw [if_neg w, if_neg w]
  · rw [up_off _ _ _ (by decide), c.1.2.1, ← top, ← a2]
    exact w0
/-- the end: nothing more can be sent -/
def Fin' (G : ax_M) (T z n : Int) (q : Int → Int) : Prop := ∃ φ b l fr sc : Int → Int, FV G T φ b l z ∧ Bf G T φ b n q fr sc ∧ Cl G T φ b l (Sn n q)
theorem reach {G : ax_M} {T n : Int} {φ b q fr sc : Int → Int} {S : Int → Prop} (hB : Bf G T φ b n q fr sc) (h1 : ∀ p, 0 ≤ p → p < G 61 0 → ¬ S (61 * p) → b p = mA G p) (h2 : ∀ u v s, S u → Res G T φ u v s → S v) : ∀ (r i : Nat), i ≤ r → (i : Int) < n → S (q i) := by
  have start : ∀ i : Int, 0 ≤ i → i < n → fr (q i) < 0 ∧ q i % 61 = 0 ∧ b (q i / 61) < mA G (q i / 61) → S (q i) := by
    intro i i0 i1 hs
    have nd := (hB.2.1 i i0 i1).1
    have nd1 := nd.1
    have nd2 := nd.2.1
    by_cases z : S (q i)
    · exact z
    · have := h1 (q i / 61) (by omega) (by omega) (by rw [show 61 * (q i / 61) = q i by omega]; exact z)
      omega
  intro r
  induction r with
  | zero =>
    intro i hi hin
    rcases (hB.2.1 i (by omega) hin).2 with hs | ⟨j, j0, j1, _⟩
    · exact start i (by omega) hin hs
    · omega
  | succ r ih =>
    intro i hi hin
    rcases (hB.2.1 i (by omega) hin).2 with hs | ⟨j, j0, j1, _, j3⟩
    · exact start i (by omega) hin hs
    · obtain ⟨j', rfl⟩ : ∃ j' : Nat, j = j' := ⟨j.toNat, by omega⟩
      exact h2 _ _ _ (ih j' (by omega) (by omega)) j3
theorem fin_un {G : ax_M} (hp : PitOk G) (hc : CrewEq G) {T z n z' n' : Int} {q q' : Int → Int} (h : Fin' G T z n q) (h' : Fin' G T z' n' q') : z = z' ∧ ∀ v, Sn n q v ↔ Sn n' q' v := by
  obtain ⟨φ, b, l, fr, sc, f1, f2, f3⟩ := h
  obtain ⟨φ', b', l', fr', sc', g1, g2, g3⟩ := h'
  have c1 := flow_cmp hp hc f1 g1 f3
  have c2 := flow_cmp hp hc g1 f1 g3
  have e : z = z' := by omega
  have d1 := c1.2 e.symm
  have d2 := c2.2 e
  refine ⟨e, fun v => ⟨fun ⟨i, i0, i1, i2⟩ => ?_, fun ⟨i, i0, i1, i2⟩ => ?_⟩⟩
  · rw [← i2]
    have := reach f2 d2.1 d2.2.2 i.toNat i.toNat (Nat.le_refl _) (by omega)
    rw [show ((i.toNat : Nat) : Int) = i by omega] at this
    exact this
  · rw [← i2]
    have := reach g2 d1.1 d1.2.2 i.toNat i.toNat (Nat.le_refl _) (by omega)
    rw [show ((i.toNat : Nat) : Int) = i by omega] at this
    exact this
theorem mA_sum {G : ax_M} (hp : PitOk G) (hc : CrewEq G) : Sm (mA G) 12 = G 61 25 := by
  have := mn_sum (M := G) (G 61 25).toNat (crew_72 hp hc)
  have hb := hc.1
  show Sm (fun p => mn G p (G 61 25).toNat) 12 = _
  rw [this]
  omega
theorem fv_le {G : ax_M} (hp : PitOk G) (hc : CrewEq G) {T z : Int} {φ b l : Int → Int} (h : FV G T φ b l z) : z ≤ G 61 25 ∧ (z = G 61 25 → ∀ p, 0 ≤ p → p < 12 → b p = mA G p) := by
  have s := sm_nn (f := fun p => mA G p - b p) 12 (fun k a c => by
    have := h.2.1 k a (by omega)
    show 0 ≤ mA G k - b k
    omega)
  rw [sm_sub, h.2.2.2.2] at s
  have e : Sm (fun x => mA G x) 12 = G 61 25 := mA_sum hp hc
  rw [e] at s
  exact ⟨by omega, fun z p a c => by have := s.2 (by omega) p a (by omega); omega⟩
theorem fin_men {G : ax_M} (hp : PitOk G) (hc : CrewEq G) {T z n : Int} {q φ b l : Int → Int} (h1 : FV G T φ b l (G 61 25)) (h : Fin' G T z n q) : z = G 61 25 ∧ n = 0 := by
  obtain ⟨φ', b', l', fr', sc', g1, g2, g3⟩ := h
  have c1 := flow_cmp hp hc g1 h1 g3
  have c2 := fv_le hp hc g1
  have e : z = G 61 25 := by omega
  refine ⟨e, ?_⟩
  have n0 := g2.1
  rcases Int.lt_or_le 0 n with w | w
  · exfalso
    have b0 := g2.2.1 0 (Int.le_refl _) w
    have nd1 := b0.1.1
    have nd2 := b0.1.2.1
    have h12 := hp.2.2
    rcases b0.2 with hs | ⟨j, j0, j1, _⟩
    · have := c2.2 e (q 0 / 61) (by omega) (by omega)
      omega
    · omega
  · omega
/-- the places that are seen -/
def Ps (n : Int) (q : Int → Int) (z : Int) : Prop := (0 ≤ z ∧ z < 4096) ∧ ∀ w, 0 ≤ w → w < 12 → (tb z w = true ↔ ∃ i, 0 ≤ i ∧ i < n ∧ q i / 61 = w)
theorem ps_0 (q : Int → Int) : Ps 0 q 0 := ⟨by omega, fun w _ _ => by rw [tb_0]; exact ⟨fun z => absurd z (by decide), fun ⟨i, a, b, _⟩ => by omega⟩⟩
theorem ps_s {n z : Int} {q : Int → Int} (h0 : 0 ≤ n) (h : Ps n q z) (hq : 0 ≤ q n / 61 ∧ q n / 61 < 12) : Ps (n + 1) q (bo_or z (bo_shl 1 (q n / 61))) := by
  have sr := shl_rg hq.1 hq.2
  refine ⟨or_rg (n := 12) (N := 4096) (by decide) (Nat.le_refl _) h.1 ⟨sr.1, sr.2.1⟩, fun w w0 w1 => ?_⟩
  rw [tb_or, Bool.or_eq_true, h.2 w w0 w1, tb_shl hq.1 hq.2 w0 w1, decide_eq_true_iff]
  constructor
  · rintro (⟨i, a, b, c⟩ | c)
    · exact ⟨i, a, by omega, c⟩
    · exact ⟨n, h0, by omega, c.symm⟩
  · rintro ⟨i, a, b, c⟩
    by_cases e : i = n
    · subst e; exact Or.inr c.symm
    · exact Or.inl ⟨i, a, by omega, c⟩
theorem ps_un {n n' z z' : Int} {q q' : Int → Int} (he : ∀ v, Sn n q v ↔ Sn n' q' v) (h : Ps n q z) (h' : Ps n' q' z') : z = z' := by
  refine set_eq h.1 h'.1 (fun w w0 w1 => ?_)
  have e : tb z w = true ↔ tb z' w = true := by
    rw [h.2 w w0 w1, h'.2 w w0 w1]
    constructor
    · rintro ⟨i, a, b, c⟩
      obtain ⟨j, d, e, f⟩ := (he (q i)).mp ⟨i, a, b, rfl⟩
      exact ⟨j, d, e, by rw [f]; exact c⟩
    · rintro ⟨i, a, b, c⟩
      obtain ⟨j, d, e, f⟩ := (he (q' i)).mpr ⟨i, a, b, rfl⟩
      exact ⟨j, d, e, by rw [f]; exact c⟩
  cases z1 : tb z w <;> cases z2 : tb z' w <;> simp [z1, z2] at e ⊢
theorem S_X2_seenPlaces {post : Int → ax_M → Prop} {M : ax_M} (h0 : 0 ≤ M 40 10 ∧ M 40 10 ≤ 732) (hq : ∀ i, 0 ≤ i → i < M 40 10 → 0 ≤ M 48 i ∧ M 48 i < 732) (h : ∀ z, Ps (M 40 10) (M 48) z → post z M) : ax_Ti Y_X2_seenPlaces [aR 40] SH M post := by
  have L : ∀ (r : Nat) (i z : Int), i + r = M 40 10 → 0 ≤ i → Ps i (M 48) z → ax_J Y_X2_seenPlaces (ax_Ki Y_X2_seenPlaces SH post) 0 0 4 [(0, aR 40), (1, aI z), (2, aI i)] [] SH M := by
    intro r
    induction r with
    | zero =>
      intro i z hi hi0 hp
      refine B_X2_seenPlaces_4 ⟨fun _ => h z ?_, fun z => by omega⟩
      rw [show M 40 10 = i by omega]; exact hp
    | succ r ih =>
      intro i z hi hi0 hp
      have q := hq i hi0 (by omega)
      exact B_X2_seenPlaces_4 ⟨fun z => by omega, fun _ => ⟨by omega, q.1, by omega, ih (i + 1) _ (by omega) (by omega) (ps_s hi0 hp (by omega))⟩⟩
  exact E_X2_seenPlaces (fun _ => L (M 40 10).toNat 0 0 (by omega) (Int.le_refl _) (ps_0 _))
set_option maxHeartbeats 4000000 in
set_option maxRecDepth 100000 in
theorem S_X2_lift {post : Int → ax_M → Prop} {G : ax_M} {T : Int} (hw : WX G) (hc : CrewEq G) (hnp : ¬ G 61 0 = 0) (hT : 0 ≤ T ∧ T ≤ 60) (h : ∀ M' z, Ofs [40, 41, 42, 43, 44, 45, 46, 47, 48] G M' → ((z = G 61 25 ∧ ∃ φ b l, FV G T φ b l z) ∨ (¬ z = G 61 25 ∧ Fin' G T z (M' 40 10) (M' 48))) → post z M') : ax_Ti Y_X2_lift [aR 40, aI T] SH G post := by
  have hb := hc.1
  have h12 : G 61 0 ≤ 12 := by have := hw.1.2.2; omega
  have L74 : ∀ (r : Nat) (m : Int) (M' : ax_M), m + r = G 61 25 → 0 ≤ m → Ofs [40, 41, 42, 43, 44, 45, 46, 47, 48] G M' → M' 40 11 = T → Nr G (M' 44) (M' 45) (G 61 3) → FV G T (M' 41) (fun p => mA G p - M' 43 p) (M' 42) m → ax_J Y_X2_lift (ax_Ki Y_X2_lift SH post) 0 0 74 [(0, aR 40), (2, aI m), (3, aI m)] [] SH M' := by
    intro r
    induction r with
    | zero =>
      intro m M' hm hm0 o e11 hN hF
      refine B_X2_lift_74 ?_
      rw [o 8 (by decide), hb.1]
      exact ⟨fun _ => h M' m o (Or.inl ⟨by omega, _, _, _, hF⟩), fun z => by omega⟩
    | succ r ih =>
      intro m M' hm hm0 o e11 hN hF
      refine B_X2_lift_74 ?_
      rw [o 8 (by decide), hb.1]
      refine ⟨fun z => by omega, fun _ => S_X2_search hw hc hnp hT hF hN ⟨o, rfl, rfl, rfl, rfl, rfl, e11⟩ (fun M2 z c2 s2 z1 z2 => ⟨fun _ => S_X2_send hw hc hF (by omega) c2 s2 z1 z2 (fun M3 o3 f3 => ⟨by omega, by omega, ih (m + 1) M3 (by omega) (by omega) (c2.1.1.tr (o3.mono (by decide))) ?_ ?_ f3⟩), fun y => ?_⟩) (fun M2 c2 cl2 => ⟨fun y => absurd rfl y, fun _ => h M2 m c2.1.1 (Or.inr ⟨by omega, _, _, _, _, _, hF, c2.2.1, cl2⟩)⟩)⟩
      · rw [o3 40 (by decide)]; exact c2.1.2.2.2.2.2.2
      · rw [o3 44 (by decide), o3 45 (by decide), c2.1.2.2.2.2.1, c2.1.2.2.2.2.2.1]; exact hN
      · have := (sn_nd c2.2.1 s2).1
        omega
  have L31 : ∀ (r j : Nat) (M' : ax_M), (G 61 25).toNat = j + r → Ofs [40, 41, 42, 43] G M' → M' 40 11 = T → (∀ a, 0 ≤ a → a < 3660 → M' 41 a = 0) → (∀ t, 0 ≤ t → t < 61 → M' 42 t = 0) → (∀ p, 0 ≤ p → p < 12 → M' 43 p = mn G p j) → ax_J Y_X2_lift (ax_Ki Y_X2_lift SH post) 0 0 31 [(0, aR 40), (2, aI j)] [] SH M' := by
    intro r
    induction r with
    | zero =>
      intro j M' hj o e11 e41 e42 e43
      refine B_X2_lift_31 ?_
      rw [o 8 (by decide), hb.1]
      refine ⟨fun _ => S_X2_findNear hw (o.mono (by decide)) (fun M2 o2 hN => L74 (G 61 25).toNat 0 M2 (by omega) (Int.le_refl _) ((o.mono (by decide)).tr (o2.mono (by decide))) (by rw [o2 40 (by decide)]; exact e11) hN (fv_0 hw.1 hnp (fun a a0 a1 => by rw [o2 41 (by decide)]; exact e41 a a0 a1) (fun p p0 p1 => ?_) (fun t t0 t1 => by rw [o2 42 (by decide)]; exact e42 t t0 t1))), fun z => by omega⟩
      show mA G p - M2 43 p = 0
      rw [o2 43 (by decide), e43 p p0 p1]
      unfold mA
      rw [show (G 61 25).toNat = j by omega]
      omega
    | succ r ih =>
      intro j M' hj o e11 e41 e42 e43
      have g := hc.2.1 j (by omega) (by omega)
      have mr := mn_rg G (G 72 j) j
      have e9 : M' 9 j = G 72 j := by rw [o 9 (by decide)]; exact g.1
      refine B_X2_lift_31 ?_
      rw [o 8 (by decide), hb.1, e9, e43 (G 72 j) (by omega) (by omega)]
      refine ⟨fun z => by omega, fun _ => ⟨by omega, by omega, by omega, by omega, ih (j + 1) _ (by omega) (o.tr (Ofs.up (by decide))) (by rw [up_off _ _ _ (by decide)]; exact e11) (by rw [up_off _ _ _ (by decide)]; exact e41) (by rw [up_off _ _ _ (by decide)]; exact e42) (fun p p0 p1 => ?_)⟩⟩
      rw [up_k, mn.eq_2]
      by_cases z : p = G 72 j
      · rw [if_pos z, if_pos z.symm, z]
      · rw [if_neg z, if_neg (fun w => z w.symm), e43 p p0 p1]; omega
  refine E_X2_lift (fun _ => S_fill_41 (S_fill_42 (S_fill_43 (L31 _ 0 _ (Nat.zero_add _).symm ?_ ?_ ?_ ?_ ?_))))
  · intro a ha
    rw [fl_off (fun z => ha (by rw [z]; decide)), fl_off (fun z => ha (by rw [z]; decide)), fl_off (fun z => ha (by rw [z]; decide)), up_off _ _ _ (fun z => ha (by rw [z]; decide))]
  · rw [fl_off (by decide), fl_off (by decide), fl_off (by decide)]; exact up_at _ _ _ _
  · intro a a0 a1
    rw [fl_off (by decide), fl_off (by decide), fl_in ⟨a0, a1⟩]
  · intro t t0 t1
    rw [fl_off (by decide), fl_in ⟨t0, t1⟩]
  · intro p p0 p1
    rw [fl_in ⟨p0, p1⟩, mn.eq_1]
