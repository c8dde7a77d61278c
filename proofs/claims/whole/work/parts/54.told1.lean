/-! men who do not know -/
def un (M : ax_M) : Nat → Int
  | 0 => 0
  | j + 1 => if M 73 (j : Int) = 0 then bo_or (un M j) (bo_shl 1 (M 72 (j : Int))) else un M j
def fU (M : ax_M) : Int := un M (M 61 25).toNat
theorem un_rg {M : ax_M} : ∀ j : Nat, (∀ k : Int, 0 ≤ k → k < j → 0 ≤ M 72 k ∧ M 72 k < 12) → 0 ≤ un M j ∧ un M j < 4096
  | 0, _ => by rw [un.eq_1]; omega
  | j + 1, h => by
    have ih := un_rg j (fun k a b => h k a (by omega))
    have hj := h j (by omega) (by omega)
    have s := shl_rg hj.1 hj.2
    rw [un.eq_2]
    split
    · exact or_rg (n := 12) (N := 4096) (by decide) (Nat.le_refl _) ih ⟨s.1, s.2.1⟩
    · exact ih
theorem un_tb {M : ax_M} : ∀ j : Nat, (∀ k : Int, 0 ≤ k → k < j → 0 ≤ M 72 k ∧ M 72 k < 12) → ∀ w, 0 ≤ w → w < 12 → (tb (un M j) w = true ↔ ∃ k : Int, 0 ≤ k ∧ k < j ∧ M 73 k = 0 ∧ M 72 k = w)
  | 0, _, w, _, _ => by
    rw [un.eq_1, tb_0]
    exact ⟨fun q => by simp at q, fun ⟨k, a, b, _⟩ => by omega⟩
  | j + 1, h, w, w0, w1 => by
    have ih := un_tb j (fun k a b => h k a (by omega)) w w0 w1
    have hj := h j (by omega) (by omega)
    rw [un.eq_2]
    by_cases q : M 73 (j : Int) = 0
    · rw [if_pos q, tb_or, Bool.or_eq_true, ih, tb_shl hj.1 hj.2 w0 w1, decide_eq_true_iff]
      constructor
      · rintro (⟨k, a, b, c⟩ | c)
        · exact ⟨k, a, by omega, c⟩
        · exact ⟨j, by omega, by omega, q, c.symm⟩
      · rintro ⟨k, a, b, c, d⟩
        by_cases e : k = j
        · subst e; exact Or.inr d.symm
        · exact Or.inl ⟨k, a, by omega, c, d⟩
    · rw [if_neg q, ih]
      constructor
      · rintro ⟨k, a, b, c⟩
        exact ⟨k, a, by omega, c⟩
      · rintro ⟨k, a, b, c, d⟩
        by_cases e : k = j
        · subst e; exact absurd c q
        · exact ⟨k, a, by omega, c, d⟩
theorem crew_72 {M : ax_M} (hp : PitOk M) (hc : CrewEq M) : ∀ k : Int, 0 ≤ k → k < (M 61 25).toNat → 0 ≤ M 72 k ∧ M 72 k < 12 := by
  intro k a b
  have h := hc.2.1 k a (by omega)
  have := hp.2.2
  omega
theorem fU_rg {M : ax_M} (hp : PitOk M) (hc : CrewEq M) : 0 ≤ fU M ∧ fU M < 4096 := un_rg _ (crew_72 hp hc)
theorem fU_tb {M : ax_M} (hp : PitOk M) (hc : CrewEq M) {w : Int} (h : tb (fU M) w = true) (w0 : 0 ≤ w) : w < M 61 0 := by
  have r := fU_rg hp hc
  have w1 : w < 12 := by
    rcases Int.lt_or_le w 12 with q | q
    · exact q
    · rw [tb_hi r.1 r.2 q] at h; exact absurd h (by decide)
  obtain ⟨k, a, b, c, d⟩ := (un_tb _ (crew_72 hp hc) w w0 w1).mp h
  have := hc.2.1 k a (by omega)
  omega
theorem S_X11_unknowing {post : Int → ax_M → Prop} {M : ax_M} (hp : PitOk M) (hc : CrewEq M) (h : post (fU M) M) : ax_Ti Y_X11_unknowing [aR 61] SH M post := by
  have hb := hc.1
  have L : ∀ (r j : Nat), (M 61 25).toNat = j + r → ax_J Y_X11_unknowing (ax_Ki Y_X11_unknowing SH post) 0 0 4 [(0, aR 61), (1, aI (un M j)), (2, aI j)] [] SH M := by
    intro r
    induction r with
    | zero =>
      intro j hj
      refine B_X11_unknowing_4 ⟨fun _ => ?_, fun z => by omega⟩
      unfold fU at h
      rw [show (M 61 25).toNat = j by omega] at h
      exact h
    | succ r ih =>
      intro j hj
      have K := ih (j + 1) (by omega)
      have hr := un_rg j (fun k a b => crew_72 hp hc k a (by omega))
      rw [un.eq_2] at K
      refine B_X11_unknowing_4 ⟨fun _ => by omega, fun z => ⟨by omega, fun y => ⟨by omega, ?_⟩, fun y => ⟨by omega, ?_⟩⟩⟩
      · rw [if_pos y] at K; exact K
      · rw [if_neg y] at K
        rw [bo_or_0 (by unfold i32; omega)]
        exact K
  exact E_X11_unknowing (fun _ => L _ 0 (Nat.zero_add _).symm)
theorem S_X0_untoldPlaces {post : Int → ax_M → Prop} {M : ax_M} (hp : PitOk M) (hc : CrewEq M) (h : post (fU M) M) : ax_Ti Y_X0_untoldPlaces [aR 8] SH M post := by
  have hb := hc.1
  have L : ∀ (r j : Nat), (M 61 25).toNat = j + r → ax_J Y_X0_untoldPlaces (ax_Ki Y_X0_untoldPlaces SH post) 0 0 4 [(0, aR 8), (1, aI (un M j)), (2, aI j)] [] SH M := by
    intro r
    induction r with
    | zero =>
      intro j hj
      refine B_X0_untoldPlaces_4 ⟨fun _ => ?_, fun z => by omega⟩
      unfold fU at h
      rw [show (M 61 25).toNat = j by omega] at h
      exact h
    | succ r ih =>
      intro j hj
      have K := ih (j + 1) (by omega)
      have g := hc.2.1 j (by omega) (by omega)
      rw [un.eq_2] at K
      refine B_X0_untoldPlaces_4 ?_
      rw [g.1, g.2.2.2.1]
      refine ⟨fun _ => by omega, fun z => ⟨by omega, fun y => ⟨by omega, ?_⟩, fun y => ⟨by omega, ?_⟩⟩⟩
      · rw [if_neg y] at K; exact K
      · rw [if_pos y] at K; exact K
  exact E_X0_untoldPlaces (fun _ => L _ 0 (Nat.zero_add _).symm)
theorem S_X11_bits {post : Int → ax_M → Prop} {M : ax_M} {x : Int} (h : post (nb x 12) M) : ax_Ti Y_X11_bits [aI x] SH M post := by
  have L : ∀ (r j : Nat), 12 = j + r → ax_J Y_X11_bits (ax_Ki Y_X11_bits SH post) 0 0 4 [(0, aI x), (1, aI (nb x j)), (2, aI j)] [] SH M := by
    intro r
    induction r with
    | zero =>
      intro j hj
      refine B_X11_bits_4 ⟨fun _ => ?_, fun z => by omega⟩
      rw [show j = 12 by omega]
      exact h
    | succ r ih =>
      intro j hj
      have K := ih (j + 1) (by omega)
      have hr := nb_rg x j
      rw [nb.eq_2] at K
      refine B_X11_bits_4 ?_
      rw [tb_shr (by omega) (by omega)]
      refine ⟨fun _ => by omega, fun z => ⟨by split <;> omega, by omega, K⟩⟩
  exact E_X11_bits (fun _ => L _ 0 (Nat.zero_add _).symm)
/-- man m can tell -/
def cT (M : ax_M) (m : Int) : Prop := ¬ M 73 m = 0 ∧ nb (fU M) 12 ≤ 6
theorem S_X11_canTell {post : Int → ax_M → Prop} {M : ax_M} {m : Int} (hp : PitOk M) (hc : CrewEq M) (hm : 0 ≤ m ∧ m < M 61 25) (h1 : cT M m → post 1 M) (h0 : ¬ cT M m → post 0 M) : ax_Ti Y_X11_canTell [aR 61, aI m] SH M post := by
  have hb := hc.1
  refine E_X11_canTell (fun _ => ⟨by omega, fun y => h0 (fun q => q.1 y), fun y => S_X11_unknowing hp hc (S_X11_bits ⟨fun z => h0 (fun q => by have := q.2; omega), fun z => h1 ⟨y, z⟩⟩)⟩)
theorem S_X10_canTell {post : Int → ax_M → Prop} {M : ax_M} {m : Int} (hp : PitOk M) (hc : CrewEq M) (hm : 0 ≤ m ∧ m < M 61 25) (h1 : cT M m → post 1 M) (h0 : ¬ cT M m → post 0 M) : ax_Ti Y_X10_canTell [aR 0, aI m] SH M post := by
  have hb := hc.1
  have g := hc.2.1 m hm.1 hm.2
  have hr := fU_rg hp hc
  refine E_X10_canTell (fun _ => ?_)
  rw [g.2.2.2.1]
  exact ⟨by omega, fun y => h0 (fun q => q.1 y), fun y => S_X0_untoldPlaces hp hc (S_bitCount hr.1 hr.2 ⟨fun z => h0 (fun q => by have := q.2; omega), fun z => h1 ⟨y, z⟩⟩)⟩
theorem la_u {M M' : ax_M} (h : SamU M M') : la M' = la M := by
  have q3 : M' 61 3 = M 61 3 := h.2 3 (by decide)
  funext ma me e s p t q
  unfold la hh hB
  rw [h.1 62 (by decide), h.1 63 (by decide), h.1 64 (by decide), h.1 65 (by decide), h.1 67 (by decide), h.1 69 (by decide), q3]
/-- the last minute to begin in the dark -/
noncomputable def dk (M : ax_M) (p s : Int) : Int := la M (-1) (-1) (-1) s p (M 61 1) 99
theorem dk_u {M M' : ax_M} (h : SamU M M') : dk M' = dk M := by
  funext p s
  unfold dk
  rw [la_u h, h.2 1 (by decide)]
/-- those who are told at p at minute t and come up -/
noncomputable def ta (M : ax_M) (p t : Int) : Nat → Int
  | 0 => 0
  | j + 1 => ta M p t j + (if M 72 (j : Int) = p ∧ M 73 (j : Int) = 0 ∧ t ≤ dk M p (M 74 (j : Int)) then 1 else 0)
theorem ta_rg (M : ax_M) (p t : Int) : ∀ j : Nat, 0 ≤ ta M p t j ∧ ta M p t j ≤ j
  | 0 => by rw [ta.eq_1]; omega
  | j + 1 => by
    have h := ta_rg M p t j
    rw [ta.eq_2]
    split <;> omega
theorem ta_u {M M' : ax_M} (h : SamU M M') (p t : Int) : ∀ j, ta M' p t j = ta M p t j
  | 0 => by rw [ta.eq_1, ta.eq_1]
  | j + 1 => by rw [ta.eq_2, ta.eq_2, ta_u h p t j, dk_u h, h.1 72 (by decide), h.1 73 (by decide), h.1 74 (by decide)]
noncomputable def tA (M : ax_M) (p t : Int) : Int := ta M p t (M 61 25).toNat
theorem tA_u {M M' : ax_M} (h : SamU M M') : tA M' = tA M := by
  funext p t
  unfold tA
  rw [h.2 25 (by decide), ta_u h]
theorem tA_rg {M : ax_M} (hc : CrewEq M) (p t : Int) : 0 ≤ tA M p t ∧ tA M p t ≤ 8 := by
  have h := ta_rg M p t (M 61 25).toNat
  have := hc.1
  unfold tA
  omega
theorem S_X11_toldAt {post : Int → ax_M → Prop} {M : ax_M} {p t : Int} (hc : CrewEq M) (hp : 0 ≤ p ∧ p < 12) (h0 : M 87 (2 * p) = dk M p 0) (h1 : M 87 (2 * p + 1) = dk M p 1) (h : post (tA M p t) M) : ax_Ti Y_X11_toldAt [aR 61, aI p, aI t] SH M post := by
  have hb := hc.1
  have L : ∀ (r j : Nat), (M 61 25).toNat = j + r → ax_J Y_X11_toldAt (ax_Ki Y_X11_toldAt SH post) 0 0 5 [(0, aR 61), (1, aI p), (2, aI t), (3, aI (ta M p t j)), (4, aI j)] [] SH M := by
    intro r
    induction r with
    | zero =>
      intro j hj
      refine B_X11_toldAt_5 ⟨fun _ => ?_, fun z => by omega⟩
      unfold tA at h
      rw [show (M 61 25).toNat = j by omega] at h
      exact h
    | succ r ih =>
      intro j hj
      have K := ih (j + 1) (by omega)
      have hr := ta_rg M p t j
      have g := (hc.2.1 j (by omega) (by omega)).2.2.2.2.2.2
      rw [ta.eq_2] at K
      refine B_X11_toldAt_5 ?_
      rw [Int.add_zero (2 * p), h0, h1]
      refine ⟨fun _ => by omega, fun z => ⟨by omega, fun y => ⟨by omega, by omega, ?_⟩, fun y => ⟨fun y1 => ⟨by omega, by omega, ?_⟩, fun y1 => ⟨by omega, fun y2 => ⟨by omega, by omega, fun y3 => ⟨by omega, by omega, ?_⟩, fun y3 => ⟨by omega, by omega, ?_⟩⟩, fun y2 => ⟨by omega, by omega, fun y3 => ⟨by omega, by omega, ?_⟩, fun y3 => ⟨by omega, by omega, ?_⟩⟩⟩⟩⟩⟩
      · rw [if_neg (fun q => y q.1)] at K; exact K
      · rw [if_neg (fun q => y1 q.2.1)] at K; exact K
      · rw [if_neg (fun q => by have := q.2.2; rw [y2] at this; omega)] at K; exact K
      · rw [if_pos ⟨y, y1, by rw [y2]; exact y3⟩] at K; exact K
      · rw [show M 74 (j : Int) = 1 from g.resolve_left y2, if_neg (fun q => by have := q.2.2; omega)] at K; exact K
      · rw [show M 74 (j : Int) = 1 from g.resolve_left y2, if_pos ⟨y, y1, y3⟩] at K; exact K
  exact E_X11_toldAt (fun _ => L _ 0 (Nat.zero_add _).symm)
theorem S_X7_upWhenTold {post : Int → ax_M → Prop} {M : ax_M} {p t : Int} (hc : CrewEq M) (hp : 0 ≤ p ∧ p < 12) (h0 : M 53 p = dk M p 0) (h1 : M 54 p = dk M p 1) (h : post (tA M p t) M) : ax_Ti Y_X7_upWhenTold [aR 51, aI p, aI t] SH M post := by
  have hb := hc.1
  have L : ∀ (r j : Nat), (M 61 25).toNat = j + r → ax_J Y_X7_upWhenTold (ax_Ki Y_X7_upWhenTold SH post) 0 0 5 [(0, aR 51), (1, aI p), (2, aI t), (3, aI (ta M p t j)), (4, aI j)] [] SH M := by
    intro r
    induction r with
    | zero =>
      intro j hj
      refine B_X7_upWhenTold_5 ⟨fun _ => ?_, fun z => by omega⟩
      unfold tA at h
      rw [show (M 61 25).toNat = j by omega] at h
      exact h
    | succ r ih =>
      intro j hj
      have K := ih (j + 1) (by omega)
      have hr := ta_rg M p t j
      have g := hc.2.1 j (by omega) (by omega)
      have g7 := g.2.2.2.2.2.2
      rw [ta.eq_2] at K
      refine B_X7_upWhenTold_5 ?_
      rw [h0, h1, g.1, g.2.2.2.1, g.2.2.2.2.1, Int.add_zero (ta M p t j)]
      refine ⟨fun _ => by omega, fun z => ⟨by omega, fun y => ⟨by omega, ?_⟩, fun y => ⟨fun y1 => ⟨by omega, ?_⟩, fun y1 => ⟨fun y2 => ⟨by omega, fun y3 => ⟨by omega, by omega, ?_⟩, fun y3 => ⟨by omega, by omega, ?_⟩⟩, fun y2 => ⟨by omega, fun y3 => ⟨by omega, by omega, ?_⟩, fun y3 => ⟨by omega, by omega, ?_⟩⟩⟩⟩⟩⟩
      · rw [if_neg (fun q => y q.1), Int.add_zero] at K; exact K
      · rw [if_neg (fun q => y1 q.2.1), Int.add_zero] at K; exact K
      · rw [if_neg (fun q => by have := q.2.2; rw [y2] at this; omega), Int.add_zero] at K; exact K
      · rw [if_pos ⟨y, y1, by rw [y2]; exact y3⟩] at K; exact K
      · rw [show M 74 (j : Int) = 1 from g7.resolve_left y2, if_neg (fun q => by have := q.2.2; omega), Int.add_zero] at K; exact K
      · rw [show M 74 (j : Int) = 1 from g7.resolve_left y2, if_pos ⟨y, y1, y3⟩] at K; exact K
  exact E_X7_upWhenTold (fun _ => L _ 0 (Nat.zero_add _).symm)
/-- what the reference's telling changes -/
def R61 (M M' : ax_M) : Prop := (∀ a, a ∉ [61, 77, 87, 88, 89, 90] → M' a = M a) ∧ ∀ i, i ≠ 47 → M' 61 i = M 61 i
theorem R61.rf {M : ax_M} : R61 M M := ⟨fun _ _ => rfl, fun _ _ => rfl⟩
theorem R61.tr {M M1 M2 : ax_M} (h : R61 M M1) (h2 : R61 M1 M2) : R61 M M2 := ⟨fun a ha => (h2.1 a ha).trans (h.1 a ha), fun i hi => (h2.2 i hi).trans (h.2 i hi)⟩
theorem R61.ofs {l : List Nat} {M M' : ax_M} (h : Ofs l M M') (hl : ∀ a ∈ l, a ∈ [77, 87, 88, 89, 90]) : R61 M M' := by
  refine ⟨fun a ha => h a (fun z => ha (List.mem_cons_of_mem _ (hl a z))), fun i _ => ?_⟩
  rw [h 61 (fun z => absurd (hl 61 z) (by decide))]
theorem R61.u47 {M : ax_M} {v : Int} : R61 M (ax_up M 61 47 v) := ⟨fun a ha => up_off _ _ _ (fun z => ha (by rw [z]; decide)), fun i hi => up_ne _ _ _ hi⟩
theorem R61.sam {M M' : ax_M} (h : R61 M M') : Sam M M' := ⟨fun a ha => h.1 a (by revert a; decide), fun i hi => h.2 i (by revert i; decide)⟩
theorem R61.u {M M' : ax_M} (h : R61 M M') : SamU M M' := SamU.of h.sam
theorem R61.pit {M M' : ax_M} (h : R61 M M') (hp : PitOk M) : PitOk M' := c_PitOk (h.1 62 (by decide)) (h.1 63 (by decide)) (h.1 64 (by decide)) (h.1 65 (by decide)) (h.1 66 (by decide)) (h.1 67 (by decide)) (h.1 68 (by decide)) (h.2 0 (by decide)) (h.2 1 (by decide)) (h.2 2 (by decide)) (h.2 3 (by decide)) hp
theorem R61.crew {M M' : ax_M} (h : R61 M M') (hc : CrewEq M) : CrewEq M' := c_CrewEq (h.1 8 (by decide)) (h.1 9 (by decide)) (h.1 10 (by decide)) (h.1 11 (by decide)) (h.1 12 (by decide)) (h.1 13 (by decide)) (h.1 69 (by decide)) (h.1 72 (by decide)) (h.1 73 (by decide)) (h.1 74 (by decide)) (h.1 75 (by decide)) (h.1 76 (by decide)) (h.2 0 (by decide)) (h.2 3 (by decide)) (h.2 25 (by decide)) (h.2 29 (by decide)) hc
def DkOk (M : ax_M) (n : Int) (M' : ax_M) : Prop := ∀ p, 0 ≤ p → p < n → M' 87 (2 * p) = dk M p 0 ∧ M' 87 (2 * p + 1) = dk M p 1
theorem S_X11_findDark {post : ax_M → Prop} {M : ax_M} (hp : PitOk M) (hm : M 61 32 = -1) (h : ∀ M', Ofs [77, 87] M M' → DkOk M (M 61 0) M' → post M') : ax_Tv Y_X11_findDark [aR 61] SH M post := by
  have h12 := hp.2.2
  have L : ∀ (r : Nat) (i : Int) (M' : ax_M), i + r = M 61 0 → 0 ≤ i → Ofs [77, 87] M M' → DkOk M i M' → ax_J Y_X11_findDark (ax_Kv Y_X11_findDark SH post) 0 0 2 [(0, aR 61), (1, aI i)] [] SH M' := by
    intro r
    induction r with
    | zero =>
      intro i M' hi hi0 o hd
      refine B_X11_findDark_2 ?_
      rw [o 61 (by decide)]
      refine ⟨fun _ => h M' o ?_, fun z => by omega⟩
      rw [show M 61 0 = i by omega]
      exact hd
    | succ r ih =>
      intro i M' hi hi0 o hd
      have pk : ∀ M2, Ofs [77, 87] M M2 → PitOk M2 := fun M2 o2 => (R61.ofs o2 (by decide)).pit hp
      have dkv : ∀ M2 s, Ofs [77, 87] M M2 → la M2 (M2 61 32) (M2 61 33) (-1) s i (M2 61 1) 99 = dk M i s := by
        intro M2 s o2
        unfold dk
        rw [la_u (R61.ofs o2 (by decide)).u, o2 61 (by decide), hm, la_nomark]
      refine B_X11_findDark_2 ?_
      rw [o 61 (by decide)]
      refine ⟨fun _ => by omega, fun _ => ⟨by omega, S_X11_lastOf (pk M' o) (by rw [o 61 (by decide)]; omega) (fun M2 o2 => ⟨by omega, by omega, ?_⟩)⟩⟩
      rw [dkv M' 0 o]
      have o2' : Ofs [77, 87] M M2 := o.tr (o2.s (by decide))
      have o3 : Ofs [77, 87] M (ax_up M2 87 (2 * i) (dk M i 0)) := o2'.tr (Ofs.up (by decide))
      refine S_X11_lastOf (pk _ o3) (by rw [o3 61 (by decide)]; omega) (fun M4 o4 => ⟨by omega, by omega, ?_⟩)
      rw [dkv _ 1 o3]
      have o4' : Ofs [77, 87] M M4 := o3.tr (o4.s (by decide))
      refine ih (i + 1) _ (by omega) (by omega) (o4'.tr (Ofs.up (by decide))) (fun p p0 p1 => ?_)
      have e4 : M4 87 = ax_up M2 87 (2 * i) (dk M i 0) 87 := o4 87 (by decide)
      rw [up_k, up_k, e4, up_k, up_k, o2 87 (by decide)]
      by_cases q : p = i
      · subst q
        rw [if_neg (by omega), if_pos rfl, if_pos rfl]
        exact ⟨rfl, rfl⟩
      · rw [if_neg (by omega), if_neg (by omega), if_neg (by omega), if_neg (by omega)]
        exact hd p p0 (by omega)
  exact E_X11_findDark (fun _ => L (M 61 0).toNat 0 M (by omega) (Int.le_refl _) Ofs.rf (fun p a b => by omega))
theorem S_X7_findLast53 {post : ax_M → Prop} {M : ax_M} {e s : Int} (hw : WX M) (he : -1 ≤ e ∧ e ≤ 99) (h : ∀ M', Ofs [34, 35, 36, 37, 39, 53] M M' → Prep M' (-1) (-1) e s → (∀ v, 0 ≤ v ∧ v < M 61 0 → M' 53 v = la M (-1) (-1) e s v (M 61 1) 99) → post M') : ax_Tv Y_X7_findLast [aR 51, aI e, aI s, aR 53] SH M post := by
  have h3 := hw.1.2.2
  refine E_X7_findLast_51_53 (fun _ => S_X9_prep hw he (fun M1 o1 hw1 hP1 => ?_))
  have e6 : M1 6 2 = M 61 1 := by rw [o1 6 (by decide)]; exact hw.2.2.2.1
  rw [e6]
  refine S_X9_gather hw1 hP1 (by omega) he (by omega) (by omega) (by rw [o1 61 (by decide)]; omega) (fun M2 o2 hv => ?_)
  have o3 : Ofs [34, 35, 36, 37, 39, 53] M M2 := (o1.mono (by decide)).tr (o2.s (by decide))
  have o4 : Ofs [53] M2 (ax_cp M2 39 53 0 0 12) := by
    intro a ha
    funext j
    unfold ax_cp
    rw [if_neg (fun z => ha (by rw [z.1]; decide))]
  refine h _ (o3.tr (o4.mono (by decide))) ?_ (fun v hv1 => ?_)
  · have q : ∀ a, a ∈ [34, 35, 36, 37, 61, 62, 63, 64, 65, 67, 69] → ax_cp M2 39 53 0 0 12 a = M1 a := fun a ha => (o4 a (by revert a; decide)).trans (o2 a (by revert a; decide))
    unfold Prep at hP1 ⊢
    rw [q 34 (by decide), q 35 (by decide), q 36 (by decide), q 37 (by decide), q 61 (by decide), q 62 (by decide), q 63 (by decide), q 64 (by decide), q 65 (by decide), q 67 (by decide), q 69 (by decide)]
    exact hP1
  · have e0 : ax_cp M2 39 53 0 0 12 53 v = M2 39 v := by
      unfold ax_cp
      rw [if_pos ⟨rfl, by omega, by omega⟩]
      congr 1
      omega
    rw [e0, hv v (by rw [o1 61 (by decide)]; exact hv1), la_ofs o1 (by decide)]
theorem S_X7_findLast54 {post : ax_M → Prop} {M : ax_M} {e s : Int} (hw : WX M) (he : -1 ≤ e ∧ e ≤ 99) (h : ∀ M', Ofs [34, 35, 36, 37, 39, 54] M M' → Prep M' (-1) (-1) e s → (∀ v, 0 ≤ v ∧ v < M 61 0 → M' 54 v = la M (-1) (-1) e s v (M 61 1) 99) → post M') : ax_Tv Y_X7_findLast [aR 51, aI e, aI s, aR 54] SH M post := by
  have h3 := hw.1.2.2
  refine E_X7_findLast_51_54 (fun _ => S_X9_prep hw he (fun M1 o1 hw1 hP1 => ?_))
  have e6 : M1 6 2 = M 61 1 := by rw [o1 6 (by decide)]; exact hw.2.2.2.1
  rw [e6]
  refine S_X9_gather hw1 hP1 (by omega) he (by omega) (by omega) (by rw [o1 61 (by decide)]; omega) (fun M2 o2 hv => ?_)
  have o3 : Ofs [34, 35, 36, 37, 39, 54] M M2 := (o1.mono (by decide)).tr (o2.s (by decide))
  have o4 : Ofs [54] M2 (ax_cp M2 39 54 0 0 12) := by
    intro a ha
    funext j
    unfold ax_cp
    rw [if_neg (fun z => ha (by rw [z.1]; decide))]
  refine h _ (o3.tr (o4.mono (by decide))) ?_ (fun v hv1 => ?_)
  · have q : ∀ a, a ∈ [34, 35, 36, 37, 61, 62, 63, 64, 65, 67, 69] → ax_cp M2 39 54 0 0 12 a = M1 a := fun a ha => (o4 a (by revert a; decide)).trans (o2 a (by revert a; decide))
    unfold Prep at hP1 ⊢
    rw [q 34 (by decide), q 35 (by decide), q 36 (by decide), q 37 (by decide), q 61 (by decide), q 62 (by decide), q 63 (by decide), q 64 (by decide), q 65 (by decide), q 67 (by decide), q 69 (by decide)]
    exact hP1
  · have e0 : ax_cp M2 39 54 0 0 12 54 v = M2 39 v := by
      unfold ax_cp
      rw [if_pos ⟨rfl, by omega, by omega⟩]
      congr 1
      omega
    rw [e0, hv v (by rw [o1 61 (by decide)]; exact hv1), la_ofs o1 (by decide)]
theorem S_X7_findLast55 {post : ax_M → Prop} {M : ax_M} {e s : Int} (hw : WX M) (he : -1 ≤ e ∧ e ≤ 99) (h : ∀ M', Ofs [34, 35, 36, 37, 39, 55] M M' → Prep M' (-1) (-1) e s → (∀ v, 0 ≤ v ∧ v < M 61 0 → M' 55 v = la M (-1) (-1) e s v (M 61 1) 99) → post M') : ax_Tv Y_X7_findLast [aR 51, aI e, aI s, aR 55] SH M post := by
  have h3 := hw.1.2.2
  refine E_X7_findLast_51_55 (fun _ => S_X9_prep hw he (fun M1 o1 hw1 hP1 => ?_))
  have e6 : M1 6 2 = M 61 1 := by rw [o1 6 (by decide)]; exact hw.2.2.2.1
  rw [e6]
  refine S_X9_gather hw1 hP1 (by omega) he (by omega) (by omega) (by rw [o1 61 (by decide)]; omega) (fun M2 o2 hv => ?_)
  have o3 : Ofs [34, 35, 36, 37, 39, 55] M M2 := (o1.mono (by decide)).tr (o2.s (by decide))
  have o4 : Ofs [55] M2 (ax_cp M2 39 55 0 0 12) := by
    intro a ha
    funext j
    unfold ax_cp
    rw [if_neg (fun z => ha (by rw [z.1]; decide))]
  refine h _ (o3.tr (o4.mono (by decide))) ?_ (fun v hv1 => ?_)
  · have q : ∀ a, a ∈ [34, 35, 36, 37, 61, 62, 63, 64, 65, 67, 69] → ax_cp M2 39 55 0 0 12 a = M1 a := fun a ha => (o4 a (by revert a; decide)).trans (o2 a (by revert a; decide))
    unfold Prep at hP1 ⊢
    rw [q 34 (by decide), q 35 (by decide), q 36 (by decide), q 37 (by decide), q 61 (by decide), q 62 (by decide), q 63 (by decide), q 64 (by decide), q 65 (by decide), q 67 (by decide), q 69 (by decide)]
    exact hP1
  · have e0 : ax_cp M2 39 55 0 0 12 55 v = M2 39 v := by
      unfold ax_cp
      rw [if_pos ⟨rfl, by omega, by omega⟩]
      congr 1
      omega
    rw [e0, hv v (by rw [o1 61 (by decide)]; exact hv1), la_ofs o1 (by decide)]
