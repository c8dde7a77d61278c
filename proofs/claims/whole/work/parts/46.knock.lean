/-- through a way as a knock goes: one a way, whoever stands there -/
def uG (M : ax_M) (k t : Int) : Int := if M 69 k = 0 then (if t + 1 ≤ 99 then t + 1 else -1) else -1
theorem uG_gd (M : ax_M) (n : Int) : Gd (uG M) n := by
  intro k _ _ t t' h0 h1 h2
  unfold uG at *
  by_cases h : M 69 k = 0
  · rw [if_pos h] at *
    split at h2 <;> (try omega)
  · rw [if_neg h] at h2; omega
theorem uG_le (M : ax_M) (k t : Int) : uG M k t ≤ 99 := by unfold uG; split <;> (try split) <;> omega
theorem uG_ge (M : ax_M) {k t : Int} (h : 0 ≤ t) : -1 ≤ uG M k t := by unfold uG; split <;> (try split) <;> omega
def Unit4 (M0 M : ax_M) (n : Int) : Prop := ∀ k, 0 ≤ k → k < n → M 34 k = 1 ∧ M 35 k = -1 ∧ M 36 k = 99 ∧ M 37 k = (if M0 69 k = 0 then 99 else -1)
set_option maxHeartbeats 4000000 in
set_option maxRecDepth 100000 in
theorem thr_unit {M0 M : ax_M} (hb : M 61 3 ≤ 24) (h : Unit4 M0 M (M 61 3)) : Thr (uG M0) M := by
  refine ⟨uG_gd M0 _, fun k t _ _ => uG_le M0 k t, fun k t _ _ h0 => uG_ge M0 h0, fun k t post h0 h1 ht M' o hp => ?_⟩
  obtain ⟨a, b, c, d⟩ := h k h0 h1
  refine E_X9_through (fun _ => ?_)
  rw [o 34 (by decide), o 35 (by decide), o 36 (by decide), o 37 (by decide), a, b, c, d]
  unfold uG at hp
  by_cases hz : M0 69 k = 0
  · rw [if_pos hz] at hp ⊢
    refine ⟨by omega, by omega, fun z => ⟨fun z1 => by omega, fun z1 => ?_⟩, fun z => ⟨fun z1 => absurd rfl z1, fun _ => ?_⟩⟩
    · rw [if_pos z] at hp; exact hp
    · rw [if_neg (by omega)] at hp; exact hp
  · rw [if_neg hz] at hp ⊢
    refine ⟨by omega, by omega, fun z => ⟨fun z1 => hp, fun z1 => by omega⟩, fun z => ⟨fun z1 => absurd rfl z1, fun _ => hp⟩⟩
/-- how many ways a knock at p has gone at v -/
noncomputable def hp (M : ax_M) (p v : Int) : Int := ds (uG M) (M 62) (M 63) (M 61 3) p 0 v
set_option maxHeartbeats 4000000 in
set_option maxRecDepth 100000 in
theorem S_X9_countWaysFrom {post : ax_M → Prop} {M : ax_M} {p : Int} (hw : WX M) (hpp : 0 ≤ p ∧ p < M 61 0) (h : ∀ M', Ofs [34, 35, 36, 37, 38] M M' → (∀ v, 0 ≤ v → v < M 61 0 → M' 38 v = hp M p v) → post M') : ax_Tv Y_X9_countWaysFrom [aR 33, aI p] SH M post := by
  have hb := hw.1.2.1
  have e61 : M 6 1 = M 61 3 := hw.2.2.1
  have L : ∀ (r k : Nat) (M' : ax_M), (M 61 3).toNat = k + r → Ofs [34, 35, 36, 37] M M' → Unit4 M M' k → ax_J Y_X9_countWaysFrom (ax_Kv Y_X9_countWaysFrom SH post) 0 0 2 [(0, aR 33), (1, aI p), (2, aI k)] [] SH M' := by
    intro r
    induction r with
    | zero =>
      intro k M' hk o hu
      have f61 : M' 61 = M 61 := o 61 (by decide)
      refine B_X9_countWaysFrom_2 ?_
      rw [o 6 (by decide)]
      refine ⟨fun _ => ?_, fun z => by omega⟩
      have hT : Thr (uG M) M' := thr_unit (by rw [f61]; omega) (by rw [f61]; rw [show (k : Int) = M 61 3 by omega] at hu; exact hu)
      refine S_X9_spreadG (wx_of o (by decide) hw) hT (by omega) (by rw [f61]; exact hpp) (fun M2 o2 hv => h M2 ((o.mono (by decide)).tr (o2.s (by decide))) (fun v v0 v1 => ?_))
      rw [hv v (by rw [f61]; exact ⟨v0, v1⟩), o 62 (by decide), o 63 (by decide), f61]
      rfl
    | succ r ih =>
      intro k M' hk o hu
      have e14 := (hw.2.2.2.2.2 k (by omega) (by omega)).2.2.2.2
      have st : ∀ v, v = (if M 69 k = 0 then 99 else -1) → Unit4 M (ax_up (ax_up (ax_up (ax_up M' 34 k 1) 35 k (-1)) 36 k 99) 37 k v) ((k : Int) + 1) := by
        intro v hv j j0 j1
        have q := hu j j0
        by_cases hj : j = k
        · subst hj
          refine ⟨?_, ?_, ?_, ?_⟩
          · rw [up_off _ _ _ (by decide), up_off _ _ _ (by decide), up_off _ _ _ (by decide), up_at]
          · rw [up_off _ _ _ (by decide), up_off _ _ _ (by decide), up_at]
          · rw [up_off _ _ _ (by decide), up_at]
          · rw [up_at]; exact hv
        · have q := q (by omega)
          refine ⟨?_, ?_, ?_, ?_⟩
          · rw [up_off _ _ _ (by decide), up_off _ _ _ (by decide), up_off _ _ _ (by decide), up_ne _ _ _ hj]; exact q.1
          · rw [up_off _ _ _ (by decide), up_off _ _ _ (by decide), up_ne _ _ _ hj, up_off _ _ _ (by decide)]; exact q.2.1
          · rw [up_off _ _ _ (by decide), up_ne _ _ _ hj, up_off _ _ _ (by decide), up_off _ _ _ (by decide)]; exact q.2.2.1
          · rw [up_ne _ _ _ hj, up_off _ _ _ (by decide), up_off _ _ _ (by decide), up_off _ _ _ (by decide)]; exact q.2.2.2
      have oo : ∀ v, Ofs [34, 35, 36, 37] M (ax_up (ax_up (ax_up (ax_up M' 34 k 1) 35 k (-1)) 36 k 99) 37 k v) := fun v => o.tr (Ofs.tr (Ofs.up (by decide)) (Ofs.tr (Ofs.up (by decide)) (Ofs.tr (Ofs.up (by decide)) (Ofs.up (by decide)))))
      refine B_X9_countWaysFrom_2 ?_
      rw [o 6 (by decide), o 14 (by decide), e14]
      refine ⟨fun _ => by omega, fun z => ⟨by omega, fun y => ⟨by omega, ih (k + 1) _ (by omega) (oo _) (st _ (by rw [if_pos y]))⟩, fun y => ⟨by omega, ih (k + 1) _ (by omega) (oo _) (st _ (by rw [if_neg y]))⟩⟩⟩
  exact E_X9_countWaysFrom (fun _ => L _ 0 M (Nat.zero_add _).symm Ofs.rf (fun k a b => by omega))
def pw (x : Int) : Nat → Int
  | 0 => 1000
  | n + 1 => pw x n * x / 1000
theorem pw_rg {x : Int} (h0 : 0 ≤ x) (h1 : x ≤ 1000) : ∀ n, 0 ≤ pw x n ∧ pw x n ≤ 1000
  | 0 => by unfold pw; omega
  | n + 1 => by
    have q := pw_rg h0 h1 n
    have r := mul_rg q.1 q.2 h0 h1
    unfold pw
    omega
noncomputable def hs (M : ax_M) (p x : Int) : Nat → Int
  | 0 => 0
  | j + 1 => hs M p x j + (if M 73 j = 0 ∧ 0 ≤ hp M p (M 72 j) then pw x (hp M p (M 72 j)).toNat else 0)
theorem hs_rg {M : ax_M} {p x : Int} (h0 : 0 ≤ x) (h1 : x ≤ 1000) : ∀ j : Nat, 0 ≤ hs M p x j ∧ hs M p x j ≤ 1000 * j
  | 0 => ⟨Int.le_refl 0, Int.le_refl 0⟩
  | j + 1 => by
    have q := hs_rg (M := M) (p := p) h0 h1 j
    have r := pw_rg h0 h1 (hp M p (M 72 j)).toNat
    unfold hs
    split <;> omega
theorem hp_neg (M : ax_M) (p v : Int) : hp M p v = -1 ∨ 0 ≤ hp M p v := ds_neg (uG_gd M _) (by omega) v
theorem hp_99 (M : ax_M) (p v : Int) : hp M p v ≤ 99 := by
  rcases hp_neg M p v with h | h
  · omega
  · rcases ds_sup (uG_gd M _) (by omega) h with h1 | ⟨k, u, -, -, -, h1⟩
    · have h2 : hp M p v = 0 := h1.2
      omega
    · have h2 : uG M k (hp M p u) = hp M p v := h1
      have := uG_le M k (hp M p u)
      omega
set_option maxHeartbeats 4000000 in
set_option maxRecDepth 100000 in
theorem S_X10_hearing {post : Int → ax_M → Prop} {M M0 : ax_M} {p x : Int} (hc : CrewEq M) (hx : 0 ≤ x ∧ x ≤ 1000) (hnp : M 61 0 ≤ 12) (e2 : M 72 = M0 72) (e3 : M 73 = M0 73) (hv : ∀ v, 0 ≤ v → v < M 61 0 → M 38 v = hp M0 p v) (h : post (hs M0 p x (M 61 25).toNat) M) : ax_Ti Y_X10_hearing [aR 0, aI x] SH M post := by
  have hb := hc.1
  have L : ∀ (r j : Nat), (M 61 25).toNat = j + r → ax_J Y_X10_hearing (ax_Ki Y_X10_hearing SH post) 0 0 4 [(0, aR 0), (1, aI x), (2, aI (hs M0 p x j)), (3, aI j)] [] SH M := by
    intro r
    induction r with
    | zero => intro j hj; refine B_X10_hearing_4 ⟨fun _ => ?_, fun z => by omega⟩; rw [show (M 61 25).toNat = j by omega] at h; exact h
    | succ r ih =>
      intro j hj
      have g := hc.2.1 j (by omega) (by omega)
      have gv := hv (M 72 j) g.2.1 g.2.2.1
      have hr := hs_rg (M := M0) (p := p) hx.1 hx.2 j
      have K := ih (j + 1) (by omega)
      rw [hs.eq_2] at K
      rw [← e2, ← e3] at K
      have hn := hp_neg M0 p (M 72 j)
      have h99 := hp_99 M0 p (M 72 j)
      refine B_X10_hearing_4 ?_
      rw [g.1, g.2.2.2.1, gv]
      refine ⟨fun z => by omega, fun z => ⟨by omega, by omega, fun y => ⟨by omega, ?_⟩, fun y => ⟨fun y1 => ?_, fun y1 => ⟨by omega, ?_⟩⟩⟩⟩
      · rw [if_neg (fun q => y q.1), Int.add_zero] at K; exact K
      · have T : ∀ (r2 i : Nat), (hp M0 p (M 72 j)).toNat = i + r2 → ax_J Y_X10_hearing (ax_Ki Y_X10_hearing SH post) 0 0 63 [(0, aR 0), (1, aI x), (2, aI (hs M0 p x j)), (3, aI j), (4, aI (hp M0 p (M 72 j))), (5, aI (pw x i)), (6, aI i)] [] SH M := by
          intro r2
          induction r2 with
          | zero =>
            intro i hi
            have q := pw_rg hx.1 hx.2 i
            rw [if_pos ⟨y, by omega⟩, show (hp M0 p (M 72 j)).toNat = i by omega] at K
            exact B_X10_hearing_63 ⟨fun _ => ⟨by omega, by omega, K⟩, fun z2 => by omega⟩
          | succ r2 ih2 =>
            intro i hi
            have q := pw_rg hx.1 hx.2 i
            have rr := mul_rg q.1 q.2 hx.1 hx.2
            exact B_X10_hearing_63 ⟨fun z2 => by omega, fun z2 => ⟨by omega, by omega, by omega, ih2 (i + 1) (by omega)⟩⟩
        exact T _ 0 (Nat.zero_add _).symm
      · rw [if_neg (fun q => by omega), Int.add_zero] at K; exact K
  exact E_X10_hearing (fun _ => L _ 0 (Nat.zero_add _).symm)
noncomputable def fKnock (M : ax_M) (x1 x2 : Int) : Int := if x1 < 0 ∨ M 61 0 ≤ x1 then -1001 else if x2 < 0 ∨ 1000 < x2 then -1002 else hs M x1 x2 (M 61 25).toNat
theorem hp_sam {M M' : ax_M} (h : Sam M M') : hp M' = hp M := by
  have q : uG M' = uG M := by
    funext k t
    unfold uG
    rw [h.1 69 (by decide)]
  funext p v
  unfold hp
  rw [q, h.1 62 (by decide), h.1 63 (by decide), h.2 3 (by decide)]
theorem hs_sam {M M' : ax_M} (h : Sam M M') (p x : Int) : ∀ j, hs M' p x j = hs M p x j
  | 0 => rfl
  | j + 1 => by rw [hs.eq_2, hs.eq_2, hs_sam h p x j, hp_sam h, h.1 72 (by decide), h.1 73 (by decide)]
theorem fKnock_sam {M M' : ax_M} (h : Sam M M') : fKnock M' = fKnock M := by
  funext x1 x2
  unfold fKnock
  rw [hs_sam h, h.2 0 (by decide), h.2 25 (by decide)]
set_option maxHeartbeats 4000000 in
set_option maxRecDepth 100000 in
theorem S_X10_knock {n : Int} {post : Int → ax_M → Prop} {M : ax_M} {x1 x2 : Int} (hI : Inv n M) (h : ∀ M', Sam M M' → post (fKnock M x1 x2) M') : ax_Ti Y_X10_knock [aR 0, aI x1, aI x2] SH M post := by
  have key : ∀ z M', Sam M M' → fKnock M x1 x2 = z → post z M' := fun z M' a b => by rw [← b]; exact h M' a
  have hnp := hI.1.1.2.2
  have e6 : M 6 0 = M 61 0 := hI.1.2.1
  refine E_X10_knock (fun _ => ?_)
  rw [e6]
  refine ⟨by omega, fun c => key _ _ Sam.rf (by unfold fKnock; (repeat' split) <;> first | rfl | omega), fun c => ⟨fun c1 => key _ _ Sam.rf (by unfold fKnock; (repeat' split) <;> first | rfl | omega), fun c1 => ⟨fun c2 => key _ _ Sam.rf (by unfold fKnock; (repeat' split) <;> first | rfl | omega), fun c2 => ⟨fun c3 => key _ _ Sam.rf (by unfold fKnock; (repeat' split) <;> first | rfl | omega), fun c3 => S_X9_countWaysFrom hI.1 (by omega) (fun M1 o1 hv => ?_)⟩⟩⟩⟩
  have e61 : M1 61 = M 61 := o1 61 (by decide)
  refine S_X10_hearing (M0 := M) (p := x1) (crew_ofs o1 (by decide) hI.2.1) (by omega) (by rw [e61]; omega) (o1 72 (by decide)) (o1 73 (by decide)) (by rw [e61]; exact hv) ?_
  refine key _ _ (sam_ofs o1 (by decide)) ?_
  unfold fKnock
  rw [if_neg (by omega), if_neg (by omega), e61]
/-- a knock goes by fewer ways than there are places -/
theorem hp_np {M : ax_M} (hp0 : PitOk M) {p : Int} (hpp : 0 ≤ p ∧ p < M 61 0) : ∀ (d : Nat) (v : Int), 0 ≤ v → v < M 61 0 → hp M p v = d → d ≤ rk (hp M p) d (M 61 0).toNat
  | 0, _, _, _, _ => Nat.zero_le _
  | d + 1, v, v0, v1, h => by
    rcases ds_sup (uG_gd M _) (by omega) (show 0 ≤ ds (uG M) (M 62) (M 63) (M 61 3) p 0 v from by have : hp M p v = ds (uG M) (M 62) (M 63) (M 61 3) p 0 v := rfl; omega) with h1 | ⟨k, u, he, h2, h3, h4⟩
    · have : hp M p v = 0 := h1.2
      omega
    · have e : uG M k (hp M p u) = hp M p v := h4
      have u0 : 0 ≤ hp M p u := h2
      have e1 : hp M p u = d := by
        unfold uG at e
        split at e <;> (try split at e) <;> omega
      have w := (hp0.1 k he.1 he.2.1).1
      have hu : 0 ≤ u ∧ u < M 61 0 := by
        rcases he.2.2 with ⟨a, b⟩ | ⟨a, b⟩ <;> rw [a] <;> omega
      have q := hp_np hp0 hpp d u hu.1 hu.2 e1
      have r := rk_lt (D := hp M p) (c := d) (c' := ((d + 1 : Nat) : Int)) (by omega) (M 61 0).toNat u.toNat (by omega) (by rw [show ((u.toNat : Nat) : Int) = u by omega]; omega) (by rw [show ((u.toNat : Nat) : Int) = u by omega]; omega) (by rw [show ((u.toNat : Nat) : Int) = u by omega]; omega)
      omega
theorem hp_lt {M : ax_M} (hp0 : PitOk M) {p v : Int} (hpp : 0 ≤ p ∧ p < M 61 0) (v0 : 0 ≤ v) (v1 : v < M 61 0) : hp M p v < M 61 0 := by
  rcases hp_neg M p v with h | h
  · omega
  · have a := hp_np hp0 hpp (hp M p v).toNat v v0 v1 (by omega)
    have b := rk_lt_n (D := hp M p) (c := ((hp M p v).toNat : Int)) (M 61 0).toNat v.toNat (by omega) (by rw [show ((v.toNat : Nat) : Int) = v by omega]; omega)
    omega
