set_option maxHeartbeats 4000000 in
set_option maxRecDepth 100000 in
theorem S_X11_knock {n : Int} {post : Int → ax_M → Prop} {M : ax_M} {x1 x2 : Int} (hI : Inv n M) (h : ∀ M', Sam M M' → post (fKnock M x1 x2) M') : ax_Ti Y_X11_knock [aR 61, aI x1, aI x2] SH M post := by
  have key : ∀ z M', Sam M M' → fKnock M x1 x2 = z → post z M' := fun z M' a b => by rw [← b]; exact h M' a
  have hnp := hI.1.1.2.2
  have hb := hI.2.1.1
  have hp0 := hI.1.1
  have hw3 := hp0.2.1
  have sm : ∀ M', Of 96 M M' → Sam M M' := fun M' o => sam_ofs (o.s (l := [96]) (by decide)) (by decide)
  refine E_X11_knock (fun _ => ?_)
  refine ⟨by omega, fun c => key _ _ Sam.rf (by unfold fKnock; (repeat' split) <;> first | rfl | omega), fun c => ⟨fun c1 => key _ _ Sam.rf (by unfold fKnock; (repeat' split) <;> first | rfl | omega), fun c1 => ⟨fun c2 => key _ _ Sam.rf (by unfold fKnock; (repeat' split) <;> first | rfl | omega), fun c2 => ⟨fun c3 => key _ _ Sam.rf (by unfold fKnock; (repeat' split) <;> first | rfl | omega), fun c3 => ?_⟩⟩⟩⟩
  have hpp : 0 ≤ x1 ∧ x1 < M 61 0 := by omega
  have h12 : M 61 0 ≤ 12 := by omega
  -- the sum
  have L262 : ∀ (r j : Nat) (M' : ax_M), (M 61 25).toNat = j + r → Of 96 M M' → (∀ v, 0 ≤ v → v < M 61 0 → M' 96 v = if 0 ≤ hp M x1 v then pw x2 (hp M x1 v).toNat else -1) → ax_J Y_X11_knock (ax_Ki Y_X11_knock SH post) 0 0 262 [(0, aR 61), (5, aI (hs M x1 x2 j)), (6, aI j)] [] SH M' := by
    intro r
    induction r with
    | zero =>
      intro j M' hj o hv
      refine B_X11_knock_262 ?_
      rw [o 61 (by decide)]
      refine ⟨fun _ => key _ _ (sm M' o) ?_, fun z => by omega⟩
      unfold fKnock
      rw [if_neg (by omega), if_neg (by omega), show (M 61 25).toNat = j by omega]
    | succ r ih =>
      intro j M' hj o hv
      have g := hI.2.1.2.1 j (by omega) (by omega)
      have gv := hv (M 72 j) g.2.1 g.2.2.1
      have hr := hs_rg (M := M) (p := x1) c2 c3 j
      have hw := pw_rg c2 c3 (hp M x1 (M 72 j)).toNat
      have K := ih (j + 1) M' (by omega) o hv
      rw [hs.eq_2] at K
      refine B_X11_knock_262 ?_
      rw [o 61 (by decide), o 73 (by decide), o 72 (by decide), gv]
      refine ⟨fun _ => by omega, fun z => ⟨by omega, fun y => ⟨by omega, by omega, ?_⟩, fun y => ⟨by omega, fun y1 => ⟨by omega, by omega, ?_⟩, fun y1 => ⟨?_, by omega, ?_⟩⟩⟩⟩
      · rw [if_neg (fun q => y q.1)] at K; exact K
      · by_cases q : 0 ≤ hp M x1 (M 72 j)
        · rw [if_pos q] at y1
          rw [if_pos ⟨y, q⟩, show pw x2 (hp M x1 (M 72 j)).toNat = 0 by omega] at K
          exact K
        · rw [if_neg (fun z => q z.2)] at K; exact K
      · split <;> omega
      · by_cases q : 0 ≤ hp M x1 (M 72 j)
        · rw [if_pos q]
          rw [if_pos ⟨y, q⟩] at K
          exact K
        · rw [if_neg q] at y1; omega
  -- the levels
  have L74 : ∀ (r : Nat) (L x4 : Int) (M' : ax_M), L + 1 + r = M 61 0 → 0 ≤ L → Of 96 M M' → (∀ u, 0 ≤ u → u < M 61 0 → (tb x4 u = true ↔ 0 ≤ hp M x1 u ∧ hp M x1 u ≤ L)) → (∀ v, 0 ≤ v → v < M 61 0 → M' 96 v = if 0 ≤ hp M x1 v ∧ hp M x1 v ≤ L then pw x2 (hp M x1 v).toNat else -1) → ax_J Y_X11_knock (ax_Ki Y_X11_knock SH post) 0 0 74 [(0, aR 61), (2, aI x2), (3, aI (pw x2 L.toNat)), (4, aI x4), (5, aI (L + 1))] [] SH M' := by
    intro r
    induction r with
    | zero =>
      intro L x4 M' hL hL0 o hx hv
      refine B_X11_knock_74 ?_
      rw [o 61 (by decide)]
      refine ⟨fun _ => L262 _ 0 M' (Nat.zero_add _).symm o (fun v v0 v1 => ?_), fun z => by omega⟩
      rw [hv v v0 v1]
      have := hp_lt hp0 hpp v0 v1
      by_cases q : 0 ≤ hp M x1 v
      · rw [if_pos q, if_pos ⟨q, by omega⟩]
      · rw [if_neg q, if_neg (fun z => q z.1)]
    | succ r ih =>
      intro L x4 M' hL hL0 o hx hv
      have pr := pw_rg c2 c3 L.toNat
      have mr := mul_rg pr.1 pr.2 c2 c3
      have ep : pw x2 (L + 1).toNat = pw x2 L.toNat * x2 / 1000 := by rw [show (L + 1).toNat = L.toNat + 1 by omega]; rfl
      -- the places of the new level
      have L200 : ∀ (r2 : Nat) (i x6 : Int) (M2 : ax_M), i + r2 = M 61 0 → 0 ≤ i → Of 96 M M2 → (∀ v, 0 ≤ v → v < M 61 0 → (tb x6 v = true ↔ hp M x1 v = L + 1)) → (∀ v, 0 ≤ v → v < M 61 0 → M2 96 v = if 0 ≤ hp M x1 v ∧ (hp M x1 v ≤ L ∨ (hp M x1 v = L + 1 ∧ v < i)) then pw x2 (hp M x1 v).toNat else -1) → ax_J Y_X11_knock (ax_Ki Y_X11_knock SH post) 0 0 200 [(0, aR 61), (2, aI x2), (3, aI (pw x2 (L + 1).toNat)), (4, aI x4), (5, aI (L + 1)), (6, aI x6), (7, aI i)] [] SH M2 := by
        intro r2
        induction r2 with
        | zero =>
          intro i x6 M2 hi hi0 o2 h6 hv2
          refine B_X11_knock_200 ?_
          rw [o2 61 (by decide)]
          refine ⟨fun _ => ⟨by omega, ih (L + 1) _ M2 (by omega) (by omega) o2 (fun u u0 u1 => ?_) (fun v v0 v1 => ?_)⟩, fun z => by omega⟩
          · rw [tb_or, Bool.or_eq_true, hx u u0 u1, h6 u u0 u1]
            omega
          · rw [hv2 v v0 v1]
            by_cases q : 0 ≤ hp M x1 v ∧ hp M x1 v ≤ L + 1
            · rw [if_pos q, if_pos ⟨q.1, by omega⟩]
            · rw [if_neg q, if_neg (by omega)]
        | succ r2 ih2 =>
          intro i x6 M2 hi hi0 o2 h6 hv2
          have t6 := tb_yes (x := x6) (i := i) hi0 (by omega)
          have hi6 := h6 i hi0 (by omega)
          refine B_X11_knock_200 ?_
          rw [o2 61 (by decide), t6, hi6]
          refine ⟨fun _ => by omega, fun z => ⟨fun y => ⟨by omega, by omega, ?_⟩, fun y => ⟨by omega, by omega, ih2 (i + 1) x6 _ (by omega) (by omega) (o2.tr Of.up) h6 (fun v v0 v1 => ?_)⟩⟩⟩
          · rw [up_self]
            refine ih2 (i + 1) x6 M2 (by omega) (by omega) o2 h6 (fun v v0 v1 => ?_)
            rw [hv2 v v0 v1]
            by_cases q : 0 ≤ hp M x1 v ∧ (hp M x1 v ≤ L ∨ (hp M x1 v = L + 1 ∧ v < i))
            · rw [if_pos q, if_pos (by omega)]
            · rw [if_neg q, if_neg ?_]
              intro z
              by_cases e : v = i
              · subst e; omega
              · omega
          · rw [up_k]
            by_cases e : v = i
            · subst e
              rw [if_pos rfl, if_pos (by omega), y]
            · rw [if_neg e, hv2 v v0 v1]
              by_cases q : 0 ≤ hp M x1 v ∧ (hp M x1 v ≤ L ∨ (hp M x1 v = L + 1 ∧ v < i))
              · rw [if_pos q, if_pos (by omega)]
              · rw [if_neg q, if_neg (by omega)]
      -- the ways
      have L97 : ∀ (r2 : Nat) (k x6 : Int), k + r2 = M 61 3 → 0 ≤ k → (∀ v, 0 ≤ v → v < M 61 0 → (tb x6 v = true ↔ Nx M x4 v k)) → ax_J Y_X11_knock (ax_Ki Y_X11_knock SH post) 0 0 97 [(0, aR 61), (2, aI x2), (3, aI (pw x2 (L + 1).toNat)), (4, aI x4), (5, aI (L + 1)), (6, aI x6), (7, aI k)] [] SH M' := by
        intro r2
        induction r2 with
        | zero =>
          intro k x6 hk hk0 h6
          refine B_X11_knock_97 ?_
          rw [o 61 (by decide)]
          refine ⟨fun _ => L200 (M 61 0).toNat 0 _ M' (by omega) (by omega) o (fun v v0 v1 => ?_) (fun v v0 v1 => ?_), fun z => by omega⟩
          · rw [tb_and, tb_xor, tb_m1 (by omega), Bool.and_eq_true, h6 v v0 v1, ← nx_hp hp0 hpp hL0 v0 v1 hx, show k = M 61 3 by omega]
            cases tb x4 v <;> simp
          · rw [hv v v0 v1]
            by_cases q : 0 ≤ hp M x1 v ∧ hp M x1 v ≤ L
            · rw [if_pos q, if_pos (by omega)]
            · rw [if_neg q, if_neg (by omega)]
        | succ r2 ih2 =>
          intro k x6 hk hk0 h6
          have w := (hp0.1 k hk0 (by omega)).1
          have ta := tb_yes (x := x4) (i := M 62 k) (by omega) (by omega)
          have tc := tb_yes (x := x4) (i := M 63 k) (by omega) (by omega)
          refine B_X11_knock_97 ?_
          rw [o 61 (by decide), o 62 (by decide), o 63 (by decide), o 69 (by decide), ta, tc]
          have s62 : ∀ v, 0 ≤ v → v < M 61 0 → tb (bo_shl 1 (M 62 k)) v = decide (v = M 62 k) := fun v v0 v1 => tb_shl (by omega) (by omega) v0 (by omega)
          have s63 : ∀ v, 0 ≤ v → v < M 61 0 → tb (bo_shl 1 (M 63 k)) v = decide (v = M 63 k) := fun v v0 v1 => tb_shl (by omega) (by omega) v0 (by omega)
          refine ⟨fun _ => by omega, fun z => ⟨by omega, fun y => ⟨by omega, ih2 (k + 1) x6 (by omega) (by omega) (fun v v0 v1 => ?_)⟩, fun y => ⟨fun y1 => ⟨fun y2 => ⟨by omega, ih2 (k + 1) _ (by omega) (by omega) (fun v v0 v1 => ?_)⟩, fun y2 => ⟨by omega, ih2 (k + 1) _ (by omega) (by omega) (fun v v0 v1 => ?_)⟩⟩, fun y1 => ⟨fun y2 => ⟨by omega, ih2 (k + 1) _ (by omega) (by omega) (fun v v0 v1 => ?_)⟩, fun y2 => ⟨by omega, ih2 (k + 1) _ (by omega) (by omega) (fun v v0 v1 => ?_)⟩⟩⟩⟩⟩
          · rw [h6 v v0 v1, nx_s hk0]
            exact ⟨Or.inl, fun q => q.resolve_right (fun q => y q.1)⟩
          · rw [tb_or, tb_or, tb_0, Bool.or_false, Bool.or_false, h6 v v0 v1, nx_s hk0]
            simp [y, y1, y2]
          · rw [tb_or, tb_or, tb_0, s62 v v0 v1, Bool.or_false, Bool.or_eq_true, h6 v v0 v1, nx_s hk0]
            simp [y, y1, y2]
          · rw [tb_or, tb_or, tb_0, s63 v v0 v1, Bool.or_false, Bool.or_eq_true, h6 v v0 v1, nx_s hk0]
            simp [y, y1, y2]
          · rw [tb_or, tb_or, s62 v v0 v1, s63 v v0 v1, Bool.or_eq_true, Bool.or_eq_true, h6 v v0 v1, nx_s hk0]
            simp [y, y1, y2, or_assoc]
      refine B_X11_knock_74 ?_
      rw [o 61 (by decide), ← ep]
      refine ⟨fun z => by omega, fun z => ⟨by omega, mr.1, L97 (M 61 3).toNat 0 0 (by omega) (by omega) (fun v v0 v1 => ?_)⟩⟩
      rw [tb_0]
      exact ⟨fun q => by simp at q, fun ⟨j, a, b, _⟩ => by omega⟩
  -- the first
  have h0 : hp M x1 x1 = 0 := ds_src (uG_gd M _) (Int.le_refl 0)
  have hz : ∀ v, 0 ≤ v → v < M 61 0 → ((0 ≤ hp M x1 v ∧ hp M x1 v ≤ 0) ↔ v = x1) := by
    intro v v0 v1
    constructor
    · intro q
      rcases ds_sup (uG_gd M _) (Int.le_refl 0) q.1 with h1 | ⟨k, u, -, h2, h3, -⟩
      · exact h1.1
      · have a : 0 ≤ hp M x1 u := h2
        have b : hp M x1 u < hp M x1 v := h3
        omega
    · intro q; subst q; omega
  have L30 : ∀ (r : Nat) (i : Int) (M' : ax_M), i + r = M 61 0 → 0 ≤ i → Of 96 M M' → (∀ v, 0 ≤ v → v < i → M' 96 v = if v = x1 then 1000 else -1) → ax_J Y_X11_knock (ax_Ki Y_X11_knock SH post) 0 0 30 [(0, aR 61), (1, aI x1), (2, aI x2), (3, aI i)] [] SH M' := by
    intro r
    induction r with
    | zero =>
      intro i M' hi hi0 o hv
      refine B_X11_knock_30 ?_
      rw [o 61 (by decide)]
      refine ⟨fun _ => L74 ((M 61 0).toNat - 1) 0 _ M' (by omega) (Int.le_refl 0) o (fun u u0 u1 => ?_) (fun v v0 v1 => ?_), fun z => by omega⟩
      · rw [tb_shl (by omega) (by omega) u0 (by omega), hz u u0 u1]
        exact ⟨of_decide_eq_true, decide_eq_true⟩
      · rw [hv v v0 (by omega)]
        by_cases q : v = x1
        · rw [if_pos q, if_pos ((hz v v0 v1).mpr q), q, h0]; rfl
        · rw [if_neg q, if_neg (fun z => q ((hz v v0 v1).mp z))]
    | succ r ih =>
      intro i M' hi hi0 o hv
      refine B_X11_knock_30 ?_
      rw [o 61 (by decide)]
      refine ⟨fun _ => by omega, fun z => ⟨fun y => ⟨by omega, by omega, ih (i + 1) _ (by omega) (by omega) (o.tr Of.up) (fun v v0 v1 => ?_)⟩, fun y => ⟨by omega, by omega, ih (i + 1) _ (by omega) (by omega) (o.tr Of.up) (fun v v0 v1 => ?_)⟩⟩⟩
      · rw [up_k]
        by_cases e : v = i
        · rw [if_pos e, if_neg (by omega)]
        · rw [if_neg e]; exact hv v v0 (by omega)
      · rw [up_k]
        by_cases e : v = i
        · rw [if_pos e, if_pos (by omega)]
        · rw [if_neg e]; exact hv v v0 (by omega)
  exact L30 (M 61 0).toNat 0 M (by omega) (Int.le_refl 0) Of.rf (fun v a b => by omega)
theorem C_knock {n : Int} {M : ax_M} {x1 x2 : Int} (hI : Inv n M) : ax_Ti Y_X10_knock [aR 0, aI x1, aI x2] SH M (fun z1 u1 => ax_Ti Y_X11_knock [aR 61, aI x1, aI x2] SH u1 (fun z2 u2 => z1 = z2 ∧ Inv (n + 1) u2)) :=
  S_X10_knock hI (fun M1 h1 => S_X11_knock (inv_sam h1 hI) (fun M2 h2 => ⟨by rw [fKnock_sam h1], inv_up (inv_sam h2 (inv_sam h1 hI))⟩))
