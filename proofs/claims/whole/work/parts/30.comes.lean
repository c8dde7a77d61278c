set_option maxHeartbeats 4000000 in
set_option maxRecDepth 100000 in
theorem S_X11_walk {post : ax_M → Prop} {M : ax_M} {e s p t : Int} (hp : PitOk M) (ht : 0 ≤ t ∧ t ≤ 99) (hpp : 0 ≤ p ∧ p < M 61 0) (hx : ∀ M', Of 77 M M' → (∀ v, 0 ≤ v ∧ v < M 61 0 → M' 77 v = so M (M 61 32) (M 61 33) e s p t v) → post M') : ax_Tv Y_X11_walk [aR 61, aI p, aI t, aI e, aI s] SH M post := by
  have hp12 : M 61 0 ≤ 12 := by have := hp.2.2; omega
  have hG := gg_gd hp (M 61 32) (M 61 33) e s
  have key : ∀ (j : Nat) (q : Int) (M1 : ax_M), 0 ≤ q → q + (j : Int) = M 61 0 → Of 77 M M1 → (∀ v, 0 ≤ v → v < q → M1 77 v = if v = p then t else -1) → ax_J Y_X11_walk (ax_Kv Y_X11_walk SH post) 0 0 3 [(0, aR 61), (1, aI p), (2, aI t), (3, aI e), (4, aI s), (5, aI q)] [] SH M1 := by
    intro j
    induction j with
    | zero =>
      intro q M1 h0 hq hO hv
      have e61 := hO 61 (by decide)
      refine B_X11_walk_3 ⟨fun _ => ?_, fun c => by rw [e61] at c; omega⟩
      have hm := mu_0 (M1 77) 12
      refine L_X11_walk_39 (M0 := M) (p := p) (t := t) hp ht.1 hpp hx ((mu (M1 77) 12).toNat + 1) 1 M1 (by omega) ⟨hO, fun v a b => ?_, fun v => ?_, ?_⟩ (fun z => by omega)
      · rw [hv v a (by omega)]
        unfold So1
        split <;> omega
      · unfold mk
        by_cases hvv : 0 ≤ v ∧ v < M 61 0
        · rw [if_pos hvv, hv v hvv.1 (by omega)]
          by_cases hvp : v = p
          · rw [if_pos hvp, hvp]
            right
            have h6 : so M (M 61 32) (M 61 33) e s p t p = t := ds_src hG ht.1
            rw [h6]; omega
          · rw [if_neg hvp]; exact Or.inl rfl
        · rw [if_neg hvv]; exact Or.inl rfl
      · rw [hv p hpp.1 (by omega), if_pos rfl]
    | succ j ih =>
      intro q M1 h0 hq hO hv
      have e61 := hO 61 (by decide)
      have step : ∀ x, x = (if q = p then t else -1) → ax_J Y_X11_walk (ax_Kv Y_X11_walk SH post) 0 0 3 [(0, aR 61), (1, aI p), (2, aI t), (3, aI e), (4, aI s), (5, aI (q + 1))] [] SH (ax_up M1 77 q x) := by
        intro x hxx
        refine ih (q + 1) _ (by omega) (by omega) (hO.tr Of.up) (fun v a b => ?_)
        by_cases hvq : v = q
        · rw [hvq, up_at]; exact hxx
        · rw [up_ne M1 77 _ hvq]; exact hv v a (by omega)
      refine B_X11_walk_3 ⟨fun c => by rw [e61] at c; omega, fun c => ⟨fun c1 => ⟨by omega, by omega, step _ (by rw [if_neg c1])⟩, fun c1 => ⟨by omega, by omega, step _ (by rw [if_pos c1])⟩⟩⟩
  refine E_X11_walk (fun _ => ?_)
  exact key (M 61 0).toNat 0 M (Int.le_refl _) (by omega) Of.rf (fun v a b => by omega)
theorem S_X11_comes {post : Int → ax_M → Prop} {M : ax_M} {e s p q t : Int} (hp : PitOk M) (ht : 0 ≤ t ∧ t ≤ 99) (hpp : 0 ≤ p ∧ p < M 61 0) (hq : 0 ≤ q ∧ q < M 61 0) (h : ∀ M', Of 77 M M' → post (so M (M 61 32) (M 61 33) e s p t q) M') : ax_Ti Y_X11_comes [aR 61, aI p, aI q, aI t, aI e, aI s] SH M post := by
  have hp12 : M 61 0 ≤ 12 := by have := hp.2.2; omega
  refine E_X11_comes (fun _ => S_X11_walk hp ht hpp (fun M1 hO hv => ⟨by omega, ?_⟩))
  rw [hv q hq]
  exact h M1 hO
theorem so_of {M M' : ax_M} {q : Nat} (h : Of q M M') (hq : 70 ≤ q) : so M' = so M := by
  funext ma me e s p t v
  unfold so
  rw [gg_of h hq, h 62 (by omega), h 63 (by omega), h 61 (by omega)]
theorem S_X11_lastOf {post : Int → ax_M → Prop} {M : ax_M} {e s p : Int} (hp : PitOk M) (hpp : 0 ≤ p ∧ p < M 61 0) (h : ∀ M', Of 77 M M' → post (la M (M 61 32) (M 61 33) e s p (M 61 1) 99) M') : ax_Ti Y_X11_lastOf [aR 61, aI p, aI e, aI s] SH M post := by
  have hsh : 0 ≤ M 61 1 ∧ M 61 1 < M 61 0 := by have := hp.2.2; omega
  have hl := la_ge (p := p) (q := M 61 1) (b := 99) hp (ma := M 61 32) (me := M 61 33) (e := e) (s := s) (by omega) (by omega)
  have key : ∀ (j : Nat) (t : Int) (M1 : ax_M), t + 1 = (j : Int) → t ≤ 99 → Of 77 M M1 → la M (M 61 32) (M 61 33) e s p (M 61 1) 99 ≤ t → ax_J Y_X11_lastOf (ax_Ki Y_X11_lastOf SH post) 0 0 4 [(0, aR 61), (1, aI p), (2, aI e), (3, aI s), (4, aI t)] [] SH M1 := by
    intro j
    induction j with
    | zero =>
      intro t M1 hj ht hO hla
      refine B_X11_lastOf_4 ⟨fun _ => ?_, fun c => by omega⟩
      have h1 := h M1 hO
      rw [show la M (M 61 32) (M 61 33) e s p (M 61 1) 99 = -1 by omega] at h1
      exact h1
    | succ j ih =>
      intro t M1 hj ht hO hla
      have e61 := hO 61 (by decide)
      refine B_X11_lastOf_4 ⟨fun c => by omega, fun c => ?_⟩
      rw [e61]
      refine S_X11_comes (pit_of hO (by decide) hp) (by omega) (by rw [e61]; exact hpp) (by rw [e61]; exact hsh) (fun M2 hO2 => ?_)
      rw [so_of hO (by decide), e61]
      have hi := la_iff (p := p) (q := M 61 1) (b := 99) (t := t) hp (ma := M 61 32) (me := M 61 33) (e := e) (s := s) (by omega) c
      have h99 := so_99 (p := p) (q := M 61 1) (t := t) hp (ma := M 61 32) (me := M 61 33) (e := e) (s := s) c (by omega)
      refine ⟨fun c1 => ⟨by omega, ih (t + -1) M2 (by omega) (by omega) (hO.tr hO2) ?_⟩, fun c1 => ?_⟩
      · rcases Int.lt_or_le (la M (M 61 32) (M 61 33) e s p (M 61 1) 99) t with h2 | h2
        · omega
        · have := hi.mp h2
          omega
      · have h2 := hi.mpr ⟨c1, h99⟩
        have h1 := h M2 (hO.tr hO2)
        rw [show la M (M 61 32) (M 61 33) e s p (M 61 1) 99 = t by omega] at h1
        exact h1
  refine E_X11_lastOf (fun _ => ?_)
  exact key 100 99 M (by omega) (by omega) Of.rf (by omega)
