theorem bo_or01 {x y : Int} (hx : x = 0 ∨ x = 1) (hy : y = 0 ∨ y = 1) : (bo_or x y = 0 ∨ bo_or x y = 1) ∧ (bo_or x y = 0 ↔ x = 0 ∧ y = 0) := by
  rcases hx with rfl | rfl <;> rcases hy with rfl | rfl <;> decide
theorem S_X9_comesSooner {post : Int → ax_M → Prop} {M : ax_M} {ma me e s k u v : Int} (hp : PitOk M) (hP : Prep M ma me e s) (hma : -1 ≤ ma) (he : -1 ≤ e ∧ e ≤ 99) (hme : -1 ≤ me ∧ me ≤ 99) (hk : 0 ≤ k) (hkn : k < M 61 3) (hu : 0 ≤ u ∧ u < 12) (hv : 0 ≤ v ∧ v < 12) (hu2 : So1 (M 38 u)) (hv2 : So1 (M 38 v)) (h : ∀ z M', Rx (gg M ma me e s) k u v (M 38) (M' 38) → (z = 0 ∧ M' = M ∨ z = 1 ∧ ∃ x, M' = ax_up M 38 v x ∧ 0 ≤ x ∧ x ≤ 99 ∧ (M 38 v = -1 ∨ x < M 38 v)) → post z M') : ax_Ti Y_X9_comesSooner [aR 33, aI k, aI u, aI v] SH M post := by
  unfold So1 at hu2 hv2
  have hk0 : ∀ (hn : 0 ≤ M 38 u → 0 ≤ gg M ma me e s k (M 38 u) → 0 ≤ M 38 v ∧ M 38 v ≤ gg M ma me e s k (M 38 u)), post 0 M := fun hn => h 0 M ⟨fun j _ => rfl, Or.inl ⟨rfl, hn⟩⟩ (Or.inl ⟨rfl, rfl⟩)
  refine E_X9_comesSooner (fun _ => ⟨hu, fun c => ?_, fun c => hk0 (fun q => by omega)⟩)
  refine S_X9_through hp hP hma he hme hk hkn (by omega) ?_
  have hg := gg_99 hp ma me e s (t := M 38 u) hk hkn
  have hg2 := gg_ge hp ma me e s (t := M 38 u) hk hkn (by omega)
  have hk1 : 0 ≤ gg M ma me e s k (M 38 u) → (M 38 v = -1 ∨ gg M ma me e s k (M 38 u) < M 38 v) → post 1 (ax_up M 38 v (gg M ma me e s k (M 38 u))) := by
    intro q1 q2
    exact h 1 _ ⟨fun j hj => up_ne M 38 _ hj, Or.inr ⟨by omega, q1, up_at _ _ _ _, q2⟩⟩ (Or.inr ⟨rfl, _, rfl, q1, hg, q2⟩)
  refine ⟨fun c1 => hk0 (fun _ q => by omega), fun c1 => ⟨hv, fun c2 => hk1 (by omega) (by omega), fun c2 => ⟨fun c3 => hk1 (by omega) (by omega), fun c3 => hk0 (fun _ _ => by omega)⟩⟩⟩
/-- within spread: M0 at the start, M now -/
def SpI (M0 : ax_M) (ma me e s p t : Int) (M : ax_M) : Prop := Of 38 M0 M ∧ (∀ v, 0 ≤ v → v < M0 61 0 → So1 (M 38 v)) ∧ M 38 p = t
theorem pit_of38 {M M' : ax_M} (h : Of 38 M M') (hp : PitOk M) : PitOk M' := by
  unfold PitOk WayOk at *
  rw [h 61 (by decide), h 62 (by decide), h 63 (by decide), h 64 (by decide), h 65 (by decide), h 66 (by decide), h 67 (by decide), h 68 (by decide)]
  exact hp
theorem prep_of38 {M M' : ax_M} {ma me e s : Int} (h : Of 38 M M') (hp : Prep M ma me e s) : Prep M' ma me e s := by
  unfold Prep at *
  rw [h 61 (by decide), h 62 (by decide), h 63 (by decide), h 64 (by decide), h 65 (by decide), h 67 (by decide), h 69 (by decide), h 34 (by decide), h 35 (by decide), h 36 (by decide), h 37 (by decide)]
  exact hp
theorem gg_of38 {M M' : ax_M} (h : Of 38 M M') : gg M' = gg M := gg_ofs (l := [38]) (h.s (by decide)) (by decide)
theorem spI_step {M0 M M' : ax_M} {ma me e s p t k u v : Int} {r : Nat} (hp : PitOk M0) (ht : 0 ≤ t) (hpp : 0 ≤ p ∧ p < M0 61 0) (hI : SpI M0 ma me e s p t M) (hlo : Lo (so M0 ma me e s p t) (mk (M0 61 0) (M 38))) (he : Ed (M0 62) (M0 63) (M0 61 3) k u v) (hx : Rx (gg M0 ma me e s) k u v (M 38) (M' 38)) (hc : M' = M ∨ ∃ x, M' = ax_up M 38 v x ∧ 0 ≤ x ∧ x ≤ 99 ∧ (M 38 v = -1 ∨ x < M 38 v)) : SpI M0 ma me e s p t M' ∧ Rx (gg M0 ma me e s) k u v (mk (M0 61 0) (M 38)) (mk (M0 61 0) (M' 38)) := by
  have hG := gg_gd hp ma me e s
  obtain ⟨h1, h2, h4⟩ := hI
  obtain ⟨e1, -, -⟩ := hp.1 k he.1 he.2.1
  have huv : (0 ≤ u ∧ u < M0 61 0) ∧ (0 ≤ v ∧ v < M0 61 0) := by
    rcases he.2.2 with ⟨a, b⟩ | ⟨a, b⟩ <;> rw [a, b] <;> omega
  have hxm := rx_mk huv.1 huv.2 hx
  have h3' : Lo (so M0 ma me e s p t) (mk (M0 61 0) (M' 38)) := rx_lo hG ht he hxm hlo
  refine ⟨?_, hxm⟩
  rcases hc with rfl | ⟨x, rfl, x0, x1, x2⟩
  · exact ⟨h1, h2, h4⟩
  · refine ⟨h1.tr Of.up, fun j j0 j1 => ?_, ?_⟩
    · by_cases hj : j = v
      · subst hj; rw [up_at]; exact Or.inr ⟨x0, x1⟩
      · rw [up_ne M 38 _ hj]; exact h2 j j0 j1
    · by_cases hj : p = v
      · subst hj
        have h5 := h3' p
        rw [mk_in hpp, up_at] at h5
        have h6 : so M0 ma me e s p t p = t := ds_src hG ht
        rw [up_at]
        rw [h6] at h5
        omega
      · rw [up_ne M 38 _ hj]; exact h4
def SpQ (M0 : ax_M) (ma me e s p t : Int) (Ms M : ax_M) (r : Nat) (k f : Int) : Prop := SpI M0 ma me e s p t M ∧ Rd (gg M0 ma me e s) (M0 62) (M0 63) (M0 61 3) (so M0 ma me e s p t) (mk (M0 61 0) (M 38)) (M0 61 0).toNat r k ∧ (f = 0 ∨ f = 1) ∧ (f = 0 → M = Ms ∧ Nc (gg M0 ma me e s) (M0 62) (M0 63) (M0 61 3) (M 38) k)
set_option maxHeartbeats 4000000 in
set_option maxRecDepth 100000 in
theorem L_X9_spread_36 {post : ax_M → Prop} {M0 Ms : ax_M} {ma me e s p t r : Int} (hw : WX M0) (hP : Prep M0 ma me e s) (hma : -1 ≤ ma) (he : -1 ≤ e ∧ e ≤ 99) (hme : -1 ≤ me ∧ me ≤ 99) (ht : 0 ≤ t) (hpp : 0 ≤ p ∧ p < M0 61 0) (hr : 0 ≤ r ∧ r < 12)
    (hx : ∀ M f, SpQ M0 ma me e s p t Ms M r.toNat (M0 61 3) f → ax_J Y_X9_spread (ax_Kv Y_X9_spread SH post) 0 0 20 [(0, aR 33), (3, aI f), (4, aI (r + 1))] [] SH M) :
    ∀ (j : Nat) (k f : Int) (M : ax_M), 0 ≤ k → k + (j : Int) = M0 61 3 → SpQ M0 ma me e s p t Ms M r.toNat k f → ax_J Y_X9_spread (ax_Kv Y_X9_spread SH post) 0 0 36 [(0, aR 33), (3, aI f), (4, aI r), (5, aI k)] [] SH M := by
  have hp := hw.1
  have hG := gg_gd hp ma me e s
  have hw24 := hp.2.1
  have hp12 : M0 61 0 ≤ 12 := by have := hp.2.2; omega
  intro j
  induction j with
  | zero =>
    intro k f M hk hkj hQ
    have hk3 : k = M0 61 3 := by omega
    refine B_X9_spread_36 ⟨fun _ => ⟨by omega, hx M f (by rw [← hk3]; exact hQ)⟩, fun c => ?_⟩
    rw [hQ.1.1 6 (by decide), hw.2.2.1] at c; omega
  | succ j ih =>
    intro k f M hk hkj hQ
    obtain ⟨hI, hR, hf1, hf⟩ := hQ
    have hkn : k < M0 61 3 := by omega
    have e6 : M 6 = M0 6 := hI.1 6 (by decide)
    have e7 : M 7 = M0 7 := hI.1 7 (by decide)
    have e61 : M 61 = M0 61 := hI.1 61 (by decide)
    obtain ⟨b0, -, -⟩ := hp.1 k hk hkn
    obtain ⟨⟨f0, f1, -, -⟩, -⟩ := hw.2.2.2.2.2 k hk hkn
    have he1 : Ed (M0 62) (M0 63) (M0 61 3) k (M0 62 k) (M0 63 k) := ⟨hk, hkn, Or.inl ⟨rfl, rfl⟩⟩
    have he2 : Ed (M0 62) (M0 63) (M0 61 3) k (M0 63 k) (M0 62 k) := ⟨hk, hkn, Or.inr ⟨rfl, rfl⟩⟩
    refine B_X9_spread_36 ⟨fun c => by rw [e6, hw.2.2.1] at c; omega, fun c => ⟨by omega, by omega, by omega, by omega, by omega, ?_⟩⟩
    rw [e7, f0, f1]
    refine S_X9_comesSooner (ma := ma) (me := me) (e := e) (s := s) (pit_of38 hI.1 hp) (prep_of38 hI.1 hP) hma he hme hk (by rw [e61]; exact hkn) (by omega) (by omega) (hI.2.1 _ (by omega) (by omega)) (hI.2.1 _ (by omega) (by omega)) (fun z M1 hx1 hc1 => ?_)
    rw [gg_of38 hI.1] at hx1
    obtain ⟨hI1, hxm1⟩ := spI_step (r := 0) hp ht hpp hI hR.1 he1 hx1 (by rcases hc1 with ⟨-, h⟩ | ⟨-, h⟩; exact Or.inl h; exact Or.inr h)
    have hlo1 := rx_lo hG ht he1 hxm1 hR.1
    have hz : z = 0 ∨ z = 1 := by rcases hc1 with ⟨h, -⟩ | ⟨h, -⟩; exact Or.inl h; exact Or.inr h
    have sec : ∀ {post2 : Int → ax_M → Prop}, (∀ z2 M2, Rx (gg M1 ma me e s) k (M0 63 k) (M0 62 k) (M1 38) (M2 38) → (z2 = 0 ∧ M2 = M1 ∨ z2 = 1 ∧ ∃ x, M2 = ax_up M1 38 (M0 62 k) x ∧ 0 ≤ x ∧ x ≤ 99 ∧ (M1 38 (M0 62 k) = -1 ∨ x < M1 38 (M0 62 k))) → post2 z2 M2) → ax_Ti Y_X9_comesSooner [aR 33, aI k, aI (M0 63 k), aI (M0 62 k)] SH M1 post2 := fun h => S_X9_comesSooner (ma := ma) (me := me) (e := e) (s := s) (pit_of38 hI1.1 hp) (prep_of38 hI1.1 hP) hma he hme hk (by rw [hI1.1 61 (by decide)]; exact hkn) (by omega) (by omega) (hI1.2.1 _ (by omega) (by omega)) (hI1.2.1 _ (by omega) (by omega)) h
    have fin : ∀ (z2 : Int) (M2 : ax_M) (f2 : Int), Rx (gg M1 ma me e s) k (M0 63 k) (M0 62 k) (M1 38) (M2 38) → (z2 = 0 ∧ M2 = M1 ∨ z2 = 1 ∧ ∃ x, M2 = ax_up M1 38 (M0 62 k) x ∧ 0 ≤ x ∧ x ≤ 99 ∧ (M1 38 (M0 62 k) = -1 ∨ x < M1 38 (M0 62 k))) → (f2 = 0 ∨ f2 = 1) → (f2 = 0 → f = 0 ∧ z = 0 ∧ z2 = 0) → (-2147483648 ≤ k + 1 ∧ k + 1 ≤ 2147483647) ∧ ax_J Y_X9_spread (ax_Kv Y_X9_spread SH post) 0 0 36 [(0, aR 33), (3, aI f2), (4, aI r), (5, aI (k + 1))] [] SH M2 := by
      intro z2 M2 f2 hx2 hc2 hf2 hff
      rw [gg_of38 hI1.1] at hx2
      obtain ⟨hI2, hxm2⟩ := spI_step (r := 0) hp ht hpp hI1 hlo1 he2 hx2 (by rcases hc2 with ⟨-, h⟩ | ⟨-, h⟩; exact Or.inl h; exact Or.inr h)
      refine ⟨by omega, ih (k + 1) _ M2 (by omega) (by omega) ⟨hI2, rd_s hG ht hk hkn hR hxm1 hxm2, hf2, fun hz0 => ?_⟩⟩
      obtain ⟨q3, q4, q2⟩ := hff hz0
      obtain ⟨hMs, hN⟩ := hf q3
      have hM1 : M1 = M := by
        rcases hc1 with ⟨-, b⟩ | ⟨a, -⟩
        · exact b
        · omega
      have hM2 : M2 = M := by
        rcases hc2 with ⟨-, b⟩ | ⟨a, -⟩
        · rw [b, hM1]
        · omega
      refine ⟨by rw [hM2]; exact hMs, ?_⟩
      rw [hM2]
      rw [hM1] at hx1
      rw [hM2, hM1] at hx2
      intro k' u v he hk' q1 q2
      rcases Int.lt_or_le k' k with h | h
      · exact hN k' u v he h q1 q2
      · have hkk : k' = k := by omega
        subst hkk
        rcases he.2.2 with ⟨a, b⟩ | ⟨a, b⟩
        · subst a; subst b
          rcases hx1.2 with ⟨-, d⟩ | ⟨-, -, d, d2⟩
          · exact d q1 q2
          · omega
        · subst a; subst b
          rcases hx2.2 with ⟨-, d⟩ | ⟨-, -, d, d2⟩
          · exact d q1 q2
          · omega
    exact ⟨fun c1 => sec (fun z2 M2 a b => ⟨fun _ => fin z2 M2 1 a b (Or.inr rfl) (fun h => by omega), fun _ => fin z2 M2 1 a b (Or.inr rfl) (fun h => by omega)⟩), fun c1 => ⟨fun c2 => sec (fun z2 M2 a b => ⟨fun _ => fin z2 M2 1 a b (Or.inr rfl) (fun h => by omega), fun c3 => fin z2 M2 0 a b (Or.inl rfl) (fun _ => ⟨c2, c1, c3⟩)⟩), fun c2 => sec (fun z2 M2 a b => ⟨fun _ => fin z2 M2 1 a b (Or.inr rfl) (fun h => by omega), fun _ => fin z2 M2 1 a b (Or.inr rfl) (fun h => by omega)⟩)⟩⟩
set_option maxHeartbeats 4000000 in
set_option maxRecDepth 100000 in
theorem S_X9_spread {post : ax_M → Prop} {M : ax_M} {ma me e s p t : Int} (hw : WX M) (hP : Prep M ma me e s) (hma : -1 ≤ ma) (he : -1 ≤ e ∧ e ≤ 99) (hme : -1 ≤ me ∧ me ≤ 99) (ht : 0 ≤ t ∧ t ≤ 99) (hpp : 0 ≤ p ∧ p < M 61 0) (h : ∀ M', Of 38 M M' → (∀ v, 0 ≤ v ∧ v < M 61 0 → M' 38 v = so M ma me e s p t v) → post M') : ax_Tv Y_X9_spread [aR 33, aI p, aI t] SH M post := by
  have hp := hw.1
  have hG := gg_gd hp ma me e s
  have hw24 := hp.2.1
  have hp12 : M 61 0 ≤ 12 := by have := hp.2.2; omega
  have hend := pit_end hp
  have key : ∀ (j : Nat) (r f : Int) (M1 : ax_M), 0 ≤ r → r + (j : Int) = 12 → SpI M ma me e s p t M1 → Lo (so M ma me e s p t) (mk (M 61 0) (M1 38)) → Stl (so M ma me e s p t) (mk (M 61 0) (M1 38)) (M 61 0).toNat r.toNat → (f = 0 → Nc (gg M ma me e s) (M 62) (M 63) (M 61 3) (M1 38) (M 61 3)) → ax_J Y_X9_spread (ax_Kv Y_X9_spread SH post) 0 0 20 [(0, aR 33), (3, aI f), (4, aI r)] [] SH M1 := by
    intro j
    induction j with
    | zero =>
      intro r f M1 h0 hr hI hl hS hf
      refine B_X9_spread_20 ⟨fun _ => h M1 hI.1 (fun v hv => ?_), fun c => by omega⟩
      have h2 := stl_ds hG ht.1 hl hS (by omega) hv.1 (by omega)
      rw [mk_in hv] at h2
      exact h2
    | succ j ih =>
      intro r f M1 h0 hr hI hl hS hf
      refine B_X9_spread_20 ⟨fun c => by omega, fun c => ⟨fun c1 => h M1 hI.1 (fun v hv => ?_), fun c1 => ?_⟩⟩
      · have h5 := ds_fix (ea := M 62) (eb := M 63) (p := p) (W := mk (M 61 0) (M1 38)) hG ht.1 hl (by rw [mk_in hpp, hI.2.2]; omega) (fun k u w he q1 q2 => by
          obtain ⟨e1, -, -⟩ := hp.1 k he.1 he.2.1
          have huv : (0 ≤ u ∧ u < M 61 0) ∧ (0 ≤ w ∧ w < M 61 0) := by
            rcases he.2.2 with ⟨a, b⟩ | ⟨a, b⟩ <;> rw [a, b] <;> omega
          rw [mk_in huv.1] at q1 q2 ⊢
          rw [mk_in huv.2]
          exact hf c1 k u w he he.2.1 q1 q2) v
        rw [mk_in hv] at h5
        exact h5
      · refine L_X9_spread_36 (M0 := M) (Ms := M1) (ma := ma) (me := me) (e := e) (s := s) (p := p) (t := t) hw hP hma he hme ht.1 hpp (by omega) (fun M2 f2 hQ => ?_) (M 61 3).toNat 0 0 M1 (Int.le_refl _) (by omega) ⟨hI, rd_0 hl hS, Or.inl rfl, fun _ => ⟨rfl, fun k u v he hk => by have := he.1; omega⟩⟩
        obtain ⟨hI2, hR2, hf2, hf3⟩ := hQ
        refine ih (r + 1) f2 M2 (by omega) (by omega) hI2 hR2.1 ?_ (fun z => (hf3 z).2)
        have h6 := rd_end hG ht.1 hend (by rw [mk_in hpp]; exact hI2.2.2) hR2
        rw [show (r + 1).toNat = r.toNat + 1 by omega]
        exact h6
  refine E_X9_spread (fun _ => S_fill_38 ⟨by omega, ?_⟩)
  have hO : Of 38 M (ax_up (ax_fl M 38 12 (-1)) 38 p t) := fun a ha => by rw [up_off _ _ _ ha, fl_off ha]
  have hat : ∀ v, 0 ≤ v → v < M 61 0 → ax_up (ax_fl M 38 12 (-1)) 38 p t 38 v = if v = p then t else -1 := by
    intro v h0 h1
    by_cases hv : v = p
    · rw [if_pos hv, hv, up_at]
    · rw [if_neg hv, up_ne _ 38 _ hv, fl_in (by omega)]
  have hmk : ∀ v, mk (M 61 0) (ax_up (ax_fl M 38 12 (-1)) 38 p t 38) v = if v = p then t else -1 := by
    intro v
    unfold mk
    by_cases hv : 0 ≤ v ∧ v < M 61 0
    · rw [if_pos hv]; exact hat v hv.1 hv.2
    · rw [if_neg hv, if_neg (by omega)]
  refine key 12 0 1 _ (Int.le_refl _) (by omega) ⟨hO, fun v h0 h1 => ?_, up_at _ _ _ _⟩ (fun v => ?_) ?_ (fun z => by omega)
  · rw [hat v h0 h1]
    unfold So1
    split <;> omega
  · rw [hmk]
    by_cases hv : v = p
    · rw [if_pos hv, hv]
      right
      have h6 : so M ma me e s p t p = t := ds_src hG ht.1
      rw [h6]; omega
    · rw [if_neg hv]; exact Or.inl rfl
  · refine stl_0 hG ht.1 ?_ (by omega) hend
    rw [hmk, if_pos rfl]
