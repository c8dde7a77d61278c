/-- minutes turned round -/
def fv (f : Int → Int) : Int → Int := fun v => if f v = -1 then -1 else 99 - f v
def gB (M : ax_M) (ma me e s : Int) : Int → Int → Int := Gb (hh M ma me e s)
theorem gB_gd {M : ax_M} (h : PitOk M) (ma me e s : Int) : Gd (gB M ma me e s) (M 61 3) := gb_gd (gg_gd h ma me e s) (gg_gl h ma me e s)
theorem S_X9_leavesLater {post : Int → ax_M → Prop} {M : ax_M} {ma me e s k u v : Int} (hp : PitOk M) (hP : Prep M ma me e s) (hma : -1 ≤ ma) (he : -1 ≤ e ∧ e ≤ 99) (hme : -1 ≤ me ∧ me ≤ 99) (hk : 0 ≤ k) (hkn : k < M 61 3) (hu : 0 ≤ u ∧ u < 12) (hv : 0 ≤ v ∧ v < 12) (hu2 : So1 (M 39 u)) (hv2 : So1 (M 39 v)) (h : ∀ z M', Rx (gB M ma me e s) k v u (fv (M 39)) (fv (M' 39)) → (z = 0 ∧ M' = M ∨ z = 1 ∧ ∃ x, M' = ax_up M 39 u x ∧ 0 ≤ x ∧ x ≤ 99 ∧ M 39 u < x) → post z M') : ax_Ti Y_X9_leavesLater [aR 33, aI k, aI u, aI v] SH M post := by
  unfold So1 at hu2 hv2
  have hk0 : ∀ (hn : 0 ≤ fv (M 39) v → 0 ≤ gB M ma me e s k (fv (M 39) v) → 0 ≤ fv (M 39) u ∧ fv (M 39) u ≤ gB M ma me e s k (fv (M 39) v)), post 0 M := fun hn => h 0 M ⟨fun j _ => rfl, Or.inl ⟨rfl, hn⟩⟩ (Or.inl ⟨rfl, rfl⟩)
  refine E_X9_leavesLater (fun _ => ⟨hv, fun c => ?_, fun c => hk0 (fun q => by unfold fv at q; rw [if_pos c] at q; omega)⟩)
  refine S_X9_lastInto hp hP hma he hme hk hkn (by omega) ⟨hu, ?_⟩
  have hv3 : fv (M 39) v = 99 - M 39 v := by unfold fv; rw [if_neg c]
  have hgb : gB M ma me e s k (fv (M 39) v) = if hh M ma me e s k (M 39 v) = -1 then -1 else 99 - hh M ma me e s k (M 39 v) := by
    unfold gB Gb
    rw [hv3, show 99 - (99 - M 39 v) = M 39 v by omega]
  have hl := gg_gl hp ma me e s
  have hlt : 0 ≤ hh M ma me e s k (M 39 v) → hh M ma me e s k (M 39 v) < M 39 v := gl_lt (gg_gd hp ma me e s) hl hk hkn
  have hge := (hl k hk hkn).2 (M 39 v)
  refine ⟨fun c1 => ?_, fun c1 => hk0 (fun q1 q2 => ?_)⟩
  · have hz : 0 ≤ hh M ma me e s k (M 39 v) := by omega
    have hz2 := hlt hz
    rw [if_neg (by omega)] at hgb
    refine h 1 _ ⟨fun j hj => ?_, Or.inr ⟨by omega, by omega, ?_, ?_⟩⟩ (Or.inr ⟨rfl, _, rfl, hz, by omega, c1⟩)
    · unfold fv; rw [up_ne M 39 _ hj]
    · rw [hgb]; unfold fv; rw [up_at, if_neg (by omega)]
    · rw [hgb]; unfold fv
      by_cases h1 : M 39 u = -1
      · rw [if_pos h1]; exact Or.inl rfl
      · rw [if_neg h1]; right; omega
  · rw [hgb] at q2 ⊢
    by_cases h1 : hh M ma me e s k (M 39 v) = -1
    · rw [if_pos h1] at q2; omega
    · rw [if_neg h1] at q2 ⊢
      unfold fv
      rw [if_neg (by omega)]
      omega
/-- within gather: M0 at the start, M now -/
def GaI (M0 : ax_M) (ma me e s p t : Int) (M : ax_M) : Prop := Of 39 M0 M ∧ (∀ v, 0 ≤ v → v < M0 61 0 → So1 (M 39 v)) ∧ fv (M 39) p = t
theorem pit_of39 {M M' : ax_M} (h : Of 39 M M') (hp : PitOk M) : PitOk M' := by
  unfold PitOk WayOk at *
  rw [h 61 (by decide), h 62 (by decide), h 63 (by decide), h 64 (by decide), h 65 (by decide), h 66 (by decide), h 67 (by decide), h 68 (by decide)]
  exact hp
theorem prep_of39 {M M' : ax_M} {ma me e s : Int} (h : Of 39 M M') (hp : Prep M ma me e s) : Prep M' ma me e s := by
  unfold Prep at *
  rw [h 61 (by decide), h 62 (by decide), h 63 (by decide), h 64 (by decide), h 65 (by decide), h 67 (by decide), h 69 (by decide), h 34 (by decide), h 35 (by decide), h 36 (by decide), h 37 (by decide)]
  exact hp
theorem gb_of39 {M M' : ax_M} (h : Of 39 M M') : gB M' = gB M := by
  funext ma me e s
  unfold gB
  rw [hh_ofs (l := [39]) (h.s (by decide)) (by decide)]
theorem gaI_step {M0 M M' : ax_M} {ma me e s p t k u v : Int} {r : Nat} (hp : PitOk M0) (ht : 0 ≤ t) (hpp : 0 ≤ p ∧ p < M0 61 0) (hI : GaI M0 ma me e s p t M) (hlo : Lo (ds (gB M0 ma me e s) (M0 63) (M0 62) (M0 61 3) p t) (mk (M0 61 0) (fv (M 39)))) (he : Ed (M0 63) (M0 62) (M0 61 3) k u v) (hx : Rx (gB M0 ma me e s) k u v (fv (M 39)) (fv (M' 39))) (hc : M' = M ∨ ∃ x, M' = ax_up M 39 v x ∧ 0 ≤ x ∧ x ≤ 99 ∧ M 39 v < x) : GaI M0 ma me e s p t M' ∧ Rx (gB M0 ma me e s) k u v (mk (M0 61 0) (fv (M 39))) (mk (M0 61 0) (fv (M' 39))) := by
  have hG := gB_gd hp ma me e s
  obtain ⟨h1, h2, h4⟩ := hI
  obtain ⟨e1, -, -⟩ := hp.1 k he.1 he.2.1
  have huv : (0 ≤ u ∧ u < M0 61 0) ∧ (0 ≤ v ∧ v < M0 61 0) := by
    rcases he.2.2 with ⟨a, b⟩ | ⟨a, b⟩ <;> rw [a, b] <;> omega
  have hxm := rx_mk huv.1 huv.2 hx
  have h3' : Lo (ds (gB M0 ma me e s) (M0 63) (M0 62) (M0 61 3) p t) (mk (M0 61 0) (fv (M' 39))) := rx_lo hG ht he hxm hlo
  refine ⟨?_, hxm⟩
  rcases hc with rfl | ⟨x, rfl, x0, x1, x2⟩
  · exact ⟨h1, h2, h4⟩
  · refine ⟨h1.tr Of.up, fun j j0 j1 => ?_, ?_⟩
    · by_cases hj : j = v
      · subst hj; rw [up_at]; exact Or.inr ⟨x0, x1⟩
      · rw [up_ne M 39 _ hj]; exact h2 j j0 j1
    · by_cases hj : p = v
      · subst hj
        have h5 := h3' p
        have h7 : fv (ax_up M 39 p x 39) p = 99 - x := by unfold fv; rw [up_at, if_neg (by omega)]
        rw [mk_in hpp, h7] at h5
        have h6 : ds (gB M0 ma me e s) (M0 63) (M0 62) (M0 61 3) p t p = t := ds_src hG ht
        rw [h6] at h5
        unfold fv at h4
        by_cases h8 : M 39 p = -1
        · rw [if_pos h8] at h4; omega
        · rw [if_neg h8] at h4; omega
      · unfold fv
        rw [up_ne M 39 _ hj]
        exact h4
def GaQ (M0 : ax_M) (ma me e s p t : Int) (Ms M : ax_M) (r : Nat) (k f : Int) : Prop := GaI M0 ma me e s p t M ∧ Rd (gB M0 ma me e s) (M0 63) (M0 62) (M0 61 3) (ds (gB M0 ma me e s) (M0 63) (M0 62) (M0 61 3) p t) (mk (M0 61 0) (fv (M 39))) (M0 61 0).toNat r k ∧ (f = 0 ∨ f = 1) ∧ (f = 0 → M = Ms ∧ Nc (gB M0 ma me e s) (M0 63) (M0 62) (M0 61 3) (fv (M 39)) k)
set_option maxHeartbeats 4000000 in
set_option maxRecDepth 100000 in
theorem L_X9_gather_42 {post : ax_M → Prop} {M0 Ms : ax_M} {ma me e s p t r : Int} (hw : WX M0) (hP : Prep M0 ma me e s) (hma : -1 ≤ ma) (he : -1 ≤ e ∧ e ≤ 99) (hme : -1 ≤ me ∧ me ≤ 99) (ht : 0 ≤ t) (hpp : 0 ≤ p ∧ p < M0 61 0) (hr : 0 ≤ r ∧ r < 12)
    (hx : ∀ M f, GaQ M0 ma me e s p t Ms M r.toNat (M0 61 3) f → ax_J Y_X9_gather (ax_Kv Y_X9_gather SH post) 0 0 26 [(0, aR 33), (3, aI f), (4, aI (r + 1))] [] SH M) :
    ∀ (j : Nat) (k f : Int) (M : ax_M), 0 ≤ k → k + (j : Int) = M0 61 3 → GaQ M0 ma me e s p t Ms M r.toNat k f → ax_J Y_X9_gather (ax_Kv Y_X9_gather SH post) 0 0 42 [(0, aR 33), (3, aI f), (4, aI r), (5, aI k)] [] SH M := by
  have hp := hw.1
  have hG := gB_gd hp ma me e s
  have hw24 := hp.2.1
  have hp12 : M0 61 0 ≤ 12 := by have := hp.2.2; omega
  intro j
  induction j with
  | zero =>
    intro k f M hk hkj hQ
    have hk3 : k = M0 61 3 := by omega
    refine B_X9_gather_42 ⟨fun _ => ⟨by omega, hx M f (by rw [← hk3]; exact hQ)⟩, fun c => ?_⟩
    rw [hQ.1.1 6 (by decide), hw.2.2.1] at c; omega
  | succ j ih =>
    intro k f M hk hkj hQ
    obtain ⟨hI, hR, hf1, hf⟩ := hQ
    have hkn : k < M0 61 3 := by omega
    have e6 : M 6 = M0 6 := hI.1 6 (by decide)
    have e7 : M 7 = M0 7 := hI.1 7 (by decide)
    have e61 : M 61 = M0 61 := hI.1 61 (by decide)
    obtain ⟨b0, -, -⟩ := hp.1 k hk hkn
    obtain ⟨⟨f0, f1, -, -⟩, -⟩ := hw.2.2.2.2.2 k hk hkn
    have he1 : Ed (M0 63) (M0 62) (M0 61 3) k (M0 63 k) (M0 62 k) := ⟨hk, hkn, Or.inl ⟨rfl, rfl⟩⟩
    have he2 : Ed (M0 63) (M0 62) (M0 61 3) k (M0 62 k) (M0 63 k) := ⟨hk, hkn, Or.inr ⟨rfl, rfl⟩⟩
    refine B_X9_gather_42 ⟨fun c => by rw [e6, hw.2.2.1] at c; omega, fun c => ⟨by omega, by omega, by omega, by omega, by omega, ?_⟩⟩
    rw [e7, f0, f1]
    refine S_X9_leavesLater (ma := ma) (me := me) (e := e) (s := s) (pit_of39 hI.1 hp) (prep_of39 hI.1 hP) hma he hme hk (by rw [e61]; exact hkn) (by omega) (by omega) (hI.2.1 _ (by omega) (by omega)) (hI.2.1 _ (by omega) (by omega)) (fun z M1 hx1 hc1 => ?_)
    rw [gb_of39 hI.1] at hx1
    obtain ⟨hI1, hxm1⟩ := gaI_step (r := 0) hp ht hpp hI hR.1 he1 hx1 (by rcases hc1 with ⟨-, h⟩ | ⟨-, h⟩; exact Or.inl h; exact Or.inr h)
    have hlo1 := rx_lo hG ht he1 hxm1 hR.1
    have hz : z = 0 ∨ z = 1 := by rcases hc1 with ⟨h, -⟩ | ⟨h, -⟩; exact Or.inl h; exact Or.inr h
    have sec : ∀ {post2 : Int → ax_M → Prop}, (∀ z2 M2, Rx (gB M1 ma me e s) k (M0 62 k) (M0 63 k) (fv (M1 39)) (fv (M2 39)) → (z2 = 0 ∧ M2 = M1 ∨ z2 = 1 ∧ ∃ x, M2 = ax_up M1 39 (M0 63 k) x ∧ 0 ≤ x ∧ x ≤ 99 ∧ M1 39 (M0 63 k) < x) → post2 z2 M2) → ax_Ti Y_X9_leavesLater [aR 33, aI k, aI (M0 63 k), aI (M0 62 k)] SH M1 post2 := fun h => S_X9_leavesLater (ma := ma) (me := me) (e := e) (s := s) (pit_of39 hI1.1 hp) (prep_of39 hI1.1 hP) hma he hme hk (by rw [hI1.1 61 (by decide)]; exact hkn) (by omega) (by omega) (hI1.2.1 _ (by omega) (by omega)) (hI1.2.1 _ (by omega) (by omega)) h
    have fin : ∀ (z2 : Int) (M2 : ax_M) (f2 : Int), Rx (gB M1 ma me e s) k (M0 62 k) (M0 63 k) (fv (M1 39)) (fv (M2 39)) → (z2 = 0 ∧ M2 = M1 ∨ z2 = 1 ∧ ∃ x, M2 = ax_up M1 39 (M0 63 k) x ∧ 0 ≤ x ∧ x ≤ 99 ∧ M1 39 (M0 63 k) < x) → (f2 = 0 ∨ f2 = 1) → (f2 = 0 → f = 0 ∧ z = 0 ∧ z2 = 0) → (-2147483648 ≤ k + 1 ∧ k + 1 ≤ 2147483647) ∧ ax_J Y_X9_gather (ax_Kv Y_X9_gather SH post) 0 0 42 [(0, aR 33), (3, aI f2), (4, aI r), (5, aI (k + 1))] [] SH M2 := by
      intro z2 M2 f2 hx2 hc2 hf2 hff
      rw [gb_of39 hI1.1] at hx2
      obtain ⟨hI2, hxm2⟩ := gaI_step (r := 0) hp ht hpp hI1 hlo1 he2 hx2 (by rcases hc2 with ⟨-, h⟩ | ⟨-, h⟩; exact Or.inl h; exact Or.inr h)
      refine ⟨by omega, ih (k + 1) _ M2 (by omega) (by omega) ⟨hI2, rd_s hG ht hk hkn hR hxm1 hxm2, hf2, fun hz0 => ?_⟩⟩
      obtain ⟨q3, q4, q2⟩ := hff hz0
      obtain ⟨hMs, hN⟩ := hf q3
      have hM1 : M1 = M := by
        rcases hc1 with ⟨-, b⟩ | ⟨a, -⟩
        · exact b
        · omega
      have hM2 : M2 = M := by
        rcases hc2 with ⟨-, b⟩ | ⟨a, -⟩
        · rw [b, hM1]
        · omega
      refine ⟨by rw [hM2]; exact hMs, ?_⟩
      rw [hM2]
      rw [hM1] at hx1
      rw [hM2, hM1] at hx2
      intro k' u v he hk' q1 q2
      rcases Int.lt_or_le k' k with h | h
      · exact hN k' u v he h q1 q2
      · have hkk : k' = k := by omega
        subst hkk
        rcases he.2.2 with ⟨a, b⟩ | ⟨a, b⟩
        · subst a; subst b
          rcases hx1.2 with ⟨-, d⟩ | ⟨-, -, d, d2⟩
          · exact d q1 q2
          · omega
        · subst a; subst b
          rcases hx2.2 with ⟨-, d⟩ | ⟨-, -, d, d2⟩
          · exact d q1 q2
          · omega
    exact ⟨fun c1 => sec (fun z2 M2 a b => ⟨fun _ => fin z2 M2 1 a b (Or.inr rfl) (fun h => by omega), fun _ => fin z2 M2 1 a b (Or.inr rfl) (fun h => by omega)⟩), fun c1 => ⟨fun c2 => sec (fun z2 M2 a b => ⟨fun _ => fin z2 M2 1 a b (Or.inr rfl) (fun h => by omega), fun c3 => fin z2 M2 0 a b (Or.inl rfl) (fun _ => ⟨c2, c1, c3⟩)⟩), fun c2 => sec (fun z2 M2 a b => ⟨fun _ => fin z2 M2 1 a b (Or.inr rfl) (fun h => by omega), fun _ => fin z2 M2 1 a b (Or.inr rfl) (fun h => by omega)⟩)⟩⟩
theorem ds_swap {G : Int → Int → Int} {ea eb : Int → Int} {n p t : Int} (v : Int) : ds G ea eb n p t v = ds G eb ea n p t v := by
  have he : ∀ (a b : Int → Int) (k u w : Int), Ed a b n k u w → Ed b a n k u w := fun a b k u w h => ⟨h.1, h.2.1, h.2.2.symm⟩
  have hr : ∀ (a b : Int → Int) (m : Nat) (w x : Int), Rn G a b n p t m w x → Rn G b a n p t m w x := by
    intro a b m
    induction m with
    | zero => intro w x h; exact h
    | succ m ih =>
      intro w x h
      obtain ⟨k, u, y, h1, h2, h3, h4⟩ := h
      exact ⟨k, u, y, ih u y h1, he a b k u w h2, h3, h4⟩
  have hc : ∀ x, Rc G ea eb n p t v x ↔ Rc G eb ea n p t v x := fun x => ⟨fun ⟨m, h⟩ => ⟨m, hr ea eb m v x h⟩, fun ⟨m, h⟩ => ⟨m, hr eb ea m v x h⟩⟩
  have hcf : Rc G ea eb n p t v = Rc G eb ea n p t v := funext (fun x => propext (hc x))
  unfold ds
  rw [hcf]
set_option maxHeartbeats 4000000 in
set_option maxRecDepth 100000 in
theorem S_X9_gather {post : ax_M → Prop} {M : ax_M} {ma me e s p m : Int} (hw : WX M) (hP : Prep M ma me e s) (hma : -1 ≤ ma) (he : -1 ≤ e ∧ e ≤ 99) (hme : -1 ≤ me ∧ me ≤ 99) (hm : 0 ≤ m ∧ m ≤ 99) (hpp0 : (p = -1 ∧ M 61 0 = 0) ∨ (0 ≤ p ∧ p < M 61 0)) (h : ∀ M', Of 39 M M' → (∀ v, 0 ≤ v ∧ v < M 61 0 → M' 39 v = la M ma me e s v p m) → post M') : ax_Tv Y_X9_gather [aR 33, aI p, aI m] SH M post := by
  have hp := hw.1
  have hG := gB_gd hp ma me e s
  have hw24 := hp.2.1
  have hp12 : M 61 0 ≤ 12 := by have := hp.2.2; omega
  have ht : 0 ≤ 99 - m := by omega
  have hend : ∀ k, 0 ≤ k → k < M 61 3 → 0 ≤ M 63 k ∧ M 63 k < ((M 61 0).toNat : Int) ∧ 0 ≤ M 62 k ∧ M 62 k < ((M 61 0).toNat : Int) := fun k a b => by
    have := pit_end hp k a b
    omega
  have fin : ∀ (M1 : ax_M) (v : Int), So1 (M1 39 v) → fv (M1 39) v = ds (gB M ma me e s) (M 63) (M 62) (M 61 3) p (99 - m) v → M1 39 v = la M ma me e s v p m := by
    intro M1 v h1 h2
    rw [ds_swap] at h2
    unfold la
    unfold gB at h2
    rw [← h2]
    unfold fv
    unfold So1 at h1
    by_cases h3 : M1 39 v = -1
    · rw [if_pos h3, if_pos (by omega)]; exact h3
    · rw [if_neg h3, if_neg (by omega)]; omega
  refine E_X9_gather (fun _ => S_fill_39 ⟨fun c => ?_, fun c => h _ (fun a ha => fl_off ha) (fun v hv => by omega)⟩)
  have hpp : 0 ≤ p ∧ p < M 61 0 := by omega
  have key : ∀ (j : Nat) (r f : Int) (M1 : ax_M), 0 ≤ r → r + (j : Int) = 12 → GaI M ma me e s p (99 - m) M1 → Lo (ds (gB M ma me e s) (M 63) (M 62) (M 61 3) p (99 - m)) (mk (M 61 0) (fv (M1 39))) → Stl (ds (gB M ma me e s) (M 63) (M 62) (M 61 3) p (99 - m)) (mk (M 61 0) (fv (M1 39))) (M 61 0).toNat r.toNat → (f = 0 → Nc (gB M ma me e s) (M 63) (M 62) (M 61 3) (fv (M1 39)) (M 61 3)) → ax_J Y_X9_gather (ax_Kv Y_X9_gather SH post) 0 0 26 [(0, aR 33), (3, aI f), (4, aI r)] [] SH M1 := by
    intro j
    induction j with
    | zero =>
      intro r f M1 h0 hr hI hl hS hf
      refine B_X9_gather_26 ⟨fun _ => h M1 hI.1 (fun v hv => fin M1 v (hI.2.1 v hv.1 hv.2) ?_), fun c => by omega⟩
      have h2 := stl_ds hG ht hl hS (by omega) hv.1 (by omega)
      rw [mk_in hv] at h2
      exact h2
    | succ j ih =>
      intro r f M1 h0 hr hI hl hS hf
      refine B_X9_gather_26 ⟨fun c => by omega, fun c => ⟨fun c1 => h M1 hI.1 (fun v hv => fin M1 v (hI.2.1 v hv.1 hv.2) ?_), fun c1 => ?_⟩⟩
      · have h5 := ds_fix (ea := M 63) (eb := M 62) (p := p) (W := mk (M 61 0) (fv (M1 39))) hG ht hl (by rw [mk_in hpp, hI.2.2]; omega) (fun k u w he q1 q2 => by
          obtain ⟨e1, -, -⟩ := hp.1 k he.1 he.2.1
          have huv : (0 ≤ u ∧ u < M 61 0) ∧ (0 ≤ w ∧ w < M 61 0) := by
            rcases he.2.2 with ⟨a, b⟩ | ⟨a, b⟩ <;> rw [a, b] <;> omega
          rw [mk_in huv.1] at q1 q2 ⊢
          rw [mk_in huv.2]
          exact hf c1 k u w he he.2.1 q1 q2) v
        rw [mk_in hv] at h5
        exact h5
      · refine L_X9_gather_42 (M0 := M) (Ms := M1) (ma := ma) (me := me) (e := e) (s := s) (p := p) (t := 99 - m) hw hP hma he hme ht hpp (by omega) (fun M2 f2 hQ => ?_) (M 61 3).toNat 0 0 M1 (Int.le_refl _) (by omega) ⟨hI, rd_0 hl hS, Or.inl rfl, fun _ => ⟨rfl, fun k u v he hk => by have := he.1; omega⟩⟩
        obtain ⟨hI2, hR2, hf2, hf3⟩ := hQ
        refine ih (r + 1) f2 M2 (by omega) (by omega) hI2 hR2.1 ?_ (fun z => (hf3 z).2)
        have h6 := rd_end hG ht hend (by rw [mk_in hpp]; exact hI2.2.2) hR2
        rw [show (r + 1).toNat = r.toNat + 1 by omega]
        exact h6
  refine ⟨by omega, ?_⟩
  have hO : Of 39 M (ax_up (ax_fl M 39 12 (-1)) 39 p m) := fun a ha => by rw [up_off _ _ _ ha, fl_off ha]
  have hat : ∀ v, 0 ≤ v → v < M 61 0 → ax_up (ax_fl M 39 12 (-1)) 39 p m 39 v = if v = p then m else -1 := by
    intro v h0 h1
    by_cases hv : v = p
    · rw [if_pos hv, hv, up_at]
    · rw [if_neg hv, up_ne _ 39 _ hv, fl_in (by omega)]
  have hfv : ∀ v, 0 ≤ v → v < M 61 0 → fv (ax_up (ax_fl M 39 12 (-1)) 39 p m 39) v = if v = p then 99 - m else -1 := by
    intro v h0 h1
    unfold fv
    rw [hat v h0 h1]
    by_cases hv : v = p
    · rw [if_pos hv, if_pos hv, if_neg (by omega)]
    · rw [if_neg hv, if_neg hv, if_pos rfl]
  have hmk : ∀ v, mk (M 61 0) (fv (ax_up (ax_fl M 39 12 (-1)) 39 p m 39)) v = if v = p then 99 - m else -1 := by
    intro v
    unfold mk
    by_cases hv : 0 ≤ v ∧ v < M 61 0
    · rw [if_pos hv]; exact hfv v hv.1 hv.2
    · rw [if_neg hv, if_neg (by omega)]
  refine key 12 0 1 _ (Int.le_refl _) (by omega) ⟨hO, fun v h0 h1 => ?_, by rw [hfv p hpp.1 hpp.2, if_pos rfl]⟩ (fun v => ?_) ?_ (fun z => by omega)
  · rw [hat v h0 h1]
    unfold So1
    split <;> omega
  · rw [hmk]
    by_cases hv : v = p
    · rw [if_pos hv, hv]
      right
      have h6 : ds (gB M ma me e s) (M 63) (M 62) (M 61 3) p (99 - m) p = 99 - m := ds_src hG ht
      rw [h6]; omega
    · rw [if_neg hv]; exact Or.inl rfl
  · refine stl_0 hG ht ?_ (by omega) hend
    rw [hmk, if_pos rfl]
