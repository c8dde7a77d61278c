/-! GRAPH: walks over ways that are gone both ways; the soonest; relaxing -/
def Ed (ea eb : Int → Int) (n k u v : Int) : Prop := 0 ≤ k ∧ k < n ∧ ((u = ea k ∧ v = eb k) ∨ (u = eb k ∧ v = ea k))
theorem Ed.sym {ea eb : Int → Int} {n k u v : Int} (h : Ed ea eb n k u v) : Ed ea eb n k v u := by
  obtain ⟨h1, h2, h3 | h3⟩ := h
  · exact ⟨h1, h2, Or.inr ⟨h3.2, h3.1⟩⟩
  · exact ⟨h1, h2, Or.inl ⟨h3.2, h3.1⟩⟩
def Rn (G : Int → Int → Int) (ea eb : Int → Int) (n p t : Int) : Nat → Int → Int → Prop
  | 0, v, x => v = p ∧ x = t
  | m + 1, v, x => ∃ k u y, Rn G ea eb n p t m u y ∧ Ed ea eb n k u v ∧ G k y = x ∧ 0 ≤ x
def Rc (G : Int → Int → Int) (ea eb : Int → Int) (n p t v x : Int) : Prop := ∃ m, Rn G ea eb n p t m v x
/-- whoever goes in later is not through sooner; one is through later than one goes in -/
def Gd (G : Int → Int → Int) (n : Int) : Prop := ∀ k, 0 ≤ k → k < n → ∀ t t', 0 ≤ t → t ≤ t' → 0 ≤ G k t' → t < G k t ∧ G k t ≤ G k t'
noncomputable def ds (G : Int → Int → Int) (ea eb : Int → Int) (n p t v : Int) : Int := @dite Int (∃ x, Rc G ea eb n p t v x ∧ ∀ y, Rc G ea eb n p t v y → x ≤ y) (Classical.propDecidable _) (fun h => Classical.choose h) (fun _ => -1)
section GRAPH
variable {G : Int → Int → Int} {ea eb : Int → Int} {n p t : Int}
theorem rn_ge (hG : Gd G n) (ht : 0 ≤ t) : ∀ (m : Nat) (v x : Int), Rn G ea eb n p t m v x → t ≤ x
  | 0, v, x, h => by obtain ⟨-, rfl⟩ := h; exact Int.le_refl _
  | m + 1, v, x, h => by
    obtain ⟨k, u, y, h1, h2, h3, h4⟩ := h
    have h5 := rn_ge hG ht m u y h1
    have h6 := hG k h2.1 h2.2.1 y y (by omega) (Int.le_refl _) (by omega)
    omega
theorem rc_ge (hG : Gd G n) (ht : 0 ≤ t) {v x : Int} (h : Rc G ea eb n p t v x) : t ≤ x := by
  obtain ⟨m, h⟩ := h
  exact rn_ge hG ht m v x h
theorem rc_0 : Rc G ea eb n p t p t := ⟨0, rfl, rfl⟩
theorem rc_s {k u v y : Int} (h : Rc G ea eb n p t u y) (he : Ed ea eb n k u v) (hg : 0 ≤ G k y) : Rc G ea eb n p t v (G k y) := by
  obtain ⟨m, h⟩ := h
  exact ⟨m + 1, k, u, y, h, he, rfl, hg⟩
theorem ds_sp (hG : Gd G n) (ht : 0 ≤ t) (v : Int) : (ds G ea eb n p t v = -1 ∧ ∀ x, ¬ Rc G ea eb n p t v x) ∨ (0 ≤ ds G ea eb n p t v ∧ Rc G ea eb n p t v (ds G ea eb n p t v) ∧ ∀ x, Rc G ea eb n p t v x → ds G ea eb n p t v ≤ x) := by
  by_cases h : ∃ x, Rc G ea eb n p t v x ∧ ∀ y, Rc G ea eb n p t v y → x ≤ y
  · right
    have e : ds G ea eb n p t v = Classical.choose h := by
      unfold ds
      rw [dif_pos h]
    rw [e]
    have hs := Classical.choose_spec h
    have h1 := rc_ge hG ht hs.1
    exact ⟨by omega, hs.1, hs.2⟩
  · left
    refine ⟨by unfold ds; rw [dif_neg h], fun x hx => h ?_⟩
    have h1 := rc_ge hG ht hx
    obtain ⟨q, hq, hl⟩ := pk_least (fun j : Nat => Rc G ea eb n p t v (j : Int)) ⟨x.toNat, by rw [Int.toNat_of_nonneg (by omega)]; exact hx⟩
    refine ⟨(q : Int), hq, fun y hy => ?_⟩
    have h2 := rc_ge hG ht hy
    rcases Int.lt_or_le y (q : Int) with h3 | h3
    · exact absurd (by rw [Int.toNat_of_nonneg (by omega)]; exact hy) (hl y.toNat (by omega))
    · exact h3
theorem ds_neg (hG : Gd G n) (ht : 0 ≤ t) (v : Int) : ds G ea eb n p t v = -1 ∨ 0 ≤ ds G ea eb n p t v := by
  rcases ds_sp (p := p) (ea := ea) (eb := eb) hG ht v with h | h
  · exact Or.inl h.1
  · exact Or.inr h.1
theorem ds_le (hG : Gd G n) (ht : 0 ≤ t) {v x : Int} (h : Rc G ea eb n p t v x) : 0 ≤ ds G ea eb n p t v ∧ ds G ea eb n p t v ≤ x := by
  rcases ds_sp (p := p) (ea := ea) (eb := eb) hG ht v with h1 | h1
  · exact absurd h (h1.2 x)
  · exact ⟨h1.1, h1.2.2 x h⟩
theorem ds_rc (hG : Gd G n) (ht : 0 ≤ t) {v : Int} (h : 0 ≤ ds G ea eb n p t v) : Rc G ea eb n p t v (ds G ea eb n p t v) := by
  rcases ds_sp (p := p) (ea := ea) (eb := eb) hG ht v with h1 | h1
  · have := h1.1; omega
  · exact h1.2.1
theorem ds_iff (hG : Gd G n) (ht : 0 ≤ t) {v : Int} : 0 ≤ ds G ea eb n p t v ↔ ∃ x, Rc G ea eb n p t v x :=
  ⟨fun h => ⟨_, ds_rc hG ht h⟩, fun ⟨_, h⟩ => (ds_le hG ht h).1⟩
theorem ds_src (hG : Gd G n) (ht : 0 ≤ t) : ds G ea eb n p t p = t := by
  have h := ds_le (p := p) (ea := ea) (eb := eb) hG ht rc_0
  have h2 := rc_ge hG ht (ds_rc hG ht h.1)
  omega
theorem ds_ge (hG : Gd G n) (ht : 0 ≤ t) {v : Int} (h : 0 ≤ ds G ea eb n p t v) : t ≤ ds G ea eb n p t v := rc_ge hG ht (ds_rc hG ht h)
theorem ds_ed (hG : Gd G n) (ht : 0 ≤ t) {k u v : Int} (h : 0 ≤ ds G ea eb n p t u) (he : Ed ea eb n k u v) (hg : 0 ≤ G k (ds G ea eb n p t u)) : 0 ≤ ds G ea eb n p t v ∧ ds G ea eb n p t v ≤ G k (ds G ea eb n p t u) := ds_le hG ht (rc_s (ds_rc hG ht h) he hg)
theorem ds_sup (hG : Gd G n) (ht : 0 ≤ t) {v : Int} (h : 0 ≤ ds G ea eb n p t v) : (v = p ∧ ds G ea eb n p t v = t) ∨ ∃ k u, Ed ea eb n k u v ∧ 0 ≤ ds G ea eb n p t u ∧ ds G ea eb n p t u < ds G ea eb n p t v ∧ G k (ds G ea eb n p t u) = ds G ea eb n p t v := by
  obtain ⟨m, hm⟩ := ds_rc hG ht h
  cases m with
  | zero => exact Or.inl hm
  | succ m =>
    right
    obtain ⟨k, u, y, h1, h2, h3, h4⟩ := hm
    have h5 := ds_le hG ht ⟨m, h1⟩
    have h6 := hG k h2.1 h2.2.1 (ds G ea eb n p t u) y h5.1 h5.2 (by omega)
    have h7 := ds_ed hG ht h5.1 h2 (by omega)
    exact ⟨k, u, h2, h5.1, by omega, by omega⟩
/-- an array that is a fixpoint, not below: it is the soonest -/
theorem ds_fix (hG : Gd G n) (ht : 0 ≤ t) {W : Int → Int} (hlow : ∀ v, W v = -1 ∨ (0 ≤ ds G ea eb n p t v ∧ ds G ea eb n p t v ≤ W v)) (hp : 0 ≤ W p ∧ W p ≤ t) (hfix : ∀ k u v, Ed ea eb n k u v → 0 ≤ W u → 0 ≤ G k (W u) → 0 ≤ W v ∧ W v ≤ G k (W u)) (v : Int) : W v = ds G ea eb n p t v := by
  have key : ∀ (m : Nat) (v x : Int), Rn G ea eb n p t m v x → 0 ≤ W v ∧ W v ≤ x := by
    intro m
    induction m with
    | zero =>
      intro v x h
      obtain ⟨rfl, rfl⟩ := h
      exact hp
    | succ m ih =>
      intro v x h
      obtain ⟨k, u, y, h1, h2, h3, h4⟩ := h
      obtain ⟨a1, a2⟩ := ih u y h1
      have h6 := hG k h2.1 h2.2.1 (W u) y a1 a2 (by omega)
      have h7 := hfix k u v h2 a1 (by omega)
      omega
  rcases ds_sp (p := p) (ea := ea) (eb := eb) hG ht v with h | h
  · rcases hlow v with h2 | h2
    · omega
    · omega
  · obtain ⟨m, hm⟩ := h.2.1
    have h3 := key m v _ hm
    rcases hlow v with h2 | h2
    · omega
    · omega
def rk (D : Int → Int) (c : Int) : Nat → Nat
  | 0 => 0
  | i + 1 => rk D c i + (if 0 ≤ D (i : Int) ∧ D (i : Int) < c then 1 else 0)
theorem rk_mono {D : Int → Int} {c c' : Int} (h : c ≤ c') : ∀ i, rk D c i ≤ rk D c' i
  | 0 => Nat.le_refl _
  | i + 1 => by
    have h1 := rk_mono (D := D) h i
    unfold rk
    by_cases h2 : 0 ≤ D (i : Int) ∧ D (i : Int) < c
    · have h3 : 0 ≤ D (i : Int) ∧ D (i : Int) < c' := ⟨h2.1, by omega⟩
      rw [if_pos h2, if_pos h3]; omega
    · rw [if_neg h2]; omega
theorem rk_lt {D : Int → Int} {c c' : Int} (h : c ≤ c') : ∀ (i j : Nat), j < i → 0 ≤ D (j : Int) → c ≤ D (j : Int) → D (j : Int) < c' → rk D c i < rk D c' i
  | 0, j, hj, _, _, _ => by omega
  | i + 1, j, hj, h0, h1, h2 => by
    unfold rk
    by_cases hji : j = i
    · subst hji
      have h3 : ¬ (0 ≤ D (j : Int) ∧ D (j : Int) < c) := by omega
      have h4 : 0 ≤ D (j : Int) ∧ D (j : Int) < c' := ⟨h0, h2⟩
      have h5 := rk_mono (D := D) h j
      rw [if_neg h3, if_pos h4]; omega
    · have h5 := rk_lt h i j (by omega) h0 h1 h2
      by_cases h2 : 0 ≤ D (i : Int) ∧ D (i : Int) < c
      · have h3 : 0 ≤ D (i : Int) ∧ D (i : Int) < c' := ⟨h2.1, by omega⟩
        rw [if_pos h2, if_pos h3]; omega
      · rw [if_neg h2]; omega
theorem rk_le {D : Int → Int} {c : Int} : ∀ i, rk D c i ≤ i
  | 0 => Nat.le_refl _
  | i + 1 => by
    have h := rk_le (D := D) (c := c) i
    unfold rk
    split <;> omega
theorem rk_lt_n {D : Int → Int} {c : Int} : ∀ (i j : Nat), j < i → c ≤ D (j : Int) → rk D c i < i
  | 0, j, hj, _ => by omega
  | i + 1, j, hj, h1 => by
    unfold rk
    by_cases hji : j = i
    · subst hji
      have h := rk_le (D := D) (c := c) j
      have h3 : ¬ (0 ≤ D (j : Int) ∧ D (j : Int) < c) := by omega
      rw [if_neg h3]; omega
    · have h5 := rk_lt_n (D := D) (c := c) i j (by omega) h1
      split <;> omega
/-- one relaxing: way k from u to v -/
def Rx (G : Int → Int → Int) (k u v : Int) (W W' : Int → Int) : Prop := (∀ j, j ≠ v → W' j = W j) ∧ ((W' v = W v ∧ (0 ≤ W u → 0 ≤ G k (W u) → 0 ≤ W v ∧ W v ≤ G k (W u))) ∨ (0 ≤ W u ∧ 0 ≤ G k (W u) ∧ W' v = G k (W u) ∧ (W v = -1 ∨ G k (W u) < W v)))
def Lo (D W : Int → Int) : Prop := ∀ v, W v = -1 ∨ (0 ≤ D v ∧ D v ≤ W v)
theorem rx_lo (hG : Gd G n) (ht : 0 ≤ t) {k u v : Int} {W W' : Int → Int} (he : Ed ea eb n k u v) (hx : Rx G k u v W W') (hl : Lo (ds G ea eb n p t) W) : Lo (ds G ea eb n p t) W' := by
  intro j
  by_cases hj : j = v
  · subst hj
    rcases hx.2 with ⟨h1, -⟩ | ⟨h1, h2, h3, -⟩
    · rw [h1]; exact hl j
    · right
      rcases hl u with h4 | h4
      · omega
      · have h6 := hG k he.1 he.2.1 _ _ h4.1 h4.2 h2
        have h7 := ds_ed hG ht h4.1 he (by omega)
        rw [h3]; omega
  · rw [hx.1 j hj]; exact hl j
theorem rx_keep (hG : Gd G n) (ht : 0 ≤ t) {k u v : Int} {W W' : Int → Int} (he : Ed ea eb n k u v) (hx : Rx G k u v W W') (hl : Lo (ds G ea eb n p t) W) {j : Int} (hj : 0 ≤ ds G ea eb n p t j) (h : W j = ds G ea eb n p t j) : W' j = ds G ea eb n p t j := by
  have hl' := rx_lo hG ht he hx hl
  by_cases hjv : j = v
  · subst hjv
    rcases hx.2 with ⟨h1, -⟩ | ⟨h1, h2, h3, h4⟩
    · rw [h1]; exact h
    · rcases hl' j with h5 | h5
      · omega
      · omega
  · rw [hx.1 j hjv]; exact h
theorem rx_new (hG : Gd G n) (ht : 0 ≤ t) {k u v : Int} {W W' : Int → Int} (he : Ed ea eb n k u v) (hx : Rx G k u v W W') (hl : Lo (ds G ea eb n p t) W) (hu : 0 ≤ ds G ea eb n p t u) (hW : W u = ds G ea eb n p t u) (hg : G k (ds G ea eb n p t u) = ds G ea eb n p t v) (hv : 0 ≤ ds G ea eb n p t v) : W' v = ds G ea eb n p t v := by
  have hl' := rx_lo hG ht he hx hl
  rcases hx.2 with ⟨h1, h2⟩ | ⟨h1, h2, h3, h4⟩
  · have h5 := h2 (by omega) (by rw [hW, hg]; exact hv)
    rw [hW, hg] at h5
    rcases hl' v with h6 | h6
    · omega
    · omega
  · rw [h3, hW, hg]
/-- settled: places of rank r at most; in a round, also those that come by ways below k0 -/
def Stl (D W : Int → Int) (np r : Nat) : Prop := ∀ v : Nat, v < np → 0 ≤ D (v : Int) → rk D (D (v : Int)) np ≤ r → W (v : Int) = D (v : Int)
def Stk (G : Int → Int → Int) (ea eb : Int → Int) (n : Int) (D W : Int → Int) (np r : Nat) (k0 : Int) : Prop := ∀ v : Nat, v < np → 0 ≤ D (v : Int) → rk D (D (v : Int)) np ≤ r + 1 → (∃ k u, k < k0 ∧ Ed ea eb n k u (v : Int) ∧ 0 ≤ u ∧ u < np ∧ 0 ≤ D u ∧ D u < D (v : Int) ∧ G k (D u) = D (v : Int)) → W (v : Int) = D (v : Int)
def Rd (G : Int → Int → Int) (ea eb : Int → Int) (n : Int) (D W : Int → Int) (np r : Nat) (k0 : Int) : Prop := Lo D W ∧ Stl D W np r ∧ Stk G ea eb n D W np r k0
theorem rd_0 {D W : Int → Int} {np r : Nat} (h1 : Lo D W) (h2 : Stl D W np r) : Rd G ea eb n D W np r 0 := ⟨h1, h2, fun v _ _ _ ⟨k, u, hk, he, _⟩ => by have := he.1; omega⟩
theorem rd_s (hG : Gd G n) (ht : 0 ≤ t) {np r : Nat} {k0 : Int} {W W1 W2 : Int → Int} (hk0 : 0 ≤ k0) (hkn : k0 < n) (hR : Rd G ea eb n (ds G ea eb n p t) W np r k0) (hx1 : Rx G k0 (ea k0) (eb k0) W W1) (hx2 : Rx G k0 (eb k0) (ea k0) W1 W2) : Rd G ea eb n (ds G ea eb n p t) W2 np r (k0 + 1) := by
  obtain ⟨hl, hs, hk⟩ := hR
  have he1 : Ed ea eb n k0 (ea k0) (eb k0) := ⟨hk0, hkn, Or.inl ⟨rfl, rfl⟩⟩
  have he2 : Ed ea eb n k0 (eb k0) (ea k0) := ⟨hk0, hkn, Or.inr ⟨rfl, rfl⟩⟩
  have hl1 := rx_lo hG ht he1 hx1 hl
  have hl2 := rx_lo hG ht he2 hx2 hl1
  have keep : ∀ j, 0 ≤ ds G ea eb n p t j → W j = ds G ea eb n p t j → W2 j = ds G ea eb n p t j := fun j h0 h => rx_keep hG ht he2 hx2 hl1 h0 (rx_keep hG ht he1 hx1 hl h0 h)
  refine ⟨hl2, fun v hv h0 hr => keep _ h0 (hs v hv h0 hr), fun v hv h0 hr hex => ?_⟩
  obtain ⟨k, u, hkk, he, hu0, hu1, hd0, hd1, hg⟩ := hex
  rcases Int.lt_or_le k k0 with h | h
  · exact keep _ h0 (hk v hv h0 hr ⟨k, u, h, he, hu0, hu1, hd0, hd1, hg⟩)
  · have hkk0 : k = k0 := by omega
    subst hkk0
    have hru : rk (ds G ea eb n p t) (ds G ea eb n p t u) np < rk (ds G ea eb n p t) (ds G ea eb n p t (v : Int)) np := by
      have h3 := rk_lt (D := ds G ea eb n p t) (c := ds G ea eb n p t u) (c' := ds G ea eb n p t (v : Int)) (by omega) np u.toNat (by omega) (by rw [Int.toNat_of_nonneg hu0]; exact hd0) (by rw [Int.toNat_of_nonneg hu0]; omega) (by rw [Int.toNat_of_nonneg hu0]; exact hd1)
      exact h3
    have hWu : W u = ds G ea eb n p t u := by
      have h3 := hs u.toNat (by omega) (by rw [Int.toNat_of_nonneg hu0]; exact hd0) (by rw [Int.toNat_of_nonneg hu0]; omega)
      rwa [Int.toNat_of_nonneg hu0] at h3
    rcases he.2.2 with ⟨e1, e2⟩ | ⟨e1, e2⟩
    · subst e1
      have h4 := rx_new hG ht he1 hx1 hl hd0 hWu (by rw [← e2]; exact hg) (by rw [← e2]; exact h0)
      rw [← e2] at h4
      exact rx_keep hG ht he2 hx2 hl1 h0 h4
    · subst e1
      have hWu1 := rx_keep hG ht he1 hx1 hl hd0 hWu
      have h4 := rx_new hG ht he2 hx2 hl1 hd0 hWu1 (by rw [← e2]; exact hg) (by rw [← e2]; exact h0)
      rw [← e2] at h4
      exact h4
theorem rd_end (hG : Gd G n) (ht : 0 ≤ t) {np r : Nat} {W : Int → Int} (hend : ∀ k, 0 ≤ k → k < n → 0 ≤ ea k ∧ ea k < np ∧ 0 ≤ eb k ∧ eb k < np) (hp : W p = t) (hR : Rd G ea eb n (ds G ea eb n p t) W np r n) : Stl (ds G ea eb n p t) W np (r + 1) := by
  intro v hv h0 hr
  rcases ds_sup hG ht h0 with ⟨h1, h2⟩ | ⟨k, u, he, h1, h2, h3⟩
  · rw [h1, hp, ds_src hG ht]
  · have hu : 0 ≤ u ∧ u < np := by
      have h4 := hend k he.1 he.2.1
      rcases he.2.2 with ⟨e1, -⟩ | ⟨e1, -⟩ <;> rw [e1] <;> omega
    exact hR.2.2 v hv h0 hr ⟨k, u, he.2.1, he, hu.1, hu.2, h1, h2, h3⟩
theorem stl_0 (hG : Gd G n) (ht : 0 ≤ t) {np : Nat} {W : Int → Int} (hp : W p = t) (hpn : 0 ≤ p ∧ p < np) (hend : ∀ k, 0 ≤ k → k < n → 0 ≤ ea k ∧ ea k < np ∧ 0 ≤ eb k ∧ eb k < np) : Stl (ds G ea eb n p t) W np 0 := by
  intro v hv h0 hr
  rcases ds_sup hG ht h0 with ⟨h1, h2⟩ | ⟨k, u, he, h1, h2, h3⟩
  · rw [h1, hp, ds_src hG ht]
  · have hu : 0 ≤ u ∧ u < np := by
      have h4 := hend k he.1 he.2.1
      rcases he.2.2 with ⟨e1, -⟩ | ⟨e1, -⟩ <;> rw [e1] <;> omega
    have h3 := rk_lt (D := ds G ea eb n p t) (c := ds G ea eb n p t u) (c' := ds G ea eb n p t (v : Int)) (by omega) np u.toNat (by omega) (by rw [Int.toNat_of_nonneg hu.1]; exact h1) (by rw [Int.toNat_of_nonneg hu.1]; omega) (by rw [Int.toNat_of_nonneg hu.1]; exact h2)
    omega
theorem stl_all {D W : Int → Int} {np r : Nat} (h : Stl D W np r) (hr : np ≤ r + 1) {v : Int} (h0 : 0 ≤ v) (h1 : v < np) (hD : 0 ≤ D v) : W v = D v := by
  have h2 := h v.toNat (by omega) (by rw [Int.toNat_of_nonneg h0]; exact hD) (by
    have h3 := rk_lt_n (D := D) (c := D ((v.toNat : Nat) : Int)) np v.toNat (by omega) (Int.le_refl _)
    omega)
  rwa [Int.toNat_of_nonneg h0] at h2
theorem stl_ds (hG : Gd G n) (ht : 0 ≤ t) {np r : Nat} {W : Int → Int} (hl : Lo (ds G ea eb n p t) W) (h : Stl (ds G ea eb n p t) W np r) (hr : np ≤ r + 1) {v : Int} (h0 : 0 ≤ v) (h1 : v < np) : W v = ds G ea eb n p t v := by
  rcases ds_neg (p := p) (ea := ea) (eb := eb) hG ht v with h2 | h2
  · rcases hl v with h3 | h3
    · omega
    · omega
  · exact stl_all h hr h0 h1 h2
end GRAPH
