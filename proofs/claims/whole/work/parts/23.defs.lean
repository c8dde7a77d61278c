/-! what a state is: the reference's cells say it; the class's cells say the same -/
def gx (s : Int) : Int := if s = 0 then 1 else 2
/-- the minute when one is through way k from minute t on, with a light to e, a mark at ma to me; -1: not at all -/
def gg (M : ax_M) (ma me e s k t : Int) : Int := if ¬ M 69 k = 0 then -1 else if (t + gx s * M 64 k ≤ e ∨ (0 ≤ ma ∧ (M 62 k = ma ∨ M 63 k = ma) ∧ t + gx s * M 64 k ≤ me)) then (if t + gx s * M 64 k ≤ M 67 k then t + gx s * M 64 k else -1) else if M 65 k < 0 then -1 else (if t + gx s * M 65 k ≤ M 67 k then t + gx s * M 65 k else -1)
def WayOk (M : ax_M) : Prop := ∀ k, 0 ≤ k → k < M 61 3 → (0 ≤ M 62 k ∧ M 62 k < M 61 0 ∧ 0 ≤ M 63 k ∧ M 63 k < M 61 0 ∧ ¬ M 62 k = M 63 k) ∧ (1 ≤ M 64 k ∧ M 64 k ≤ 30 ∧ (M 65 k = -1 ∨ (M 64 k ≤ M 65 k ∧ M 65 k ≤ 60))) ∧ (1 ≤ M 66 k ∧ M 66 k ≤ 9 ∧ 0 ≤ M 67 k ∧ M 67 k ≤ 99 ∧ 0 ≤ M 68 k ∧ M 68 k ≤ 999)
def PitOk (M : ax_M) : Prop := WayOk M ∧ (0 ≤ M 61 3 ∧ M 61 3 ≤ 24) ∧ ((M 61 0 = 0 ∧ M 61 1 = -1 ∧ M 61 2 = 0 ∧ M 61 3 = 0) ∨ (2 ≤ M 61 0 ∧ M 61 0 ≤ 12 ∧ 0 ≤ M 61 1 ∧ M 61 1 < M 61 0 ∧ 1 ≤ M 61 2 ∧ M 61 2 ≤ 9))
theorem gx_12 (s : Int) : gx s = 1 ∨ gx s = 2 := by
  unfold gx
  split
  · exact Or.inl rfl
  · exact Or.inr rfl
theorem gg_gd {M : ax_M} (h : PitOk M) (ma me e s : Int) : Gd (gg M ma me e s) (M 61 3) := by
  intro k hk hkn t t' h0 h1 h2
  obtain ⟨-, b, -⟩ := h.1 k hk hkn
  unfold gg at h2 ⊢
  rcases gx_12 s with hs | hs <;> rw [hs] at h2 ⊢ <;> omega
theorem gg_99 {M : ax_M} (h : PitOk M) (ma me e s : Int) {k t : Int} (hk : 0 ≤ k) (hkn : k < M 61 3) : gg M ma me e s k t ≤ 99 := by
  obtain ⟨-, -, b⟩ := h.1 k hk hkn
  unfold gg
  rcases gx_12 s with hs | hs <;> rw [hs] <;> omega
theorem gg_ge {M : ax_M} (h : PitOk M) (ma me e s : Int) {k t : Int} (hk : 0 ≤ k) (hkn : k < M 61 3) (ht : 0 ≤ t) : -1 ≤ gg M ma me e s k t := by
  obtain ⟨-, b, -⟩ := h.1 k hk hkn
  unfold gg
  rcases gx_12 s with hs | hs <;> rw [hs] <;> omega
def gcore (L D B F t : Int) : Int := if t + L ≤ B then (if t + L ≤ F then t + L else -1) else if D = -1 then -1 else if t + D ≤ F then t + D else -1
def hin (L D B E : Int) : Int := if D = -1 then min E B - L else max (min E B - L) (E - D)
def hcore (L D B E : Int) : Int := if hin L D B E < 0 then -1 else hin L D B E
theorem core_gl {L D B F t b : Int} (hL : 1 ≤ L) (hD : D = -1 ∨ L ≤ D) (ht : 0 ≤ t) : (0 ≤ gcore L D B F t ∧ gcore L D B F t ≤ b) ↔ t ≤ hcore L D B (min b F) := by
  have h1 : t ≤ hcore L D B (min b F) ↔ t ≤ hin L D B (min b F) := by
    unfold hcore
    split <;> omega
  rw [h1]
  unfold gcore hin
  by_cases hd : D = -1
  · rw [if_pos hd, if_pos hd]
    constructor
    · intro h
      by_cases h2 : t + L ≤ B
      · rw [if_pos h2] at h
        by_cases h3 : t + L ≤ F
        · rw [if_pos h3] at h; omega
        · rw [if_neg h3] at h; omega
      · rw [if_neg h2] at h; omega
    · intro h
      rw [if_pos (by omega), if_pos (by omega)]
      omega
  · rw [if_neg hd, if_neg hd]
    constructor
    · intro h
      by_cases h2 : t + L ≤ B
      · rw [if_pos h2] at h
        by_cases h3 : t + L ≤ F
        · rw [if_pos h3] at h; omega
        · rw [if_neg h3] at h; omega
      · rw [if_neg h2] at h
        by_cases h3 : t + D ≤ F
        · rw [if_pos h3] at h; omega
        · rw [if_neg h3] at h; omega
    · intro h
      by_cases h2 : t + L ≤ B
      · rw [if_pos h2, if_pos (by omega)]; omega
      · rw [if_neg h2, if_pos (by omega)]; omega
/-- by when a light burns on way k -/
def hB (M : ax_M) (ma me e k : Int) : Int := if M 62 k = ma ∨ M 63 k = ma then (if 0 ≤ ma then max e me else e) else e
/-- the last minute to go into way k so as to be through by b -/
def hh (M : ax_M) (ma me e s k b : Int) : Int := hcore (gx s * M 64 k) (if M 65 k < 0 then -1 else gx s * M 65 k) (hB M ma me e k) (min b (if M 69 k = 0 then M 67 k else -1))
theorem gg_core {M : ax_M} (h : PitOk M) (ma me e s : Int) {k t : Int} (hk : 0 ≤ k) (hkn : k < M 61 3) (ht : 0 ≤ t) : gg M ma me e s k t = gcore (gx s * M 64 k) (if M 65 k < 0 then -1 else gx s * M 65 k) (hB M ma me e k) (if M 69 k = 0 then M 67 k else -1) t := by
  obtain ⟨-, b1, b2⟩ := h.1 k hk hkn
  have hg : 1 ≤ gx s * M 64 k := by rcases gx_12 s with hs | hs <;> rw [hs] <;> omega
  have hd : M 65 k < 0 ∨ 0 ≤ gx s * M 65 k := by rcases gx_12 s with hs | hs <;> rw [hs] <;> omega
  have hc : (t + gx s * M 64 k ≤ e ∨ 0 ≤ ma ∧ (M 62 k = ma ∨ M 63 k = ma) ∧ t + gx s * M 64 k ≤ me) ↔ t + gx s * M 64 k ≤ hB M ma me e k := by
    unfold hB
    by_cases a1 : M 62 k = ma ∨ M 63 k = ma
    · rw [if_pos a1]
      by_cases a2 : 0 ≤ ma
      · rw [if_pos a2]; omega
      · rw [if_neg a2]; omega
    · rw [if_neg a1]; omega
  unfold gg gcore
  generalize hB M ma me e k = B at *
  generalize gx s * M 64 k = L at *
  generalize gx s * M 65 k = D at *
  by_cases h0 : M 69 k = 0
  · rw [if_neg (fun z => z h0), if_pos h0]
    by_cases h1 : t + L ≤ B
    · rw [if_pos (hc.mpr h1), if_pos h1]
    · rw [if_neg (fun z => h1 (hc.mp z)), if_neg h1]
      by_cases h2 : M 65 k < 0
      · rw [if_pos h2, if_pos h2, if_pos rfl]
      · rw [if_neg h2, if_neg h2, if_neg (show ¬ D = -1 by omega)]
  · rw [if_pos h0, if_neg h0]
    by_cases h1 : t + L ≤ B
    · rw [if_pos h1, if_neg (show ¬ t + L ≤ -1 by omega)]
    · rw [if_neg h1]
      by_cases h2 : M 65 k < 0
      · rw [if_pos h2, if_pos rfl]
      · rw [if_neg h2, if_neg (show ¬ D = -1 by omega), if_neg (show ¬ t + D ≤ -1 by omega)]
theorem gg_gl {M : ax_M} (h : PitOk M) (ma me e s : Int) : Gl (gg M ma me e s) (hh M ma me e s) (M 61 3) := by
  intro k hk hkn
  obtain ⟨-, b1, b2⟩ := h.1 k hk hkn
  have hg : 1 ≤ gx s * M 64 k := by rcases gx_12 s with hs | hs <;> rw [hs] <;> omega
  have hd : (if M 65 k < 0 then -1 else gx s * M 65 k) = -1 ∨ gx s * M 64 k ≤ (if M 65 k < 0 then -1 else gx s * M 65 k) := by
    rcases gx_12 s with hs | hs <;> rw [hs] <;> omega
  refine ⟨fun t b h0 => ?_, fun b => ?_⟩
  · rw [gg_core h ma me e s hk hkn h0]
    exact core_gl hg hd h0
  · unfold hh hcore
    split <;> omega
/-- the soonest at q from p at t (the reference's cells; a mark at ma to me) -/
noncomputable def so (M : ax_M) (ma me e s p t q : Int) : Int := ds (gg M ma me e s) (M 62) (M 63) (M 61 3) p t q
theorem pit_end {M : ax_M} (h : PitOk M) : ∀ k, 0 ≤ k → k < M 61 3 → 0 ≤ M 62 k ∧ M 62 k < ((M 61 0).toNat : Int) ∧ 0 ≤ M 63 k ∧ M 63 k < ((M 61 0).toNat : Int) := by
  intro k hk hkn
  obtain ⟨b, -, -⟩ := h.1 k hk hkn
  omega
theorem rn_99 {M : ax_M} (h : PitOk M) {ma me e s p t : Int} (ht : t ≤ 99) : ∀ (m : Nat) (v x : Int), Rn (gg M ma me e s) (M 62) (M 63) (M 61 3) p t m v x → x ≤ 99
  | 0, v, x, hr => by obtain ⟨-, rfl⟩ := hr; exact ht
  | m + 1, v, x, hr => by
    obtain ⟨k, u, y, h1, h2, h3, h4⟩ := hr
    rw [← h3]
    exact gg_99 h ma me e s h2.1 h2.2.1
theorem so_99 {M : ax_M} (h : PitOk M) {ma me e s p t q : Int} (h0 : 0 ≤ t) (ht : t ≤ 99) : so M ma me e s p t q ≤ 99 := by
  rcases ds_neg (p := p) (ea := M 62) (eb := M 63) (gg_gd h ma me e s) h0 q with h1 | h1
  · unfold so; omega
  · obtain ⟨m, hm⟩ := ds_rc (gg_gd h ma me e s) h0 h1
    exact rn_99 h ht m q _ hm
/-- the last minute to leave p so as to be at q by minute b -/
noncomputable def la (M : ax_M) (ma me e s p q b : Int) : Int := if ds (Gb (hh M ma me e s)) (M 62) (M 63) (M 61 3) q (99 - b) p < 0 then -1 else 99 - ds (Gb (hh M ma me e s)) (M 62) (M 63) (M 61 3) q (99 - b) p
theorem la_iff {M : ax_M} (h : PitOk M) {ma me e s p q b t : Int} (hb : b ≤ 99) (h0 : 0 ≤ t) : t ≤ la M ma me e s p q b ↔ (0 ≤ so M ma me e s p t q ∧ so M ma me e s p t q ≤ b) := by
  have hG := gg_gd h ma me e s
  have hk := bk_iff (p := q) (v := p) (ea := M 62) (eb := M 63) hG (gg_gl h ma me e s) hb h0
  have hs : (∃ x, Rc (gg M ma me e s) (M 62) (M 63) (M 61 3) p t q x ∧ x ≤ b) ↔ (0 ≤ so M ma me e s p t q ∧ so M ma me e s p t q ≤ b) := by
    constructor
    · intro ⟨x, h1, h2⟩
      have h3 := ds_le hG h0 h1
      unfold so
      omega
    · intro ⟨h1, h2⟩
      exact ⟨_, ds_rc hG h0 h1, h2⟩
  rw [← hs, ← hk]
  unfold la
  by_cases hd : ds (Gb (hh M ma me e s)) (M 62) (M 63) (M 61 3) q (99 - b) p < 0
  · rw [if_pos hd]; omega
  · rw [if_neg hd]; omega
theorem la_ge {M : ax_M} (h : PitOk M) {ma me e s p q b : Int} (h0 : 0 ≤ b) (hb : b ≤ 99) : -1 ≤ la M ma me e s p q b ∧ la M ma me e s p q b ≤ b := by
  have hG := gb_gd (gg_gd h ma me e s) (gg_gl h ma me e s)
  rcases ds_neg (p := q) (ea := M 62) (eb := M 63) hG (show 0 ≤ 99 - b by omega) p with h1 | h1
  · unfold la; rw [if_pos (by omega)]; omega
  · have h2 := ds_ge hG (show 0 ≤ 99 - b by omega) h1
    have h3 : 0 ≤ la M ma me e s p q b ∨ la M ma me e s p q b < -1 ∨ la M ma me e s p q b = -1 := by omega
    obtain ⟨m, hm⟩ := ds_rc hG (show 0 ≤ 99 - b by omega) h1
    have h5 : ds (Gb (hh M ma me e s)) (M 62) (M 63) (M 61 3) q (99 - b) p ≤ 99 := by
      cases m with
      | zero => obtain ⟨-, h6⟩ := hm; omega
      | succ m =>
        obtain ⟨k, u, y, a1, a2, a3, a4⟩ := hm
        rw [← a3]
        unfold Gb
        rcases ((gg_gl h ma me e s) k a2.1 a2.2.1).2 (99 - y) with h6 | h6
        · rw [if_pos h6]; omega
        · rw [if_neg (by omega)]; omega
    unfold la
    rw [if_neg (by omega)]
    omega
