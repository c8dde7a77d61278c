section GRAPH2
variable {G : Int → Int → Int} {ea eb : Int → Int} {n p t : Int}
theorem rn_cons {k w : Int} (he : Ed ea eb n k w p) (t0 : Int) (hg : 0 ≤ G k t0) : ∀ (m : Nat) (v x : Int), Rn G ea eb n p (G k t0) m v x → Rn G ea eb n w t0 (m + 1) v x
  | 0, v, x, h => by
    obtain ⟨rfl, rfl⟩ := h
    exact ⟨k, w, t0, ⟨rfl, rfl⟩, he, rfl, hg⟩
  | m + 1, v, x, h => by
    obtain ⟨k', u, y, h1, h2, h3, h4⟩ := h
    exact ⟨k', u, y, rn_cons he t0 hg m u y h1, h2, h3, h4⟩
theorem rn_unc : ∀ (m : Nat) (v x : Int), Rn G ea eb n p t (m + 1) v x → ∃ k w, Ed ea eb n k p w ∧ 0 ≤ G k t ∧ Rn G ea eb n w (G k t) m v x
  | 0, v, x, h => by
    obtain ⟨k, u, y, ⟨rfl, rfl⟩, h2, h3, h4⟩ := h
    exact ⟨k, v, h2, by omega, rfl, h3.symm⟩
  | m + 1, v, x, h => by
    obtain ⟨k', u, y, h1, h2, h3, h4⟩ := h
    obtain ⟨k, w, a1, a2, a3⟩ := rn_unc m u y h1
    exact ⟨k, w, a1, a2, k', u, y, a3, h2, h3, h4⟩
theorem rc_cons {k w v x t0 : Int} (he : Ed ea eb n k w p) (hg : 0 ≤ G k t0) (h : Rc G ea eb n p (G k t0) v x) : Rc G ea eb n w t0 v x := by
  obtain ⟨m, h⟩ := h
  exact ⟨m + 1, rn_cons he t0 hg m v x h⟩
/-- walks one behind the other -/
theorem rc_trans (hG : Gd G n) (ht : 0 ≤ t) {q y v x : Int} (h1 : Rc G ea eb n p t q y) (h2 : Rc G ea eb n q y v x) : Rc G ea eb n p t v x := by
  obtain ⟨m2, h2⟩ := h2
  induction m2 generalizing v x with
  | zero =>
    obtain ⟨rfl, rfl⟩ := h2
    exact h1
  | succ m ih =>
    obtain ⟨k, u, z, a1, a2, a3, a4⟩ := h2
    have h3 := ih a1
    have := rc_s h3 a2 (by omega)
    rw [a3] at this
    exact this
/-- who begins sooner comes no later -/
theorem rn_mono (hG : Gd G n) {t' : Int} (ht : 0 ≤ t') (htt : t' ≤ t) : ∀ (m : Nat) (v x : Int), Rn G ea eb n p t m v x → ∃ x', Rn G ea eb n p t' m v x' ∧ x' ≤ x
  | 0, v, x, h => by
    obtain ⟨rfl, rfl⟩ := h
    exact ⟨t', ⟨rfl, rfl⟩, htt⟩
  | m + 1, v, x, h => by
    obtain ⟨k, u, y, h1, h2, h3, h4⟩ := h
    obtain ⟨y', a1, a2⟩ := rn_mono hG ht htt m u y h1
    have h5 := rn_ge hG ht m u y' a1
    have h6 := hG k h2.1 h2.2.1 y' y (by omega) a2 (by omega)
    exact ⟨G k y', ⟨k, u, y', a1, h2, rfl, by omega⟩, by omega⟩
theorem rc_mono (hG : Gd G n) {t' v x : Int} (ht : 0 ≤ t') (htt : t' ≤ t) (h : Rc G ea eb n p t v x) : ∃ x', Rc G ea eb n p t' v x' ∧ x' ≤ x := by
  obtain ⟨m, h⟩ := h
  obtain ⟨x', a1, a2⟩ := rn_mono hG ht htt m v x h
  exact ⟨x', ⟨m, a1⟩, a2⟩
theorem ds_mono (hG : Gd G n) {t' v : Int} (ht : 0 ≤ t') (htt : t' ≤ t) (h : 0 ≤ ds G ea eb n p t v) : 0 ≤ ds G ea eb n p t' v ∧ ds G ea eb n p t' v ≤ ds G ea eb n p t v := by
  obtain ⟨x', a1, a2⟩ := rc_mono hG ht htt (ds_rc hG (by omega) h)
  have h3 := ds_le hG ht a1
  omega
theorem ds_tri (hG : Gd G n) (ht : 0 ≤ t) {q v : Int} (h1 : 0 ≤ ds G ea eb n p t q) (h2 : 0 ≤ ds G ea eb n q (ds G ea eb n p t q) v) : 0 ≤ ds G ea eb n p t v ∧ ds G ea eb n p t v ≤ ds G ea eb n q (ds G ea eb n p t q) v :=
  ds_le hG ht (rc_trans hG ht (ds_rc hG ht h1) (ds_rc hG h1 h2))
/-- the same ways, the same soonest -/
theorem rn_congr {G' : Int → Int → Int} {ea' eb' : Int → Int} (hg : ∀ k t, 0 ≤ k → k < n → 0 ≤ t → G k t = G' k t) (ha : ∀ k, 0 ≤ k → k < n → ea k = ea' k ∧ eb k = eb' k) (ht : 0 ≤ t) (hG : Gd G n) : ∀ (m : Nat) (v x : Int), Rn G ea eb n p t m v x → Rn G' ea' eb' n p t m v x
  | 0, v, x, h => h
  | m + 1, v, x, h => by
    obtain ⟨k, u, y, h1, h2, h3, h4⟩ := h
    have h5 := rn_ge hG ht m u y h1
    have h6 := ha k h2.1 h2.2.1
    refine ⟨k, u, y, rn_congr hg ha ht hG m u y h1, ⟨h2.1, h2.2.1, ?_⟩, by rw [← hg k y h2.1 h2.2.1 (by omega)]; exact h3, h4⟩
    rw [← h6.1, ← h6.2]
    exact h2.2.2
theorem gd_congr {G' : Int → Int → Int} (hg : ∀ k t, 0 ≤ k → k < n → 0 ≤ t → G k t = G' k t) (hG : Gd G n) : Gd G' n := by
  intro k hk hkn t t' h0 h1 h2
  rw [← hg k t' hk hkn (by omega)] at h2 ⊢
  rw [← hg k t hk hkn h0]
  exact hG k hk hkn t t' h0 h1 h2
theorem ds_congr {G' : Int → Int → Int} {ea' eb' : Int → Int} (hg : ∀ k t, 0 ≤ k → k < n → 0 ≤ t → G k t = G' k t) (ha : ∀ k, 0 ≤ k → k < n → ea k = ea' k ∧ eb k = eb' k) (ht : 0 ≤ t) (hG : Gd G n) (v : Int) : ds G ea eb n p t v = ds G' ea' eb' n p t v := by
  have hG' := gd_congr hg hG
  have h1 : ∀ x, Rc G ea eb n p t v x ↔ Rc G' ea' eb' n p t v x := fun x => ⟨fun ⟨m, h⟩ => ⟨m, rn_congr hg ha ht hG m v x h⟩, fun ⟨m, h⟩ => ⟨m, rn_congr (fun k t a b c => (hg k t a b c).symm) (fun k a b => ⟨(ha k a b).1.symm, (ha k a b).2.symm⟩) ht hG' m v x h⟩⟩
  rcases ds_sp (p := p) (ea := ea) (eb := eb) hG ht v with h | h
  · rcases ds_sp (p := p) (ea := ea') (eb := eb') hG' ht v with h2 | h2
    · rw [h.1, h2.1]
    · exact absurd ((h1 _).mpr h2.2.1) (h.2 _)
  · rcases ds_sp (p := p) (ea := ea') (eb := eb') hG' ht v with h2 | h2
    · exact absurd ((h1 _).mp h.2.1) (h2.2 _)
    · have a := h.2.2 _ ((h1 _).mpr h2.2.1)
      have b := h2.2.2 _ ((h1 _).mp h.2.1)
      omega
/-- the last minute to go into a way: the other side of G -/
def Gl (G H : Int → Int → Int) (n : Int) : Prop := ∀ k, 0 ≤ k → k < n → (∀ t b, 0 ≤ t → ((0 ≤ G k t ∧ G k t ≤ b) ↔ t ≤ H k b)) ∧ ∀ b, H k b = -1 ∨ 0 ≤ H k b
/-- time turned round -/
def Gb (H : Int → Int → Int) (k y : Int) : Int := if H k (99 - y) = -1 then -1 else 99 - H k (99 - y)
theorem gl_lt {H : Int → Int → Int} (hG : Gd G n) (hl : Gl G H n) {k b : Int} (hk : 0 ≤ k) (hkn : k < n) (h : 0 ≤ H k b) : H k b < b := by
  have h1 := ((hl k hk hkn).1 (H k b) b h).mpr (Int.le_refl _)
  have h2 := hG k hk hkn (H k b) (H k b) h (Int.le_refl _) h1.1
  omega
theorem gl_mono {H : Int → Int → Int} (hl : Gl G H n) {k b b' : Int} (hk : 0 ≤ k) (hkn : k < n) (hb : b ≤ b') : H k b ≤ H k b' := by
  rcases (hl k hk hkn).2 b with h | h
  · rcases (hl k hk hkn).2 b' with h2 | h2 <;> omega
  · have h1 := ((hl k hk hkn).1 (H k b) b h).mpr (Int.le_refl _)
    exact ((hl k hk hkn).1 (H k b) b' h).mp ⟨h1.1, by omega⟩
theorem gb_gd {H : Int → Int → Int} (hG : Gd G n) (hl : Gl G H n) : Gd (Gb H) n := by
  intro k hk hkn y y' h0 h1 h2
  have hm := gl_mono hl hk hkn (show 99 - y' ≤ 99 - y by omega)
  unfold Gb at h2 ⊢
  by_cases h3 : H k (99 - y') = -1
  · rw [if_pos h3] at h2; omega
  · rw [if_neg h3] at h2 ⊢
    have h4 : 0 ≤ H k (99 - y') := by
      rcases (hl k hk hkn).2 (99 - y') with h | h
      · exact absurd h h3
      · exact h
    have h5 : ¬ H k (99 - y) = -1 := by omega
    rw [if_neg h5]
    have h6 := gl_lt hG hl hk hkn (show 0 ≤ H k (99 - y) by omega)
    omega
/-- backward table: who is at v by 99 less it comes to p by m -/
theorem bk_sound {H : Int → Int → Int} (hG : Gd G n) (hl : Gl G H n) {m0 : Int} : ∀ (m : Nat) (v y : Int), Rn (Gb H) ea eb n p (99 - m0) m v y → ∀ t, 0 ≤ t → t ≤ 99 - y → ∃ x, Rc G ea eb n v t p x ∧ x ≤ m0
  | 0, v, y, h, t, h0, h1 => by
    obtain ⟨rfl, rfl⟩ := h
    exact ⟨t, rc_0, by omega⟩
  | m + 1, v, y, h, t, h0, h1 => by
    obtain ⟨k, u, z, a1, a2, a3, a4⟩ := h
    unfold Gb at a3
    by_cases h3 : H k (99 - z) = -1
    · rw [if_pos h3] at a3; omega
    · rw [if_neg h3] at a3
      have h5 := ((hl k a2.1 a2.2.1).1 t (99 - z) h0).mpr (by omega)
      obtain ⟨x, b1, b2⟩ := bk_sound hG hl m u z a1 (G k t) h5.1 h5.2
      exact ⟨x, rc_cons a2.sym h5.1 b1, b2⟩
theorem bk_compl {H : Int → Int → Int} (hG : Gd G n) (hl : Gl G H n) {m0 : Int} (hm : m0 ≤ 99) : ∀ (m : Nat) (v t x : Int), 0 ≤ t → Rn G ea eb n v t m p x → x ≤ m0 → ∃ y, Rc (Gb H) ea eb n p (99 - m0) v y ∧ y ≤ 99 - t
  | 0, v, t, x, h0, h, hx => by
    obtain ⟨rfl, rfl⟩ := h
    exact ⟨99 - m0, rc_0, by omega⟩
  | m + 1, v, t, x, h0, h, hx => by
    obtain ⟨k, w, a1, a2, a3⟩ := rn_unc m p x h
    obtain ⟨y, b1, b2⟩ := bk_compl hG hl hm m w (G k t) x a2 a3 hx
    have h5 := ((hl k a1.1 a1.2.1).1 t (99 - y) h0).mp ⟨a2, by omega⟩
    have h6 : ¬ H k (99 - y) = -1 := by omega
    have h7 : Gb H k y = 99 - H k (99 - y) := by unfold Gb; rw [if_neg h6]
    have hy := rc_ge (gb_gd hG hl) (show 0 ≤ 99 - m0 by omega) b1
    have h8 := gl_lt hG hl a1.1 a1.2.1 (show 0 ≤ H k (99 - y) by omega)
    have h9 : 0 ≤ Gb H k y := by rw [h7]; omega
    exact ⟨Gb H k y, rc_s b1 a1.sym h9, by omega⟩
theorem bk_iff {H : Int → Int → Int} (hG : Gd G n) (hl : Gl G H n) {m0 v t : Int} (hm : m0 ≤ 99) (h0 : 0 ≤ t) : (0 ≤ ds (Gb H) ea eb n p (99 - m0) v ∧ t ≤ 99 - ds (Gb H) ea eb n p (99 - m0) v) ↔ ∃ x, Rc G ea eb n v t p x ∧ x ≤ m0 := by
  have hb := gb_gd hG hl
  constructor
  · intro ⟨h1, h2⟩
    obtain ⟨m, hm2⟩ := ds_rc hb (by omega) h1
    exact bk_sound hG hl m v _ hm2 t h0 h2
  · intro ⟨x, ⟨m, h1⟩, h2⟩
    obtain ⟨y, a1, a2⟩ := bk_compl hG hl hm m v t x h0 h1 h2
    have h3 := ds_le hb (by omega) a1
    omega
end GRAPH2
