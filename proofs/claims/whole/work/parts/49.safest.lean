/-- x is the chance of a row from u at t with chance c, of at most f further places, none of vis, that ends at the shaft -/
def Rz (M : ax_M) (e : Int) : Nat → Int → Int → Int → (Int → Prop) → Int → Prop
  | 0, u, _, c, _, x => u = M 61 1 ∧ x = c
  | f + 1, u, t, c, vis, x => (u = M 61 1 ∧ x = c) ∨ (¬ u = M 61 1 ∧ ∃ v k, 0 ≤ v ∧ v < M 61 0 ∧ ¬ vis v ∧ wt M (-1) (-1) e 0 u v t (M 61 3).toNat = k ∧ 0 ≤ k ∧ Rz M e f v (gg M (-1) (-1) e 0 k t) (c * nbt (1000 - M 68 k) (gg M (-1) (-1) e 0 k t).toNat / 1000000) (fun w => vis w ∨ w = v) x)
theorem rz_c {M : ax_M} {e : Int} : ∀ (f : Nat) {u t c x : Int} {vis vis' : Int → Prop}, (∀ w, 0 ≤ w → w < M 61 0 → (vis w ↔ vis' w)) → Rz M e f u t c vis x → Rz M e f u t c vis' x
  | 0, _, _, _, _, _, _, _, h => h
  | f + 1, u, t, c, x, vis, vis', hv, h => by
    rcases h with h | ⟨h1, v, k, v0, v1, h2, h3, h4, h5⟩
    · exact Or.inl h
    · exact Or.inr ⟨h1, v, k, v0, v1, fun z => h2 ((hv v v0 v1).mpr z), h3, h4, rz_c f (fun w w0 w1 => by rw [hv w w0 w1]) h5⟩
theorem rz_rg {M : ax_M} (hp : PitOk M) {e : Int} : ∀ (f : Nat) {u t c x : Int} {vis : Int → Prop}, 0 ≤ c → c ≤ 1000000 → Rz M e f u t c vis x → 0 ≤ x ∧ x ≤ c
  | 0, _, _, _, _, _, h0, h1, h => by rw [h.2]; exact ⟨h0, Int.le_refl _⟩
  | f + 1, u, t, c, x, vis, h0, h1, h => by
    rcases h with h | ⟨_, v, k, v0, v1, h2, h3, h4, h5⟩
    · rw [h.2]; exact ⟨h0, Int.le_refl _⟩
    · have ws := wt_sp M (-1) (-1) e 0 u v t (M 61 3).toNat
      rw [h3] at ws
      have ws := ws.resolve_left (by omega)
      have w0 := hp.1 k h4 (by omega)
      have nb := nbt_rg (c := 1000 - M 68 k) (by omega) (by omega) (gg M (-1) (-1) e 0 k t).toNat
      have rr := mul_rg h0 (Int.le_refl c) nb.1 nb.2
      have q := rz_rg hp f (by omega) (by omega) h5
      omega
/-- R is the better of b and the best row -/
def Mz (M : ax_M) (e : Int) (f : Nat) (u t c : Int) (vis : Int → Prop) (b R : Int) : Prop := b ≤ R ∧ (∀ x, Rz M e f u t c vis x → x ≤ R) ∧ (R = b ∨ Rz M e f u t c vis R)
theorem mz_un {M : ax_M} {e : Int} {f : Nat} {u t c b R R' : Int} {vis vis' : Int → Prop} (hv : ∀ w, 0 ≤ w → w < M 61 0 → (vis w ↔ vis' w)) (h : Mz M e f u t c vis b R) (h' : Mz M e f u t c vis' b R') : R = R' := by
  have a : R ≤ R' := by
    rcases h.2.2 with q | q
    · rw [q]; exact h'.1
    · exact h'.2.1 R (rz_c f hv q)
  have a' : R' ≤ R := by
    rcases h'.2.2 with q | q
    · rw [q]; exact h.1
    · exact h.2.1 R' (rz_c f (fun w w0 w1 => (hv w w0 w1).symm) q)
  omega
