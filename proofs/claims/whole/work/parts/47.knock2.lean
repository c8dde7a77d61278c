theorem tb_yes {x i : Int} (h0 : 0 ≤ i) (h1 : i < 32) : bo_and (bo_shr x i) 1 = 1 ↔ tb x i = true := by
  rw [tb_shr h0 h1]
  cases tb x i <;> decide
/-- the places next to the set x by the first k ways -/
def Nx (M : ax_M) (x v : Int) (k : Int) : Prop := ∃ j, 0 ≤ j ∧ j < k ∧ M 69 j = 0 ∧ ((tb x (M 62 j) = true ∧ v = M 63 j) ∨ (tb x (M 63 j) = true ∧ v = M 62 j))
theorem nx_s {M : ax_M} {x v k : Int} (hk : 0 ≤ k) : Nx M x v (k + 1) ↔ Nx M x v k ∨ (M 69 k = 0 ∧ ((tb x (M 62 k) = true ∧ v = M 63 k) ∨ (tb x (M 63 k) = true ∧ v = M 62 k))) := by
  constructor
  · rintro ⟨j, a, b, c⟩
    by_cases h : j = k
    · subst h; exact Or.inr c
    · exact Or.inl ⟨j, a, by omega, c⟩
  · rintro (⟨j, a, b, c⟩ | c)
    · exact ⟨j, a, by omega, c⟩
    · exact ⟨k, hk, by omega, c⟩
theorem nx_hp {M : ax_M} (hp0 : PitOk M) {p x v L : Int} (hpp : 0 ≤ p ∧ p < M 61 0) (hL : 0 ≤ L) (v0 : 0 ≤ v) (v1 : v < M 61 0) (hx : ∀ u, 0 ≤ u → u < M 61 0 → (tb x u = true ↔ 0 ≤ hp M p u ∧ hp M p u ≤ L)) : (Nx M x v (M 61 3) ∧ ¬ tb x v = true) ↔ hp M p v = L + 1 := by
  have hn := hp_neg M p v
  have h12 : M 61 0 ≤ 12 := by have := hp0.2.2; omega
  have st : ∀ k u, Ed (M 62) (M 63) (M 61 3) k u v → M 69 k = 0 → 0 ≤ hp M p u → hp M p u < M 61 0 → 0 ≤ hp M p v ∧ hp M p v ≤ hp M p u + 1 := by
    intro k u he h9 h0 h1
    have eg : uG M k (hp M p u) = hp M p u + 1 := by unfold uG; rw [if_pos h9, if_pos (by omega)]
    have q := ds_ed (uG_gd M (M 61 3)) (Int.le_refl 0) (ea := M 62) (eb := M 63) (p := p) h0 he (by show 0 ≤ uG M k (hp M p u); omega)
    have q2 : 0 ≤ hp M p v ∧ hp M p v ≤ uG M k (hp M p u) := q
    omega
  constructor
  · rintro ⟨⟨j, a, b, c, d⟩, e⟩
    have w := (hp0.1 j a b).1
    have hv := hx v v0 v1
    have nv : ¬ (0 ≤ hp M p v ∧ hp M p v ≤ L) := fun z => e (hv.mpr z)
    rcases d with ⟨d1, d2⟩ | ⟨d1, d2⟩
    · have hu := (hx (M 62 j) (by omega) (by omega)).mp d1
      have q := st j (M 62 j) ⟨a, b, Or.inl ⟨rfl, d2⟩⟩ c hu.1 (hp_lt hp0 hpp (by omega) (by omega))
      omega
    · have hu := (hx (M 63 j) (by omega) (by omega)).mp d1
      have q := st j (M 63 j) ⟨a, b, Or.inr ⟨rfl, d2⟩⟩ c hu.1 (hp_lt hp0 hpp (by omega) (by omega))
      omega
  · intro h
    refine ⟨?_, fun z => by have := (hx v v0 v1).mp z; omega⟩
    rcases ds_sup (uG_gd M _) (Int.le_refl 0) (show 0 ≤ ds (uG M) (M 62) (M 63) (M 61 3) p 0 v from by have : hp M p v = ds (uG M) (M 62) (M 63) (M 61 3) p 0 v := rfl; omega) with h1 | ⟨k, u, he, h2, h3, h4⟩
    · have : hp M p v = 0 := h1.2
      omega
    · have e : uG M k (hp M p u) = hp M p v := h4
      have u0 : 0 ≤ hp M p u := h2
      have h9 : M 69 k = 0 := by
        by_cases h9 : M 69 k = 0
        · exact h9
        · unfold uG at e; rw [if_neg h9] at e; omega
      have e1 : hp M p u = L := by
        unfold uG at e
        rw [if_pos h9] at e
        split at e <;> omega
      have w := (hp0.1 k he.1 he.2.1).1
      refine ⟨k, he.1, he.2.1, h9, ?_⟩
      rcases he.2.2 with ⟨a, b⟩ | ⟨a, b⟩
      · exact Or.inl ⟨(hx _ (by omega) (by omega)).mpr (by rw [← a]; omega), b⟩
      · exact Or.inr ⟨(hx _ (by omega) (by omega)).mpr (by rw [← a]; omega), b⟩
