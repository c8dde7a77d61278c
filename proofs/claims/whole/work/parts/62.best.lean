theorem sv_inj {f g : Nat → Bool} {k : Nat} (h : sv f k = sv g k) : ∀ j, j < k → f j = g j := by
  rcases sv_diff f g k with h1 | ⟨i, h1, h2, h3⟩
  · exact h1
  · exfalso
    cases hf : f i
    · cases hg : g i
      · rw [hf, hg] at h2; exact h2 rfl
      · have := sv_up k i h1 hf hg h3; omega
    · cases hg : g i
      · have := sv_up k i h1 hg hf (fun j a b => (h3 j a b).symm); omega
      · rw [hf, hg] at h2; exact h2 rfl
/-- a number with just these bits -/
theorem mk_set (f : Nat → Bool) {k : Nat} (hk : k ≤ 12) : ∃ Z : Int, 0 ≤ Z ∧ Z < ((2 ^ k : Nat) : Int) ∧ ∀ i : Nat, i < k → tb Z i = f i := by
  have h1 := sv_lt2 f k
  have h2 : (2 : Nat) ^ k ≤ 2 ^ 12 := Nat.pow_le_pow_right (by decide) hk
  have e12 : (2 : Nat) ^ 12 = 4096 := by decide
  refine ⟨((sv f k : Nat) : Int), by omega, by omega, fun i hi => ?_⟩
  rw [tb_n _ (by omega) i]
  have h3 := sv_mod (sv f k) k
  rw [Nat.mod_eq_of_lt h1] at h3
  exact (sv_inj h3 i hi).symm
theorem srt_cg {f g : Int → Int} {U : Int} {N : Nat} (h : Srt f U N) (hg : ∀ s, 0 ≤ s → s < nb U N → g s = f s) : Srt g U N := by
  refine ⟨fun s a b => ?_, fun s s' a b c => ?_, fun w a b c => ?_⟩
  · rw [hg s a b]; exact h.1 s a b
  · rw [hg s a (by omega), hg s' (by omega) c]; exact h.2.1 s s' a b c
  · obtain ⟨s, s0, s1, s2⟩ := h.2.2 w a b c
    exact ⟨s, s0, s1, by rw [hg s s0 s1]; exact s2⟩
section SETS
variable {st : Int → Int} {U ns : Int}
theorem st_inj (h : Srt st U 12) (hn : ns = nb U 12) {s s' : Int} (a : 0 ≤ s) (b : 0 ≤ s') (c : s < ns) (d : s' < ns) (q : st s = st s') : s = s' := by
  rcases Int.lt_or_le s s' with z | z
  · have := h.2.1 s s' a z (by omega); omega
  · rcases Int.lt_or_le s' s with z2 | z2
    · have := h.2.1 s' s b z2 (by omega); omega
    · omega
theorem pz_bit (h : Srt st U 12) (hn : ns = nb U 12) {X Y s : Int} (hz : Pz st ns X Y) (a : 0 ≤ s) (c : s < ns) : tb Y (st s) = true ↔ tb X s = true := by
  have r := h.1 s a (by omega)
  rw [hz.2 (st s) r.1 (by omega)]
  constructor
  · rintro ⟨s', a', b', c', d'⟩
    rw [← st_inj h hn a' a b' c c']; exact d'
  · intro q; exact ⟨s, a, c, rfl, q⟩
theorem pz_ex (X : Int) : ∃ Y, Pz st ns X Y := by
  obtain ⟨Y, a, b, c⟩ := mk_set (fun w => @decide (∃ s, 0 ≤ s ∧ s < ns ∧ st s = (w : Int) ∧ tb X s = true) (Classical.propDecidable _)) (k := 12) (Nat.le_refl _)
  refine ⟨Y, ⟨a, by have e12 : (2 : Nat) ^ 12 = 4096 := by decide
                    omega⟩, fun w w0 w1 => ?_⟩
  have q := c w.toNat (by omega)
  rw [show ((w.toNat : Nat) : Int) = w by omega] at q
  rw [q]
  exact @decide_eq_true_iff _ (Classical.propDecidable _)
/-- every set of places that do not know is a set of stops -/
theorem pz_pre (h : Srt st U 12) (hn : ns = nb U 12) (h6 : ns ≤ 6) {Y : Int} (hY : 0 ≤ Y ∧ Y < 4096) (hv : bo_and Y (bo_xor U (-1)) = 0) : ∃ X, (0 ≤ X ∧ X ≤ bo_shl 1 ns - 1) ∧ Pz st ns X Y := by
  have nr := nb_rg U 12
  have al := all_st (k := ns) (by omega) h6
  obtain ⟨X, a, b, c⟩ := mk_set (fun s => decide ((s : Int) < ns) && tb Y (st (s : Int))) (k := 6) (by decide)
  have e6 : (2 : Nat) ^ 6 = 64 := by decide
  have cX : ∀ s, 0 ≤ s → s < 6 → (tb X s = true ↔ s < ns ∧ tb Y (st s) = true) := by
    intro s s0 s1
    have q := c s.toNat (by omega)
    rw [show ((s.toNat : Nat) : Int) = s by omega] at q
    rw [q, Bool.and_eq_true, decide_eq_true_iff]
  refine ⟨X, ⟨a, ?_⟩, hY, fun w w0 w1 => ?_⟩
  · rcases Int.lt_or_le (bo_shl 1 ns - 1) X with z | z
    · exfalso
      obtain ⟨i, i0, i1, i2, i3, _⟩ := (set_lt (x := bo_shl 1 ns - 1) (y := X) (by omega) (by omega)).mp z
      rcases Int.lt_or_le i 6 with z1 | z1
      · have := (al.2 i i0 i1).mpr ((cX i i0 z1).mp i3).1
        rw [i2] at this; exact absurd this (by decide)
      · rw [tb_hi6 a (by omega) z1] at i3; exact absurd i3 (by decide)
    · exact z
  · constructor
    · intro q
      have uq := sub_tb hv (by omega) q
      obtain ⟨s, s0, s1, s2⟩ := h.2.2 w w0 (by omega) uq
      exact ⟨s, s0, by omega, s2, (cX s s0 (by omega)).mpr ⟨by omega, by rw [s2]; exact q⟩⟩
    · rintro ⟨s, s0, s1, s2, s3⟩
      rw [← s2]
      exact ((cX s s0 (by omega)).mp s3).2
theorem pz_val (h : Srt st U 12) (hn : ns = nb U 12) {X Y : Int} (hz : Pz st ns X Y) : bo_and Y (bo_xor U (-1)) = 0 := by
  refine (and0 hz.1).mpr (fun i i0 i1 q => ?_)
  obtain ⟨s, s0, s1, s2, s3⟩ := (hz.2 i i0 i1).mp q.1
  have := (h.1 s s0 (by omega)).2.2
  rw [s2] at this
  rw [tb_xor, tb_m1 (by omega), this] at q
  exact absurd q.2 (by decide)
theorem pz_lt (h : Srt st U 12) (hn : ns = nb U 12) (h6 : ns ≤ 6) {X X' Y Y' : Int} (hX : 0 ≤ X ∧ X ≤ bo_shl 1 ns - 1) (hX' : 0 ≤ X' ∧ X' ≤ bo_shl 1 ns - 1) (hz : Pz st ns X Y) (hz' : Pz st ns X' Y') (hlt : X < X') : Y < Y' := by
  have nr := nb_rg U 12
  have al := all_st (k := ns) (by omega) h6
  obtain ⟨i, i0, i1, i2, i3, i4⟩ := (set_lt (x := X) (y := X') (by omega) (by omega)).mp hlt
  -- X' has no stop past the last
  have hi6 : i < 6 := by
    rcases Int.lt_or_le i 6 with z | z
    · exact z
    · rw [tb_hi6 hX'.1 (by omega) z] at i3; exact absurd i3 (by decide)
  have bit : ∀ {V : Int}, (0 ≤ V ∧ V ≤ bo_shl 1 ns - 1) → ∀ j, 0 ≤ j → j < 12 → tb V j = true → j < ns := by
    intro V hV j j0 j1 q
    rcases Int.lt_or_le j ns with z | z
    · exact z
    · exfalso
      -- the highest bit of V beyond ns makes V too great
      have : ∀ (r : Nat) (k : Int), k + r = 12 → j ≤ k → ∃ k', j ≤ k' ∧ k' < 12 ∧ tb V k' = true ∧ ∀ m, k' < m → m < k → tb V m = false := by
        intro r k hk hjk
        obtain ⟨d, hd⟩ : ∃ d : Nat, k = j + d := ⟨(k - j).toNat, by omega⟩
        subst hd
        clear hk
        induction d with
        | zero => exact ⟨j, Int.le_refl _, j1, q, fun m a b => by omega⟩
        | succ d ihd =>
          obtain ⟨k', a1, a2, a3, a4⟩ := ihd (by omega)
          by_cases z2 : tb V (j + d) = true ∧ j + d < 12
          · exact ⟨j + d, by omega, z2.2, z2.1, fun m a b => by omega⟩
          · refine ⟨k', a1, a2, a3, fun m a b => ?_⟩
            rcases Int.lt_or_le m (j + d) with z3 | z3
            · exact a4 m a z3
            · have em : m = j + d := by omega
              subst em
              rcases Int.lt_or_le (j + (d : Int)) 12 with z4 | z4
              · cases z5 : tb V (j + d)
                · rfl
                · exact absurd ⟨z5, z4⟩ z2
              · exact tb_hi hV.1 (by omega) z4
      obtain ⟨k', a1, a2, a3, a4⟩ := this (12 - j).toNat j (by omega) (Int.le_refl _)
      obtain ⟨k2, c1, c2, c3, c4⟩ := this 0 12 (by omega) (by omega)
      have lt : bo_shl 1 ns - 1 < V := by
        refine (set_lt (x := bo_shl 1 ns - 1) (y := V) (by omega) (by omega)).mpr ⟨k2, by omega, c2, ?_, c3, fun m m0 m1 => ?_⟩
        · cases z6 : tb (bo_shl 1 ns - 1) k2
          · rfl
          · have := (al.2 k2 (by omega) c2).mp z6; omega
        · rw [c4 m m0 m1]
          cases z6 : tb (bo_shl 1 ns - 1) m
          · rfl
          · have := (al.2 m (by omega) m1).mp z6; omega
      omega
  have his : i < ns := bit hX' i i0 i1 i3
  have ri := h.1 i i0 (by omega)
  refine (set_lt hz.1 hz'.1).mpr ⟨st i, ri.1, by omega, ?_, (pz_bit h hn hz' i0 his).mpr i3, fun j j0 j1 => ?_⟩
  · cases z : tb Y (st i)
    · rfl
    · have := (pz_bit h hn hz i0 his).mp z
      rw [i2] at this; exact absurd this (by decide)
  · have same : tb Y j = true ↔ tb Y' j = true := by
      rw [hz.2 j (by omega) j1, hz'.2 j (by omega) j1]
      have up : ∀ s, 0 ≤ s → s < ns → st s = j → i < s := by
        intro s s0 s1 s2
        rcases Int.lt_or_le i s with z | z
        · exact z
        · rcases Int.lt_or_le s i with z2 | z2
          · have := h.2.1 s i s0 z2 (by omega); omega
          · rw [show s = i by omega] at s2; omega
      constructor
      · rintro ⟨s, s0, s1, s2, s3⟩
        exact ⟨s, s0, s1, s2, by rw [← i4 s (up s s0 s1 s2) (by omega)]; exact s3⟩
      · rintro ⟨s, s0, s1, s2, s3⟩
        exact ⟨s, s0, s1, s2, by rw [i4 s (up s s0 s1 s2) (by omega)]; exact s3⟩
    cases z : tb Y j <;> cases z' : tb Y' j <;> simp [z, z'] at same ⊢
theorem pz_eq {X Y Y' : Int} (hz : Pz st ns X Y) (hz' : Pz st ns X Y') : Y = Y' := by
  refine set_eq hz.1 hz'.1 (fun i i0 i1 => ?_)
  have a := hz.2 i i0 i1
  have b := hz'.2 i i0 i1
  cases z : tb Y i <;> cases z' : tb Y' i <;> simp [z, z'] at a b ⊢
  · obtain ⟨s, s0, s1, s2, s3⟩ := b
    have := a s s0 s1 s2
    rw [s3] at this; exact absurd this (by decide)
  · obtain ⟨s, s0, s1, s2, s3⟩ := a
    have := b s s0 s1 s2
    rw [s3] at this; exact absurd this (by decide)
theorem pz_dis (h : Srt st U 12) (hn : ns = nb U 12) {X X' Y Y' : Int} (hX : 0 ≤ X ∧ X < 64) (hz : Pz st ns X Y) (hz' : Pz st ns X' Y') (hb : ∀ s, 0 ≤ s → s < 12 → tb X s = true → s < ns) : bo_and X X' = 0 ↔ bo_and Y Y' = 0 := by
  rw [and0 (by omega), and0 hz.1]
  constructor
  · intro g i i0 i1 q
    obtain ⟨s, s0, s1, s2, s3⟩ := (hz.2 i i0 i1).mp q.1
    have nr := nb_rg U 12
    have q2 := q.2
    rw [← s2] at q2
    exact g s s0 (by omega) ⟨s3, (pz_bit h hn hz' s0 s1).mp q2⟩
  · intro g i i0 i1 q
    have his := hb i i0 i1 q.1
    have ri := h.1 i i0 (by omega)
    exact g (st i) ri.1 (by omega) ⟨(pz_bit h hn hz i0 his).mpr q.1, (pz_bit h hn hz' i0 his).mpr q.2⟩
end SETS
