/-! sets of places as numbers -/
def sv (f : Nat → Bool) : Nat → Nat
  | 0 => 0
  | k + 1 => sv f k + (if f k then 2 ^ k else 0)
theorem sv_lt2 (f : Nat → Bool) : ∀ k, sv f k < 2 ^ k
  | 0 => by rw [sv.eq_1]; decide
  | k + 1 => by
    have h := sv_lt2 f k
    rw [sv.eq_2, Nat.pow_succ]
    split <;> omega
theorem sv_mod (x : Nat) : ∀ k, x % 2 ^ k = sv x.testBit k
  | 0 => by rw [sv.eq_1]; exact Nat.mod_one x
  | k + 1 => by
    rw [Nat.mod_pow_succ, sv_mod x k, sv.eq_2, Nat.testBit_eq_decide_div_mod_eq]
    have h : x / 2 ^ k % 2 = 0 ∨ x / 2 ^ k % 2 = 1 := by omega
    rcases h with h | h
    · rw [h]; simp
    · rw [h]; simp
theorem sv_cg {f g : Nat → Bool} : ∀ k, (∀ j, j < k → f j = g j) → sv f k = sv g k
  | 0, _ => by rw [sv.eq_1, sv.eq_1]
  | k + 1, h => by rw [sv.eq_2, sv.eq_2, h k (by omega), sv_cg k (fun j hj => h j (by omega))]
theorem sv_up {f g : Nat → Bool} : ∀ k i, i < k → f i = false → g i = true → (∀ j, i < j → j < k → f j = g j) → sv f k < sv g k
  | 0, _, h, _, _, _ => by omega
  | k + 1, i, hi, h1, h2, h3 => by
    by_cases e : i = k
    · subst e
      have h := sv_lt2 f i
      rw [sv.eq_2, sv.eq_2, h1, h2, if_neg (by decide), if_pos rfl]
      omega
    · have h := sv_up k i (by omega) h1 h2 (fun j a b => h3 j a (by omega))
      rw [sv.eq_2, sv.eq_2, h3 k (by omega) (by omega)]
      omega
theorem sv_diff (f g : Nat → Bool) : ∀ k, (∀ j, j < k → f j = g j) ∨ ∃ i, i < k ∧ f i ≠ g i ∧ ∀ j, i < j → j < k → f j = g j
  | 0 => Or.inl (fun j hj => by omega)
  | k + 1 => by
    by_cases e : f k = g k
    · rcases sv_diff f g k with h | ⟨i, h1, h2, h3⟩
      · refine Or.inl (fun j hj => ?_)
        by_cases q : j = k
        · rw [q]; exact e
        · exact h j (by omega)
      · refine Or.inr ⟨i, by omega, h2, fun j a b => ?_⟩
        by_cases q : j = k
        · rw [q]; exact e
        · exact h3 j a (by omega)
    · exact Or.inr ⟨k, by omega, e, fun j a b => by omega⟩
theorem sv_dn {f g : Nat → Bool} {k : Nat} (h : sv f k < sv g k) : ∃ i, i < k ∧ f i = false ∧ g i = true ∧ ∀ j, i < j → j < k → f j = g j := by
  rcases sv_diff f g k with h1 | ⟨i, h1, h2, h3⟩
  · rw [sv_cg k h1] at h; omega
  · refine ⟨i, h1, ?_⟩
    cases hf : f i
    · cases hg : g i
      · rw [hf, hg] at h2; exact absurd rfl h2
      · exact ⟨rfl, rfl, h3⟩
    · cases hg : g i
      · have := sv_up k i h1 hg hf (fun j a b => (h3 j a b).symm)
        omega
      · rw [hf, hg] at h2; exact absurd rfl h2
theorem tb_n (a : Nat) (h : a < 4096) (i : Nat) : tb (a : Int) (i : Int) = a.testBit i := by
  unfold tb
  rw [Int32.toBitVec_ofInt, BitVec.ofInt_natCast, BitVec.getLsbD_ofNat]
  have e : ((i : Int)).toNat = i := by omega
  rw [e]
  by_cases q : i < 32
  · simp [q]
  · have p : a < 2 ^ i := Nat.lt_of_lt_of_le (show a < 2 ^ 12 from h) (Nat.pow_le_pow_right (by decide) (by omega))
    rw [Nat.testBit_lt_two_pow p]
    simp
theorem sv_tb {x : Int} (h0 : 0 ≤ x) (h1 : x < 4096) : x = ((sv (fun i => tb x (i : Int)) 12 : Nat) : Int) := by
  obtain ⟨a, rfl⟩ : ∃ a : Nat, x = a := ⟨x.toNat, by omega⟩
  have e : (fun i : Nat => tb (a : Int) (i : Int)) = a.testBit := by
    funext i
    exact tb_n a (by omega) i
  rw [e, ← sv_mod a 12]
  have : (2 : Nat) ^ 12 = 4096 := by decide
  rw [this]
  omega
/-- above bit 11 a small set has none -/
theorem tb_hi {x i : Int} (h0 : 0 ≤ x) (h1 : x < 4096) (hi : 12 ≤ i) : tb x i = false := by
  obtain ⟨a, rfl⟩ : ∃ a : Nat, x = a := ⟨x.toNat, by omega⟩
  obtain ⟨j, rfl⟩ : ∃ j : Nat, i = j := ⟨i.toNat, by omega⟩
  rw [tb_n a (by omega) j]
  exact Nat.testBit_lt_two_pow (Nat.lt_of_lt_of_le (show a < 2 ^ 12 by omega) (Nat.pow_le_pow_right (by decide) (by omega)))
theorem tb_hi6 {x i : Int} (h0 : 0 ≤ x) (h1 : x < 64) (hi : 6 ≤ i) : tb x i = false := by
  obtain ⟨a, rfl⟩ : ∃ a : Nat, x = a := ⟨x.toNat, by omega⟩
  obtain ⟨j, rfl⟩ : ∃ j : Nat, i = j := ⟨i.toNat, by omega⟩
  rw [tb_n a (by omega) j]
  exact Nat.testBit_lt_two_pow (Nat.lt_of_lt_of_le (show a < 2 ^ 6 by omega) (Nat.pow_le_pow_right (by decide) (by omega)))
theorem set_eq {x y : Int} (hx : 0 ≤ x ∧ x < 4096) (hy : 0 ≤ y ∧ y < 4096) (h : ∀ i, 0 ≤ i → i < 12 → tb x i = tb y i) : x = y := by
  rw [sv_tb hx.1 hx.2, sv_tb hy.1 hy.2, sv_cg (f := fun i => tb x (i : Int)) (g := fun i => tb y (i : Int)) 12 (fun j hj => h j (by omega) (by omega))]
theorem set_lt {x y : Int} (hx : 0 ≤ x ∧ x < 4096) (hy : 0 ≤ y ∧ y < 4096) : x < y ↔ ∃ i, 0 ≤ i ∧ i < 12 ∧ tb x i = false ∧ tb y i = true ∧ ∀ j, i < j → j < 12 → tb x j = tb y j := by
  have ex := sv_tb hx.1 hx.2
  have ey := sv_tb hy.1 hy.2
  constructor
  · intro h
    have h' : sv (fun i => tb x (i : Int)) 12 < sv (fun i => tb y (i : Int)) 12 := by omega
    obtain ⟨i, a, b, c, d⟩ := sv_dn h'
    refine ⟨i, by omega, by omega, b, c, fun j p q => ?_⟩
    have := d j.toNat (by omega) (by omega)
    have e : ((j.toNat : Nat) : Int) = j := by omega
    simp only [e] at this
    exact this
  · rintro ⟨i, i0, i1, a, b, c⟩
    have e : ((i.toNat : Nat) : Int) = i := by omega
    have := sv_up (f := fun i => tb x (i : Int)) (g := fun i => tb y (i : Int)) 12 i.toNat (by omega) (by simp only [e]; exact a) (by simp only [e]; exact b) (fun j p q => c j (by omega) (by omega))
    omega
theorem or_rg {n N : Nat} (hn : 2 ^ n = N) (hN : N ≤ 4096) {x y : Int} (hx : 0 ≤ x ∧ x < N) (hy : 0 ≤ y ∧ y < N) : 0 ≤ bo_or x y ∧ bo_or x y < N := by
  unfold bo_or
  have e : (Int32.ofInt x ||| Int32.ofInt y).toBitVec = (BitVec.ofInt 32 x) ||| (BitVec.ofInt 32 y) := rfl
  show 0 ≤ (Int32.ofInt x ||| Int32.ofInt y).toBitVec.toInt ∧ (Int32.ofInt x ||| Int32.ofInt y).toBitVec.toInt < N
  rw [e, BitVec.toInt_eq_toNat_bmod, BitVec.toNat_or, BitVec.toNat_ofInt, BitVec.toNat_ofInt]
  have ex : (x % ((2 ^ 32 : Nat) : Int)).toNat = x.toNat := by omega
  have ey : (y % ((2 ^ 32 : Nat) : Int)).toNat = y.toNat := by omega
  rw [ex, ey]
  have h := Nat.or_lt_two_pow (x := x.toNat) (y := y.toNat) (n := n) (by omega) (by omega)
  rw [hn] at h
  generalize x.toNat ||| y.toNat = z at *
  rw [Int.bmod_def]
  have e2 : ((2 ^ 32 : Nat) : Int) = 4294967296 := rfl
  rw [e2]
  omega
theorem shl_rd : ∀ p : Fin 12, 0 ≤ bo_shl 1 (p : Nat) ∧ bo_shl 1 (p : Nat) < 4096 ∧ ((p : Nat) < 6 → bo_shl 1 (p : Nat) < 64) := by decide
theorem shl_rg {p : Int} (h0 : 0 ≤ p) (h1 : p < 12) : 0 ≤ bo_shl 1 p ∧ bo_shl 1 p < 4096 ∧ (p < 6 → bo_shl 1 p < 64) := by
  have e := shl_rd ⟨p.toNat, by omega⟩
  have e1 : ((p.toNat : Nat) : Int) = p := by omega
  simp only [e1] at e
  exact ⟨e.1, e.2.1, fun q => e.2.2 (by omega)⟩
theorem shl0_d : ∀ p : Fin 12, bo_shl 0 (p : Nat) = 0 := by decide
theorem shl0 {p : Int} (h0 : 0 ≤ p) (h1 : p < 12) : bo_shl 0 p = 0 := by
  have e := shl0_d ⟨p.toNat, by omega⟩
  have e1 : ((p.toNat : Nat) : Int) = p := by omega
  simp only [e1] at e
  exact e
theorem all_d : ∀ k : Fin 7, (0 ≤ bo_shl 1 (k : Nat) - 1 ∧ bo_shl 1 (k : Nat) - 1 < 64) ∧ ∀ s : Fin 12, tb (bo_shl 1 (k : Nat) - 1) (s : Nat) = decide (s.val < k.val) := by decide
theorem all_st {k : Int} (h0 : 0 ≤ k) (h1 : k ≤ 6) : (0 ≤ bo_shl 1 k - 1 ∧ bo_shl 1 k - 1 < 64) ∧ ∀ s, 0 ≤ s → s < 12 → (tb (bo_shl 1 k - 1) s = true ↔ s < k) := by
  have e := all_d ⟨k.toNat, by omega⟩
  have e1 : ((k.toNat : Nat) : Int) = k := by omega
  simp only [e1] at e
  refine ⟨e.1, fun s s0 s1 => ?_⟩
  have e2 := e.2 ⟨s.toNat, by omega⟩
  have e3 : ((s.toNat : Nat) : Int) = s := by omega
  simp only [e3] at e2
  rw [e2, decide_eq_true_iff]
  omega
/-- two sets that have nothing in common -/
theorem and0_f {x y : Int} (h : bo_and x y = 0) (i : Int) : ¬ (tb x i = true ∧ tb y i = true) := by
  intro q
  have e := tb_and x y i
  rw [h, tb_0, q.1, q.2] at e
  exact absurd e (by decide)
theorem and0 {x y : Int} (hx : 0 ≤ x ∧ x < 4096) : bo_and x y = 0 ↔ ∀ i, 0 ≤ i → i < 12 → ¬ (tb x i = true ∧ tb y i = true) := by
  constructor
  · intro h i _ _
    exact and0_f h i
  · intro h
    unfold bo_and
    have e : (Int32.ofInt x &&& Int32.ofInt y) = 0 := by
      apply Int32.toBitVec.inj
      apply BitVec.eq_of_getLsbD_eq
      intro i hi
      show ((Int32.ofInt x).toBitVec &&& (Int32.ofInt y).toBitVec).getLsbD i = (0#32).getLsbD i
      rw [BitVec.getLsbD_and, BitVec.getLsbD_zero]
      have e1 : (Int32.ofInt x).toBitVec.getLsbD i = tb x (i : Int) := rfl
      have e2 : (Int32.ofInt y).toBitVec.getLsbD i = tb y (i : Int) := rfl
      rw [e1, e2]
      by_cases q : i < 12
      · have := h i (by omega) (by omega)
        cases h1 : tb x (i : Int) <;> cases h2 : tb y (i : Int) <;> simp [h1, h2] at this ⊢
      · rw [tb_hi hx.1 hx.2 (by omega)]; rfl
    rw [e]; rfl
/-- how many bits below j -/
def nb (x : Int) : Nat → Int
  | 0 => 0
  | j + 1 => nb x j + (if tb x (j : Int) then 1 else 0)
theorem nb_rg (x : Int) : ∀ j : Nat, 0 ≤ nb x j ∧ nb x j ≤ j
  | 0 => by rw [nb.eq_1]; omega
  | j + 1 => by
    have h := nb_rg x j
    rw [nb.eq_2]
    split <;> omega
theorem nb_mono (x : Int) (j : Nat) : ∀ d : Nat, nb x j ≤ nb x (j + d)
  | 0 => Int.le_refl _
  | d + 1 => by
    have h := nb_mono x j d
    rw [← Nat.add_assoc, nb.eq_2]
    split <;> omega
theorem nb_full {x : Int} {j : Nat} (hj : j ≤ 12) (h : nb x 12 ≤ nb x j) {w : Int} (w0 : (j : Int) ≤ w) (w1 : w < 12) : tb x w = false := by
  obtain ⟨a, rfl⟩ : ∃ a : Nat, w = a := ⟨w.toNat, by omega⟩
  have h1 := nb_mono x j (a - j)
  rw [show j + (a - j) = a by omega] at h1
  have h2 := nb_mono x (a + 1) (12 - (a + 1))
  rw [show a + 1 + (12 - (a + 1)) = 12 by omega, nb.eq_2] at h2
  cases q : tb x (a : Int)
  · rfl
  · rw [q, if_pos rfl] at h2; omega
/-- the count of the machine's library -/
def bcK (n : Nat) : Bool :=
  let x : Int := n
  let A := x - (bo_and (bo_ushr x 1) 1431655765)
  let B := (bo_and A 858993459) + (bo_and (bo_ushr A 2) 858993459)
  let C := bo_and (B + (bo_ushr B 4)) 252645135
  let D := C + (bo_ushr C 8)
  decide ((-2147483648 ≤ A ∧ A ≤ 2147483647) ∧ (-2147483648 ≤ B ∧ B ≤ 2147483647) ∧ (-2147483648 ≤ B + (bo_ushr B 4) ∧ B + (bo_ushr B 4) ≤ 2147483647) ∧ (-2147483648 ≤ D ∧ D ≤ 2147483647) ∧ (-2147483648 ≤ D + (bo_ushr D 16) ∧ D + (bo_ushr D 16) ≤ 2147483647) ∧ bo_and (D + (bo_ushr D 16)) 63 = nb x 12)
set_option maxRecDepth 100000 in
theorem bcK_all : (List.range 4096).all bcK = true := by decide +kernel
theorem S_bitCount {post : Int → ax_M → Prop} {M : ax_M} {x : Int} (h0 : 0 ≤ x) (h1 : x < 4096) (h : post (nb x 12) M) : ax_Ti Y_J6_bitCount_0f7a4 [aI x] SH M post := by
  have k := List.all_eq_true.mp bcK_all x.toNat (List.mem_range.mpr (by omega))
  have e1 : ((x.toNat : Nat) : Int) = x := by omega
  unfold bcK at k
  rw [decide_eq_true_iff, e1] at k
  refine E_J6_bitCount_0f7a4 (fun _ => ⟨k.1, k.2.1, k.2.2.1, k.2.2.2.1, k.2.2.2.2.1, ?_⟩)
  rw [k.2.2.2.2.2]
  exact h
