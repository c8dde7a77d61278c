/-- whether i is in the set x -/
def tb (x i : Int) : Bool := (Int32.ofInt x).toBitVec.getLsbD i.toNat
theorem of32 (v : BitVec 32) : (Int32.ofInt (Int32.ofBitVec v).toInt) = Int32.ofBitVec v := by simp
theorem tb_or (x y i : Int) : tb (bo_or x y) i = (tb x i || tb y i) := by
  unfold tb bo_or
  simp
theorem tb_and (x y i : Int) : tb (bo_and x y) i = (tb x i && tb y i) := by
  unfold tb bo_and
  simp
theorem tb_xor (x y i : Int) : tb (bo_xor x y) i = (tb x i ^^ tb y i) := by
  unfold tb bo_xor
  simp
theorem tb_0 (i : Int) : tb 0 i = false := by
  unfold tb
  simp
theorem tb_m1 {i : Int} (h : i < 32) : tb (-1) i = true := by
  unfold tb
  have e : (Int32.ofInt (-1)).toBitVec = BitVec.allOnes 32 := by decide
  rw [e, BitVec.getLsbD_allOnes]
  simp
  omega
theorem bit0 (w : BitVec 32) : (w &&& 1#32).toInt = if w.getLsbD 0 then 1 else 0 := by
  have e : (w &&& 1#32).toNat = w.toNat % 2 := by
    rw [BitVec.toNat_and]
    have e1 : (1#32).toNat = 2 ^ 1 - 1 := rfl
    rw [e1, Nat.and_two_pow_sub_one_eq_mod]
  have hlt := w.isLt
  rw [BitVec.toInt_eq_toNat_cond, e]
  have g : w.getLsbD 0 = decide (w.toNat % 2 = 1) := by
    rw [BitVec.getLsbD, Nat.testBit_zero]
  rw [g]
  by_cases h : w.toNat % 2 = 1
  · rw [h]; decide
  · rw [show w.toNat % 2 = 0 by omega]; decide
theorem shr_i (x : Int) (i : Fin 32) : (Int32.ofInt x >>> (Int32.ofInt (i : Nat) &&& 31)).toBitVec = (Int32.ofInt x).toBitVec.sshiftRight i := by
  rw [Int32.toBitVec_shiftRight]
  have e : ∀ i : Fin 32, ((Int32.ofInt (i : Nat) &&& 31).toBitVec.smod 32).toNat = i := by decide
  rw [BitVec.sshiftRight', e i]
theorem tb_shr {x i : Int} (h0 : 0 ≤ i) (h1 : i < 32) : bo_and (bo_shr x i) 1 = if tb x i then 1 else 0 := by
  unfold bo_and bo_shr tb
  rw [Int32.ofInt_toInt]
  show ((Int32.ofInt x >>> (Int32.ofInt i &&& 31)).toBitVec &&& 1#32).toInt = _
  have e := shr_i x ⟨i.toNat, by omega⟩
  have e2 : ((i.toNat : Nat) : Int) = i := by omega
  simp only [e2] at e
  rw [e, bit0, BitVec.getLsbD_sshiftRight]
  have e3 : i.toNat + 0 < 32 := by omega
  rw [if_pos e3]
  simp
theorem shl_d : ∀ p i : Fin 12, tb (bo_shl 1 (p : Nat)) (i : Nat) = decide (i = p) := by decide
theorem tb_shl {p i : Int} (h0 : 0 ≤ p) (h1 : p < 12) (i0 : 0 ≤ i) (i1 : i < 12) : tb (bo_shl 1 p) i = decide (i = p) := by
  have e := shl_d ⟨p.toNat, by omega⟩ ⟨i.toNat, by omega⟩
  have e1 : ((p.toNat : Nat) : Int) = p := by omega
  have e2 : ((i.toNat : Nat) : Int) = i := by omega
  simp only [e1, e2] at e
  rw [e]
  by_cases h : i = p
  · subst h; simp
  · have : ¬ (⟨i.toNat, by omega⟩ : Fin 12) = ⟨p.toNat, by omega⟩ := fun z => h (by have := congrArg Fin.val z; simp at this; omega)
    rw [decide_eq_false this, decide_eq_false h]
