theorem c32_in {x : Int} (h : i32 x) : (Int32.ofInt x).toInt = x := Int32.toInt_ofInt_of_le (by have := h.1; omega) (by have := h.2; omega)
theorem c64_in {x : Int} (h : i64 x) : (Int64.ofInt x).toInt = x := Int64.toInt_ofInt_of_le (by have := h.1; omega) (by have := h.2; omega)
theorem c32_lt {x y : Int} (hx : i32 x) (hy : i32 y) : Int32.ofInt x < Int32.ofInt y ↔ x < y := by rw [Int32.lt_iff_toInt_lt, c32_in hx, c32_in hy]
theorem c32_le {x y : Int} (hx : i32 x) (hy : i32 y) : Int32.ofInt x ≤ Int32.ofInt y ↔ x ≤ y := by rw [Int32.le_iff_toInt_le, c32_in hx, c32_in hy]
theorem c32_eq {x y : Int} (hx : i32 x) (hy : i32 y) : Int32.ofInt x = Int32.ofInt y ↔ x = y := by rw [← Int32.toInt_inj, c32_in hx, c32_in hy]
theorem c64_lt {x y : Int} (hx : i64 x) (hy : i64 y) : Int64.ofInt x < Int64.ofInt y ↔ x < y := by rw [Int64.lt_iff_toInt_lt, c64_in hx, c64_in hy]
theorem c64_le {x y : Int} (hx : i64 x) (hy : i64 y) : Int64.ofInt x ≤ Int64.ofInt y ↔ x ≤ y := by rw [Int64.le_iff_toInt_le, c64_in hx, c64_in hy]
theorem c64_eq {x y : Int} (hx : i64 x) (hy : i64 y) : Int64.ofInt x = Int64.ofInt y ↔ x = y := by rw [← Int64.toInt_inj, c64_in hx, c64_in hy]
theorem i32_c {x : Int} (h : (decide (-2147483648 ≤ x) && decide (x ≤ 2147483647)) = true) : i32 x := by
  simp only [Bool.and_eq_true, decide_eq_true_eq] at h
  exact h
theorem i64_c {x : Int} (h : (decide (-9223372036854775808 ≤ x) && decide (x ≤ 9223372036854775807)) = true) : i64 x := by
  simp only [Bool.and_eq_true, decide_eq_true_eq] at h
  exact h
theorem i32_0 : i32 0 := ⟨by decide, by decide⟩
theorem c32_toInt (z : Int32) : i32 z.toInt := ⟨Int32.le_toInt z, by have := Int32.toInt_lt z; omega⟩
theorem c64_toInt (z : Int64) : i64 z.toInt := ⟨Int64.le_toInt z, by have := Int64.toInt_lt z; omega⟩
section JROWS2
variable {Y : ax_Y} {K : ax_KT} {nc ns pc : Nat} {ll ll' : List (Nat × ax_V)} {st : List ax_V} {sh : ax_S} {M : ax_M}
theorem j_t1 {v : ax_V} (h : ∀ w ∈ v :: st, ax_vr w) : ∀ w ∈ st, ax_vr w := (List.forall_mem_cons.mp h).2
theorem j_h1 {v : ax_V} (h : ∀ w ∈ v :: st, ax_vr w) : ax_vr v := (List.forall_mem_cons.mp h).1
theorem j_iconst {n : Int} {x : Int} (hd : decode (yc Y) pc = .ok (.iconst n, 1)) (hx : n = x) (hr : i32 x) (kk : ax_J Y K nc ns (pc + 1) ll (aI x :: st) sh M) : ax_J Y K nc ns pc ll st sh M := by
  intro p l e R s m args below meth c A E Q C hK H locs ls hW hl hr1 hr2
  subst hx
  exact lv_iconst C.1 C.2.1 hd rfl (kk p l e R s m args below meth c A E Q C hK H locs ls hW hl hr1 (j_cons hr hr2))
theorem j_bipush {n : Int} {x : Int} (hd : decode (yc Y) pc = .ok (.bipush n, 2)) (hx : (Int8.ofInt n).toInt32 = Int32.ofInt x) (hr : i32 x) (kk : ax_J Y K nc ns (pc + 2) ll (aI x :: st) sh M) : ax_J Y K nc ns pc ll st sh M := by
  intro p l e R s m args below meth c A E Q C hK H locs ls hW hl hr1 hr2
  exact lv_bipush C.1 C.2.1 hd hx (kk p l e R s m args below meth c A E Q C hK H locs ls hW hl hr1 (j_cons hr hr2))
theorem j_sipush {n : Int} {x : Int} (hd : decode (yc Y) pc = .ok (.sipush n, 3)) (hx : (Int16.ofInt n).toInt32 = Int32.ofInt x) (hr : i32 x) (kk : ax_J Y K nc ns (pc + 3) ll (aI x :: st) sh M) : ax_J Y K nc ns pc ll st sh M := by
  intro p l e R s m args below meth c A E Q C hK H locs ls hW hl hr1 hr2
  exact lv_sipush C.1 C.2.1 hd hx (kk p l e R s m args below meth c A E Q C hK H locs ls hW hl hr1 (j_cons hr hr2))
theorem j_lconst {n : Fin 2} {x : Int} (hd : decode (yc Y) pc = .ok (.lconst n, 1)) (hx : Int64.ofNat (n : Nat) = Int64.ofInt x) (hr : i64 x) (kk : ax_J Y K nc ns (pc + 1) ll (aL x :: st) sh M) : ax_J Y K nc ns pc ll st sh M := by
  intro p l e R s m args below meth c A E Q C hK H locs ls hW hl hr1 hr2
  exact lv_lconst C.1 C.2.1 hd hx (kk p l e R s m args below meth c A E Q C hK H locs ls hW hl hr1 (j_cons hr hr2))
theorem j_ldc {idx : Nat} {x : Int} (hd : decode (yc Y) pc = .ok (.ldc idx, 2)) (hw : Cond.constant (yn Y).cls idx (Int32.ofInt x) ∈ ax_tb) (hr : i32 x) (kk : ax_J Y K nc ns (pc + 2) ll (aI x :: st) sh M) : ax_J Y K nc ns pc ll st sh M := by
  intro p l e R s m args below meth c A E Q C hK H locs ls hW hl hr1 hr2
  exact lv_ldc C.1 C.2.1 C.2.2.2.2.1 (C.2.2.2.2.2.2.2.1 _ hw _) hd (kk p l e R s m args below meth c A E Q C hK H locs ls hW hl hr1 (j_cons hr hr2))
theorem j_ldcw {idx : Nat} {x : Int} (hd : decode (yc Y) pc = .ok (.ldc_w idx, 3)) (hw : Cond.constant (yn Y).cls idx (Int32.ofInt x) ∈ ax_tb) (hr : i32 x) (kk : ax_J Y K nc ns (pc + 3) ll (aI x :: st) sh M) : ax_J Y K nc ns pc ll st sh M := by
  intro p l e R s m args below meth c A E Q C hK H locs ls hW hl hr1 hr2
  exact lv_ldcw C.1 C.2.1 C.2.2.2.2.1 (C.2.2.2.2.2.2.2.1 _ hw _) hd (kk p l e R s m args below meth c A E Q C hK H locs ls hW hl hr1 (j_cons hr hr2))
theorem j_ldc2 {idx : Nat} {x : Int} (hd : decode (yc Y) pc = .ok (.ldc2_w idx, 3)) (hw : Cond.constantLong (yn Y).cls idx (Int64.ofInt x) ∈ ax_tb) (hr : i64 x) (kk : ax_J Y K nc ns (pc + 3) ll (aL x :: st) sh M) : ax_J Y K nc ns pc ll st sh M := by
  intro p l e R s m args below meth c A E Q C hK H locs ls hW hl hr1 hr2
  exact lv_ldc2 C.1 C.2.1 C.2.2.2.2.1 (C.2.2.2.2.2.2.2.1 _ hw _) hd (kk p l e R s m args below meth c A E Q C hK H locs ls hW hl hr1 (j_cons hr hr2))
theorem j_ldcS {idx i : Nat} {tx : String} (hd : decode (yc Y) pc = .ok (.ldc idx, 2)) (ht : ax_txt[i]? = some ((yn Y).cls, idx, tx)) (kk : ax_J Y K nc ns (pc + 2) ll (aR (1000 + i) :: st) sh M) : ax_J Y K nc ns pc ll st sh M := by
  intro p l e R s m args below meth c A E Q C hK H locs ls hW hl hr1 hr2
  exact va_ldcS C.1 C.2.1 C.2.2.2.2.1 (C.2.2.2.2.2.2.2.2.2.2.1.2.1 i _ _ _ ht) hd (kk p l e R s m args below meth c A E Q C hK H locs ls hW hl hr1 (j_cons trivial hr2))
theorem j_iadd {x y z : Int} (hd : decode (yc Y) pc = .ok (.iadd, 1)) (hz : x + y = z) (hr : i32 z) (kk : ax_J Y K nc ns (pc + 1) ll (aI z :: st) sh M) : ax_J Y K nc ns pc ll (aI y :: aI x :: st) sh M := by
  intro p l e R s m args below meth c A E Q C hK H locs ls hW hl hr1 hr2
  subst hz
  refine lv_iadd C.1 C.2.1 hd ?_
  have h := kk p l e R s m args below meth c A E Q C hK H locs ls hW hl hr1 (j_cons hr (j_t1 (j_t1 hr2)))
  rw [← Int32.ofInt_add]
  exact h
theorem j_ladd {x y z : Int} (hd : decode (yc Y) pc = .ok (.ladd, 1)) (hz : x + y = z) (hr : i64 z) (kk : ax_J Y K nc ns (pc + 1) ll (aL z :: st) sh M) : ax_J Y K nc ns pc ll (aL y :: aL x :: st) sh M := by
  intro p l e R s m args below meth c A E Q C hK H locs ls hW hl hr1 hr2
  subst hz
  refine lv_ladd C.1 C.2.1 hd ?_
  have h := kk p l e R s m args below meth c A E Q C hK H locs ls hW hl hr1 (j_cons hr (j_t1 (j_t1 hr2)))
  rw [← Int64.ofInt_add]
  exact h
theorem j_isub {x y z : Int} (hd : decode (yc Y) pc = .ok (.isub, 1)) (hz : x - y = z) (hr : i32 z) (kk : ax_J Y K nc ns (pc + 1) ll (aI z :: st) sh M) : ax_J Y K nc ns pc ll (aI y :: aI x :: st) sh M := by
  intro p l e R s m args below meth c A E Q C hK H locs ls hW hl hr1 hr2
  subst hz
  refine lv_isub C.1 C.2.1 hd ?_
  have h := kk p l e R s m args below meth c A E Q C hK H locs ls hW hl hr1 (j_cons hr (j_t1 (j_t1 hr2)))
  rw [← Int32.ofInt_sub]
  exact h
theorem j_lsub {x y z : Int} (hd : decode (yc Y) pc = .ok (.lsub, 1)) (hz : x - y = z) (hr : i64 z) (kk : ax_J Y K nc ns (pc + 1) ll (aL z :: st) sh M) : ax_J Y K nc ns pc ll (aL y :: aL x :: st) sh M := by
  intro p l e R s m args below meth c A E Q C hK H locs ls hW hl hr1 hr2
  subst hz
  refine lv_lsub C.1 C.2.1 hd ?_
  have h := kk p l e R s m args below meth c A E Q C hK H locs ls hW hl hr1 (j_cons hr (j_t1 (j_t1 hr2)))
  rw [← Int64.ofInt_sub]
  exact h
theorem j_imul {x y z : Int} (hd : decode (yc Y) pc = .ok (.imul, 1)) (hz : x * y = z) (hr : i32 z) (kk : ax_J Y K nc ns (pc + 1) ll (aI z :: st) sh M) : ax_J Y K nc ns pc ll (aI y :: aI x :: st) sh M := by
  intro p l e R s m args below meth c A E Q C hK H locs ls hW hl hr1 hr2
  subst hz
  refine lv_imul C.1 C.2.1 hd ?_
  have h := kk p l e R s m args below meth c A E Q C hK H locs ls hW hl hr1 (j_cons hr (j_t1 (j_t1 hr2)))
  rw [← Int32.ofInt_mul]
  exact h
theorem j_lmul {x y z : Int} (hd : decode (yc Y) pc = .ok (.lmul, 1)) (hz : x * y = z) (hr : i64 z) (kk : ax_J Y K nc ns (pc + 1) ll (aL z :: st) sh M) : ax_J Y K nc ns pc ll (aL y :: aL x :: st) sh M := by
  intro p l e R s m args below meth c A E Q C hK H locs ls hW hl hr1 hr2
  subst hz
  refine lv_lmul C.1 C.2.1 hd ?_
  have h := kk p l e R s m args below meth c A E Q C hK H locs ls hW hl hr1 (j_cons hr (j_t1 (j_t1 hr2)))
  rw [← Int64.ofInt_mul]
  exact h
theorem c32_div {x y : Int} (hx : i32 x) (hy : i32 y) (h0 : 0 ≤ x) (h1 : 0 < y) : Int32.ofInt x / Int32.ofInt y = Int32.ofInt (x / y) := by
  rw [← Int32.ofInt_tdiv (Int.le_trans (by decide) hx.1) (Int.le_trans hx.2 (by decide)) (Int.le_trans (by decide) hy.1) (Int.le_trans hy.2 (by decide)), Int.tdiv_eq_ediv_of_nonneg h0]
theorem c32_divr {x y : Int} (hx : i32 x) (h0 : 0 ≤ x) (h1 : 0 < y) : i32 (x / y) := by
  have h2 := Int.ediv_nonneg h0 (Int.le_of_lt h1)
  have h3 := Int.ediv_le_self y h0
  have h4 := hx.2
  exact ⟨by omega, by omega⟩
theorem c32_n0 {y : Int} (hy : i32 y) (h1 : 0 < y) : ¬ Int32.ofInt y = 0 := by
  intro h
  have h2 := congrArg Int32.toInt h
  rw [c32_in hy] at h2
  have h3 : (Int32.toInt 0) = 0 := rfl
  omega
theorem j_idiv {x y z : Int} (hd : decode (yc Y) pc = .ok (.idiv, 1)) (hz : x / y = z) (h0 : 0 ≤ x) (h1 : 0 < y) (kk : ax_J Y K nc ns (pc + 1) ll (aI z :: st) sh M) : ax_J Y K nc ns pc ll (aI y :: aI x :: st) sh M := by
  intro p l e R s m args below meth c A E Q C hK H locs ls hW hl hr1 hr2
  subst hz
  have hy : i32 y := j_h1 hr2
  have hx : i32 x := j_h1 (j_t1 hr2)
  refine lv_idiv C.1 C.2.1 hd (c32_n0 hy h1) ?_
  have h := kk p l e R s m args below meth c A E Q C hK H locs ls hW hl hr1 (j_cons (c32_divr hx h0 h1) (j_t1 (j_t1 hr2)))
  rw [c32_div hx hy h0 h1]
  exact h
theorem c64_div {x y : Int} (hx : i64 x) (hy : i64 y) (h0 : 0 ≤ x) (h1 : 0 < y) : Int64.ofInt x / Int64.ofInt y = Int64.ofInt (x / y) := by
  rw [← Int64.ofInt_tdiv (Int.le_trans (by decide) hx.1) (Int.le_trans hx.2 (by decide)) (Int.le_trans (by decide) hy.1) (Int.le_trans hy.2 (by decide)), Int.tdiv_eq_ediv_of_nonneg h0]
theorem c64_divr {x y : Int} (hx : i64 x) (h0 : 0 ≤ x) (h1 : 0 < y) : i64 (x / y) := by
  have h2 := Int.ediv_nonneg h0 (Int.le_of_lt h1)
  have h3 := Int.ediv_le_self y h0
  have h4 := hx.2
  exact ⟨by omega, by omega⟩
theorem c64_n0 {y : Int} (hy : i64 y) (h1 : 0 < y) : ¬ Int64.ofInt y = 0 := by
  intro h
  have h2 := congrArg Int64.toInt h
  rw [c64_in hy] at h2
  have h3 : (Int64.toInt 0) = 0 := rfl
  omega
theorem j_ldiv {x y z : Int} (hd : decode (yc Y) pc = .ok (.ldiv, 1)) (hz : x / y = z) (h0 : 0 ≤ x) (h1 : 0 < y) (kk : ax_J Y K nc ns (pc + 1) ll (aL z :: st) sh M) : ax_J Y K nc ns pc ll (aL y :: aL x :: st) sh M := by
  intro p l e R s m args below meth c A E Q C hK H locs ls hW hl hr1 hr2
  subst hz
  have hy : i64 y := j_h1 hr2
  have hx : i64 x := j_h1 (j_t1 hr2)
  refine lv_ldiv C.1 C.2.1 hd (c64_n0 hy h1) ?_
  have h := kk p l e R s m args below meth c A E Q C hK H locs ls hW hl hr1 (j_cons (c64_divr hx h0 h1) (j_t1 (j_t1 hr2)))
  rw [c64_div hx hy h0 h1]
  exact h
theorem j_irem {x y z : Int} (hd : decode (yc Y) pc = .ok (.irem, 1)) (hz : x % y = z) (h0 : 0 ≤ x) (h1 : 0 < y) (kk : ax_J Y K nc ns (pc + 1) ll (aI z :: st) sh M) : ax_J Y K nc ns pc ll (aI y :: aI x :: st) sh M := by
  intro p l e R s m args below meth c A E Q C hK H locs ls hW hl hr1 hr2
  subst hz
  have hy : i32 y := j_h1 hr2
  have hx : i32 x := j_h1 (j_t1 hr2)
  refine lv_irem C.1 C.2.1 hd (c32_n0 hy h1) ?_
  have h2 : i32 (x % y) := by
    have a1 := Int.emod_nonneg x (show y ≠ 0 by omega)
    have a2 := Int.emod_lt_of_pos x h1
    have a3 := hy.2
    exact ⟨by omega, by omega⟩
  have h := kk p l e R s m args below meth c A E Q C hK H locs ls hW hl hr1 (j_cons h2 (j_t1 (j_t1 hr2)))
  rw [c32_div hx hy h0 h1, ← Int32.ofInt_mul, ← Int32.ofInt_sub]
  have h3 : x - x / y * y = x % y := by rw [Int.emod_def, Int.mul_comm]
  rw [h3]
  exact h
def bo_and (x y : Int) : Int := (Int32.ofInt x &&& Int32.ofInt y).toInt
def bo_or (x y : Int) : Int := (Int32.ofInt x ||| Int32.ofInt y).toInt
def bo_xor (x y : Int) : Int := (Int32.ofInt x ^^^ Int32.ofInt y).toInt
def bo_shl (x y : Int) : Int := (Int32.ofInt x <<< (Int32.ofInt y &&& 31)).toInt
def bo_shr (x y : Int) : Int := (Int32.ofInt x >>> (Int32.ofInt y &&& 31)).toInt
def bo_ushr (x y : Int) : Int := (((Int32.ofInt x).toUInt32 >>> ((Int32.ofInt y).toUInt32 &&& Int32.toUInt32 31)).toInt32).toInt
def bo_land (x y : Int) : Int := (Int64.ofInt x &&& Int64.ofInt y).toInt
def bo_lor (x y : Int) : Int := (Int64.ofInt x ||| Int64.ofInt y).toInt
def bo_lshr (x y : Int) : Int := (Int64.ofInt x >>> ((Int32.ofInt y).toInt64 &&& 63)).toInt
def bo_lshl (x y : Int) : Int := (Int64.ofInt x <<< ((Int32.ofInt y).toInt64 &&& 63)).toInt
theorem j_iand {x y z : Int} (hd : decode (yc Y) pc = .ok (.iand, 1)) (hz : bo_and x y = z) (kk : ax_J Y K nc ns (pc + 1) ll (aI z :: st) sh M) : ax_J Y K nc ns pc ll (aI y :: aI x :: st) sh M := by
  intro p l e R s m args below meth c A E Q C hK H locs ls hW hl hr1 hr2
  subst hz
  refine lv_iand C.1 C.2.1 hd ?_
  have h := kk p l e R s m args below meth c A E Q C hK H locs ls hW hl hr1 (j_cons (c32_toInt _) (j_t1 (j_t1 hr2)))
  simp only [List.map_cons, cv, bo_and, Int32.ofInt_toInt] at h
  exact h
theorem j_ior {x y z : Int} (hd : decode (yc Y) pc = .ok (.ior, 1)) (hz : bo_or x y = z) (kk : ax_J Y K nc ns (pc + 1) ll (aI z :: st) sh M) : ax_J Y K nc ns pc ll (aI y :: aI x :: st) sh M := by
  intro p l e R s m args below meth c A E Q C hK H locs ls hW hl hr1 hr2
  subst hz
  refine lv_ior C.1 C.2.1 hd ?_
  have h := kk p l e R s m args below meth c A E Q C hK H locs ls hW hl hr1 (j_cons (c32_toInt _) (j_t1 (j_t1 hr2)))
  simp only [List.map_cons, cv, bo_or, Int32.ofInt_toInt] at h
  exact h
theorem j_ixor {x y z : Int} (hd : decode (yc Y) pc = .ok (.ixor, 1)) (hz : bo_xor x y = z) (kk : ax_J Y K nc ns (pc + 1) ll (aI z :: st) sh M) : ax_J Y K nc ns pc ll (aI y :: aI x :: st) sh M := by
  intro p l e R s m args below meth c A E Q C hK H locs ls hW hl hr1 hr2
  subst hz
  refine lv_ixor C.1 C.2.1 hd ?_
  have h := kk p l e R s m args below meth c A E Q C hK H locs ls hW hl hr1 (j_cons (c32_toInt _) (j_t1 (j_t1 hr2)))
  simp only [List.map_cons, cv, bo_xor, Int32.ofInt_toInt] at h
  exact h
theorem j_ishl {x y z : Int} (hd : decode (yc Y) pc = .ok (.ishl, 1)) (hz : bo_shl x y = z) (kk : ax_J Y K nc ns (pc + 1) ll (aI z :: st) sh M) : ax_J Y K nc ns pc ll (aI y :: aI x :: st) sh M := by
  intro p l e R s m args below meth c A E Q C hK H locs ls hW hl hr1 hr2
  subst hz
  refine lv_ishl C.1 C.2.1 hd ?_
  have h := kk p l e R s m args below meth c A E Q C hK H locs ls hW hl hr1 (j_cons (c32_toInt _) (j_t1 (j_t1 hr2)))
  simp only [List.map_cons, cv, bo_shl, Int32.ofInt_toInt] at h
  exact h
theorem j_ishr {x y z : Int} (hd : decode (yc Y) pc = .ok (.ishr, 1)) (hz : bo_shr x y = z) (kk : ax_J Y K nc ns (pc + 1) ll (aI z :: st) sh M) : ax_J Y K nc ns pc ll (aI y :: aI x :: st) sh M := by
  intro p l e R s m args below meth c A E Q C hK H locs ls hW hl hr1 hr2
  subst hz
  refine lv_ishr C.1 C.2.1 hd ?_
  have h := kk p l e R s m args below meth c A E Q C hK H locs ls hW hl hr1 (j_cons (c32_toInt _) (j_t1 (j_t1 hr2)))
  simp only [List.map_cons, cv, bo_shr, Int32.ofInt_toInt] at h
  exact h
theorem j_iushr {x y : Int} (hd : decode (yc Y) pc = .ok (.iushr, 1)) (kk : ax_J Y K nc ns (pc + 1) ll (aI (bo_ushr x y) :: st) sh M) : ax_J Y K nc ns pc ll (aI y :: aI x :: st) sh M := by
  intro p l e R s m args below meth c A E Q C hK H locs ls hW hl hr1 hr2
  refine lv_iushr C.1 C.2.1 hd rfl ?_
  have h := kk p l e R s m args below meth c A E Q C hK H locs ls hW hl hr1 (j_cons (c32_toInt _) (j_t1 (j_t1 hr2)))
  simp only [List.map_cons, cv, bo_ushr, Int32.ofInt_toInt] at h
  exact h
theorem j_land {x y : Int} (hd : decode (yc Y) pc = .ok (.land, 1)) (kk : ax_J Y K nc ns (pc + 1) ll (aL (bo_land x y) :: st) sh M) : ax_J Y K nc ns pc ll (aL y :: aL x :: st) sh M := by
  intro p l e R s m args below meth c A E Q C hK H locs ls hW hl hr1 hr2
  refine lv_land C.1 C.2.1 hd ?_
  have h := kk p l e R s m args below meth c A E Q C hK H locs ls hW hl hr1 (j_cons (c64_toInt _) (j_t1 (j_t1 hr2)))
  simp only [List.map_cons, cv, bo_land, Int64.ofInt_toInt] at h
  exact h
theorem j_lor {x y : Int} (hd : decode (yc Y) pc = .ok (.lor, 1)) (kk : ax_J Y K nc ns (pc + 1) ll (aL (bo_lor x y) :: st) sh M) : ax_J Y K nc ns pc ll (aL y :: aL x :: st) sh M := by
  intro p l e R s m args below meth c A E Q C hK H locs ls hW hl hr1 hr2
  refine lv_lor C.1 C.2.1 hd ?_
  have h := kk p l e R s m args below meth c A E Q C hK H locs ls hW hl hr1 (j_cons (c64_toInt _) (j_t1 (j_t1 hr2)))
  simp only [List.map_cons, cv, bo_lor, Int64.ofInt_toInt] at h
  exact h
theorem j_lshr {x y : Int} (hd : decode (yc Y) pc = .ok (.lshr, 1)) (kk : ax_J Y K nc ns (pc + 1) ll (aL (bo_lshr x y) :: st) sh M) : ax_J Y K nc ns pc ll (aI y :: aL x :: st) sh M := by
  intro p l e R s m args below meth c A E Q C hK H locs ls hW hl hr1 hr2
  refine lv_lshr C.1 C.2.1 hd rfl ?_
  have h := kk p l e R s m args below meth c A E Q C hK H locs ls hW hl hr1 (j_cons (c64_toInt _) (j_t1 (j_t1 hr2)))
  simp only [List.map_cons, cv, bo_lshr, Int64.ofInt_toInt] at h
  exact h
theorem j_lshl {x y : Int} (hd : decode (yc Y) pc = .ok (.lshl, 1)) (kk : ax_J Y K nc ns (pc + 1) ll (aL (bo_lshl x y) :: st) sh M) : ax_J Y K nc ns pc ll (aI y :: aL x :: st) sh M := by
  intro p l e R s m args below meth c A E Q C hK H locs ls hW hl hr1 hr2
  refine lv_lshl C.1 C.2.1 hd rfl ?_
  have h := kk p l e R s m args below meth c A E Q C hK H locs ls hW hl hr1 (j_cons (c64_toInt _) (j_t1 (j_t1 hr2)))
  simp only [List.map_cons, cv, bo_lshl, Int64.ofInt_toInt] at h
  exact h
theorem i32_64 {x : Int} (h : i32 x) : i64 x := ⟨by have := h.1; omega, by have := h.2; omega⟩
theorem j_i2l {x : Int} (hd : decode (yc Y) pc = .ok (.i2l, 1)) (kk : ax_J Y K nc ns (pc + 1) ll (aL x :: st) sh M) : ax_J Y K nc ns pc ll (aI x :: st) sh M := by
  intro p l e R s m args below meth c A E Q C hK H locs ls hW hl hr1 hr2
  have hx : i32 x := j_h1 hr2
  exact lv_i2l C.1 C.2.1 hd (Int32.toInt64_ofInt (Int.le_trans (by decide) hx.1) (Int.le_trans hx.2 (by decide))) (kk p l e R s m args below meth c A E Q C hK H locs ls hW hl hr1 (j_cons (i32_64 hx) (j_t1 hr2)))
theorem j_l2i {x : Int} (hd : decode (yc Y) pc = .ok (.l2i, 1)) (hr : i32 x) (kk : ax_J Y K nc ns (pc + 1) ll (aI x :: st) sh M) : ax_J Y K nc ns pc ll (aL x :: st) sh M := by
  intro p l e R s m args below meth c A E Q C hK H locs ls hW hl hr1 hr2
  exact lv_l2i C.1 C.2.1 hd (Int64.toInt32_ofInt) (kk p l e R s m args below meth c A E Q C hK H locs ls hW hl hr1 (j_cons hr (j_t1 hr2)))
theorem j_l2iw {x : Int} (hd : decode (yc Y) pc = .ok (.l2i, 1)) (kk : ax_J Y K nc ns (pc + 1) ll (aI ((Int32.ofInt x).toInt) :: st) sh M) : ax_J Y K nc ns pc ll (aL x :: st) sh M := by
  intro p l e R s m args below meth c A E Q C hK H locs ls hW hl hr1 hr2
  refine lv_l2i C.1 C.2.1 hd (Int64.toInt32_ofInt) ?_
  have h := kk p l e R s m args below meth c A E Q C hK H locs ls hW hl hr1 (j_cons (c32_toInt _) (j_t1 hr2))
  simp only [List.map_cons, cv, Int32.ofInt_toInt] at h
  exact h
theorem j_i2b {x : Int} (hd : decode (yc Y) pc = .ok (.i2b, 1)) (kk : ax_J Y K nc ns (pc + 1) ll (aI ((Int8.ofInt x).toInt) :: st) sh M) : ax_J Y K nc ns pc ll (aI x :: st) sh M := by
  intro p l e R s m args below meth c A E Q C hK H locs ls hW hl hr1 hr2
  refine lv_i2b C.1 C.2.1 hd rfl ?_
  have h := kk p l e R s m args below meth c A E Q C hK H locs ls hW hl hr1 (j_cons (by have h1 := Int8.le_toInt (Int8.ofInt x); have h2 := Int8.toInt_lt (Int8.ofInt x); exact ⟨by omega, by omega⟩) (j_t1 hr2))
  simp only [List.map_cons, cv, Int32.ofInt_int8ToInt] at h
  rw [Int32.toInt8_ofInt]
  exact h
theorem cv_cat (E : ax_E) (v : ax_V) : (cv E v).category = if ax_two v then 2 else 1 := by
  rcases v with x | x | x <;> rfl
theorem j_dup {v : ax_V} (hd : decode (yc Y) pc = .ok (.dup, 1)) (h2 : ax_two v = false) (kk : ax_J Y K nc ns (pc + 1) ll (v :: v :: st) sh M) : ax_J Y K nc ns pc ll (v :: st) sh M := by
  intro p l e R s m args below meth c A E Q C hK H locs ls hW hl hr1 hr2
  exact lv_dup C.1 C.2.1 hd (by rw [cv_cat, h2]; rfl) (kk p l e R s m args below meth c A E Q C hK H locs ls hW hl hr1 (j_cons (j_h1 hr2) hr2))
theorem j_pop {v : ax_V} (hd : decode (yc Y) pc = .ok (.pop, 1)) (h2 : ax_two v = false) (kk : ax_J Y K nc ns (pc + 1) ll st sh M) : ax_J Y K nc ns pc ll (v :: st) sh M := by
  intro p l e R s m args below meth c A E Q C hK H locs ls hW hl hr1 hr2
  exact lv_pop C.1 C.2.1 hd (by rw [cv_cat, h2]; rfl) (kk p l e R s m args below meth c A E Q C hK H locs ls hW hl hr1 (j_t1 hr2))
theorem j_dup2 {v w : ax_V} (hd : decode (yc Y) pc = .ok (.dup2, 1)) (h2 : ax_two v = false) (h3 : ax_two w = false) (kk : ax_J Y K nc ns (pc + 1) ll (v :: w :: v :: w :: st) sh M) : ax_J Y K nc ns pc ll (v :: w :: st) sh M := by
  intro p l e R s m args below meth c A E Q C hK H locs ls hW hl hr1 hr2
  exact lv_dup2_11 C.1 C.2.1 hd (by rw [cv_cat, h2]; rfl) (by rw [cv_cat, h3]; rfl) (kk p l e R s m args below meth c A E Q C hK H locs ls hW hl hr1 (j_cons (j_h1 hr2) (j_cons (j_h1 (j_t1 hr2)) hr2)))
theorem j_dup2l {v : ax_V} (hd : decode (yc Y) pc = .ok (.dup2, 1)) (h2 : ax_two v = true) (kk : ax_J Y K nc ns (pc + 1) ll (v :: v :: st) sh M) : ax_J Y K nc ns pc ll (v :: st) sh M := by
  intro p l e R s m args below meth c A E Q C hK H locs ls hW hl hr1 hr2
  exact lv_dup2_2 C.1 C.2.1 hd (by rw [cv_cat, h2]; rfl) (kk p l e R s m args below meth c A E Q C hK H locs ls hW hl hr1 (j_cons (j_h1 hr2) hr2))
theorem j_icmp_eq {x y off : Int} {tgt : Nat} (hd : decode (yc Y) pc = .ok (.if_icmp .eq off, 3)) (ht : (pc : Int) + off = (tgt : Int)) (kt : x = y → ax_J Y K nc ns tgt ll st sh M) (kf : ¬ x = y → ax_J Y K nc ns (pc + 3) ll st sh M) : ax_J Y K nc ns pc ll (aI y :: aI x :: st) sh M := by
  intro p l e R s m args below meth c A E Q C hK H locs ls hW hl hr1 hr2
  have hy : i32 y := j_h1 hr2
  have hx : i32 x := j_h1 (j_t1 hr2)
  exact lv_icmp_eq C.1 C.2.1 hd ht (fun h => (kt ((c32_eq hx hy).mp h)) p l e R s m args below meth c A E Q C hK H locs ls hW hl hr1 (j_t1 (j_t1 hr2))) (fun h => (kf (fun z => h ((c32_eq hx hy).mpr z))) p l e R s m args below meth c A E Q C hK H locs ls hW hl hr1 (j_t1 (j_t1 hr2)))
theorem j_if_eq {x off : Int} {tgt : Nat} (hd : decode (yc Y) pc = .ok (.ifCond .eq off, 3)) (ht : (pc : Int) + off = (tgt : Int)) (kt : x = 0 → ax_J Y K nc ns tgt ll st sh M) (kf : ¬ x = 0 → ax_J Y K nc ns (pc + 3) ll st sh M) : ax_J Y K nc ns pc ll (aI x :: st) sh M := by
  intro p l e R s m args below meth c A E Q C hK H locs ls hW hl hr1 hr2
  have hy : i32 0 := i32_0
  have hx : i32 x := j_h1 hr2
  exact lv_if_eq C.1 C.2.1 hd ht (fun h => (kt ((c32_eq hx hy).mp h)) p l e R s m args below meth c A E Q C hK H locs ls hW hl hr1 (j_t1 hr2)) (fun h => (kf (fun z => h ((c32_eq hx hy).mpr z))) p l e R s m args below meth c A E Q C hK H locs ls hW hl hr1 (j_t1 hr2))
theorem j_lcmp_eq {x y off : Int} {tgt : Nat} (hc : decode (yc Y) pc = .ok (.lcmp, 1)) (hd : decode (yc Y) (pc + 1) = .ok (.ifCond .eq off, 3)) (ht : ((pc + 1 : Nat) : Int) + off = (tgt : Int)) (kt : x = y → ax_J Y K nc ns tgt ll st sh M) (kf : ¬ x = y → ax_J Y K nc ns (pc + 4) ll st sh M) : ax_J Y K nc ns pc ll (aL y :: aL x :: st) sh M := by
  intro p l e R s m args below meth c A E Q C hK H locs ls hW hl hr1 hr2
  have hy : i64 y := j_h1 hr2
  have hx : i64 x := j_h1 (j_t1 hr2)
  refine W.lcmp C.1 C.2.1 hc ?_
  exact lv_if_eq C.1 C.2.1 hd ht (fun h => (kt ((((lg_cmp_eq (Int64.ofInt x) (Int64.ofInt y)).trans (c64_eq hx hy))).mp h)) p l e R s m args below meth c A E Q C hK H locs ls hW hl hr1 (j_t1 (j_t1 hr2))) (fun h => (kf (fun z => h ((((lg_cmp_eq (Int64.ofInt x) (Int64.ofInt y)).trans (c64_eq hx hy))).mpr z))) p l e R s m args below meth c A E Q C hK H locs ls hW hl hr1 (j_t1 (j_t1 hr2)))
theorem j_icmp_ne {x y off : Int} {tgt : Nat} (hd : decode (yc Y) pc = .ok (.if_icmp .ne off, 3)) (ht : (pc : Int) + off = (tgt : Int)) (kt : ¬ x = y → ax_J Y K nc ns tgt ll st sh M) (kf : x = y → ax_J Y K nc ns (pc + 3) ll st sh M) : ax_J Y K nc ns pc ll (aI y :: aI x :: st) sh M := by
  intro p l e R s m args below meth c A E Q C hK H locs ls hW hl hr1 hr2
  have hy : i32 y := j_h1 hr2
  have hx : i32 x := j_h1 (j_t1 hr2)
  exact lv_icmp_ne C.1 C.2.1 hd ht (fun h => (kt (fun z => h ((c32_eq hx hy).mpr z))) p l e R s m args below meth c A E Q C hK H locs ls hW hl hr1 (j_t1 (j_t1 hr2))) (fun h => (kf ((c32_eq hx hy).mp h)) p l e R s m args below meth c A E Q C hK H locs ls hW hl hr1 (j_t1 (j_t1 hr2)))
theorem j_if_ne {x off : Int} {tgt : Nat} (hd : decode (yc Y) pc = .ok (.ifCond .ne off, 3)) (ht : (pc : Int) + off = (tgt : Int)) (kt : ¬ x = 0 → ax_J Y K nc ns tgt ll st sh M) (kf : x = 0 → ax_J Y K nc ns (pc + 3) ll st sh M) : ax_J Y K nc ns pc ll (aI x :: st) sh M := by
  intro p l e R s m args below meth c A E Q C hK H locs ls hW hl hr1 hr2
  have hy : i32 0 := i32_0
  have hx : i32 x := j_h1 hr2
  exact lv_if_ne C.1 C.2.1 hd ht (fun h => (kt (fun z => h ((c32_eq hx hy).mpr z))) p l e R s m args below meth c A E Q C hK H locs ls hW hl hr1 (j_t1 hr2)) (fun h => (kf ((c32_eq hx hy).mp h)) p l e R s m args below meth c A E Q C hK H locs ls hW hl hr1 (j_t1 hr2))
theorem j_lcmp_ne {x y off : Int} {tgt : Nat} (hc : decode (yc Y) pc = .ok (.lcmp, 1)) (hd : decode (yc Y) (pc + 1) = .ok (.ifCond .ne off, 3)) (ht : ((pc + 1 : Nat) : Int) + off = (tgt : Int)) (kt : ¬ x = y → ax_J Y K nc ns tgt ll st sh M) (kf : x = y → ax_J Y K nc ns (pc + 4) ll st sh M) : ax_J Y K nc ns pc ll (aL y :: aL x :: st) sh M := by
  intro p l e R s m args below meth c A E Q C hK H locs ls hW hl hr1 hr2
  have hy : i64 y := j_h1 hr2
  have hx : i64 x := j_h1 (j_t1 hr2)
  refine W.lcmp C.1 C.2.1 hc ?_
  exact lv_if_ne C.1 C.2.1 hd ht (fun h => (kt (fun z => h ((((lg_cmp_eq (Int64.ofInt x) (Int64.ofInt y)).trans (c64_eq hx hy))).mpr z))) p l e R s m args below meth c A E Q C hK H locs ls hW hl hr1 (j_t1 (j_t1 hr2))) (fun h => (kf ((((lg_cmp_eq (Int64.ofInt x) (Int64.ofInt y)).trans (c64_eq hx hy))).mp h)) p l e R s m args below meth c A E Q C hK H locs ls hW hl hr1 (j_t1 (j_t1 hr2)))
theorem j_icmp_lt {x y off : Int} {tgt : Nat} (hd : decode (yc Y) pc = .ok (.if_icmp .lt off, 3)) (ht : (pc : Int) + off = (tgt : Int)) (kt : x < y → ax_J Y K nc ns tgt ll st sh M) (kf : y ≤ x → ax_J Y K nc ns (pc + 3) ll st sh M) : ax_J Y K nc ns pc ll (aI y :: aI x :: st) sh M := by
  intro p l e R s m args below meth c A E Q C hK H locs ls hW hl hr1 hr2
  have hy : i32 y := j_h1 hr2
  have hx : i32 x := j_h1 (j_t1 hr2)
  exact lv_icmp_lt C.1 C.2.1 hd ht (fun h => (kt ((c32_lt hx hy).mp h)) p l e R s m args below meth c A E Q C hK H locs ls hW hl hr1 (j_t1 (j_t1 hr2))) (fun h => (kf (Int.not_lt.mp (fun q => h ((c32_lt hx hy).mpr q)))) p l e R s m args below meth c A E Q C hK H locs ls hW hl hr1 (j_t1 (j_t1 hr2)))
theorem j_if_lt {x off : Int} {tgt : Nat} (hd : decode (yc Y) pc = .ok (.ifCond .lt off, 3)) (ht : (pc : Int) + off = (tgt : Int)) (kt : x < 0 → ax_J Y K nc ns tgt ll st sh M) (kf : 0 ≤ x → ax_J Y K nc ns (pc + 3) ll st sh M) : ax_J Y K nc ns pc ll (aI x :: st) sh M := by
  intro p l e R s m args below meth c A E Q C hK H locs ls hW hl hr1 hr2
  have hy : i32 0 := i32_0
  have hx : i32 x := j_h1 hr2
  exact lv_if_lt C.1 C.2.1 hd ht (fun h => (kt ((c32_lt hx hy).mp h)) p l e R s m args below meth c A E Q C hK H locs ls hW hl hr1 (j_t1 hr2)) (fun h => (kf (Int.not_lt.mp (fun q => h ((c32_lt hx hy).mpr q)))) p l e R s m args below meth c A E Q C hK H locs ls hW hl hr1 (j_t1 hr2))
theorem j_lcmp_lt {x y off : Int} {tgt : Nat} (hc : decode (yc Y) pc = .ok (.lcmp, 1)) (hd : decode (yc Y) (pc + 1) = .ok (.ifCond .lt off, 3)) (ht : ((pc + 1 : Nat) : Int) + off = (tgt : Int)) (kt : x < y → ax_J Y K nc ns tgt ll st sh M) (kf : y ≤ x → ax_J Y K nc ns (pc + 4) ll st sh M) : ax_J Y K nc ns pc ll (aL y :: aL x :: st) sh M := by
  intro p l e R s m args below meth c A E Q C hK H locs ls hW hl hr1 hr2
  have hy : i64 y := j_h1 hr2
  have hx : i64 x := j_h1 (j_t1 hr2)
  refine W.lcmp C.1 C.2.1 hc ?_
  exact lv_if_lt C.1 C.2.1 hd ht (fun h => (kt ((((lg_cmp_lt (Int64.ofInt x) (Int64.ofInt y)).trans (c64_lt hx hy))).mp h)) p l e R s m args below meth c A E Q C hK H locs ls hW hl hr1 (j_t1 (j_t1 hr2))) (fun h => (kf (Int.not_lt.mp (fun q => h ((((lg_cmp_lt (Int64.ofInt x) (Int64.ofInt y)).trans (c64_lt hx hy))).mpr q)))) p l e R s m args below meth c A E Q C hK H locs ls hW hl hr1 (j_t1 (j_t1 hr2)))
theorem j_icmp_ge {x y off : Int} {tgt : Nat} (hd : decode (yc Y) pc = .ok (.if_icmp .ge off, 3)) (ht : (pc : Int) + off = (tgt : Int)) (kt : y ≤ x → ax_J Y K nc ns tgt ll st sh M) (kf : x < y → ax_J Y K nc ns (pc + 3) ll st sh M) : ax_J Y K nc ns pc ll (aI y :: aI x :: st) sh M := by
  intro p l e R s m args below meth c A E Q C hK H locs ls hW hl hr1 hr2
  have hy : i32 y := j_h1 hr2
  have hx : i32 x := j_h1 (j_t1 hr2)
  exact lv_icmp_ge C.1 C.2.1 hd ht (fun h => (kt ((c32_le hy hx).mp h)) p l e R s m args below meth c A E Q C hK H locs ls hW hl hr1 (j_t1 (j_t1 hr2))) (fun h => (kf (Int.not_le.mp (fun q => h ((c32_le hy hx).mpr q)))) p l e R s m args below meth c A E Q C hK H locs ls hW hl hr1 (j_t1 (j_t1 hr2)))
theorem j_if_ge {x off : Int} {tgt : Nat} (hd : decode (yc Y) pc = .ok (.ifCond .ge off, 3)) (ht : (pc : Int) + off = (tgt : Int)) (kt : 0 ≤ x → ax_J Y K nc ns tgt ll st sh M) (kf : x < 0 → ax_J Y K nc ns (pc + 3) ll st sh M) : ax_J Y K nc ns pc ll (aI x :: st) sh M := by
  intro p l e R s m args below meth c A E Q C hK H locs ls hW hl hr1 hr2
  have hy : i32 0 := i32_0
  have hx : i32 x := j_h1 hr2
  exact lv_if_ge C.1 C.2.1 hd ht (fun h => (kt ((c32_le hy hx).mp h)) p l e R s m args below meth c A E Q C hK H locs ls hW hl hr1 (j_t1 hr2)) (fun h => (kf (Int.not_le.mp (fun q => h ((c32_le hy hx).mpr q)))) p l e R s m args below meth c A E Q C hK H locs ls hW hl hr1 (j_t1 hr2))
theorem j_lcmp_ge {x y off : Int} {tgt : Nat} (hc : decode (yc Y) pc = .ok (.lcmp, 1)) (hd : decode (yc Y) (pc + 1) = .ok (.ifCond .ge off, 3)) (ht : ((pc + 1 : Nat) : Int) + off = (tgt : Int)) (kt : y ≤ x → ax_J Y K nc ns tgt ll st sh M) (kf : x < y → ax_J Y K nc ns (pc + 4) ll st sh M) : ax_J Y K nc ns pc ll (aL y :: aL x :: st) sh M := by
  intro p l e R s m args below meth c A E Q C hK H locs ls hW hl hr1 hr2
  have hy : i64 y := j_h1 hr2
  have hx : i64 x := j_h1 (j_t1 hr2)
  refine W.lcmp C.1 C.2.1 hc ?_
  exact lv_if_ge C.1 C.2.1 hd ht (fun h => (kt ((((lg_cmp_ge (Int64.ofInt x) (Int64.ofInt y)).trans (c64_le hy hx))).mp h)) p l e R s m args below meth c A E Q C hK H locs ls hW hl hr1 (j_t1 (j_t1 hr2))) (fun h => (kf (Int.not_le.mp (fun q => h ((((lg_cmp_ge (Int64.ofInt x) (Int64.ofInt y)).trans (c64_le hy hx))).mpr q)))) p l e R s m args below meth c A E Q C hK H locs ls hW hl hr1 (j_t1 (j_t1 hr2)))
theorem j_icmp_gt {x y off : Int} {tgt : Nat} (hd : decode (yc Y) pc = .ok (.if_icmp .gt off, 3)) (ht : (pc : Int) + off = (tgt : Int)) (kt : y < x → ax_J Y K nc ns tgt ll st sh M) (kf : x ≤ y → ax_J Y K nc ns (pc + 3) ll st sh M) : ax_J Y K nc ns pc ll (aI y :: aI x :: st) sh M := by
  intro p l e R s m args below meth c A E Q C hK H locs ls hW hl hr1 hr2
  have hy : i32 y := j_h1 hr2
  have hx : i32 x := j_h1 (j_t1 hr2)
  exact lv_icmp_gt C.1 C.2.1 hd ht (fun h => (kt ((c32_lt hy hx).mp h)) p l e R s m args below meth c A E Q C hK H locs ls hW hl hr1 (j_t1 (j_t1 hr2))) (fun h => (kf (Int.not_lt.mp (fun q => h ((c32_lt hy hx).mpr q)))) p l e R s m args below meth c A E Q C hK H locs ls hW hl hr1 (j_t1 (j_t1 hr2)))
theorem j_if_gt {x off : Int} {tgt : Nat} (hd : decode (yc Y) pc = .ok (.ifCond .gt off, 3)) (ht : (pc : Int) + off = (tgt : Int)) (kt : 0 < x → ax_J Y K nc ns tgt ll st sh M) (kf : x ≤ 0 → ax_J Y K nc ns (pc + 3) ll st sh M) : ax_J Y K nc ns pc ll (aI x :: st) sh M := by
  intro p l e R s m args below meth c A E Q C hK H locs ls hW hl hr1 hr2
  have hy : i32 0 := i32_0
  have hx : i32 x := j_h1 hr2
  exact lv_if_gt C.1 C.2.1 hd ht (fun h => (kt ((c32_lt hy hx).mp h)) p l e R s m args below meth c A E Q C hK H locs ls hW hl hr1 (j_t1 hr2)) (fun h => (kf (Int.not_lt.mp (fun q => h ((c32_lt hy hx).mpr q)))) p l e R s m args below meth c A E Q C hK H locs ls hW hl hr1 (j_t1 hr2))
theorem j_lcmp_gt {x y off : Int} {tgt : Nat} (hc : decode (yc Y) pc = .ok (.lcmp, 1)) (hd : decode (yc Y) (pc + 1) = .ok (.ifCond .gt off, 3)) (ht : ((pc + 1 : Nat) : Int) + off = (tgt : Int)) (kt : y < x → ax_J Y K nc ns tgt ll st sh M) (kf : x ≤ y → ax_J Y K nc ns (pc + 4) ll st sh M) : ax_J Y K nc ns pc ll (aL y :: aL x :: st) sh M := by
  intro p l e R s m args below meth c A E Q C hK H locs ls hW hl hr1 hr2
  have hy : i64 y := j_h1 hr2
  have hx : i64 x := j_h1 (j_t1 hr2)
  refine W.lcmp C.1 C.2.1 hc ?_
  exact lv_if_gt C.1 C.2.1 hd ht (fun h => (kt ((((lg_cmp_gt (Int64.ofInt x) (Int64.ofInt y)).trans (c64_lt hy hx))).mp h)) p l e R s m args below meth c A E Q C hK H locs ls hW hl hr1 (j_t1 (j_t1 hr2))) (fun h => (kf (Int.not_lt.mp (fun q => h ((((lg_cmp_gt (Int64.ofInt x) (Int64.ofInt y)).trans (c64_lt hy hx))).mpr q)))) p l e R s m args below meth c A E Q C hK H locs ls hW hl hr1 (j_t1 (j_t1 hr2)))
theorem j_icmp_le {x y off : Int} {tgt : Nat} (hd : decode (yc Y) pc = .ok (.if_icmp .le off, 3)) (ht : (pc : Int) + off = (tgt : Int)) (kt : x ≤ y → ax_J Y K nc ns tgt ll st sh M) (kf : y < x → ax_J Y K nc ns (pc + 3) ll st sh M) : ax_J Y K nc ns pc ll (aI y :: aI x :: st) sh M := by
  intro p l e R s m args below meth c A E Q C hK H locs ls hW hl hr1 hr2
  have hy : i32 y := j_h1 hr2
  have hx : i32 x := j_h1 (j_t1 hr2)
  exact lv_icmp_le C.1 C.2.1 hd ht (fun h => (kt ((c32_le hx hy).mp h)) p l e R s m args below meth c A E Q C hK H locs ls hW hl hr1 (j_t1 (j_t1 hr2))) (fun h => (kf (Int.not_le.mp (fun q => h ((c32_le hx hy).mpr q)))) p l e R s m args below meth c A E Q C hK H locs ls hW hl hr1 (j_t1 (j_t1 hr2)))
theorem j_if_le {x off : Int} {tgt : Nat} (hd : decode (yc Y) pc = .ok (.ifCond .le off, 3)) (ht : (pc : Int) + off = (tgt : Int)) (kt : x ≤ 0 → ax_J Y K nc ns tgt ll st sh M) (kf : 0 < x → ax_J Y K nc ns (pc + 3) ll st sh M) : ax_J Y K nc ns pc ll (aI x :: st) sh M := by
  intro p l e R s m args below meth c A E Q C hK H locs ls hW hl hr1 hr2
  have hy : i32 0 := i32_0
  have hx : i32 x := j_h1 hr2
  exact lv_if_le C.1 C.2.1 hd ht (fun h => (kt ((c32_le hx hy).mp h)) p l e R s m args below meth c A E Q C hK H locs ls hW hl hr1 (j_t1 hr2)) (fun h => (kf (Int.not_le.mp (fun q => h ((c32_le hx hy).mpr q)))) p l e R s m args below meth c A E Q C hK H locs ls hW hl hr1 (j_t1 hr2))
theorem j_lcmp_le {x y off : Int} {tgt : Nat} (hc : decode (yc Y) pc = .ok (.lcmp, 1)) (hd : decode (yc Y) (pc + 1) = .ok (.ifCond .le off, 3)) (ht : ((pc + 1 : Nat) : Int) + off = (tgt : Int)) (kt : x ≤ y → ax_J Y K nc ns tgt ll st sh M) (kf : y < x → ax_J Y K nc ns (pc + 4) ll st sh M) : ax_J Y K nc ns pc ll (aL y :: aL x :: st) sh M := by
  intro p l e R s m args below meth c A E Q C hK H locs ls hW hl hr1 hr2
  have hy : i64 y := j_h1 hr2
  have hx : i64 x := j_h1 (j_t1 hr2)
  refine W.lcmp C.1 C.2.1 hc ?_
  exact lv_if_le C.1 C.2.1 hd ht (fun h => (kt ((((lg_cmp_le (Int64.ofInt x) (Int64.ofInt y)).trans (c64_le hx hy))).mp h)) p l e R s m args below meth c A E Q C hK H locs ls hW hl hr1 (j_t1 (j_t1 hr2))) (fun h => (kf (Int.not_le.mp (fun q => h ((((lg_cmp_le (Int64.ofInt x) (Int64.ofInt y)).trans (c64_le hx hy))).mpr q)))) p l e R s m args below meth c A E Q C hK H locs ls hW hl hr1 (j_t1 (j_t1 hr2)))
theorem j_tableIn {dflt lo hi off x : Int} {offs : Array Int} {len tgt : Nat} (hd : decode (yc Y) pc = .ok (.tableswitch dflt lo hi offs, len)) (h1 : lo ≤ x) (h2 : x ≤ hi) (ho : offs[(x - lo).toNat]? = some off) (ht : (pc : Int) + off = (tgt : Int)) (kk : ax_J Y K nc ns tgt ll st sh M) : ax_J Y K nc ns pc ll (aI x :: st) sh M := by
  intro p l e R s m args below meth c A E Q C hK H locs ls hW hl hr1 hr2
  have hx : i32 x := j_h1 hr2
  exact lv_tableIn C.1 C.2.1 hd (by rw [c32_in hx]; omega) (by rw [c32_in hx]; omega) (by rw [c32_in hx]; exact ho) ht (kk p l e R s m args below meth c A E Q C hK H locs ls hW hl hr1 (j_t1 hr2))
theorem j_tableOut {dflt lo hi x : Int} {offs : Array Int} {len tgt : Nat} (hd : decode (yc Y) pc = .ok (.tableswitch dflt lo hi offs, len)) (h1 : x < lo ∨ hi < x) (ht : (pc : Int) + dflt = (tgt : Int)) (kk : ax_J Y K nc ns tgt ll st sh M) : ax_J Y K nc ns pc ll (aI x :: st) sh M := by
  intro p l e R s m args below meth c A E Q C hK H locs ls hW hl hr1 hr2
  have hx : i32 x := j_h1 hr2
  exact lv_tableOut C.1 C.2.1 hd (by rw [c32_in hx]; omega) ht (kk p l e R s m args below meth c A E Q C hK H locs ls hW hl hr1 (j_t1 hr2))
theorem j_lookup {dflt off x : Int} {ps : Array (Int × Int)} {len tgt : Nat} (hd : decode (yc Y) pc = .ok (.lookupswitch dflt ps, len)) (hp : (ps.toList.zip (ps.toList.drop 1)).all (fun (a, next) => a.1 < next.1) = true) (ho : Op.lookupswitch.offset ps.toList dflt x = off) (ht : (pc : Int) + off = (tgt : Int)) (kk : ax_J Y K nc ns tgt ll st sh M) : ax_J Y K nc ns pc ll (aI x :: st) sh M := by
  intro p l e R s m args below meth c A E Q C hK H locs ls hW hl hr1 hr2
  have hx : i32 x := j_h1 hr2
  exact lv_lookup C.1 C.2.1 hd hp (by rw [c32_in hx]; exact ho) ht (kk p l e R s m args below meth c A E Q C hK H locs ls hW hl hr1 (j_t1 hr2))
end JROWS2
