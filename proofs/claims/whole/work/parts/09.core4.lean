theorem v_in {i : Int} {n : Nat} (hi : i32 i) (h0 : 0 ≤ i) (h1 : i < (n : Int)) : vp_in (Int32.ofInt i) n := vp_in_iff.mpr (by rw [c32_in hi]; exact ⟨h0, h1⟩)
theorem v_nat {i : Int} (hi : i32 i) : (Int32.ofInt i).toNatClampNeg = i.toNat := Int32.toNatClampNeg_ofInt_of_le (by have := hi.1; omega) (by have := hi.2; omega)
theorem v_cast {i : Int} (h0 : 0 ≤ i) : ((i.toNat : Nat) : Int) = i := Int.toNat_of_nonneg h0
section JROWS4
variable {Y : ax_Y} {K : ax_KT} {nc ns pc : Nat} {ll ll' : List (Nat × ax_V)} {st : List ax_V} {sh : ax_S} {M : ax_M}
theorem j_iald {b n : Nat} {i : Int} (hd : decode (yc Y) pc = .ok (.iaload, 1)) (hs : sh[b]? = some (.inl (0, n))) (h0 : 0 ≤ i) (h1 : i < (n : Int)) (kk : i32 (M b i) → ax_J Y K nc ns (pc + 1) ll (aI (M b i) :: st) sh M) : ax_J Y K nc ns pc ll (aI i :: aR b :: st) sh M := by
  intro p l e R s m args below meth c A E Q C hK H locs ls hW hl hr1 hr2
  have hi : i32 i := j_h1 hr2
  have hg : i32 (M b i) := mr_a hW.2.2.2 hs h0 h1
  have hv : ax_vr (aI (M b i)) := hg
  refine va_iald (ws := ax_ws E sh M) C.1 C.2.1 C.2.2.2.2.2.2.2.2.2.1 hW.1 b 0 (ws_at hs) rfl (v_in hi h0 h1) hd ?_
  have h := kk hg p l e R s m args below meth c A E Q C hK H locs ls hW hl hr1 (j_cons hv (j_t1 (j_t1 hr2)))
  rw [v_nat hi, v_cast h0]
  exact h
theorem j_zald {b n : Nat} {i : Int} (hd : decode (yc Y) pc = .ok (.baload, 1)) (hs : sh[b]? = some (.inl (3, n))) (h0 : 0 ≤ i) (h1 : i < (n : Int)) (kk : (M b i = 0 ∨ M b i = 1) → ax_J Y K nc ns (pc + 1) ll (aI (M b i) :: st) sh M) : ax_J Y K nc ns pc ll (aI i :: aR b :: st) sh M := by
  intro p l e R s m args below meth c A E Q C hK H locs ls hW hl hr1 hr2
  have hi : i32 i := j_h1 hr2
  have hg : (M b i = 0 ∨ M b i = 1) := mr_a hW.2.2.2 hs h0 h1
  have hv : ax_vr (aI (M b i)) := (by rcases hg with h | h <;> rw [h] <;> exact ⟨by decide, by decide⟩)
  refine va_zald (ws := ax_ws E sh M) C.1 C.2.1 C.2.2.2.2.2.2.2.2.2.1 hW.1 b 3 (ws_at hs) rfl (v_in hi h0 h1) hd ?_
  have h := kk hg p l e R s m args below meth c A E Q C hK H locs ls hW hl hr1 (j_cons hv (j_t1 (j_t1 hr2)))
  rw [v_nat hi, v_cast h0]
  exact h
theorem j_bald {b n : Nat} {i : Int} (hd : decode (yc Y) pc = .ok (.baload, 1)) (hs : sh[b]? = some (.inl (4, n))) (h0 : 0 ≤ i) (h1 : i < (n : Int)) (kk : (-128 ≤ M b i ∧ M b i ≤ 127) → ax_J Y K nc ns (pc + 1) ll (aI (M b i) :: st) sh M) : ax_J Y K nc ns pc ll (aI i :: aR b :: st) sh M := by
  intro p l e R s m args below meth c A E Q C hK H locs ls hW hl hr1 hr2
  have hi : i32 i := j_h1 hr2
  have hg : (-128 ≤ M b i ∧ M b i ≤ 127) := mr_a hW.2.2.2 hs h0 h1
  have hv : ax_vr (aI (M b i)) := ⟨by have := hg.1; omega, by have := hg.2; omega⟩
  refine va_bald (ws := ax_ws E sh M) C.1 C.2.1 C.2.2.2.2.2.2.2.2.2.1 hW.1 b 4 (ws_at hs) rfl (v_in hi h0 h1) hd ?_
  have h := kk hg p l e R s m args below meth c A E Q C hK H locs ls hW hl hr1 (j_cons hv (j_t1 (j_t1 hr2)))
  rw [v_nat hi, v_cast h0]
  exact h
theorem j_lald {b n : Nat} {i : Int} (hd : decode (yc Y) pc = .ok (.laload, 1)) (hs : sh[b]? = some (.inl (1, n))) (h0 : 0 ≤ i) (h1 : i < (n : Int)) (kk : i64 (M b i) → ax_J Y K nc ns (pc + 1) ll (aL (M b i) :: st) sh M) : ax_J Y K nc ns pc ll (aI i :: aR b :: st) sh M := by
  intro p l e R s m args below meth c A E Q C hK H locs ls hW hl hr1 hr2
  have hi : i32 i := j_h1 hr2
  have hg : i64 (M b i) := mr_a hW.2.2.2 hs h0 h1
  have hv : ax_vr (aL (M b i)) := hg
  refine va_lald (ws := ax_ws E sh M) C.1 C.2.1 C.2.2.2.2.2.2.2.2.2.1 hW.1 b 1 (ws_at hs) rfl (v_in hi h0 h1) hd ?_
  have h := kk hg p l e R s m args below meth c A E Q C hK H locs ls hW hl hr1 (j_cons hv (j_t1 (j_t1 hr2)))
  rw [v_nat hi, v_cast h0]
  exact h
theorem j_aald {b n : Nat} (r : Nat) {i : Int} (hd : decode (yc Y) pc = .ok (.aaload, 1)) (hs : sh[b]? = some (.inl (2, n))) (h0 : 0 ≤ i) (h1 : i < (n : Int)) (hr : M b i = (r : Int)) (kk : ax_J Y K nc ns (pc + 1) ll (aR r :: st) sh M) : ax_J Y K nc ns pc ll (aI i :: aR b :: st) sh M := by
  intro p l e R s m args below meth c A E Q C hK H locs ls hW hl hr1 hr2
  have hi : i32 i := j_h1 hr2
  refine va_aldq (ws := ax_ws E sh M) C.1 C.2.1 C.2.2.2.2.2.2.2.2.2.1 hW.1 b 2 (ws_at hs) rfl (v_in hi h0 h1) hd ?_
  have h := kk p l e R s m args below meth c A E Q C hK H locs ls hW hl hr1 (j_cons trivial (j_t1 (j_t1 hr2)))
  rw [v_nat hi, v_cast h0, hr]
  have h2 : i.toNat < n ∧ 0 ≤ (r : Int) := ⟨by omega, by omega⟩
  rw [if_pos h2, Int.toNat_natCast]
  exact h
theorem j_iast {b n : Nat} {i z : Int} (hd : decode (yc Y) pc = .ok (.iastore, 1)) (hs : sh[b]? = some (.inl (0, n))) (h0 : 0 ≤ i) (h1 : i < (n : Int)) (kk : ax_J Y K nc ns (pc + 1) ll st sh (ax_up M b i z)) : ax_J Y K nc ns pc ll (aI z :: aI i :: aR b :: st) sh M := by
  intro p l e R s m args below meth c A E Q C hK H locs ls hW hl hr1 hr2
  have hi : i32 i := j_h1 (j_t1 hr2)
  have hws : (ax_ws E sh M)[b]? = some (E.2.2.1 b, .inl (E.2.1 0, n, .inl (fun j : Nat => Int32.ofInt (M b (j : Int))))) := ws_at hs
  refine va_iast (ws := ax_ws E sh M) C.1 C.2.1 C.2.2.2.2.2.2.2.2.2.1 hW.1 hW.2.1 hW.2.2.1 b 0 hws rfl (v_in hi h0 h1) hd (fun H1 locs1 hP1 hD1 hS1 => ?_)
  have e4 : (ax_ws E sh M).set b (E.2.2.1 b, .inl (E.2.1 0, n, .inl (upd (fun j : Nat => Int32.ofInt (M b (j : Int))) (Int32.ofInt i).toNatClampNeg (Int32.ofInt z)))) = ax_ws E sh (ax_up M b i z) := by
    have ef : upd (fun j : Nat => Int32.ofInt (M b (j : Int))) (Int32.ofInt i).toNatClampNeg (Int32.ofInt z) = fun j : Nat => Int32.ofInt (if (j : Int) = i then z else M b (j : Int)) := by
      funext j
      simp only [upd, v_nat hi]
      by_cases h : j = i.toNat
      · have h2 : (j : Int) = i := by omega
        rw [if_pos h, if_pos h2]
      · have h2 : ¬ (j : Int) = i := by omega
        rw [if_neg h, if_neg h2]
    rw [ef, up_eq]
    exact ws_set (E := E) (M := M) hs (fun j => if j = i then z else M b j)
  rw [e4] at hP1 hD1
  exact kk p l e R s m args below meth c A E Q C hK H1 locs1 ls ⟨hP1, hD1, hS1, mr_upa hW.2.2.2 hs ⟨j_h1 hr2, fun h => by cases h⟩⟩ hl hr1 (j_t1 (j_t1 (j_t1 hr2)))
theorem j_zast {b n : Nat} {i z : Int} (hd : decode (yc Y) pc = .ok (.bastore, 1)) (hs : sh[b]? = some (.inl (3, n))) (h0 : 0 ≤ i) (h1 : i < (n : Int)) (hz : z = 0 ∨ z = 1) (kk : ax_J Y K nc ns (pc + 1) ll st sh (ax_up M b i z)) : ax_J Y K nc ns pc ll (aI z :: aI i :: aR b :: st) sh M := by
  intro p l e R s m args below meth c A E Q C hK H locs ls hW hl hr1 hr2
  have hi : i32 i := j_h1 (j_t1 hr2)
  have hws : (ax_ws E sh M)[b]? = some (E.2.2.1 b, .inl (E.2.1 3, n, .inl (fun j : Nat => Int32.ofInt (M b (j : Int))))) := ws_at hs
  refine va_zast (ws := ax_ws E sh M) C.1 C.2.1 C.2.2.2.2.2.2.2.2.2.1 hW.1 hW.2.1 hW.2.2.1 b 3 hws rfl (v_in hi h0 h1) hd (fun H1 locs1 hP1 hD1 hS1 => ?_)
  have e4 : (ax_ws E sh M).set b (E.2.2.1 b, .inl (E.2.1 3, n, .inl (upd (fun j : Nat => Int32.ofInt (M b (j : Int))) (Int32.ofInt i).toNatClampNeg (vp_nar .boolean (Int32.ofInt z))))) = ax_ws E sh (ax_up M b i z) := by
    have ef : upd (fun j : Nat => Int32.ofInt (M b (j : Int))) (Int32.ofInt i).toNatClampNeg (vp_nar .boolean (Int32.ofInt z)) = fun j : Nat => Int32.ofInt (if (j : Int) = i then z else M b (j : Int)) := by
      rw [show vp_nar .boolean (Int32.ofInt z) = Int32.ofInt z by rcases hz with h | h <;> rw [h] <;> decide]
      funext j
      simp only [upd, v_nat hi]
      by_cases h : j = i.toNat
      · have h2 : (j : Int) = i := by omega
        rw [if_pos h, if_pos h2]
      · have h2 : ¬ (j : Int) = i := by omega
        rw [if_neg h, if_neg h2]
    rw [ef, up_eq]
    exact ws_set (E := E) (M := M) hs (fun j => if j = i then z else M b j)
  rw [e4] at hP1 hD1
  exact kk p l e R s m args below meth c A E Q C hK H1 locs1 ls ⟨hP1, hD1, hS1, mr_upa hW.2.2.2 hs ⟨hz, fun h => by cases h⟩⟩ hl hr1 (j_t1 (j_t1 (j_t1 hr2)))
theorem j_bast {b n : Nat} {i z : Int} (hd : decode (yc Y) pc = .ok (.bastore, 1)) (hs : sh[b]? = some (.inl (4, n))) (h0 : 0 ≤ i) (h1 : i < (n : Int)) (hz : -128 ≤ z ∧ z ≤ 127) (kk : ax_J Y K nc ns (pc + 1) ll st sh (ax_up M b i z)) : ax_J Y K nc ns pc ll (aI z :: aI i :: aR b :: st) sh M := by
  intro p l e R s m args below meth c A E Q C hK H locs ls hW hl hr1 hr2
  have hi : i32 i := j_h1 (j_t1 hr2)
  have hws : (ax_ws E sh M)[b]? = some (E.2.2.1 b, .inl (E.2.1 4, n, .inl (fun j : Nat => Int32.ofInt (M b (j : Int))))) := ws_at hs
  refine va_bast (ws := ax_ws E sh M) C.1 C.2.1 C.2.2.2.2.2.2.2.2.2.1 hW.1 hW.2.1 hW.2.2.1 b 4 hws rfl (v_in hi h0 h1) hd (fun H1 locs1 hP1 hD1 hS1 => ?_)
  have e4 : (ax_ws E sh M).set b (E.2.2.1 b, .inl (E.2.1 4, n, .inl (upd (fun j : Nat => Int32.ofInt (M b (j : Int))) (Int32.ofInt i).toNatClampNeg (vp_nar .byte (Int32.ofInt z))))) = ax_ws E sh (ax_up M b i z) := by
    have ef : upd (fun j : Nat => Int32.ofInt (M b (j : Int))) (Int32.ofInt i).toNatClampNeg (vp_nar .byte (Int32.ofInt z)) = fun j : Nat => Int32.ofInt (if (j : Int) = i then z else M b (j : Int)) := by
      rw [vp_nar_byte, Int32.toInt8_ofInt, show (Int8.ofInt z).toInt32 = Int32.ofInt z by rw [← Int32.ofInt_int8ToInt, Int8.toInt_ofInt_of_le (by have := hz.1; omega) (by have := hz.2; omega)]]
      funext j
      simp only [upd, v_nat hi]
      by_cases h : j = i.toNat
      · have h2 : (j : Int) = i := by omega
        rw [if_pos h, if_pos h2]
      · have h2 : ¬ (j : Int) = i := by omega
        rw [if_neg h, if_neg h2]
    rw [ef, up_eq]
    exact ws_set (E := E) (M := M) hs (fun j => if j = i then z else M b j)
  rw [e4] at hP1 hD1
  exact kk p l e R s m args below meth c A E Q C hK H1 locs1 ls ⟨hP1, hD1, hS1, mr_upa hW.2.2.2 hs ⟨hz, fun h => by cases h⟩⟩ hl hr1 (j_t1 (j_t1 (j_t1 hr2)))
theorem j_last {b n : Nat} {i z : Int} (hd : decode (yc Y) pc = .ok (.lastore, 1)) (hs : sh[b]? = some (.inl (1, n))) (h0 : 0 ≤ i) (h1 : i < (n : Int)) (kk : ax_J Y K nc ns (pc + 1) ll st sh (ax_up M b i z)) : ax_J Y K nc ns pc ll (aL z :: aI i :: aR b :: st) sh M := by
  intro p l e R s m args below meth c A E Q C hK H locs ls hW hl hr1 hr2
  have hi : i32 i := j_h1 (j_t1 hr2)
  have hws : (ax_ws E sh M)[b]? = some (E.2.2.1 b, .inl (E.2.1 1, n, .inr <| .inl (fun j : Nat => Int64.ofInt (M b (j : Int))))) := ws_at hs
  refine va_last (ws := ax_ws E sh M) C.1 C.2.1 C.2.2.2.2.2.2.2.2.2.1 hW.1 hW.2.1 hW.2.2.1 b 1 hws rfl (v_in hi h0 h1) hd (fun H1 locs1 hP1 hD1 hS1 => ?_)
  have e4 : (ax_ws E sh M).set b (E.2.2.1 b, .inl (E.2.1 1, n, .inr <| .inl (vp_updL (fun j : Nat => Int64.ofInt (M b (j : Int))) (Int32.ofInt i).toNatClampNeg (Int64.ofInt z)))) = ax_ws E sh (ax_up M b i z) := by
    have ef : vp_updL (fun j : Nat => Int64.ofInt (M b (j : Int))) (Int32.ofInt i).toNatClampNeg (Int64.ofInt z) = fun j : Nat => Int64.ofInt (if (j : Int) = i then z else M b (j : Int)) := by
      funext j
      simp only [vp_updL, v_nat hi]
      by_cases h : j = i.toNat
      · have h2 : (j : Int) = i := by omega
        rw [if_pos h, if_pos h2]
      · have h2 : ¬ (j : Int) = i := by omega
        rw [if_neg h, if_neg h2]
    rw [ef, up_eq]
    exact ws_set (E := E) (M := M) hs (fun j => if j = i then z else M b j)
  rw [e4] at hP1 hD1
  exact kk p l e R s m args below meth c A E Q C hK H1 locs1 ls ⟨hP1, hD1, hS1, mr_upa hW.2.2.2 hs ⟨j_h1 hr2, fun h => by cases h⟩⟩ hl hr1 (j_t1 (j_t1 (j_t1 hr2)))
theorem j_alen {b kd n : Nat} (hd : decode (yc Y) pc = .ok (.arraylength, 1)) (hs : sh[b]? = some (.inl (kd, n))) (hkd : kd < 5) (hn : n < 2147483648) {v : Int} (hv : (n : Int) = v) (kk : ax_J Y K nc ns (pc + 1) ll (aI v :: st) sh M) : ax_J Y K nc ns pc ll (aR b :: st) sh M := by
  intro p l e R s m args below meth c A E Q C hK H locs ls hW hl hr1 hr2
  subst hv
  have hx : (ax_arr E kd n (M b)).1 = n := by
    unfold ax_arr; split <;> rfl
  have ht : ∃ ty, (ax_tys E)[kd]? = some (E.2.1 kd, ty) := by
    rcases (show kd = 0 ∨ kd = 1 ∨ kd = 2 ∨ kd = 3 ∨ kd = 4 by omega) with rfl | rfl | rfl | rfl | rfl <;> exact ⟨_, rfl⟩
  obtain ⟨ty, ht⟩ := ht
  exact va_alen (ws := ax_ws E sh M) C.1 C.2.1 C.2.2.2.2.2.2.2.2.2.1 hW.1 b kd (ws_at hs) ht (by rw [hx]; exact Int32.ofInt_eq_ofNat.symm) hd (kk p l e R s m args below meth c A E Q C hK H locs ls hW hl hr1 (j_cons ⟨by omega, by omega⟩ (j_t1 hr2)))
end JROWS4
