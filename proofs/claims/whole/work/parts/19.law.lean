/-! THE CLAIM OUT OF ONE WALK OF THE LAW'S BODY. Your part is whole_start (and what it stands on); all else here is the same for every law, but numbers. -/
def R_law : String := "LastLampsLaw"
def lw_P (b : Addr) (xs : List Int32) (args : Array Value) (s : State) : Prop := args = #[.ref b] ∧ s.IntsAt b xs ∧ xs.length ≤ 3584 ∧ (Jvm.Cond.and given_1 narrow_1).before args s = true
def lw_Q (_ : Array Value) (s : State) (o : Outcome) (t : State) : Prop := o = .returned (some (.int 1)) ∧ Framed s o t [] 600000 7302250
def lw_Z (below : List Frame) (a : Array Value) (s : State) : State → Prop := fun t => ∃ o, t.status = .running ∧ Ended t below o ∧ lw_Q a s o t
/-- the law's own end, with 1 on the stack, nothing written that was there before, its room as the claim has it -/
theorem lw_ret {p : Program} {l : Launch} {e : Env} {s : State} {m : MethodId} {below : List Frame} {meth : Method} {c : Code} {b : Nat} (hx : p.tables.exec = Jvm.exec) (hb : c.code = code) (hr : meth.sig.returnType = ret) (hlocks : meth.locks = false) {pc : Nat} {H : Heap} {ls : Array Slot} (hdg : decode code pc = .ok (.ireturn, 1)) : W p l e room_1 s m #[Value.ref b] below meth c H [] 600000 7302250 (lw_Z below #[Value.ref b] s) (F0 m pc ls [.int 1]) := by
  intro T hT X
  obtain ⟨fs, hret, hrun, hended, hW, hframe⟩ := X.leave (v := some (.int 1)) (hlocks := hlocks) (fun h => by rw [hr] at h; cases h)
  have hmeth' : T.vm.method? m = some meth := X.method'
  refine ⟨T.setFrames fs, ?_, .returned (some (.int 1)), hrun, hended, rfl, ⟨_, rfl⟩, hW, hframe⟩
  jvm_step X.here [X.here.top, hx, hb, hdg, hmeth', hr, ret, narrow_b1]
  (try refine ⟨rfl, ?_⟩); (try refine ⟨rfl, ?_⟩)
  first | (intro acts; rw [hret _ acts rfl rfl rfl]) | rw [hret _ _ rfl rfl rfl]
  exact Steps.refl _
/-- what holds at the law's entry: the machine, the code, the tables' words (any of lw_tbl by 'hts w (by decide +kernel)'), the script of L ints xs at the cell b, what the Statement gives of the start (any of its parts by flat_of_before) -/
def lw_At (p : Program) (s : State) (m : MethodId) (meth : Method) (c : Code) (b L : Nat) (xs : Nat → Int32) : Prop :=
  p.tables.exec = Jvm.exec ∧ c.code = code ∧ meth.sig.returnType = ret ∧ c.maxLocals = 4 ∧ s.vm.findClass R_law = some m.cls ∧ (∀ w ∈ lw_tbl, w.before #[Value.ref b] s = true) ∧ va_X b L xs s s.heap ∧ b < s.heap.size ∧ meth.locks = false ∧ (Jvm.Cond.and given_1 narrow_1).before #[Value.ref b] s = true
def sx (xs : Nat → Int32) (i : Int) : Int := (xs i.toNat).toInt
def ax_KL (b L : Nat) (xs : Nat → Int32) : ax_KT := fun _ _ _ R s _ args below _ _ A E Q => R = room_1 ∧ args = #[Value.ref b] ∧ Q = lw_Z below args s ∧ E.2.2.1 2000 = b ∧ va_X b L xs s s.heap ∧ b < s.heap.size ∧ A = fun q => s.heap.size ≤ q
theorem kl_st {b L : Nat} {xs : Nat → Int32} {n : Nat} (h : n ≤ 1000) : ax_Kst (ax_KL b L xs) n := by
  intro p l e R s m args below meth c A E E' Q hx ⟨h1, h2, h3, h4, h5⟩
  exact ⟨h1, h2, h3, (hx.2.2.2 2000 (Or.inr (by decide))).trans h4, h5⟩
section JLAW
variable {Y : ax_Y} {b L : Nat} {xs : Nat → Int32} {nc ns pc : Nat} {ll : List (Nat × ax_V)} {st : List ax_V} {sh : ax_S} {M : ax_M}
theorem j_sxa {i : Int} (hd : decode (yc Y) pc = .ok (.iaload, 1)) (h0 : 0 ≤ i) (h1 : i < (L : Int)) (kk : ax_J Y (ax_KL b L xs) nc ns (pc + 1) ll (aI (sx xs i) :: st) sh M) : ax_J Y (ax_KL b L xs) nc ns pc ll (aI i :: aR 2000 :: st) sh M := by
  intro p l e R s m args below meth c A E Q C hK H locs ls hW hl hr1 hr2
  have hi : i32 i := j_h1 hr2
  obtain ⟨k1, k2, k3, k4, k5, k6, k7⟩ := id hK
  have h := kk p l e R s m args below meth c A E Q C hK H locs ls hW hl hr1 (j_cons (c32_toInt _) (j_t1 (j_t1 hr2)))
  show W p l e R s m args below meth c H locs nc ns Q (F0 m pc ls (.int (Int32.ofInt i) :: .ref (E.2.2.1 2000) :: st.map (cv E)))
  rw [k4]
  refine va_sld C.1 C.2.1 k5 k6 (by rw [k7]; exact Nat.not_le.mpr k6) hW.2.2.1 (v_in hi h0 h1) hd ?_
  rw [v_nat hi]
  simp only [List.map_cons, cv, sx, Int32.ofInt_toInt] at h
  exact h
theorem j_sxl (hL : L ≤ 3584) (hd : decode (yc Y) pc = .ok (.arraylength, 1)) (kk : ax_J Y (ax_KL b L xs) nc ns (pc + 1) ll (aI (L : Int) :: st) sh M) : ax_J Y (ax_KL b L xs) nc ns pc ll (aR 2000 :: st) sh M := by
  intro p l e R s m args below meth c A E Q C hK H locs ls hW hl hr1 hr2
  obtain ⟨k1, k2, k3, k4, k5, k6, k7⟩ := id hK
  have h := kk p l e R s m args below meth c A E Q C hK H locs ls hW hl hr1 (j_cons ⟨by omega, by omega⟩ (j_t1 hr2))
  show W p l e R s m args below meth c H locs nc ns Q (F0 m pc ls (.ref (E.2.2.1 2000) :: st.map (cv E)))
  rw [k4]
  refine va_slen C.1 C.2.1 k5 k6 (by rw [k7]; exact Nat.not_le.mpr k6) hW.2.2.1 hd ?_
  rw [← Int32.ofInt_eq_ofNat]
  exact h
theorem j_lw1 (hd : decode (yc Y_L_law) pc = .ok (.ireturn, 1)) (hc : nc ≤ 600000 ∧ ns ≤ 7302250) : ax_J Y_L_law (ax_KL b L xs) nc ns pc ll [aI 1] sh M := by
  intro p l e R s m args below meth c A E Q C hK H locs ls hW hl hr1 hr2
  obtain ⟨k1, k2, k3, k4, k5, k6, k7⟩ := id hK
  subst k1; subst k2; subst k3; subst k7
  refine va_forget (fun q hq => hW.2.2.1.2.2 q hq) ?_
  refine W.widen hc.1 hc.2 ?_
  exact lw_ret C.1 C.2.1 C.2.2.1 C.2.2.2.2.2.1 hd
end JLAW
set_option maxRecDepth 100000 in
set_option maxHeartbeats 4000000 in
theorem B_law_18 {b L : Nat} {xs : Nat → Int32} {M : ax_M} {x3 : Int} (hL : L ≤ 3584) (h : (-2147483648 ≤ ((L : Int) - 7) ∧ ((L : Int) - 7) ≤ 2147483647) ∧ (((((L : Int) - 7) < x3) → True) ∧ ((x3 ≤ ((L : Int) - 7)) → (0 ≤ x3 ∧ x3 < (L : Int)) ∧ ((((bo_and (sx xs x3) 31) = 0) → ax_J Y_L_law (ax_KL b L xs) 99 28389 176 [(0, aR 2000), (1, aR 0), (2, aR 61), (3, aI x3)] [] SH M) ∧ ((((bo_and (sx xs x3) 31) = 1) → ax_J Y_L_law (ax_KL b L xs) 99 28389 239 [(0, aR 2000), (1, aR 0), (2, aR 61), (3, aI x3)] [] SH M) ∧ ((((bo_and (sx xs x3) 31) = 2) → ax_J Y_L_law (ax_KL b L xs) 99 28389 252 [(0, aR 2000), (1, aR 0), (2, aR 61), (3, aI x3)] [] SH M) ∧ ((((bo_and (sx xs x3) 31) = 3) → ax_J Y_L_law (ax_KL b L xs) 99 28389 265 [(0, aR 2000), (1, aR 0), (2, aR 61), (3, aI x3)] [] SH M) ∧ ((((bo_and (sx xs x3) 31) = 4) → ax_J Y_L_law (ax_KL b L xs) 99 28389 298 [(0, aR 2000), (1, aR 0), (2, aR 61), (3, aI x3)] [] SH M) ∧ ((((bo_and (sx xs x3) 31) = 5) → ax_J Y_L_law (ax_KL b L xs) 99 28389 347 [(0, aR 2000), (1, aR 0), (2, aR 61), (3, aI x3)] [] SH M) ∧ ((((bo_and (sx xs x3) 31) = 6) → ax_J Y_L_law (ax_KL b L xs) 99 28389 370 [(0, aR 2000), (1, aR 0), (2, aR 61), (3, aI x3)] [] SH M) ∧ ((((bo_and (sx xs x3) 31) = 7) → ax_J Y_L_law (ax_KL b L xs) 99 28389 445 [(0, aR 2000), (1, aR 0), (2, aR 61), (3, aI x3)] [] SH M) ∧ ((((bo_and (sx xs x3) 31) = 8) → ax_J Y_L_law (ax_KL b L xs) 99 28389 478 [(0, aR 2000), (1, aR 0), (2, aR 61), (3, aI x3)] [] SH M) ∧ ((((bo_and (sx xs x3) 31) = 9) → ax_J Y_L_law (ax_KL b L xs) 99 28389 511 [(0, aR 2000), (1, aR 0), (2, aR 61), (3, aI x3)] [] SH M) ∧ ((((bo_and (sx xs x3) 31) = 10) → ax_J Y_L_law (ax_KL b L xs) 99 28389 544 [(0, aR 2000), (1, aR 0), (2, aR 61), (3, aI x3)] [] SH M) ∧ ((((bo_and (sx xs x3) 31) = 11) → ax_J Y_L_law (ax_KL b L xs) 99 28389 603 [(0, aR 2000), (1, aR 0), (2, aR 61), (3, aI x3)] [] SH M) ∧ ((((bo_and (sx xs x3) 31) = 12) → ax_J Y_L_law (ax_KL b L xs) 99 28389 682 [(0, aR 2000), (1, aR 0), (2, aR 61), (3, aI x3)] [] SH M) ∧ ((((bo_and (sx xs x3) 31) = 13) → ax_J Y_L_law (ax_KL b L xs) 99 28389 741 [(0, aR 2000), (1, aR 0), (2, aR 61), (3, aI x3)] [] SH M) ∧ ((((bo_and (sx xs x3) 31) = 14) → ax_J Y_L_law (ax_KL b L xs) 99 28389 800 [(0, aR 2000), (1, aR 0), (2, aR 61), (3, aI x3)] [] SH M) ∧ ((((bo_and (sx xs x3) 31) = 15) → ax_J Y_L_law (ax_KL b L xs) 99 28389 823 [(0, aR 2000), (1, aR 0), (2, aR 61), (3, aI x3)] [] SH M) ∧ ((((bo_and (sx xs x3) 31) = 16) → ax_J Y_L_law (ax_KL b L xs) 99 28389 846 [(0, aR 2000), (1, aR 0), (2, aR 61), (3, aI x3)] [] SH M) ∧ ((((bo_and (sx xs x3) 31) = 17) → ax_J Y_L_law (ax_KL b L xs) 99 28389 879 [(0, aR 2000), (1, aR 0), (2, aR 61), (3, aI x3)] [] SH M) ∧ ((((bo_and (sx xs x3) 31) = 18) → ax_J Y_L_law (ax_KL b L xs) 99 28389 912 [(0, aR 2000), (1, aR 0), (2, aR 61), (3, aI x3)] [] SH M) ∧ ((((bo_and (sx xs x3) 31) = 19) → ax_J Y_L_law (ax_KL b L xs) 99 28389 955 [(0, aR 2000), (1, aR 0), (2, aR 61), (3, aI x3)] [] SH M) ∧ ((((bo_and (sx xs x3) 31) = 20) → ax_J Y_L_law (ax_KL b L xs) 99 28389 1008 [(0, aR 2000), (1, aR 0), (2, aR 61), (3, aI x3)] [] SH M) ∧ ((((bo_and (sx xs x3) 31) = 21) → ax_J Y_L_law (ax_KL b L xs) 99 28389 1061 [(0, aR 2000), (1, aR 0), (2, aR 61), (3, aI x3)] [] SH M) ∧ ((((bo_and (sx xs x3) 31) = 22) → ax_J Y_L_law (ax_KL b L xs) 99 28389 1136 [(0, aR 2000), (1, aR 0), (2, aR 61), (3, aI x3)] [] SH M) ∧ ((((bo_and (sx xs x3) 31) = 23) → ax_J Y_L_law (ax_KL b L xs) 99 28389 1179 [(0, aR 2000), (1, aR 0), (2, aR 61), (3, aI x3)] [] SH M) ∧ ((((bo_and (sx xs x3) 31) = 24) → ax_J Y_L_law (ax_KL b L xs) 99 28389 1202 [(0, aR 2000), (1, aR 0), (2, aR 61), (3, aI x3)] [] SH M) ∧ ((((bo_and (sx xs x3) 31) = 25) → ax_J Y_L_law (ax_KL b L xs) 99 28389 1215 [(0, aR 2000), (1, aR 0), (2, aR 61), (3, aI x3)] [] SH M) ∧ ((((bo_and (sx xs x3) 31) = 26) → ax_J Y_L_law (ax_KL b L xs) 99 28389 1268 [(0, aR 2000), (1, aR 0), (2, aR 61), (3, aI x3)] [] SH M) ∧ ((((bo_and (sx xs x3) 31) = 27) → ax_J Y_L_law (ax_KL b L xs) 99 28389 1301 [(0, aR 2000), (1, aR 0), (2, aR 61), (3, aI x3)] [] SH M) ∧ ((((bo_and (sx xs x3) 31) = 28) → ax_J Y_L_law (ax_KL b L xs) 99 28389 1334 [(0, aR 2000), (1, aR 0), (2, aR 61), (3, aI x3)] [] SH M) ∧ ((((bo_and (sx xs x3) 31) = 29) → ax_J Y_L_law (ax_KL b L xs) 99 28389 1377 [(0, aR 2000), (1, aR 0), (2, aR 61), (3, aI x3)] [] SH M) ∧ ((((bo_and (sx xs x3) 31) = 30) → ax_J Y_L_law (ax_KL b L xs) 99 28389 1410 [(0, aR 2000), (1, aR 0), (2, aR 61), (3, aI x3)] [] SH M) ∧ ((((bo_and (sx xs x3) 31) = 31) → ax_J Y_L_law (ax_KL b L xs) 99 28389 1433 [(0, aR 2000), (1, aR 0), (2, aR 61), (3, aI x3)] [] SH M) ∧ (((bo_and (sx xs x3) 31) < 0 ∨ 31 < (bo_and (sx xs x3) 31)) → ax_J Y_L_law (ax_KL b L xs) 99 28389 1456 [(0, aR 2000), (1, aR 0), (2, aR 61), (3, aI x3)] [] SH M)))))))))))))))))))))))))))))))))))) : ax_J Y_L_law (ax_KL b L xs) 99 28389 18 [(0, aR 2000), (1, aR 0), (2, aR 61), (3, aI x3)] [] SH M := by
  refine j_iload_n 3 dL_law_18 rfl ?_
  refine j_aload_n 0 dL_law_19 rfl ?_
  refine j_sxl hL dL_law_20 ?_
  refine j_bipush (x := 7) dL_law_21 rfl (i32_c rfl) ?_
  obtain ⟨o1, h⟩ := h
  refine j_isub (z := ((L : Int) - 7)) dL_law_23 rfl o1 ?_
  refine j_icmp_gt (tgt := 1462) dL_law_24 (by decide) (fun c2 => ?_) (fun c2 => ?_)
  · replace h := h.1 c2
    refine j_iconst (x := 1) dL_law_1462 rfl (i32_c rfl) ?_
    exact j_lw1 dL_law_1463 ⟨Nat.le_of_ble_eq_true rfl, Nat.le_of_ble_eq_true rfl⟩
  · replace h := h.2 c2
    refine j_aload_n 0 dL_law_27 rfl ?_
    refine j_iload_n 3 dL_law_28 rfl ?_
    obtain ⟨o3, h⟩ := h
    refine j_sxa dL_law_29 o3.1 o3.2 ?_
    refine j_bipush (x := 31) dL_law_30 rfl (i32_c rfl) ?_
    refine j_iand (z := (bo_and (sx xs x3) 31)) dL_law_32 rfl ?_
    rcases (show ((bo_and (sx xs x3) 31) = 0) ∨ ((bo_and (sx xs x3) 31) = 1) ∨ ((bo_and (sx xs x3) 31) = 2) ∨ ((bo_and (sx xs x3) 31) = 3) ∨ ((bo_and (sx xs x3) 31) = 4) ∨ ((bo_and (sx xs x3) 31) = 5) ∨ ((bo_and (sx xs x3) 31) = 6) ∨ ((bo_and (sx xs x3) 31) = 7) ∨ ((bo_and (sx xs x3) 31) = 8) ∨ ((bo_and (sx xs x3) 31) = 9) ∨ ((bo_and (sx xs x3) 31) = 10) ∨ ((bo_and (sx xs x3) 31) = 11) ∨ ((bo_and (sx xs x3) 31) = 12) ∨ ((bo_and (sx xs x3) 31) = 13) ∨ ((bo_and (sx xs x3) 31) = 14) ∨ ((bo_and (sx xs x3) 31) = 15) ∨ ((bo_and (sx xs x3) 31) = 16) ∨ ((bo_and (sx xs x3) 31) = 17) ∨ ((bo_and (sx xs x3) 31) = 18) ∨ ((bo_and (sx xs x3) 31) = 19) ∨ ((bo_and (sx xs x3) 31) = 20) ∨ ((bo_and (sx xs x3) 31) = 21) ∨ ((bo_and (sx xs x3) 31) = 22) ∨ ((bo_and (sx xs x3) 31) = 23) ∨ ((bo_and (sx xs x3) 31) = 24) ∨ ((bo_and (sx xs x3) 31) = 25) ∨ ((bo_and (sx xs x3) 31) = 26) ∨ ((bo_and (sx xs x3) 31) = 27) ∨ ((bo_and (sx xs x3) 31) = 28) ∨ ((bo_and (sx xs x3) 31) = 29) ∨ ((bo_and (sx xs x3) 31) = 30) ∨ ((bo_and (sx xs x3) 31) = 31) ∨ ((bo_and (sx xs x3) 31) < 0 ∨ 31 < (bo_and (sx xs x3) 31)) by omega) with c | c | c | c | c | c | c | c | c | c | c | c | c | c | c | c | c | c | c | c | c | c | c | c | c | c | c | c | c | c | c | c | c
    · replace h := h.1 c
      refine j_tableC (v := 0) (tgt := 176) c dL_law_33 (by decide) (by decide) rfl (by decide) ?_
      exact h
    · replace h := h.2.1 c
      refine j_tableC (v := 1) (tgt := 239) c dL_law_33 (by decide) (by decide) rfl (by decide) ?_
      exact h
    · replace h := h.2.2.1 c
      refine j_tableC (v := 2) (tgt := 252) c dL_law_33 (by decide) (by decide) rfl (by decide) ?_
      exact h
    · replace h := h.2.2.2.1 c
      refine j_tableC (v := 3) (tgt := 265) c dL_law_33 (by decide) (by decide) rfl (by decide) ?_
      exact h
    · replace h := h.2.2.2.2.1 c
      refine j_tableC (v := 4) (tgt := 298) c dL_law_33 (by decide) (by decide) rfl (by decide) ?_
      exact h
    · replace h := h.2.2.2.2.2.1 c
      refine j_tableC (v := 5) (tgt := 347) c dL_law_33 (by decide) (by decide) rfl (by decide) ?_
      exact h
    · replace h := h.2.2.2.2.2.2.1 c
      refine j_tableC (v := 6) (tgt := 370) c dL_law_33 (by decide) (by decide) rfl (by decide) ?_
      exact h
    · replace h := h.2.2.2.2.2.2.2.1 c
      refine j_tableC (v := 7) (tgt := 445) c dL_law_33 (by decide) (by decide) rfl (by decide) ?_
      exact h
    · replace h := h.2.2.2.2.2.2.2.2.1 c
      refine j_tableC (v := 8) (tgt := 478) c dL_law_33 (by decide) (by decide) rfl (by decide) ?_
      exact h
    · replace h := h.2.2.2.2.2.2.2.2.2.1 c
      refine j_tableC (v := 9) (tgt := 511) c dL_law_33 (by decide) (by decide) rfl (by decide) ?_
      exact h
    · replace h := h.2.2.2.2.2.2.2.2.2.2.1 c
      refine j_tableC (v := 10) (tgt := 544) c dL_law_33 (by decide) (by decide) rfl (by decide) ?_
      exact h
    · replace h := h.2.2.2.2.2.2.2.2.2.2.2.1 c
      refine j_tableC (v := 11) (tgt := 603) c dL_law_33 (by decide) (by decide) rfl (by decide) ?_
      exact h
    · replace h := h.2.2.2.2.2.2.2.2.2.2.2.2.1 c
      refine j_tableC (v := 12) (tgt := 682) c dL_law_33 (by decide) (by decide) rfl (by decide) ?_
      exact h
    · replace h := h.2.2.2.2.2.2.2.2.2.2.2.2.2.1 c
      refine j_tableC (v := 13) (tgt := 741) c dL_law_33 (by decide) (by decide) rfl (by decide) ?_
      exact h
    · replace h := h.2.2.2.2.2.2.2.2.2.2.2.2.2.2.1 c
      refine j_tableC (v := 14) (tgt := 800) c dL_law_33 (by decide) (by decide) rfl (by decide) ?_
      exact h
    · replace h := h.2.2.2.2.2.2.2.2.2.2.2.2.2.2.2.1 c
      refine j_tableC (v := 15) (tgt := 823) c dL_law_33 (by decide) (by decide) rfl (by decide) ?_
      exact h
    · replace h := h.2.2.2.2.2.2.2.2.2.2.2.2.2.2.2.2.1 c
      refine j_tableC (v := 16) (tgt := 846) c dL_law_33 (by decide) (by decide) rfl (by decide) ?_
      exact h
    · replace h := h.2.2.2.2.2.2.2.2.2.2.2.2.2.2.2.2.2.1 c
      refine j_tableC (v := 17) (tgt := 879) c dL_law_33 (by decide) (by decide) rfl (by decide) ?_
      exact h
    · replace h := h.2.2.2.2.2.2.2.2.2.2.2.2.2.2.2.2.2.2.1 c
      refine j_tableC (v := 18) (tgt := 912) c dL_law_33 (by decide) (by decide) rfl (by decide) ?_
      exact h
    · replace h := h.2.2.2.2.2.2.2.2.2.2.2.2.2.2.2.2.2.2.2.1 c
      refine j_tableC (v := 19) (tgt := 955) c dL_law_33 (by decide) (by decide) rfl (by decide) ?_
      exact h
    · replace h := h.2.2.2.2.2.2.2.2.2.2.2.2.2.2.2.2.2.2.2.2.1 c
      refine j_tableC (v := 20) (tgt := 1008) c dL_law_33 (by decide) (by decide) rfl (by decide) ?_
      exact h
    · replace h := h.2.2.2.2.2.2.2.2.2.2.2.2.2.2.2.2.2.2.2.2.2.1 c
      refine j_tableC (v := 21) (tgt := 1061) c dL_law_33 (by decide) (by decide) rfl (by decide) ?_
      exact h
    · replace h := h.2.2.2.2.2.2.2.2.2.2.2.2.2.2.2.2.2.2.2.2.2.2.1 c
      refine j_tableC (v := 22) (tgt := 1136) c dL_law_33 (by decide) (by decide) rfl (by decide) ?_
      exact h
    · replace h := h.2.2.2.2.2.2.2.2.2.2.2.2.2.2.2.2.2.2.2.2.2.2.2.1 c
      refine j_tableC (v := 23) (tgt := 1179) c dL_law_33 (by decide) (by decide) rfl (by decide) ?_
      exact h
    · replace h := h.2.2.2.2.2.2.2.2.2.2.2.2.2.2.2.2.2.2.2.2.2.2.2.2.1 c
      refine j_tableC (v := 24) (tgt := 1202) c dL_law_33 (by decide) (by decide) rfl (by decide) ?_
      exact h
    · replace h := h.2.2.2.2.2.2.2.2.2.2.2.2.2.2.2.2.2.2.2.2.2.2.2.2.2.1 c
      refine j_tableC (v := 25) (tgt := 1215) c dL_law_33 (by decide) (by decide) rfl (by decide) ?_
      exact h
    · replace h := h.2.2.2.2.2.2.2.2.2.2.2.2.2.2.2.2.2.2.2.2.2.2.2.2.2.2.1 c
      refine j_tableC (v := 26) (tgt := 1268) c dL_law_33 (by decide) (by decide) rfl (by decide) ?_
      exact h
    · replace h := h.2.2.2.2.2.2.2.2.2.2.2.2.2.2.2.2.2.2.2.2.2.2.2.2.2.2.2.1 c
      refine j_tableC (v := 27) (tgt := 1301) c dL_law_33 (by decide) (by decide) rfl (by decide) ?_
      exact h
    · replace h := h.2.2.2.2.2.2.2.2.2.2.2.2.2.2.2.2.2.2.2.2.2.2.2.2.2.2.2.2.1 c
      refine j_tableC (v := 28) (tgt := 1334) c dL_law_33 (by decide) (by decide) rfl (by decide) ?_
      exact h
    · replace h := h.2.2.2.2.2.2.2.2.2.2.2.2.2.2.2.2.2.2.2.2.2.2.2.2.2.2.2.2.2.1 c
      refine j_tableC (v := 29) (tgt := 1377) c dL_law_33 (by decide) (by decide) rfl (by decide) ?_
      exact h
    · replace h := h.2.2.2.2.2.2.2.2.2.2.2.2.2.2.2.2.2.2.2.2.2.2.2.2.2.2.2.2.2.2.1 c
      refine j_tableC (v := 30) (tgt := 1410) c dL_law_33 (by decide) (by decide) rfl (by decide) ?_
      exact h
    · replace h := h.2.2.2.2.2.2.2.2.2.2.2.2.2.2.2.2.2.2.2.2.2.2.2.2.2.2.2.2.2.2.2.1 c
      refine j_tableC (v := 31) (tgt := 1433) c dL_law_33 (by decide) (by decide) rfl (by decide) ?_
      exact h
    · replace h := h.2.2.2.2.2.2.2.2.2.2.2.2.2.2.2.2.2.2.2.2.2.2.2.2.2.2.2.2.2.2.2.2 c
      refine j_tableOut (tgt := 1456) dL_law_33 c (by decide) ?_
      exact h
set_option maxRecDepth 100000 in
set_option maxHeartbeats 4000000 in
theorem B_law_176 {b L : Nat} {xs : Nat → Int32} {M : ax_M} {x3 : Int} (hL : L ≤ 3584) (h : (-2147483648 ≤ (x3 + 1) ∧ (x3 + 1) ≤ 2147483647) ∧ (0 ≤ (x3 + 1) ∧ (x3 + 1) < (L : Int)) ∧ (-2147483648 ≤ (x3 + 2) ∧ (x3 + 2) ≤ 2147483647) ∧ (0 ≤ (x3 + 2) ∧ (x3 + 2) < (L : Int)) ∧ (-2147483648 ≤ (x3 + 3) ∧ (x3 + 3) ≤ 2147483647) ∧ (0 ≤ (x3 + 3) ∧ (x3 + 3) < (L : Int)) ∧ ax_Ti Y_X10_feed [aR 0, aI (sx xs (x3 + 1)), aL (bo_lor (bo_lshl (sx xs (x3 + 2)) 32) (bo_land (sx xs (x3 + 3)) 4294967295))] SH M (fun z2 u1 => ax_Ti Y_X11_feed [aR 61, aI (sx xs (x3 + 1)), aL (bo_lor (bo_lshl (sx xs (x3 + 2)) 32) (bo_land (sx xs (x3 + 3)) 4294967295))] SH u1 (fun z4 u3 => (((z2 = z4) → ax_J Y_L_law (ax_KL b L xs) 99 28389 1456 [(0, aR 2000), (1, aR 0), (2, aR 61), (3, aI x3)] [] SH u3) ∧ ((¬ z2 = z4) → False))))) : ax_J Y_L_law (ax_KL b L xs) 99 28389 176 [(0, aR 2000), (1, aR 0), (2, aR 61), (3, aI x3)] [] SH M := by
  refine j_aload_n 1 dL_law_176 rfl ?_
  refine j_aload_n 0 dL_law_177 rfl ?_
  refine j_iload_n 3 dL_law_178 rfl ?_
  refine j_iconst (x := 1) dL_law_179 rfl (i32_c rfl) ?_
  obtain ⟨o1, h⟩ := h
  refine j_iadd (z := (x3 + 1)) dL_law_180 rfl o1 ?_
  obtain ⟨o2, h⟩ := h
  refine j_sxa dL_law_181 o2.1 o2.2 ?_
  refine j_aload_n 0 dL_law_182 rfl ?_
  refine j_iload_n 3 dL_law_183 rfl ?_
  refine j_iconst (x := 2) dL_law_184 rfl (i32_c rfl) ?_
  obtain ⟨o3, h⟩ := h
  refine j_iadd (z := (x3 + 2)) dL_law_185 rfl o3 ?_
  obtain ⟨o4, h⟩ := h
  refine j_sxa dL_law_186 o4.1 o4.2 ?_
  refine j_i2l dL_law_187 ?_
  refine j_bipush (x := 32) dL_law_188 rfl (i32_c rfl) ?_
  refine j_lshl dL_law_190 ?_
  refine j_aload_n 0 dL_law_191 rfl ?_
  refine j_iload_n 3 dL_law_192 rfl ?_
  refine j_iconst (x := 3) dL_law_193 rfl (i32_c rfl) ?_
  obtain ⟨o5, h⟩ := h
  refine j_iadd (z := (x3 + 3)) dL_law_194 rfl o5 ?_
  obtain ⟨o6, h⟩ := h
  refine j_sxa dL_law_195 o6.1 o6.2 ?_
  refine j_i2l dL_law_196 ?_
  refine j_ldc2 (x := 4294967295) dL_law_197 (ax_in 1625 (by decide +kernel) rfl) (i64_c rfl) ?_
  refine j_land dL_law_200 ?_
  refine j_lor dL_law_201 ?_
  refine j_calliV (Yc := Y_X10_feed) (as := [aI (sx xs (x3 + 1)), aL (bo_lor (bo_lshl (sx xs (x3 + 2)) 32) (bo_land (sx xs (x3 + 3)) 4294967295))]) (rest := []) dL_law_202 q_L_15 ⟨Nat.le_of_ble_eq_true rfl, Nat.le_of_ble_eq_true rfl, Nat.le_of_ble_eq_true rfl, Nat.le_of_ble_eq_true rfl⟩ sh_0 rfl (Nat.le_of_ble_eq_true rfl) rfl (ti_mono h (fun z2 u1 h => ?_))
  refine j_aload_n 2 dL_law_205 rfl ?_
  refine j_aload_n 0 dL_law_206 rfl ?_
  refine j_iload_n 3 dL_law_207 rfl ?_
  refine j_iconst (x := 1) dL_law_208 rfl (i32_c rfl) ?_
  refine j_iadd (z := (x3 + 1)) dL_law_209 rfl o1 ?_
  refine j_sxa dL_law_210 o2.1 o2.2 ?_
  refine j_aload_n 0 dL_law_211 rfl ?_
  refine j_iload_n 3 dL_law_212 rfl ?_
  refine j_iconst (x := 2) dL_law_213 rfl (i32_c rfl) ?_
  refine j_iadd (z := (x3 + 2)) dL_law_214 rfl o3 ?_
  refine j_sxa dL_law_215 o4.1 o4.2 ?_
  refine j_i2l dL_law_216 ?_
  refine j_bipush (x := 32) dL_law_217 rfl (i32_c rfl) ?_
  refine j_lshl dL_law_219 ?_
  refine j_aload_n 0 dL_law_220 rfl ?_
  refine j_iload_n 3 dL_law_221 rfl ?_
  refine j_iconst (x := 3) dL_law_222 rfl (i32_c rfl) ?_
  refine j_iadd (z := (x3 + 3)) dL_law_223 rfl o5 ?_
  refine j_sxa dL_law_224 o6.1 o6.2 ?_
  refine j_i2l dL_law_225 ?_
  refine j_ldc2 (x := 4294967295) dL_law_226 (ax_in 1625 (by decide +kernel) rfl) (i64_c rfl) ?_
  refine j_land dL_law_229 ?_
  refine j_lor dL_law_230 ?_
  refine j_calliV (Yc := Y_X11_feed) (as := [aI (sx xs (x3 + 1)), aL (bo_lor (bo_lshl (sx xs (x3 + 2)) 32) (bo_land (sx xs (x3 + 3)) 4294967295))]) (rest := [aI z2]) dL_law_231 q_L_19 ⟨Nat.le_of_ble_eq_true rfl, Nat.le_of_ble_eq_true rfl, Nat.le_of_ble_eq_true rfl, Nat.le_of_ble_eq_true rfl⟩ sh_61 rfl (Nat.le_of_ble_eq_true rfl) rfl (ti_mono h (fun z4 u3 h => ?_))
  refine j_icmp_eq (tgt := 1456) dL_law_234 (by decide) (fun c7 => ?_) (fun c7 => ?_)
  · replace h := h.1 c7
    exact h
  · replace h := h.2 c7
    refine j_iconst (x := 0) dL_law_237 rfl (i32_c rfl) ?_
    exact h.elim
set_option maxRecDepth 100000 in
set_option maxHeartbeats 4000000 in
theorem B_law_239 {b L : Nat} {xs : Nat → Int32} {M : ax_M} {x3 : Int} (hL : L ≤ 3584) (h : ax_Ti Y_X10_pit [aR 0] SH M (fun z2 u1 => ax_Ti Y_X11_pit [aR 61] SH u1 (fun z4 u3 => (((z2 = z4) → ax_J Y_L_law (ax_KL b L xs) 99 28389 1456 [(0, aR 2000), (1, aR 0), (2, aR 61), (3, aI x3)] [] SH u3) ∧ ((¬ z2 = z4) → False))))) : ax_J Y_L_law (ax_KL b L xs) 99 28389 239 [(0, aR 2000), (1, aR 0), (2, aR 61), (3, aI x3)] [] SH M := by
  refine j_aload_n 1 dL_law_239 rfl ?_
  refine j_calliV (Yc := Y_X10_pit) (as := []) (rest := []) dL_law_240 q_L_20 ⟨Nat.le_of_ble_eq_true rfl, Nat.le_of_ble_eq_true rfl, Nat.le_of_ble_eq_true rfl, Nat.le_of_ble_eq_true rfl⟩ sh_0 rfl (Nat.le_of_ble_eq_true rfl) rfl (ti_mono h (fun z2 u1 h => ?_))
  refine j_aload_n 2 dL_law_243 rfl ?_
  refine j_calliV (Yc := Y_X11_pit) (as := []) (rest := [aI z2]) dL_law_244 q_L_24 ⟨Nat.le_of_ble_eq_true rfl, Nat.le_of_ble_eq_true rfl, Nat.le_of_ble_eq_true rfl, Nat.le_of_ble_eq_true rfl⟩ sh_61 rfl (Nat.le_of_ble_eq_true rfl) rfl (ti_mono h (fun z4 u3 h => ?_))
  refine j_icmp_eq (tgt := 1456) dL_law_247 (by decide) (fun c1 => ?_) (fun c1 => ?_)
  · replace h := h.1 c1
    exact h
  · replace h := h.2 c1
    refine j_iconst (x := 0) dL_law_250 rfl (i32_c rfl) ?_
    exact h.elim
set_option maxRecDepth 100000 in
set_option maxHeartbeats 4000000 in
theorem B_law_252 {b L : Nat} {xs : Nat → Int32} {M : ax_M} {x3 : Int} (hL : L ≤ 3584) (h : ax_Ti Y_X10_fault [aR 0] SH M (fun z2 u1 => ax_Ti Y_X11_fault [aR 61] SH u1 (fun z4 u3 => (((z2 = z4) → ax_J Y_L_law (ax_KL b L xs) 99 28389 1456 [(0, aR 2000), (1, aR 0), (2, aR 61), (3, aI x3)] [] SH u3) ∧ ((¬ z2 = z4) → False))))) : ax_J Y_L_law (ax_KL b L xs) 99 28389 252 [(0, aR 2000), (1, aR 0), (2, aR 61), (3, aI x3)] [] SH M := by
  refine j_aload_n 1 dL_law_252 rfl ?_
  refine j_calliV (Yc := Y_X10_fault) (as := []) (rest := []) dL_law_253 q_L_25 ⟨Nat.le_of_ble_eq_true rfl, Nat.le_of_ble_eq_true rfl, Nat.le_of_ble_eq_true rfl, Nat.le_of_ble_eq_true rfl⟩ sh_0 rfl (Nat.le_of_ble_eq_true rfl) rfl (ti_mono h (fun z2 u1 h => ?_))
  refine j_aload_n 2 dL_law_256 rfl ?_
  refine j_calliV (Yc := Y_X11_fault) (as := []) (rest := [aI z2]) dL_law_257 q_L_28 ⟨Nat.le_of_ble_eq_true rfl, Nat.le_of_ble_eq_true rfl, Nat.le_of_ble_eq_true rfl, Nat.le_of_ble_eq_true rfl⟩ sh_61 rfl (Nat.le_of_ble_eq_true rfl) rfl (ti_mono h (fun z4 u3 h => ?_))
  refine j_icmp_eq (tgt := 1456) dL_law_260 (by decide) (fun c1 => ?_) (fun c1 => ?_)
  · replace h := h.1 c1
    exact h
  · replace h := h.2 c1
    refine j_iconst (x := 0) dL_law_263 rfl (i32_c rfl) ?_
    exact h.elim
set_option maxRecDepth 100000 in
set_option maxHeartbeats 4000000 in
theorem B_law_265 {b L : Nat} {xs : Nat → Int32} {M : ax_M} {x3 : Int} (hL : L ≤ 3584) (h : (-2147483648 ≤ (x3 + 1) ∧ (x3 + 1) ≤ 2147483647) ∧ (0 ≤ (x3 + 1) ∧ (x3 + 1) < (L : Int)) ∧ (-2147483648 ≤ (x3 + 2) ∧ (x3 + 2) ≤ 2147483647) ∧ (0 ≤ (x3 + 2) ∧ (x3 + 2) < (L : Int)) ∧ ax_Ti Y_X10_way [aR 0, aI (sx xs (x3 + 1)), aI (sx xs (x3 + 2))] SH M (fun z2 u1 => ax_Ti Y_X11_way [aR 61, aI (sx xs (x3 + 1)), aI (sx xs (x3 + 2))] SH u1 (fun z4 u3 => (((z2 = z4) → ax_J Y_L_law (ax_KL b L xs) 99 28389 1456 [(0, aR 2000), (1, aR 0), (2, aR 61), (3, aI x3)] [] SH u3) ∧ ((¬ z2 = z4) → False))))) : ax_J Y_L_law (ax_KL b L xs) 99 28389 265 [(0, aR 2000), (1, aR 0), (2, aR 61), (3, aI x3)] [] SH M := by
  refine j_aload_n 1 dL_law_265 rfl ?_
  refine j_aload_n 0 dL_law_266 rfl ?_
  refine j_iload_n 3 dL_law_267 rfl ?_
  refine j_iconst (x := 1) dL_law_268 rfl (i32_c rfl) ?_
  obtain ⟨o1, h⟩ := h
  refine j_iadd (z := (x3 + 1)) dL_law_269 rfl o1 ?_
  obtain ⟨o2, h⟩ := h
  refine j_sxa dL_law_270 o2.1 o2.2 ?_
  refine j_aload_n 0 dL_law_271 rfl ?_
  refine j_iload_n 3 dL_law_272 rfl ?_
  refine j_iconst (x := 2) dL_law_273 rfl (i32_c rfl) ?_
  obtain ⟨o3, h⟩ := h
  refine j_iadd (z := (x3 + 2)) dL_law_274 rfl o3 ?_
  obtain ⟨o4, h⟩ := h
  refine j_sxa dL_law_275 o4.1 o4.2 ?_
  refine j_calliV (Yc := Y_X10_way) (as := [aI (sx xs (x3 + 1)), aI (sx xs (x3 + 2))]) (rest := []) dL_law_276 q_L_29 ⟨Nat.le_of_ble_eq_true rfl, Nat.le_of_ble_eq_true rfl, Nat.le_of_ble_eq_true rfl, Nat.le_of_ble_eq_true rfl⟩ sh_0 rfl (Nat.le_of_ble_eq_true rfl) rfl (ti_mono h (fun z2 u1 h => ?_))
  refine j_aload_n 2 dL_law_279 rfl ?_
  refine j_aload_n 0 dL_law_280 rfl ?_
  refine j_iload_n 3 dL_law_281 rfl ?_
  refine j_iconst (x := 1) dL_law_282 rfl (i32_c rfl) ?_
  refine j_iadd (z := (x3 + 1)) dL_law_283 rfl o1 ?_
  refine j_sxa dL_law_284 o2.1 o2.2 ?_
  refine j_aload_n 0 dL_law_285 rfl ?_
  refine j_iload_n 3 dL_law_286 rfl ?_
  refine j_iconst (x := 2) dL_law_287 rfl (i32_c rfl) ?_
  refine j_iadd (z := (x3 + 2)) dL_law_288 rfl o3 ?_
  refine j_sxa dL_law_289 o4.1 o4.2 ?_
  refine j_calliV (Yc := Y_X11_way) (as := [aI (sx xs (x3 + 1)), aI (sx xs (x3 + 2))]) (rest := [aI z2]) dL_law_290 q_L_33 ⟨Nat.le_of_ble_eq_true rfl, Nat.le_of_ble_eq_true rfl, Nat.le_of_ble_eq_true rfl, Nat.le_of_ble_eq_true rfl⟩ sh_61 rfl (Nat.le_of_ble_eq_true rfl) rfl (ti_mono h (fun z4 u3 h => ?_))
  refine j_icmp_eq (tgt := 1456) dL_law_293 (by decide) (fun c5 => ?_) (fun c5 => ?_)
  · replace h := h.1 c5
    exact h
  · replace h := h.2 c5
    refine j_iconst (x := 0) dL_law_296 rfl (i32_c rfl) ?_
    exact h.elim
set_option maxRecDepth 100000 in
set_option maxHeartbeats 4000000 in
theorem B_law_298 {b L : Nat} {xs : Nat → Int32} {M : ax_M} {x3 : Int} (hL : L ≤ 3584) (h : (-2147483648 ≤ (x3 + 1) ∧ (x3 + 1) ≤ 2147483647) ∧ (0 ≤ (x3 + 1) ∧ (x3 + 1) < (L : Int)) ∧ (-2147483648 ≤ (x3 + 2) ∧ (x3 + 2) ≤ 2147483647) ∧ (0 ≤ (x3 + 2) ∧ (x3 + 2) < (L : Int)) ∧ ((((sx xs (x3 + 2)) = 0) → ax_Ti Y_X10_fall [aR 0, aI (sx xs (x3 + 1)), aI 0] SH M (fun z2 u1 => ax_Ti Y_X11_fall [aR 61, aI (sx xs (x3 + 1)), aI 0] SH u1 (fun z4 u3 => (((z2 = z4) → ax_J Y_L_law (ax_KL b L xs) 99 28389 1456 [(0, aR 2000), (1, aR 0), (2, aR 61), (3, aI x3)] [] SH u3) ∧ ((¬ z2 = z4) → False))))) ∧ ((¬ (sx xs (x3 + 2)) = 0) → ax_Ti Y_X10_fall [aR 0, aI (sx xs (x3 + 1)), aI 1] SH M (fun z6 u5 => ax_Ti Y_X11_fall [aR 61, aI (sx xs (x3 + 1)), aI 1] SH u5 (fun z8 u7 => (((z6 = z8) → ax_J Y_L_law (ax_KL b L xs) 99 28389 1456 [(0, aR 2000), (1, aR 0), (2, aR 61), (3, aI x3)] [] SH u7) ∧ ((¬ z6 = z8) → False))))))) : ax_J Y_L_law (ax_KL b L xs) 99 28389 298 [(0, aR 2000), (1, aR 0), (2, aR 61), (3, aI x3)] [] SH M := by
  refine j_aload_n 1 dL_law_298 rfl ?_
  refine j_aload_n 0 dL_law_299 rfl ?_
  refine j_iload_n 3 dL_law_300 rfl ?_
  refine j_iconst (x := 1) dL_law_301 rfl (i32_c rfl) ?_
  obtain ⟨o1, h⟩ := h
  refine j_iadd (z := (x3 + 1)) dL_law_302 rfl o1 ?_
  obtain ⟨o2, h⟩ := h
  refine j_sxa dL_law_303 o2.1 o2.2 ?_
  refine j_aload_n 0 dL_law_304 rfl ?_
  refine j_iload_n 3 dL_law_305 rfl ?_
  refine j_iconst (x := 2) dL_law_306 rfl (i32_c rfl) ?_
  obtain ⟨o3, h⟩ := h
  refine j_iadd (z := (x3 + 2)) dL_law_307 rfl o3 ?_
  obtain ⟨o4, h⟩ := h
  refine j_sxa dL_law_308 o4.1 o4.2 ?_
  refine j_if_eq (tgt := 316) dL_law_309 (by decide) (fun c5 => ?_) (fun c5 => ?_)
  · replace h := h.1 c5
    refine j_iconst (x := 0) dL_law_316 rfl (i32_c rfl) ?_
    refine j_calliV (Yc := Y_X10_fall) (as := [aI (sx xs (x3 + 1)), aI 0]) (rest := []) dL_law_317 q_L_34 ⟨Nat.le_of_ble_eq_true rfl, Nat.le_of_ble_eq_true rfl, Nat.le_of_ble_eq_true rfl, Nat.le_of_ble_eq_true rfl⟩ sh_0 rfl (Nat.le_of_ble_eq_true rfl) rfl (ti_mono h (fun z2 u1 h => ?_))
    refine j_aload_n 2 dL_law_320 rfl ?_
    refine j_aload_n 0 dL_law_321 rfl ?_
    refine j_iload_n 3 dL_law_322 rfl ?_
    refine j_iconst (x := 1) dL_law_323 rfl (i32_c rfl) ?_
    refine j_iadd (z := (x3 + 1)) dL_law_324 rfl o1 ?_
    refine j_sxa dL_law_325 o2.1 o2.2 ?_
    refine j_aload_n 0 dL_law_326 rfl ?_
    refine j_iload_n 3 dL_law_327 rfl ?_
    refine j_iconst (x := 2) dL_law_328 rfl (i32_c rfl) ?_
    refine j_iadd (z := (x3 + 2)) dL_law_329 rfl o3 ?_
    refine j_sxa dL_law_330 o4.1 o4.2 ?_
    refine j_if_eq (tgt := 338) dL_law_331 (by decide) (fun _ => ?_) (fun c => by have := c5; omega)
    refine j_iconst (x := 0) dL_law_338 rfl (i32_c rfl) ?_
    refine j_calliV (Yc := Y_X11_fall) (as := [aI (sx xs (x3 + 1)), aI 0]) (rest := [aI z2]) dL_law_339 q_L_38 ⟨Nat.le_of_ble_eq_true rfl, Nat.le_of_ble_eq_true rfl, Nat.le_of_ble_eq_true rfl, Nat.le_of_ble_eq_true rfl⟩ sh_61 rfl (Nat.le_of_ble_eq_true rfl) rfl (ti_mono h (fun z4 u3 h => ?_))
    refine j_icmp_eq (tgt := 1456) dL_law_342 (by decide) (fun c6 => ?_) (fun c6 => ?_)
    · replace h := h.1 c6
      exact h
    · replace h := h.2 c6
      refine j_iconst (x := 0) dL_law_345 rfl (i32_c rfl) ?_
      exact h.elim
  · replace h := h.2 c5
    refine j_iconst (x := 1) dL_law_312 rfl (i32_c rfl) ?_
    refine j_goto (tgt := 317) dL_law_313 (by decide) ?_
    refine j_calliV (Yc := Y_X10_fall) (as := [aI (sx xs (x3 + 1)), aI 1]) (rest := []) dL_law_317 q_L_34 ⟨Nat.le_of_ble_eq_true rfl, Nat.le_of_ble_eq_true rfl, Nat.le_of_ble_eq_true rfl, Nat.le_of_ble_eq_true rfl⟩ sh_0 rfl (Nat.le_of_ble_eq_true rfl) rfl (ti_mono h (fun z6 u5 h => ?_))
    refine j_aload_n 2 dL_law_320 rfl ?_
    refine j_aload_n 0 dL_law_321 rfl ?_
    refine j_iload_n 3 dL_law_322 rfl ?_
    refine j_iconst (x := 1) dL_law_323 rfl (i32_c rfl) ?_
    refine j_iadd (z := (x3 + 1)) dL_law_324 rfl o1 ?_
    refine j_sxa dL_law_325 o2.1 o2.2 ?_
    refine j_aload_n 0 dL_law_326 rfl ?_
    refine j_iload_n 3 dL_law_327 rfl ?_
    refine j_iconst (x := 2) dL_law_328 rfl (i32_c rfl) ?_
    refine j_iadd (z := (x3 + 2)) dL_law_329 rfl o3 ?_
    refine j_sxa dL_law_330 o4.1 o4.2 ?_
    refine j_if_eq (tgt := 338) dL_law_331 (by decide) (fun c => by have := c5; omega) (fun _ => ?_)
    refine j_iconst (x := 1) dL_law_334 rfl (i32_c rfl) ?_
    refine j_goto (tgt := 339) dL_law_335 (by decide) ?_
    refine j_calliV (Yc := Y_X11_fall) (as := [aI (sx xs (x3 + 1)), aI 1]) (rest := [aI z6]) dL_law_339 q_L_38 ⟨Nat.le_of_ble_eq_true rfl, Nat.le_of_ble_eq_true rfl, Nat.le_of_ble_eq_true rfl, Nat.le_of_ble_eq_true rfl⟩ sh_61 rfl (Nat.le_of_ble_eq_true rfl) rfl (ti_mono h (fun z8 u7 h => ?_))
    refine j_icmp_eq (tgt := 1456) dL_law_342 (by decide) (fun c7 => ?_) (fun c7 => ?_)
    · replace h := h.1 c7
      exact h
    · replace h := h.2 c7
      refine j_iconst (x := 0) dL_law_345 rfl (i32_c rfl) ?_
      exact h.elim
set_option maxRecDepth 100000 in
set_option maxHeartbeats 4000000 in
theorem B_law_347 {b L : Nat} {xs : Nat → Int32} {M : ax_M} {x3 : Int} (hL : L ≤ 3584) (h : (-2147483648 ≤ (x3 + 1) ∧ (x3 + 1) ≤ 2147483647) ∧ (0 ≤ (x3 + 1) ∧ (x3 + 1) < (L : Int)) ∧ ax_Ti Y_X10_count [aR 0, aI (sx xs (x3 + 1))] SH M (fun z2 u1 => ax_Ti Y_X11_count [aR 61, aI (sx xs (x3 + 1))] SH u1 (fun z4 u3 => (((z2 = z4) → ax_J Y_L_law (ax_KL b L xs) 99 28389 1456 [(0, aR 2000), (1, aR 0), (2, aR 61), (3, aI x3)] [] SH u3) ∧ ((¬ z2 = z4) → False))))) : ax_J Y_L_law (ax_KL b L xs) 99 28389 347 [(0, aR 2000), (1, aR 0), (2, aR 61), (3, aI x3)] [] SH M := by
  refine j_aload_n 1 dL_law_347 rfl ?_
  refine j_aload_n 0 dL_law_348 rfl ?_
  refine j_iload_n 3 dL_law_349 rfl ?_
  refine j_iconst (x := 1) dL_law_350 rfl (i32_c rfl) ?_
  obtain ⟨o1, h⟩ := h
  refine j_iadd (z := (x3 + 1)) dL_law_351 rfl o1 ?_
  obtain ⟨o2, h⟩ := h
  refine j_sxa dL_law_352 o2.1 o2.2 ?_
  refine j_calliV (Yc := Y_X10_count) (as := [aI (sx xs (x3 + 1))]) (rest := []) dL_law_353 q_L_39 ⟨Nat.le_of_ble_eq_true rfl, Nat.le_of_ble_eq_true rfl, Nat.le_of_ble_eq_true rfl, Nat.le_of_ble_eq_true rfl⟩ sh_0 rfl (Nat.le_of_ble_eq_true rfl) rfl (ti_mono h (fun z2 u1 h => ?_))
  refine j_aload_n 2 dL_law_356 rfl ?_
  refine j_aload_n 0 dL_law_357 rfl ?_
  refine j_iload_n 3 dL_law_358 rfl ?_
  refine j_iconst (x := 1) dL_law_359 rfl (i32_c rfl) ?_
  refine j_iadd (z := (x3 + 1)) dL_law_360 rfl o1 ?_
  refine j_sxa dL_law_361 o2.1 o2.2 ?_
  refine j_calliV (Yc := Y_X11_count) (as := [aI (sx xs (x3 + 1))]) (rest := [aI z2]) dL_law_362 q_L_43 ⟨Nat.le_of_ble_eq_true rfl, Nat.le_of_ble_eq_true rfl, Nat.le_of_ble_eq_true rfl, Nat.le_of_ble_eq_true rfl⟩ sh_61 rfl (Nat.le_of_ble_eq_true rfl) rfl (ti_mono h (fun z4 u3 h => ?_))
  refine j_icmp_eq (tgt := 1456) dL_law_365 (by decide) (fun c3 => ?_) (fun c3 => ?_)
  · replace h := h.1 c3
    exact h
  · replace h := h.2 c3
    refine j_iconst (x := 0) dL_law_368 rfl (i32_c rfl) ?_
    exact h.elim
set_option maxRecDepth 100000 in
set_option maxHeartbeats 4000000 in
theorem B_law_370 {b L : Nat} {xs : Nat → Int32} {M : ax_M} {x3 : Int} (hL : L ≤ 3584) (h : (-2147483648 ≤ (x3 + 1) ∧ (x3 + 1) ≤ 2147483647) ∧ (0 ≤ (x3 + 1) ∧ (x3 + 1) < (L : Int)) ∧ (-2147483648 ≤ (x3 + 2) ∧ (x3 + 2) ≤ 2147483647) ∧ (0 ≤ (x3 + 2) ∧ (x3 + 2) < (L : Int)) ∧ ((((sx xs (x3 + 2)) = 0) → (-2147483648 ≤ (x3 + 3) ∧ (x3 + 3) ≤ 2147483647) ∧ (0 ≤ (x3 + 3) ∧ (x3 + 3) < (L : Int)) ∧ ((((sx xs (x3 + 3)) = 0) → ax_Ti Y_X10_man [aR 0, aI (sx xs (x3 + 1)), aI 0, aI 0] SH M (fun z2 u1 => ax_Ti Y_X11_man [aR 61, aI (sx xs (x3 + 1)), aI 0, aI 0] SH u1 (fun z4 u3 => (((z2 = z4) → ax_J Y_L_law (ax_KL b L xs) 99 28389 1456 [(0, aR 2000), (1, aR 0), (2, aR 61), (3, aI x3)] [] SH u3) ∧ ((¬ z2 = z4) → False))))) ∧ ((¬ (sx xs (x3 + 3)) = 0) → ax_Ti Y_X10_man [aR 0, aI (sx xs (x3 + 1)), aI 0, aI 1] SH M (fun z6 u5 => ax_Ti Y_X11_man [aR 61, aI (sx xs (x3 + 1)), aI 0, aI 1] SH u5 (fun z8 u7 => (((z6 = z8) → ax_J Y_L_law (ax_KL b L xs) 99 28389 1456 [(0, aR 2000), (1, aR 0), (2, aR 61), (3, aI x3)] [] SH u7) ∧ ((¬ z6 = z8) → False))))))) ∧ ((¬ (sx xs (x3 + 2)) = 0) → (-2147483648 ≤ (x3 + 3) ∧ (x3 + 3) ≤ 2147483647) ∧ (0 ≤ (x3 + 3) ∧ (x3 + 3) < (L : Int)) ∧ ((((sx xs (x3 + 3)) = 0) → ax_Ti Y_X10_man [aR 0, aI (sx xs (x3 + 1)), aI 1, aI 0] SH M (fun z10 u9 => ax_Ti Y_X11_man [aR 61, aI (sx xs (x3 + 1)), aI 1, aI 0] SH u9 (fun z12 u11 => (((z10 = z12) → ax_J Y_L_law (ax_KL b L xs) 99 28389 1456 [(0, aR 2000), (1, aR 0), (2, aR 61), (3, aI x3)] [] SH u11) ∧ ((¬ z10 = z12) → False))))) ∧ ((¬ (sx xs (x3 + 3)) = 0) → ax_Ti Y_X10_man [aR 0, aI (sx xs (x3 + 1)), aI 1, aI 1] SH M (fun z14 u13 => ax_Ti Y_X11_man [aR 61, aI (sx xs (x3 + 1)), aI 1, aI 1] SH u13 (fun z16 u15 => (((z14 = z16) → ax_J Y_L_law (ax_KL b L xs) 99 28389 1456 [(0, aR 2000), (1, aR 0), (2, aR 61), (3, aI x3)] [] SH u15) ∧ ((¬ z14 = z16) → False))))))))) : ax_J Y_L_law (ax_KL b L xs) 99 28389 370 [(0, aR 2000), (1, aR 0), (2, aR 61), (3, aI x3)] [] SH M := by
  refine j_aload_n 1 dL_law_370 rfl ?_
  refine j_aload_n 0 dL_law_371 rfl ?_
  refine j_iload_n 3 dL_law_372 rfl ?_
  refine j_iconst (x := 1) dL_law_373 rfl (i32_c rfl) ?_
  obtain ⟨o1, h⟩ := h
  refine j_iadd (z := (x3 + 1)) dL_law_374 rfl o1 ?_
  obtain ⟨o2, h⟩ := h
  refine j_sxa dL_law_375 o2.1 o2.2 ?_
  refine j_aload_n 0 dL_law_376 rfl ?_
  refine j_iload_n 3 dL_law_377 rfl ?_
  refine j_iconst (x := 2) dL_law_378 rfl (i32_c rfl) ?_
  obtain ⟨o3, h⟩ := h
  refine j_iadd (z := (x3 + 2)) dL_law_379 rfl o3 ?_
  obtain ⟨o4, h⟩ := h
  refine j_sxa dL_law_380 o4.1 o4.2 ?_
  refine j_if_eq (tgt := 388) dL_law_381 (by decide) (fun c5 => ?_) (fun c5 => ?_)
  · replace h := h.1 c5
    refine j_iconst (x := 0) dL_law_388 rfl (i32_c rfl) ?_
    refine j_aload_n 0 dL_law_389 rfl ?_
    refine j_iload_n 3 dL_law_390 rfl ?_
    refine j_iconst (x := 3) dL_law_391 rfl (i32_c rfl) ?_
    obtain ⟨o6, h⟩ := h
    refine j_iadd (z := (x3 + 3)) dL_law_392 rfl o6 ?_
    obtain ⟨o7, h⟩ := h
    refine j_sxa dL_law_393 o7.1 o7.2 ?_
    refine j_if_eq (tgt := 401) dL_law_394 (by decide) (fun c8 => ?_) (fun c8 => ?_)
    · replace h := h.1 c8
      refine j_iconst (x := 0) dL_law_401 rfl (i32_c rfl) ?_
      refine j_calliV (Yc := Y_X10_man) (as := [aI (sx xs (x3 + 1)), aI 0, aI 0]) (rest := []) dL_law_402 q_L_44 ⟨Nat.le_of_ble_eq_true rfl, Nat.le_of_ble_eq_true rfl, Nat.le_of_ble_eq_true rfl, Nat.le_of_ble_eq_true rfl⟩ sh_0 rfl (Nat.le_of_ble_eq_true rfl) rfl (ti_mono h (fun z2 u1 h => ?_))
      refine j_aload_n 2 dL_law_405 rfl ?_
      refine j_aload_n 0 dL_law_406 rfl ?_
      refine j_iload_n 3 dL_law_407 rfl ?_
      refine j_iconst (x := 1) dL_law_408 rfl (i32_c rfl) ?_
      refine j_iadd (z := (x3 + 1)) dL_law_409 rfl o1 ?_
      refine j_sxa dL_law_410 o2.1 o2.2 ?_
      refine j_aload_n 0 dL_law_411 rfl ?_
      refine j_iload_n 3 dL_law_412 rfl ?_
      refine j_iconst (x := 2) dL_law_413 rfl (i32_c rfl) ?_
      refine j_iadd (z := (x3 + 2)) dL_law_414 rfl o3 ?_
      refine j_sxa dL_law_415 o4.1 o4.2 ?_
      refine j_if_eq (tgt := 423) dL_law_416 (by decide) (fun _ => ?_) (fun c => by have := c5; omega)
      refine j_iconst (x := 0) dL_law_423 rfl (i32_c rfl) ?_
      refine j_aload_n 0 dL_law_424 rfl ?_
      refine j_iload_n 3 dL_law_425 rfl ?_
      refine j_iconst (x := 3) dL_law_426 rfl (i32_c rfl) ?_
      refine j_iadd (z := (x3 + 3)) dL_law_427 rfl o6 ?_
      refine j_sxa dL_law_428 o7.1 o7.2 ?_
      refine j_if_eq (tgt := 436) dL_law_429 (by decide) (fun _ => ?_) (fun c => by have := c8; omega)
      refine j_iconst (x := 0) dL_law_436 rfl (i32_c rfl) ?_
      refine j_calliV (Yc := Y_X11_man) (as := [aI (sx xs (x3 + 1)), aI 0, aI 0]) (rest := [aI z2]) dL_law_437 q_L_48 ⟨Nat.le_of_ble_eq_true rfl, Nat.le_of_ble_eq_true rfl, Nat.le_of_ble_eq_true rfl, Nat.le_of_ble_eq_true rfl⟩ sh_61 rfl (Nat.le_of_ble_eq_true rfl) rfl (ti_mono h (fun z4 u3 h => ?_))
      refine j_icmp_eq (tgt := 1456) dL_law_440 (by decide) (fun c9 => ?_) (fun c9 => ?_)
      · replace h := h.1 c9
        exact h
      · replace h := h.2 c9
        refine j_iconst (x := 0) dL_law_443 rfl (i32_c rfl) ?_
        exact h.elim
    · replace h := h.2 c8
      refine j_iconst (x := 1) dL_law_397 rfl (i32_c rfl) ?_
      refine j_goto (tgt := 402) dL_law_398 (by decide) ?_
      refine j_calliV (Yc := Y_X10_man) (as := [aI (sx xs (x3 + 1)), aI 0, aI 1]) (rest := []) dL_law_402 q_L_44 ⟨Nat.le_of_ble_eq_true rfl, Nat.le_of_ble_eq_true rfl, Nat.le_of_ble_eq_true rfl, Nat.le_of_ble_eq_true rfl⟩ sh_0 rfl (Nat.le_of_ble_eq_true rfl) rfl (ti_mono h (fun z6 u5 h => ?_))
      refine j_aload_n 2 dL_law_405 rfl ?_
      refine j_aload_n 0 dL_law_406 rfl ?_
      refine j_iload_n 3 dL_law_407 rfl ?_
      refine j_iconst (x := 1) dL_law_408 rfl (i32_c rfl) ?_
      refine j_iadd (z := (x3 + 1)) dL_law_409 rfl o1 ?_
      refine j_sxa dL_law_410 o2.1 o2.2 ?_
      refine j_aload_n 0 dL_law_411 rfl ?_
      refine j_iload_n 3 dL_law_412 rfl ?_
      refine j_iconst (x := 2) dL_law_413 rfl (i32_c rfl) ?_
      refine j_iadd (z := (x3 + 2)) dL_law_414 rfl o3 ?_
      refine j_sxa dL_law_415 o4.1 o4.2 ?_
      refine j_if_eq (tgt := 423) dL_law_416 (by decide) (fun _ => ?_) (fun c => by have := c5; omega)
      refine j_iconst (x := 0) dL_law_423 rfl (i32_c rfl) ?_
      refine j_aload_n 0 dL_law_424 rfl ?_
      refine j_iload_n 3 dL_law_425 rfl ?_
      refine j_iconst (x := 3) dL_law_426 rfl (i32_c rfl) ?_
      refine j_iadd (z := (x3 + 3)) dL_law_427 rfl o6 ?_
      refine j_sxa dL_law_428 o7.1 o7.2 ?_
      refine j_if_eq (tgt := 436) dL_law_429 (by decide) (fun c => by have := c8; omega) (fun _ => ?_)
      refine j_iconst (x := 1) dL_law_432 rfl (i32_c rfl) ?_
      refine j_goto (tgt := 437) dL_law_433 (by decide) ?_
      refine j_calliV (Yc := Y_X11_man) (as := [aI (sx xs (x3 + 1)), aI 0, aI 1]) (rest := [aI z6]) dL_law_437 q_L_48 ⟨Nat.le_of_ble_eq_true rfl, Nat.le_of_ble_eq_true rfl, Nat.le_of_ble_eq_true rfl, Nat.le_of_ble_eq_true rfl⟩ sh_61 rfl (Nat.le_of_ble_eq_true rfl) rfl (ti_mono h (fun z8 u7 h => ?_))
      refine j_icmp_eq (tgt := 1456) dL_law_440 (by decide) (fun c10 => ?_) (fun c10 => ?_)
      · replace h := h.1 c10
        exact h
      · replace h := h.2 c10
        refine j_iconst (x := 0) dL_law_443 rfl (i32_c rfl) ?_
        exact h.elim
  · replace h := h.2 c5
    refine j_iconst (x := 1) dL_law_384 rfl (i32_c rfl) ?_
    refine j_goto (tgt := 389) dL_law_385 (by decide) ?_
    refine j_aload_n 0 dL_law_389 rfl ?_
    refine j_iload_n 3 dL_law_390 rfl ?_
    refine j_iconst (x := 3) dL_law_391 rfl (i32_c rfl) ?_
    obtain ⟨o11, h⟩ := h
    refine j_iadd (z := (x3 + 3)) dL_law_392 rfl o11 ?_
    obtain ⟨o12, h⟩ := h
    refine j_sxa dL_law_393 o12.1 o12.2 ?_
    refine j_if_eq (tgt := 401) dL_law_394 (by decide) (fun c13 => ?_) (fun c13 => ?_)
    · replace h := h.1 c13
      refine j_iconst (x := 0) dL_law_401 rfl (i32_c rfl) ?_
      refine j_calliV (Yc := Y_X10_man) (as := [aI (sx xs (x3 + 1)), aI 1, aI 0]) (rest := []) dL_law_402 q_L_44 ⟨Nat.le_of_ble_eq_true rfl, Nat.le_of_ble_eq_true rfl, Nat.le_of_ble_eq_true rfl, Nat.le_of_ble_eq_true rfl⟩ sh_0 rfl (Nat.le_of_ble_eq_true rfl) rfl (ti_mono h (fun z10 u9 h => ?_))
      refine j_aload_n 2 dL_law_405 rfl ?_
      refine j_aload_n 0 dL_law_406 rfl ?_
      refine j_iload_n 3 dL_law_407 rfl ?_
      refine j_iconst (x := 1) dL_law_408 rfl (i32_c rfl) ?_
      refine j_iadd (z := (x3 + 1)) dL_law_409 rfl o1 ?_
      refine j_sxa dL_law_410 o2.1 o2.2 ?_
      refine j_aload_n 0 dL_law_411 rfl ?_
      refine j_iload_n 3 dL_law_412 rfl ?_
      refine j_iconst (x := 2) dL_law_413 rfl (i32_c rfl) ?_
      refine j_iadd (z := (x3 + 2)) dL_law_414 rfl o3 ?_
      refine j_sxa dL_law_415 o4.1 o4.2 ?_
      refine j_if_eq (tgt := 423) dL_law_416 (by decide) (fun c => by have := c5; omega) (fun _ => ?_)
      refine j_iconst (x := 1) dL_law_419 rfl (i32_c rfl) ?_
      refine j_goto (tgt := 424) dL_law_420 (by decide) ?_
      refine j_aload_n 0 dL_law_424 rfl ?_
      refine j_iload_n 3 dL_law_425 rfl ?_
      refine j_iconst (x := 3) dL_law_426 rfl (i32_c rfl) ?_
      refine j_iadd (z := (x3 + 3)) dL_law_427 rfl o11 ?_
      refine j_sxa dL_law_428 o12.1 o12.2 ?_
      refine j_if_eq (tgt := 436) dL_law_429 (by decide) (fun _ => ?_) (fun c => by have := c13; omega)
      refine j_iconst (x := 0) dL_law_436 rfl (i32_c rfl) ?_
      refine j_calliV (Yc := Y_X11_man) (as := [aI (sx xs (x3 + 1)), aI 1, aI 0]) (rest := [aI z10]) dL_law_437 q_L_48 ⟨Nat.le_of_ble_eq_true rfl, Nat.le_of_ble_eq_true rfl, Nat.le_of_ble_eq_true rfl, Nat.le_of_ble_eq_true rfl⟩ sh_61 rfl (Nat.le_of_ble_eq_true rfl) rfl (ti_mono h (fun z12 u11 h => ?_))
      refine j_icmp_eq (tgt := 1456) dL_law_440 (by decide) (fun c14 => ?_) (fun c14 => ?_)
      · replace h := h.1 c14
        exact h
      · replace h := h.2 c14
        refine j_iconst (x := 0) dL_law_443 rfl (i32_c rfl) ?_
        exact h.elim
    · replace h := h.2 c13
      refine j_iconst (x := 1) dL_law_397 rfl (i32_c rfl) ?_
      refine j_goto (tgt := 402) dL_law_398 (by decide) ?_
      refine j_calliV (Yc := Y_X10_man) (as := [aI (sx xs (x3 + 1)), aI 1, aI 1]) (rest := []) dL_law_402 q_L_44 ⟨Nat.le_of_ble_eq_true rfl, Nat.le_of_ble_eq_true rfl, Nat.le_of_ble_eq_true rfl, Nat.le_of_ble_eq_true rfl⟩ sh_0 rfl (Nat.le_of_ble_eq_true rfl) rfl (ti_mono h (fun z14 u13 h => ?_))
      refine j_aload_n 2 dL_law_405 rfl ?_
      refine j_aload_n 0 dL_law_406 rfl ?_
      refine j_iload_n 3 dL_law_407 rfl ?_
      refine j_iconst (x := 1) dL_law_408 rfl (i32_c rfl) ?_
      refine j_iadd (z := (x3 + 1)) dL_law_409 rfl o1 ?_
      refine j_sxa dL_law_410 o2.1 o2.2 ?_
      refine j_aload_n 0 dL_law_411 rfl ?_
      refine j_iload_n 3 dL_law_412 rfl ?_
      refine j_iconst (x := 2) dL_law_413 rfl (i32_c rfl) ?_
      refine j_iadd (z := (x3 + 2)) dL_law_414 rfl o3 ?_
      refine j_sxa dL_law_415 o4.1 o4.2 ?_
      refine j_if_eq (tgt := 423) dL_law_416 (by decide) (fun c => by have := c5; omega) (fun _ => ?_)
      refine j_iconst (x := 1) dL_law_419 rfl (i32_c rfl) ?_
      refine j_goto (tgt := 424) dL_law_420 (by decide) ?_
      refine j_aload_n 0 dL_law_424 rfl ?_
      refine j_iload_n 3 dL_law_425 rfl ?_
      refine j_iconst (x := 3) dL_law_426 rfl (i32_c rfl) ?_
      refine j_iadd (z := (x3 + 3)) dL_law_427 rfl o11 ?_
      refine j_sxa dL_law_428 o12.1 o12.2 ?_
      refine j_if_eq (tgt := 436) dL_law_429 (by decide) (fun c => by have := c13; omega) (fun _ => ?_)
      refine j_iconst (x := 1) dL_law_432 rfl (i32_c rfl) ?_
      refine j_goto (tgt := 437) dL_law_433 (by decide) ?_
      refine j_calliV (Yc := Y_X11_man) (as := [aI (sx xs (x3 + 1)), aI 1, aI 1]) (rest := [aI z14]) dL_law_437 q_L_48 ⟨Nat.le_of_ble_eq_true rfl, Nat.le_of_ble_eq_true rfl, Nat.le_of_ble_eq_true rfl, Nat.le_of_ble_eq_true rfl⟩ sh_61 rfl (Nat.le_of_ble_eq_true rfl) rfl (ti_mono h (fun z16 u15 h => ?_))
      refine j_icmp_eq (tgt := 1456) dL_law_440 (by decide) (fun c15 => ?_) (fun c15 => ?_)
      · replace h := h.1 c15
        exact h
      · replace h := h.2 c15
        refine j_iconst (x := 0) dL_law_443 rfl (i32_c rfl) ?_
        exact h.elim
set_option maxRecDepth 100000 in
set_option maxHeartbeats 4000000 in
theorem B_law_445 {b L : Nat} {xs : Nat → Int32} {M : ax_M} {x3 : Int} (hL : L ≤ 3584) (h : (-2147483648 ≤ (x3 + 1) ∧ (x3 + 1) ≤ 2147483647) ∧ (0 ≤ (x3 + 1) ∧ (x3 + 1) < (L : Int)) ∧ (-2147483648 ≤ (x3 + 2) ∧ (x3 + 2) ≤ 2147483647) ∧ (0 ≤ (x3 + 2) ∧ (x3 + 2) < (L : Int)) ∧ ax_Ti Y_X10_lamp [aR 0, aI (sx xs (x3 + 1)), aI (sx xs (x3 + 2))] SH M (fun z2 u1 => ax_Ti Y_X11_lamp [aR 61, aI (sx xs (x3 + 1)), aI (sx xs (x3 + 2))] SH u1 (fun z4 u3 => (((z2 = z4) → ax_J Y_L_law (ax_KL b L xs) 99 28389 1456 [(0, aR 2000), (1, aR 0), (2, aR 61), (3, aI x3)] [] SH u3) ∧ ((¬ z2 = z4) → False))))) : ax_J Y_L_law (ax_KL b L xs) 99 28389 445 [(0, aR 2000), (1, aR 0), (2, aR 61), (3, aI x3)] [] SH M := by
  refine j_aload_n 1 dL_law_445 rfl ?_
  refine j_aload_n 0 dL_law_446 rfl ?_
  refine j_iload_n 3 dL_law_447 rfl ?_
  refine j_iconst (x := 1) dL_law_448 rfl (i32_c rfl) ?_
  obtain ⟨o1, h⟩ := h
  refine j_iadd (z := (x3 + 1)) dL_law_449 rfl o1 ?_
  obtain ⟨o2, h⟩ := h
  refine j_sxa dL_law_450 o2.1 o2.2 ?_
  refine j_aload_n 0 dL_law_451 rfl ?_
  refine j_iload_n 3 dL_law_452 rfl ?_
  refine j_iconst (x := 2) dL_law_453 rfl (i32_c rfl) ?_
  obtain ⟨o3, h⟩ := h
  refine j_iadd (z := (x3 + 2)) dL_law_454 rfl o3 ?_
  obtain ⟨o4, h⟩ := h
  refine j_sxa dL_law_455 o4.1 o4.2 ?_
  refine j_calliV (Yc := Y_X10_lamp) (as := [aI (sx xs (x3 + 1)), aI (sx xs (x3 + 2))]) (rest := []) dL_law_456 q_L_49 ⟨Nat.le_of_ble_eq_true rfl, Nat.le_of_ble_eq_true rfl, Nat.le_of_ble_eq_true rfl, Nat.le_of_ble_eq_true rfl⟩ sh_0 rfl (Nat.le_of_ble_eq_true rfl) rfl (ti_mono h (fun z2 u1 h => ?_))
  refine j_aload_n 2 dL_law_459 rfl ?_
  refine j_aload_n 0 dL_law_460 rfl ?_
  refine j_iload_n 3 dL_law_461 rfl ?_
  refine j_iconst (x := 1) dL_law_462 rfl (i32_c rfl) ?_
  refine j_iadd (z := (x3 + 1)) dL_law_463 rfl o1 ?_
  refine j_sxa dL_law_464 o2.1 o2.2 ?_
  refine j_aload_n 0 dL_law_465 rfl ?_
  refine j_iload_n 3 dL_law_466 rfl ?_
  refine j_iconst (x := 2) dL_law_467 rfl (i32_c rfl) ?_
  refine j_iadd (z := (x3 + 2)) dL_law_468 rfl o3 ?_
  refine j_sxa dL_law_469 o4.1 o4.2 ?_
  refine j_calliV (Yc := Y_X11_lamp) (as := [aI (sx xs (x3 + 1)), aI (sx xs (x3 + 2))]) (rest := [aI z2]) dL_law_470 q_L_52 ⟨Nat.le_of_ble_eq_true rfl, Nat.le_of_ble_eq_true rfl, Nat.le_of_ble_eq_true rfl, Nat.le_of_ble_eq_true rfl⟩ sh_61 rfl (Nat.le_of_ble_eq_true rfl) rfl (ti_mono h (fun z4 u3 h => ?_))
  refine j_icmp_eq (tgt := 1456) dL_law_473 (by decide) (fun c5 => ?_) (fun c5 => ?_)
  · replace h := h.1 c5
    exact h
  · replace h := h.2 c5
    refine j_iconst (x := 0) dL_law_476 rfl (i32_c rfl) ?_
    exact h.elim
set_option maxRecDepth 100000 in
set_option maxHeartbeats 4000000 in
theorem B_law_478 {b L : Nat} {xs : Nat → Int32} {M : ax_M} {x3 : Int} (hL : L ≤ 3584) (h : (-2147483648 ≤ (x3 + 1) ∧ (x3 + 1) ≤ 2147483647) ∧ (0 ≤ (x3 + 1) ∧ (x3 + 1) < (L : Int)) ∧ (-2147483648 ≤ (x3 + 2) ∧ (x3 + 2) ≤ 2147483647) ∧ (0 ≤ (x3 + 2) ∧ (x3 + 2) < (L : Int)) ∧ ax_Ti Y_X10_told [aR 0, aI (sx xs (x3 + 1)), aI (sx xs (x3 + 2))] SH M (fun z2 u1 => ax_Ti Y_X11_told [aR 61, aI (sx xs (x3 + 1)), aI (sx xs (x3 + 2))] SH u1 (fun z4 u3 => (((z2 = z4) → ax_J Y_L_law (ax_KL b L xs) 99 28389 1456 [(0, aR 2000), (1, aR 0), (2, aR 61), (3, aI x3)] [] SH u3) ∧ ((¬ z2 = z4) → False))))) : ax_J Y_L_law (ax_KL b L xs) 99 28389 478 [(0, aR 2000), (1, aR 0), (2, aR 61), (3, aI x3)] [] SH M := by
  refine j_aload_n 1 dL_law_478 rfl ?_
  refine j_aload_n 0 dL_law_479 rfl ?_
  refine j_iload_n 3 dL_law_480 rfl ?_
  refine j_iconst (x := 1) dL_law_481 rfl (i32_c rfl) ?_
  obtain ⟨o1, h⟩ := h
  refine j_iadd (z := (x3 + 1)) dL_law_482 rfl o1 ?_
  obtain ⟨o2, h⟩ := h
  refine j_sxa dL_law_483 o2.1 o2.2 ?_
  refine j_aload_n 0 dL_law_484 rfl ?_
  refine j_iload_n 3 dL_law_485 rfl ?_
  refine j_iconst (x := 2) dL_law_486 rfl (i32_c rfl) ?_
  obtain ⟨o3, h⟩ := h
  refine j_iadd (z := (x3 + 2)) dL_law_487 rfl o3 ?_
  obtain ⟨o4, h⟩ := h
  refine j_sxa dL_law_488 o4.1 o4.2 ?_
  refine j_calliV (Yc := Y_X10_told) (as := [aI (sx xs (x3 + 1)), aI (sx xs (x3 + 2))]) (rest := []) dL_law_489 q_L_53 ⟨Nat.le_of_ble_eq_true rfl, Nat.le_of_ble_eq_true rfl, Nat.le_of_ble_eq_true rfl, Nat.le_of_ble_eq_true rfl⟩ sh_0 rfl (Nat.le_of_ble_eq_true rfl) rfl (ti_mono h (fun z2 u1 h => ?_))
  refine j_aload_n 2 dL_law_492 rfl ?_
  refine j_aload_n 0 dL_law_493 rfl ?_
  refine j_iload_n 3 dL_law_494 rfl ?_
  refine j_iconst (x := 1) dL_law_495 rfl (i32_c rfl) ?_
  refine j_iadd (z := (x3 + 1)) dL_law_496 rfl o1 ?_
  refine j_sxa dL_law_497 o2.1 o2.2 ?_
  refine j_aload_n 0 dL_law_498 rfl ?_
  refine j_iload_n 3 dL_law_499 rfl ?_
  refine j_iconst (x := 2) dL_law_500 rfl (i32_c rfl) ?_
  refine j_iadd (z := (x3 + 2)) dL_law_501 rfl o3 ?_
  refine j_sxa dL_law_502 o4.1 o4.2 ?_
  refine j_calliV (Yc := Y_X11_told) (as := [aI (sx xs (x3 + 1)), aI (sx xs (x3 + 2))]) (rest := [aI z2]) dL_law_503 q_L_56 ⟨Nat.le_of_ble_eq_true rfl, Nat.le_of_ble_eq_true rfl, Nat.le_of_ble_eq_true rfl, Nat.le_of_ble_eq_true rfl⟩ sh_61 rfl (Nat.le_of_ble_eq_true rfl) rfl (ti_mono h (fun z4 u3 h => ?_))
  refine j_icmp_eq (tgt := 1456) dL_law_506 (by decide) (fun c5 => ?_) (fun c5 => ?_)
  · replace h := h.1 c5
    exact h
  · replace h := h.2 c5
    refine j_iconst (x := 0) dL_law_509 rfl (i32_c rfl) ?_
    exact h.elim
set_option maxRecDepth 100000 in
set_option maxHeartbeats 4000000 in
theorem B_law_511 {b L : Nat} {xs : Nat → Int32} {M : ax_M} {x3 : Int} (hL : L ≤ 3584) (h : (-2147483648 ≤ (x3 + 1) ∧ (x3 + 1) ≤ 2147483647) ∧ (0 ≤ (x3 + 1) ∧ (x3 + 1) < (L : Int)) ∧ (-2147483648 ≤ (x3 + 2) ∧ (x3 + 2) ≤ 2147483647) ∧ (0 ≤ (x3 + 2) ∧ (x3 + 2) < (L : Int)) ∧ ax_Ti Y_X10_light [aR 0, aI (sx xs (x3 + 1)), aI (sx xs (x3 + 2))] SH M (fun z2 u1 => ax_Ti Y_X11_light [aR 61, aI (sx xs (x3 + 1)), aI (sx xs (x3 + 2))] SH u1 (fun z4 u3 => (((z2 = z4) → ax_J Y_L_law (ax_KL b L xs) 99 28389 1456 [(0, aR 2000), (1, aR 0), (2, aR 61), (3, aI x3)] [] SH u3) ∧ ((¬ z2 = z4) → False))))) : ax_J Y_L_law (ax_KL b L xs) 99 28389 511 [(0, aR 2000), (1, aR 0), (2, aR 61), (3, aI x3)] [] SH M := by
  refine j_aload_n 1 dL_law_511 rfl ?_
  refine j_aload_n 0 dL_law_512 rfl ?_
  refine j_iload_n 3 dL_law_513 rfl ?_
  refine j_iconst (x := 1) dL_law_514 rfl (i32_c rfl) ?_
  obtain ⟨o1, h⟩ := h
  refine j_iadd (z := (x3 + 1)) dL_law_515 rfl o1 ?_
  obtain ⟨o2, h⟩ := h
  refine j_sxa dL_law_516 o2.1 o2.2 ?_
  refine j_aload_n 0 dL_law_517 rfl ?_
  refine j_iload_n 3 dL_law_518 rfl ?_
  refine j_iconst (x := 2) dL_law_519 rfl (i32_c rfl) ?_
  obtain ⟨o3, h⟩ := h
  refine j_iadd (z := (x3 + 2)) dL_law_520 rfl o3 ?_
  obtain ⟨o4, h⟩ := h
  refine j_sxa dL_law_521 o4.1 o4.2 ?_
  refine j_calliV (Yc := Y_X10_light) (as := [aI (sx xs (x3 + 1)), aI (sx xs (x3 + 2))]) (rest := []) dL_law_522 q_L_57 ⟨Nat.le_of_ble_eq_true rfl, Nat.le_of_ble_eq_true rfl, Nat.le_of_ble_eq_true rfl, Nat.le_of_ble_eq_true rfl⟩ sh_0 rfl (Nat.le_of_ble_eq_true rfl) rfl (ti_mono h (fun z2 u1 h => ?_))
  refine j_aload_n 2 dL_law_525 rfl ?_
  refine j_aload_n 0 dL_law_526 rfl ?_
  refine j_iload_n 3 dL_law_527 rfl ?_
  refine j_iconst (x := 1) dL_law_528 rfl (i32_c rfl) ?_
  refine j_iadd (z := (x3 + 1)) dL_law_529 rfl o1 ?_
  refine j_sxa dL_law_530 o2.1 o2.2 ?_
  refine j_aload_n 0 dL_law_531 rfl ?_
  refine j_iload_n 3 dL_law_532 rfl ?_
  refine j_iconst (x := 2) dL_law_533 rfl (i32_c rfl) ?_
  refine j_iadd (z := (x3 + 2)) dL_law_534 rfl o3 ?_
  refine j_sxa dL_law_535 o4.1 o4.2 ?_
  refine j_calliV (Yc := Y_X11_light) (as := [aI (sx xs (x3 + 1)), aI (sx xs (x3 + 2))]) (rest := [aI z2]) dL_law_536 q_L_60 ⟨Nat.le_of_ble_eq_true rfl, Nat.le_of_ble_eq_true rfl, Nat.le_of_ble_eq_true rfl, Nat.le_of_ble_eq_true rfl⟩ sh_61 rfl (Nat.le_of_ble_eq_true rfl) rfl (ti_mono h (fun z4 u3 h => ?_))
  refine j_icmp_eq (tgt := 1456) dL_law_539 (by decide) (fun c5 => ?_) (fun c5 => ?_)
  · replace h := h.1 c5
    exact h
  · replace h := h.2 c5
    refine j_iconst (x := 0) dL_law_542 rfl (i32_c rfl) ?_
    exact h.elim
set_option maxRecDepth 100000 in
set_option maxHeartbeats 4000000 in
theorem B_law_544 {b L : Nat} {xs : Nat → Int32} {M : ax_M} {x3 : Int} (hL : L ≤ 3584) (h : (-2147483648 ≤ (x3 + 1) ∧ (x3 + 1) ≤ 2147483647) ∧ (0 ≤ (x3 + 1) ∧ (x3 + 1) < (L : Int)) ∧ (-2147483648 ≤ (x3 + 2) ∧ (x3 + 2) ≤ 2147483647) ∧ (0 ≤ (x3 + 2) ∧ (x3 + 2) < (L : Int)) ∧ (-2147483648 ≤ (x3 + 3) ∧ (x3 + 3) ≤ 2147483647) ∧ (0 ≤ (x3 + 3) ∧ (x3 + 3) < (L : Int)) ∧ ((((sx xs (x3 + 3)) = 0) → ax_Ti Y_X10_moves [aR 0, aI (sx xs (x3 + 1)), aI (sx xs (x3 + 2)), aI 0] SH M (fun z2 u1 => ax_Ti Y_X11_moves [aR 61, aI (sx xs (x3 + 1)), aI (sx xs (x3 + 2)), aI 0] SH u1 (fun z4 u3 => (((z2 = z4) → ax_J Y_L_law (ax_KL b L xs) 99 28389 1456 [(0, aR 2000), (1, aR 0), (2, aR 61), (3, aI x3)] [] SH u3) ∧ ((¬ z2 = z4) → False))))) ∧ ((¬ (sx xs (x3 + 3)) = 0) → ax_Ti Y_X10_moves [aR 0, aI (sx xs (x3 + 1)), aI (sx xs (x3 + 2)), aI 1] SH M (fun z6 u5 => ax_Ti Y_X11_moves [aR 61, aI (sx xs (x3 + 1)), aI (sx xs (x3 + 2)), aI 1] SH u5 (fun z8 u7 => (((z6 = z8) → ax_J Y_L_law (ax_KL b L xs) 99 28389 1456 [(0, aR 2000), (1, aR 0), (2, aR 61), (3, aI x3)] [] SH u7) ∧ ((¬ z6 = z8) → False))))))) : ax_J Y_L_law (ax_KL b L xs) 99 28389 544 [(0, aR 2000), (1, aR 0), (2, aR 61), (3, aI x3)] [] SH M := by
  refine j_aload_n 1 dL_law_544 rfl ?_
  refine j_aload_n 0 dL_law_545 rfl ?_
  refine j_iload_n 3 dL_law_546 rfl ?_
  refine j_iconst (x := 1) dL_law_547 rfl (i32_c rfl) ?_
  obtain ⟨o1, h⟩ := h
  refine j_iadd (z := (x3 + 1)) dL_law_548 rfl o1 ?_
  obtain ⟨o2, h⟩ := h
  refine j_sxa dL_law_549 o2.1 o2.2 ?_
  refine j_aload_n 0 dL_law_550 rfl ?_
  refine j_iload_n 3 dL_law_551 rfl ?_
  refine j_iconst (x := 2) dL_law_552 rfl (i32_c rfl) ?_
  obtain ⟨o3, h⟩ := h
  refine j_iadd (z := (x3 + 2)) dL_law_553 rfl o3 ?_
  obtain ⟨o4, h⟩ := h
  refine j_sxa dL_law_554 o4.1 o4.2 ?_
  refine j_aload_n 0 dL_law_555 rfl ?_
  refine j_iload_n 3 dL_law_556 rfl ?_
  refine j_iconst (x := 3) dL_law_557 rfl (i32_c rfl) ?_
  obtain ⟨o5, h⟩ := h
  refine j_iadd (z := (x3 + 3)) dL_law_558 rfl o5 ?_
  obtain ⟨o6, h⟩ := h
  refine j_sxa dL_law_559 o6.1 o6.2 ?_
  refine j_if_eq (tgt := 567) dL_law_560 (by decide) (fun c7 => ?_) (fun c7 => ?_)
  · replace h := h.1 c7
    refine j_iconst (x := 0) dL_law_567 rfl (i32_c rfl) ?_
    refine j_calliV (Yc := Y_X10_moves) (as := [aI (sx xs (x3 + 1)), aI (sx xs (x3 + 2)), aI 0]) (rest := []) dL_law_568 q_L_61 ⟨Nat.le_of_ble_eq_true rfl, Nat.le_of_ble_eq_true rfl, Nat.le_of_ble_eq_true rfl, Nat.le_of_ble_eq_true rfl⟩ sh_0 rfl (Nat.le_of_ble_eq_true rfl) rfl (ti_mono h (fun z2 u1 h => ?_))
    refine j_aload_n 2 dL_law_571 rfl ?_
    refine j_aload_n 0 dL_law_572 rfl ?_
    refine j_iload_n 3 dL_law_573 rfl ?_
    refine j_iconst (x := 1) dL_law_574 rfl (i32_c rfl) ?_
    refine j_iadd (z := (x3 + 1)) dL_law_575 rfl o1 ?_
    refine j_sxa dL_law_576 o2.1 o2.2 ?_
    refine j_aload_n 0 dL_law_577 rfl ?_
    refine j_iload_n 3 dL_law_578 rfl ?_
    refine j_iconst (x := 2) dL_law_579 rfl (i32_c rfl) ?_
    refine j_iadd (z := (x3 + 2)) dL_law_580 rfl o3 ?_
    refine j_sxa dL_law_581 o4.1 o4.2 ?_
    refine j_aload_n 0 dL_law_582 rfl ?_
    refine j_iload_n 3 dL_law_583 rfl ?_
    refine j_iconst (x := 3) dL_law_584 rfl (i32_c rfl) ?_
    refine j_iadd (z := (x3 + 3)) dL_law_585 rfl o5 ?_
    refine j_sxa dL_law_586 o6.1 o6.2 ?_
    refine j_if_eq (tgt := 594) dL_law_587 (by decide) (fun _ => ?_) (fun c => by have := c7; omega)
    refine j_iconst (x := 0) dL_law_594 rfl (i32_c rfl) ?_
    refine j_calliV (Yc := Y_X11_moves) (as := [aI (sx xs (x3 + 1)), aI (sx xs (x3 + 2)), aI 0]) (rest := [aI z2]) dL_law_595 q_L_65 ⟨Nat.le_of_ble_eq_true rfl, Nat.le_of_ble_eq_true rfl, Nat.le_of_ble_eq_true rfl, Nat.le_of_ble_eq_true rfl⟩ sh_61 rfl (Nat.le_of_ble_eq_true rfl) rfl (ti_mono h (fun z4 u3 h => ?_))
    refine j_icmp_eq (tgt := 1456) dL_law_598 (by decide) (fun c8 => ?_) (fun c8 => ?_)
    · replace h := h.1 c8
      exact h
    · replace h := h.2 c8
      refine j_iconst (x := 0) dL_law_601 rfl (i32_c rfl) ?_
      exact h.elim
  · replace h := h.2 c7
    refine j_iconst (x := 1) dL_law_563 rfl (i32_c rfl) ?_
    refine j_goto (tgt := 568) dL_law_564 (by decide) ?_
    refine j_calliV (Yc := Y_X10_moves) (as := [aI (sx xs (x3 + 1)), aI (sx xs (x3 + 2)), aI 1]) (rest := []) dL_law_568 q_L_61 ⟨Nat.le_of_ble_eq_true rfl, Nat.le_of_ble_eq_true rfl, Nat.le_of_ble_eq_true rfl, Nat.le_of_ble_eq_true rfl⟩ sh_0 rfl (Nat.le_of_ble_eq_true rfl) rfl (ti_mono h (fun z6 u5 h => ?_))
    refine j_aload_n 2 dL_law_571 rfl ?_
    refine j_aload_n 0 dL_law_572 rfl ?_
    refine j_iload_n 3 dL_law_573 rfl ?_
    refine j_iconst (x := 1) dL_law_574 rfl (i32_c rfl) ?_
    refine j_iadd (z := (x3 + 1)) dL_law_575 rfl o1 ?_
    refine j_sxa dL_law_576 o2.1 o2.2 ?_
    refine j_aload_n 0 dL_law_577 rfl ?_
    refine j_iload_n 3 dL_law_578 rfl ?_
    refine j_iconst (x := 2) dL_law_579 rfl (i32_c rfl) ?_
    refine j_iadd (z := (x3 + 2)) dL_law_580 rfl o3 ?_
    refine j_sxa dL_law_581 o4.1 o4.2 ?_
    refine j_aload_n 0 dL_law_582 rfl ?_
    refine j_iload_n 3 dL_law_583 rfl ?_
    refine j_iconst (x := 3) dL_law_584 rfl (i32_c rfl) ?_
    refine j_iadd (z := (x3 + 3)) dL_law_585 rfl o5 ?_
    refine j_sxa dL_law_586 o6.1 o6.2 ?_
    refine j_if_eq (tgt := 594) dL_law_587 (by decide) (fun c => by have := c7; omega) (fun _ => ?_)
    refine j_iconst (x := 1) dL_law_590 rfl (i32_c rfl) ?_
    refine j_goto (tgt := 595) dL_law_591 (by decide) ?_
    refine j_calliV (Yc := Y_X11_moves) (as := [aI (sx xs (x3 + 1)), aI (sx xs (x3 + 2)), aI 1]) (rest := [aI z6]) dL_law_595 q_L_65 ⟨Nat.le_of_ble_eq_true rfl, Nat.le_of_ble_eq_true rfl, Nat.le_of_ble_eq_true rfl, Nat.le_of_ble_eq_true rfl⟩ sh_61 rfl (Nat.le_of_ble_eq_true rfl) rfl (ti_mono h (fun z8 u7 h => ?_))
    refine j_icmp_eq (tgt := 1456) dL_law_598 (by decide) (fun c9 => ?_) (fun c9 => ?_)
    · replace h := h.1 c9
      exact h
    · replace h := h.2 c9
      refine j_iconst (x := 0) dL_law_601 rfl (i32_c rfl) ?_
      exact h.elim
set_option maxRecDepth 100000 in
set_option maxHeartbeats 4000000 in
theorem B_law_603 {b L : Nat} {xs : Nat → Int32} {M : ax_M} {x3 : Int} (hL : L ≤ 3584) (h : (-2147483648 ≤ (x3 + 1) ∧ (x3 + 1) ≤ 2147483647) ∧ (0 ≤ (x3 + 1) ∧ (x3 + 1) < (L : Int)) ∧ (-2147483648 ≤ (x3 + 2) ∧ (x3 + 2) ≤ 2147483647) ∧ (0 ≤ (x3 + 2) ∧ (x3 + 2) < (L : Int)) ∧ (-2147483648 ≤ (x3 + 3) ∧ (x3 + 3) ≤ 2147483647) ∧ (0 ≤ (x3 + 3) ∧ (x3 + 3) < (L : Int)) ∧ (-2147483648 ≤ (x3 + 4) ∧ (x3 + 4) ≤ 2147483647) ∧ (0 ≤ (x3 + 4) ∧ (x3 + 4) < (L : Int)) ∧ (-2147483648 ≤ (x3 + 5) ∧ (x3 + 5) ≤ 2147483647) ∧ (0 ≤ (x3 + 5) ∧ (x3 + 5) < (L : Int)) ∧ ((((sx xs (x3 + 5)) = 0) → ax_Ti Y_X10_soonest [aR 0, aI (sx xs (x3 + 1)), aI (sx xs (x3 + 2)), aI (sx xs (x3 + 3)), aI (sx xs (x3 + 4)), aI 0] SH M (fun z2 u1 => ax_Ti Y_X11_soonest [aR 61, aI (sx xs (x3 + 1)), aI (sx xs (x3 + 2)), aI (sx xs (x3 + 3)), aI (sx xs (x3 + 4)), aI 0] SH u1 (fun z4 u3 => (((z2 = z4) → ax_J Y_L_law (ax_KL b L xs) 99 28389 1456 [(0, aR 2000), (1, aR 0), (2, aR 61), (3, aI x3)] [] SH u3) ∧ ((¬ z2 = z4) → False))))) ∧ ((¬ (sx xs (x3 + 5)) = 0) → ax_Ti Y_X10_soonest [aR 0, aI (sx xs (x3 + 1)), aI (sx xs (x3 + 2)), aI (sx xs (x3 + 3)), aI (sx xs (x3 + 4)), aI 1] SH M (fun z6 u5 => ax_Ti Y_X11_soonest [aR 61, aI (sx xs (x3 + 1)), aI (sx xs (x3 + 2)), aI (sx xs (x3 + 3)), aI (sx xs (x3 + 4)), aI 1] SH u5 (fun z8 u7 => (((z6 = z8) → ax_J Y_L_law (ax_KL b L xs) 99 28389 1456 [(0, aR 2000), (1, aR 0), (2, aR 61), (3, aI x3)] [] SH u7) ∧ ((¬ z6 = z8) → False))))))) : ax_J Y_L_law (ax_KL b L xs) 99 28389 603 [(0, aR 2000), (1, aR 0), (2, aR 61), (3, aI x3)] [] SH M := by
  refine j_aload_n 1 dL_law_603 rfl ?_
  refine j_aload_n 0 dL_law_604 rfl ?_
  refine j_iload_n 3 dL_law_605 rfl ?_
  refine j_iconst (x := 1) dL_law_606 rfl (i32_c rfl) ?_
  obtain ⟨o1, h⟩ := h
  refine j_iadd (z := (x3 + 1)) dL_law_607 rfl o1 ?_
  obtain ⟨o2, h⟩ := h
  refine j_sxa dL_law_608 o2.1 o2.2 ?_
  refine j_aload_n 0 dL_law_609 rfl ?_
  refine j_iload_n 3 dL_law_610 rfl ?_
  refine j_iconst (x := 2) dL_law_611 rfl (i32_c rfl) ?_
  obtain ⟨o3, h⟩ := h
  refine j_iadd (z := (x3 + 2)) dL_law_612 rfl o3 ?_
  obtain ⟨o4, h⟩ := h
  refine j_sxa dL_law_613 o4.1 o4.2 ?_
  refine j_aload_n 0 dL_law_614 rfl ?_
  refine j_iload_n 3 dL_law_615 rfl ?_
  refine j_iconst (x := 3) dL_law_616 rfl (i32_c rfl) ?_
  obtain ⟨o5, h⟩ := h
  refine j_iadd (z := (x3 + 3)) dL_law_617 rfl o5 ?_
  obtain ⟨o6, h⟩ := h
  refine j_sxa dL_law_618 o6.1 o6.2 ?_
  refine j_aload_n 0 dL_law_619 rfl ?_
  refine j_iload_n 3 dL_law_620 rfl ?_
  refine j_iconst (x := 4) dL_law_621 rfl (i32_c rfl) ?_
  obtain ⟨o7, h⟩ := h
  refine j_iadd (z := (x3 + 4)) dL_law_622 rfl o7 ?_
  obtain ⟨o8, h⟩ := h
  refine j_sxa dL_law_623 o8.1 o8.2 ?_
  refine j_aload_n 0 dL_law_624 rfl ?_
  refine j_iload_n 3 dL_law_625 rfl ?_
  refine j_iconst (x := 5) dL_law_626 rfl (i32_c rfl) ?_
  obtain ⟨o9, h⟩ := h
  refine j_iadd (z := (x3 + 5)) dL_law_627 rfl o9 ?_
  obtain ⟨o10, h⟩ := h
  refine j_sxa dL_law_628 o10.1 o10.2 ?_
  refine j_if_eq (tgt := 636) dL_law_629 (by decide) (fun c11 => ?_) (fun c11 => ?_)
  · replace h := h.1 c11
    refine j_iconst (x := 0) dL_law_636 rfl (i32_c rfl) ?_
    refine j_calliV (Yc := Y_X10_soonest) (as := [aI (sx xs (x3 + 1)), aI (sx xs (x3 + 2)), aI (sx xs (x3 + 3)), aI (sx xs (x3 + 4)), aI 0]) (rest := []) dL_law_637 q_L_66 ⟨Nat.le_of_ble_eq_true rfl, Nat.le_of_ble_eq_true rfl, Nat.le_of_ble_eq_true rfl, Nat.le_of_ble_eq_true rfl⟩ sh_0 rfl (Nat.le_of_ble_eq_true rfl) rfl (ti_mono h (fun z2 u1 h => ?_))
    refine j_aload_n 2 dL_law_640 rfl ?_
    refine j_aload_n 0 dL_law_641 rfl ?_
    refine j_iload_n 3 dL_law_642 rfl ?_
    refine j_iconst (x := 1) dL_law_643 rfl (i32_c rfl) ?_
    refine j_iadd (z := (x3 + 1)) dL_law_644 rfl o1 ?_
    refine j_sxa dL_law_645 o2.1 o2.2 ?_
    refine j_aload_n 0 dL_law_646 rfl ?_
    refine j_iload_n 3 dL_law_647 rfl ?_
    refine j_iconst (x := 2) dL_law_648 rfl (i32_c rfl) ?_
    refine j_iadd (z := (x3 + 2)) dL_law_649 rfl o3 ?_
    refine j_sxa dL_law_650 o4.1 o4.2 ?_
    refine j_aload_n 0 dL_law_651 rfl ?_
    refine j_iload_n 3 dL_law_652 rfl ?_
    refine j_iconst (x := 3) dL_law_653 rfl (i32_c rfl) ?_
    refine j_iadd (z := (x3 + 3)) dL_law_654 rfl o5 ?_
    refine j_sxa dL_law_655 o6.1 o6.2 ?_
    refine j_aload_n 0 dL_law_656 rfl ?_
    refine j_iload_n 3 dL_law_657 rfl ?_
    refine j_iconst (x := 4) dL_law_658 rfl (i32_c rfl) ?_
    refine j_iadd (z := (x3 + 4)) dL_law_659 rfl o7 ?_
    refine j_sxa dL_law_660 o8.1 o8.2 ?_
    refine j_aload_n 0 dL_law_661 rfl ?_
    refine j_iload_n 3 dL_law_662 rfl ?_
    refine j_iconst (x := 5) dL_law_663 rfl (i32_c rfl) ?_
    refine j_iadd (z := (x3 + 5)) dL_law_664 rfl o9 ?_
    refine j_sxa dL_law_665 o10.1 o10.2 ?_
    refine j_if_eq (tgt := 673) dL_law_666 (by decide) (fun _ => ?_) (fun c => by have := c11; omega)
    refine j_iconst (x := 0) dL_law_673 rfl (i32_c rfl) ?_
    refine j_calliV (Yc := Y_X11_soonest) (as := [aI (sx xs (x3 + 1)), aI (sx xs (x3 + 2)), aI (sx xs (x3 + 3)), aI (sx xs (x3 + 4)), aI 0]) (rest := [aI z2]) dL_law_674 q_L_70 ⟨Nat.le_of_ble_eq_true rfl, Nat.le_of_ble_eq_true rfl, Nat.le_of_ble_eq_true rfl, Nat.le_of_ble_eq_true rfl⟩ sh_61 rfl (Nat.le_of_ble_eq_true rfl) rfl (ti_mono h (fun z4 u3 h => ?_))
    refine j_icmp_eq (tgt := 1456) dL_law_677 (by decide) (fun c12 => ?_) (fun c12 => ?_)
    · replace h := h.1 c12
      exact h
    · replace h := h.2 c12
      refine j_iconst (x := 0) dL_law_680 rfl (i32_c rfl) ?_
      exact h.elim
  · replace h := h.2 c11
    refine j_iconst (x := 1) dL_law_632 rfl (i32_c rfl) ?_
    refine j_goto (tgt := 637) dL_law_633 (by decide) ?_
    refine j_calliV (Yc := Y_X10_soonest) (as := [aI (sx xs (x3 + 1)), aI (sx xs (x3 + 2)), aI (sx xs (x3 + 3)), aI (sx xs (x3 + 4)), aI 1]) (rest := []) dL_law_637 q_L_66 ⟨Nat.le_of_ble_eq_true rfl, Nat.le_of_ble_eq_true rfl, Nat.le_of_ble_eq_true rfl, Nat.le_of_ble_eq_true rfl⟩ sh_0 rfl (Nat.le_of_ble_eq_true rfl) rfl (ti_mono h (fun z6 u5 h => ?_))
    refine j_aload_n 2 dL_law_640 rfl ?_
    refine j_aload_n 0 dL_law_641 rfl ?_
    refine j_iload_n 3 dL_law_642 rfl ?_
    refine j_iconst (x := 1) dL_law_643 rfl (i32_c rfl) ?_
    refine j_iadd (z := (x3 + 1)) dL_law_644 rfl o1 ?_
    refine j_sxa dL_law_645 o2.1 o2.2 ?_
    refine j_aload_n 0 dL_law_646 rfl ?_
    refine j_iload_n 3 dL_law_647 rfl ?_
    refine j_iconst (x := 2) dL_law_648 rfl (i32_c rfl) ?_
    refine j_iadd (z := (x3 + 2)) dL_law_649 rfl o3 ?_
    refine j_sxa dL_law_650 o4.1 o4.2 ?_
    refine j_aload_n 0 dL_law_651 rfl ?_
    refine j_iload_n 3 dL_law_652 rfl ?_
    refine j_iconst (x := 3) dL_law_653 rfl (i32_c rfl) ?_
    refine j_iadd (z := (x3 + 3)) dL_law_654 rfl o5 ?_
    refine j_sxa dL_law_655 o6.1 o6.2 ?_
    refine j_aload_n 0 dL_law_656 rfl ?_
    refine j_iload_n 3 dL_law_657 rfl ?_
    refine j_iconst (x := 4) dL_law_658 rfl (i32_c rfl) ?_
    refine j_iadd (z := (x3 + 4)) dL_law_659 rfl o7 ?_
    refine j_sxa dL_law_660 o8.1 o8.2 ?_
    refine j_aload_n 0 dL_law_661 rfl ?_
    refine j_iload_n 3 dL_law_662 rfl ?_
    refine j_iconst (x := 5) dL_law_663 rfl (i32_c rfl) ?_
    refine j_iadd (z := (x3 + 5)) dL_law_664 rfl o9 ?_
    refine j_sxa dL_law_665 o10.1 o10.2 ?_
    refine j_if_eq (tgt := 673) dL_law_666 (by decide) (fun c => by have := c11; omega) (fun _ => ?_)
    refine j_iconst (x := 1) dL_law_669 rfl (i32_c rfl) ?_
    refine j_goto (tgt := 674) dL_law_670 (by decide) ?_
    refine j_calliV (Yc := Y_X11_soonest) (as := [aI (sx xs (x3 + 1)), aI (sx xs (x3 + 2)), aI (sx xs (x3 + 3)), aI (sx xs (x3 + 4)), aI 1]) (rest := [aI z6]) dL_law_674 q_L_70 ⟨Nat.le_of_ble_eq_true rfl, Nat.le_of_ble_eq_true rfl, Nat.le_of_ble_eq_true rfl, Nat.le_of_ble_eq_true rfl⟩ sh_61 rfl (Nat.le_of_ble_eq_true rfl) rfl (ti_mono h (fun z8 u7 h => ?_))
    refine j_icmp_eq (tgt := 1456) dL_law_677 (by decide) (fun c13 => ?_) (fun c13 => ?_)
    · replace h := h.1 c13
      exact h
    · replace h := h.2 c13
      refine j_iconst (x := 0) dL_law_680 rfl (i32_c rfl) ?_
      exact h.elim
set_option maxRecDepth 100000 in
set_option maxHeartbeats 4000000 in
theorem B_law_682 {b L : Nat} {xs : Nat → Int32} {M : ax_M} {x3 : Int} (hL : L ≤ 3584) (h : (-2147483648 ≤ (x3 + 1) ∧ (x3 + 1) ≤ 2147483647) ∧ (0 ≤ (x3 + 1) ∧ (x3 + 1) < (L : Int)) ∧ (-2147483648 ≤ (x3 + 2) ∧ (x3 + 2) ≤ 2147483647) ∧ (0 ≤ (x3 + 2) ∧ (x3 + 2) < (L : Int)) ∧ (-2147483648 ≤ (x3 + 3) ∧ (x3 + 3) ≤ 2147483647) ∧ (0 ≤ (x3 + 3) ∧ (x3 + 3) < (L : Int)) ∧ ((((sx xs (x3 + 3)) = 0) → ax_Ti Y_X10_last [aR 0, aI (sx xs (x3 + 1)), aI (sx xs (x3 + 2)), aI 0] SH M (fun z2 u1 => ax_Ti Y_X11_last [aR 61, aI (sx xs (x3 + 1)), aI (sx xs (x3 + 2)), aI 0] SH u1 (fun z4 u3 => (((z2 = z4) → ax_J Y_L_law (ax_KL b L xs) 99 28389 1456 [(0, aR 2000), (1, aR 0), (2, aR 61), (3, aI x3)] [] SH u3) ∧ ((¬ z2 = z4) → False))))) ∧ ((¬ (sx xs (x3 + 3)) = 0) → ax_Ti Y_X10_last [aR 0, aI (sx xs (x3 + 1)), aI (sx xs (x3 + 2)), aI 1] SH M (fun z6 u5 => ax_Ti Y_X11_last [aR 61, aI (sx xs (x3 + 1)), aI (sx xs (x3 + 2)), aI 1] SH u5 (fun z8 u7 => (((z6 = z8) → ax_J Y_L_law (ax_KL b L xs) 99 28389 1456 [(0, aR 2000), (1, aR 0), (2, aR 61), (3, aI x3)] [] SH u7) ∧ ((¬ z6 = z8) → False))))))) : ax_J Y_L_law (ax_KL b L xs) 99 28389 682 [(0, aR 2000), (1, aR 0), (2, aR 61), (3, aI x3)] [] SH M := by
  refine j_aload_n 1 dL_law_682 rfl ?_
  refine j_aload_n 0 dL_law_683 rfl ?_
  refine j_iload_n 3 dL_law_684 rfl ?_
  refine j_iconst (x := 1) dL_law_685 rfl (i32_c rfl) ?_
  obtain ⟨o1, h⟩ := h
  refine j_iadd (z := (x3 + 1)) dL_law_686 rfl o1 ?_
  obtain ⟨o2, h⟩ := h
  refine j_sxa dL_law_687 o2.1 o2.2 ?_
  refine j_aload_n 0 dL_law_688 rfl ?_
  refine j_iload_n 3 dL_law_689 rfl ?_
  refine j_iconst (x := 2) dL_law_690 rfl (i32_c rfl) ?_
  obtain ⟨o3, h⟩ := h
  refine j_iadd (z := (x3 + 2)) dL_law_691 rfl o3 ?_
  obtain ⟨o4, h⟩ := h
  refine j_sxa dL_law_692 o4.1 o4.2 ?_
  refine j_aload_n 0 dL_law_693 rfl ?_
  refine j_iload_n 3 dL_law_694 rfl ?_
  refine j_iconst (x := 3) dL_law_695 rfl (i32_c rfl) ?_
  obtain ⟨o5, h⟩ := h
  refine j_iadd (z := (x3 + 3)) dL_law_696 rfl o5 ?_
  obtain ⟨o6, h⟩ := h
  refine j_sxa dL_law_697 o6.1 o6.2 ?_
  refine j_if_eq (tgt := 705) dL_law_698 (by decide) (fun c7 => ?_) (fun c7 => ?_)
  · replace h := h.1 c7
    refine j_iconst (x := 0) dL_law_705 rfl (i32_c rfl) ?_
    refine j_calliV (Yc := Y_X10_last) (as := [aI (sx xs (x3 + 1)), aI (sx xs (x3 + 2)), aI 0]) (rest := []) dL_law_706 q_L_71 ⟨Nat.le_of_ble_eq_true rfl, Nat.le_of_ble_eq_true rfl, Nat.le_of_ble_eq_true rfl, Nat.le_of_ble_eq_true rfl⟩ sh_0 rfl (Nat.le_of_ble_eq_true rfl) rfl (ti_mono h (fun z2 u1 h => ?_))
    refine j_aload_n 2 dL_law_709 rfl ?_
    refine j_aload_n 0 dL_law_710 rfl ?_
    refine j_iload_n 3 dL_law_711 rfl ?_
    refine j_iconst (x := 1) dL_law_712 rfl (i32_c rfl) ?_
    refine j_iadd (z := (x3 + 1)) dL_law_713 rfl o1 ?_
    refine j_sxa dL_law_714 o2.1 o2.2 ?_
    refine j_aload_n 0 dL_law_715 rfl ?_
    refine j_iload_n 3 dL_law_716 rfl ?_
    refine j_iconst (x := 2) dL_law_717 rfl (i32_c rfl) ?_
    refine j_iadd (z := (x3 + 2)) dL_law_718 rfl o3 ?_
    refine j_sxa dL_law_719 o4.1 o4.2 ?_
    refine j_aload_n 0 dL_law_720 rfl ?_
    refine j_iload_n 3 dL_law_721 rfl ?_
    refine j_iconst (x := 3) dL_law_722 rfl (i32_c rfl) ?_
    refine j_iadd (z := (x3 + 3)) dL_law_723 rfl o5 ?_
    refine j_sxa dL_law_724 o6.1 o6.2 ?_
    refine j_if_eq (tgt := 732) dL_law_725 (by decide) (fun _ => ?_) (fun c => by have := c7; omega)
    refine j_iconst (x := 0) dL_law_732 rfl (i32_c rfl) ?_
    refine j_calliV (Yc := Y_X11_last) (as := [aI (sx xs (x3 + 1)), aI (sx xs (x3 + 2)), aI 0]) (rest := [aI z2]) dL_law_733 q_L_74 ⟨Nat.le_of_ble_eq_true rfl, Nat.le_of_ble_eq_true rfl, Nat.le_of_ble_eq_true rfl, Nat.le_of_ble_eq_true rfl⟩ sh_61 rfl (Nat.le_of_ble_eq_true rfl) rfl (ti_mono h (fun z4 u3 h => ?_))
    refine j_icmp_eq (tgt := 1456) dL_law_736 (by decide) (fun c8 => ?_) (fun c8 => ?_)
    · replace h := h.1 c8
      exact h
    · replace h := h.2 c8
      refine j_iconst (x := 0) dL_law_739 rfl (i32_c rfl) ?_
      exact h.elim
  · replace h := h.2 c7
    refine j_iconst (x := 1) dL_law_701 rfl (i32_c rfl) ?_
    refine j_goto (tgt := 706) dL_law_702 (by decide) ?_
    refine j_calliV (Yc := Y_X10_last) (as := [aI (sx xs (x3 + 1)), aI (sx xs (x3 + 2)), aI 1]) (rest := []) dL_law_706 q_L_71 ⟨Nat.le_of_ble_eq_true rfl, Nat.le_of_ble_eq_true rfl, Nat.le_of_ble_eq_true rfl, Nat.le_of_ble_eq_true rfl⟩ sh_0 rfl (Nat.le_of_ble_eq_true rfl) rfl (ti_mono h (fun z6 u5 h => ?_))
    refine j_aload_n 2 dL_law_709 rfl ?_
    refine j_aload_n 0 dL_law_710 rfl ?_
    refine j_iload_n 3 dL_law_711 rfl ?_
    refine j_iconst (x := 1) dL_law_712 rfl (i32_c rfl) ?_
    refine j_iadd (z := (x3 + 1)) dL_law_713 rfl o1 ?_
    refine j_sxa dL_law_714 o2.1 o2.2 ?_
    refine j_aload_n 0 dL_law_715 rfl ?_
    refine j_iload_n 3 dL_law_716 rfl ?_
    refine j_iconst (x := 2) dL_law_717 rfl (i32_c rfl) ?_
    refine j_iadd (z := (x3 + 2)) dL_law_718 rfl o3 ?_
    refine j_sxa dL_law_719 o4.1 o4.2 ?_
    refine j_aload_n 0 dL_law_720 rfl ?_
    refine j_iload_n 3 dL_law_721 rfl ?_
    refine j_iconst (x := 3) dL_law_722 rfl (i32_c rfl) ?_
    refine j_iadd (z := (x3 + 3)) dL_law_723 rfl o5 ?_
    refine j_sxa dL_law_724 o6.1 o6.2 ?_
    refine j_if_eq (tgt := 732) dL_law_725 (by decide) (fun c => by have := c7; omega) (fun _ => ?_)
    refine j_iconst (x := 1) dL_law_728 rfl (i32_c rfl) ?_
    refine j_goto (tgt := 733) dL_law_729 (by decide) ?_
    refine j_calliV (Yc := Y_X11_last) (as := [aI (sx xs (x3 + 1)), aI (sx xs (x3 + 2)), aI 1]) (rest := [aI z6]) dL_law_733 q_L_74 ⟨Nat.le_of_ble_eq_true rfl, Nat.le_of_ble_eq_true rfl, Nat.le_of_ble_eq_true rfl, Nat.le_of_ble_eq_true rfl⟩ sh_61 rfl (Nat.le_of_ble_eq_true rfl) rfl (ti_mono h (fun z8 u7 h => ?_))
    refine j_icmp_eq (tgt := 1456) dL_law_736 (by decide) (fun c9 => ?_) (fun c9 => ?_)
    · replace h := h.1 c9
      exact h
    · replace h := h.2 c9
      refine j_iconst (x := 0) dL_law_739 rfl (i32_c rfl) ?_
      exact h.elim
set_option maxRecDepth 100000 in
set_option maxHeartbeats 4000000 in
theorem B_law_741 {b L : Nat} {xs : Nat → Int32} {M : ax_M} {x3 : Int} (hL : L ≤ 3584) (h : (-2147483648 ≤ (x3 + 1) ∧ (x3 + 1) ≤ 2147483647) ∧ (0 ≤ (x3 + 1) ∧ (x3 + 1) < (L : Int)) ∧ (-2147483648 ≤ (x3 + 2) ∧ (x3 + 2) ≤ 2147483647) ∧ (0 ≤ (x3 + 2) ∧ (x3 + 2) < (L : Int)) ∧ (-2147483648 ≤ (x3 + 3) ∧ (x3 + 3) ≤ 2147483647) ∧ (0 ≤ (x3 + 3) ∧ (x3 + 3) < (L : Int)) ∧ ((((sx xs (x3 + 3)) = 0) → ax_Ti Y_X10_open [aR 0, aI (sx xs (x3 + 1)), aI (sx xs (x3 + 2)), aI 0] SH M (fun z2 u1 => ax_Ti Y_X11_open [aR 61, aI (sx xs (x3 + 1)), aI (sx xs (x3 + 2)), aI 0] SH u1 (fun z4 u3 => (((z2 = z4) → ax_J Y_L_law (ax_KL b L xs) 99 28389 1456 [(0, aR 2000), (1, aR 0), (2, aR 61), (3, aI x3)] [] SH u3) ∧ ((¬ z2 = z4) → False))))) ∧ ((¬ (sx xs (x3 + 3)) = 0) → ax_Ti Y_X10_open [aR 0, aI (sx xs (x3 + 1)), aI (sx xs (x3 + 2)), aI 1] SH M (fun z6 u5 => ax_Ti Y_X11_open [aR 61, aI (sx xs (x3 + 1)), aI (sx xs (x3 + 2)), aI 1] SH u5 (fun z8 u7 => (((z6 = z8) → ax_J Y_L_law (ax_KL b L xs) 99 28389 1456 [(0, aR 2000), (1, aR 0), (2, aR 61), (3, aI x3)] [] SH u7) ∧ ((¬ z6 = z8) → False))))))) : ax_J Y_L_law (ax_KL b L xs) 99 28389 741 [(0, aR 2000), (1, aR 0), (2, aR 61), (3, aI x3)] [] SH M := by
  refine j_aload_n 1 dL_law_741 rfl ?_
  refine j_aload_n 0 dL_law_742 rfl ?_
  refine j_iload_n 3 dL_law_743 rfl ?_
  refine j_iconst (x := 1) dL_law_744 rfl (i32_c rfl) ?_
  obtain ⟨o1, h⟩ := h
  refine j_iadd (z := (x3 + 1)) dL_law_745 rfl o1 ?_
  obtain ⟨o2, h⟩ := h
  refine j_sxa dL_law_746 o2.1 o2.2 ?_
  refine j_aload_n 0 dL_law_747 rfl ?_
  refine j_iload_n 3 dL_law_748 rfl ?_
  refine j_iconst (x := 2) dL_law_749 rfl (i32_c rfl) ?_
  obtain ⟨o3, h⟩ := h
  refine j_iadd (z := (x3 + 2)) dL_law_750 rfl o3 ?_
  obtain ⟨o4, h⟩ := h
  refine j_sxa dL_law_751 o4.1 o4.2 ?_
  refine j_aload_n 0 dL_law_752 rfl ?_
  refine j_iload_n 3 dL_law_753 rfl ?_
  refine j_iconst (x := 3) dL_law_754 rfl (i32_c rfl) ?_
  obtain ⟨o5, h⟩ := h
  refine j_iadd (z := (x3 + 3)) dL_law_755 rfl o5 ?_
  obtain ⟨o6, h⟩ := h
  refine j_sxa dL_law_756 o6.1 o6.2 ?_
  refine j_if_eq (tgt := 764) dL_law_757 (by decide) (fun c7 => ?_) (fun c7 => ?_)
  · replace h := h.1 c7
    refine j_iconst (x := 0) dL_law_764 rfl (i32_c rfl) ?_
    refine j_calliV (Yc := Y_X10_open) (as := [aI (sx xs (x3 + 1)), aI (sx xs (x3 + 2)), aI 0]) (rest := []) dL_law_765 q_L_75 ⟨Nat.le_of_ble_eq_true rfl, Nat.le_of_ble_eq_true rfl, Nat.le_of_ble_eq_true rfl, Nat.le_of_ble_eq_true rfl⟩ sh_0 rfl (Nat.le_of_ble_eq_true rfl) rfl (ti_mono h (fun z2 u1 h => ?_))
    refine j_aload_n 2 dL_law_768 rfl ?_
    refine j_aload_n 0 dL_law_769 rfl ?_
    refine j_iload_n 3 dL_law_770 rfl ?_
    refine j_iconst (x := 1) dL_law_771 rfl (i32_c rfl) ?_
    refine j_iadd (z := (x3 + 1)) dL_law_772 rfl o1 ?_
    refine j_sxa dL_law_773 o2.1 o2.2 ?_
    refine j_aload_n 0 dL_law_774 rfl ?_
    refine j_iload_n 3 dL_law_775 rfl ?_
    refine j_iconst (x := 2) dL_law_776 rfl (i32_c rfl) ?_
    refine j_iadd (z := (x3 + 2)) dL_law_777 rfl o3 ?_
    refine j_sxa dL_law_778 o4.1 o4.2 ?_
    refine j_aload_n 0 dL_law_779 rfl ?_
    refine j_iload_n 3 dL_law_780 rfl ?_
    refine j_iconst (x := 3) dL_law_781 rfl (i32_c rfl) ?_
    refine j_iadd (z := (x3 + 3)) dL_law_782 rfl o5 ?_
    refine j_sxa dL_law_783 o6.1 o6.2 ?_
    refine j_if_eq (tgt := 791) dL_law_784 (by decide) (fun _ => ?_) (fun c => by have := c7; omega)
    refine j_iconst (x := 0) dL_law_791 rfl (i32_c rfl) ?_
    refine j_calliV (Yc := Y_X11_open) (as := [aI (sx xs (x3 + 1)), aI (sx xs (x3 + 2)), aI 0]) (rest := [aI z2]) dL_law_792 q_L_78 ⟨Nat.le_of_ble_eq_true rfl, Nat.le_of_ble_eq_true rfl, Nat.le_of_ble_eq_true rfl, Nat.le_of_ble_eq_true rfl⟩ sh_61 rfl (Nat.le_of_ble_eq_true rfl) rfl (ti_mono h (fun z4 u3 h => ?_))
    refine j_icmp_eq (tgt := 1456) dL_law_795 (by decide) (fun c8 => ?_) (fun c8 => ?_)
    · replace h := h.1 c8
      exact h
    · replace h := h.2 c8
      refine j_iconst (x := 0) dL_law_798 rfl (i32_c rfl) ?_
      exact h.elim
  · replace h := h.2 c7
    refine j_iconst (x := 1) dL_law_760 rfl (i32_c rfl) ?_
    refine j_goto (tgt := 765) dL_law_761 (by decide) ?_
    refine j_calliV (Yc := Y_X10_open) (as := [aI (sx xs (x3 + 1)), aI (sx xs (x3 + 2)), aI 1]) (rest := []) dL_law_765 q_L_75 ⟨Nat.le_of_ble_eq_true rfl, Nat.le_of_ble_eq_true rfl, Nat.le_of_ble_eq_true rfl, Nat.le_of_ble_eq_true rfl⟩ sh_0 rfl (Nat.le_of_ble_eq_true rfl) rfl (ti_mono h (fun z6 u5 h => ?_))
    refine j_aload_n 2 dL_law_768 rfl ?_
    refine j_aload_n 0 dL_law_769 rfl ?_
    refine j_iload_n 3 dL_law_770 rfl ?_
    refine j_iconst (x := 1) dL_law_771 rfl (i32_c rfl) ?_
    refine j_iadd (z := (x3 + 1)) dL_law_772 rfl o1 ?_
    refine j_sxa dL_law_773 o2.1 o2.2 ?_
    refine j_aload_n 0 dL_law_774 rfl ?_
    refine j_iload_n 3 dL_law_775 rfl ?_
    refine j_iconst (x := 2) dL_law_776 rfl (i32_c rfl) ?_
    refine j_iadd (z := (x3 + 2)) dL_law_777 rfl o3 ?_
    refine j_sxa dL_law_778 o4.1 o4.2 ?_
    refine j_aload_n 0 dL_law_779 rfl ?_
    refine j_iload_n 3 dL_law_780 rfl ?_
    refine j_iconst (x := 3) dL_law_781 rfl (i32_c rfl) ?_
    refine j_iadd (z := (x3 + 3)) dL_law_782 rfl o5 ?_
    refine j_sxa dL_law_783 o6.1 o6.2 ?_
    refine j_if_eq (tgt := 791) dL_law_784 (by decide) (fun c => by have := c7; omega) (fun _ => ?_)
    refine j_iconst (x := 1) dL_law_787 rfl (i32_c rfl) ?_
    refine j_goto (tgt := 792) dL_law_788 (by decide) ?_
    refine j_calliV (Yc := Y_X11_open) (as := [aI (sx xs (x3 + 1)), aI (sx xs (x3 + 2)), aI 1]) (rest := [aI z6]) dL_law_792 q_L_78 ⟨Nat.le_of_ble_eq_true rfl, Nat.le_of_ble_eq_true rfl, Nat.le_of_ble_eq_true rfl, Nat.le_of_ble_eq_true rfl⟩ sh_61 rfl (Nat.le_of_ble_eq_true rfl) rfl (ti_mono h (fun z8 u7 h => ?_))
    refine j_icmp_eq (tgt := 1456) dL_law_795 (by decide) (fun c9 => ?_) (fun c9 => ?_)
    · replace h := h.1 c9
      exact h
    · replace h := h.2 c9
      refine j_iconst (x := 0) dL_law_798 rfl (i32_c rfl) ?_
      exact h.elim
set_option maxRecDepth 100000 in
set_option maxHeartbeats 4000000 in
theorem B_law_800 {b L : Nat} {xs : Nat → Int32} {M : ax_M} {x3 : Int} (hL : L ≤ 3584) (h : (-2147483648 ≤ (x3 + 1) ∧ (x3 + 1) ≤ 2147483647) ∧ (0 ≤ (x3 + 1) ∧ (x3 + 1) < (L : Int)) ∧ ax_Ti Y_X10_most [aR 0, aI (sx xs (x3 + 1))] SH M (fun z2 u1 => ax_Ti Y_X11_most [aR 61, aI (sx xs (x3 + 1))] SH u1 (fun z4 u3 => (((z2 = z4) → ax_J Y_L_law (ax_KL b L xs) 99 28389 1456 [(0, aR 2000), (1, aR 0), (2, aR 61), (3, aI x3)] [] SH u3) ∧ ((¬ z2 = z4) → False))))) : ax_J Y_L_law (ax_KL b L xs) 99 28389 800 [(0, aR 2000), (1, aR 0), (2, aR 61), (3, aI x3)] [] SH M := by
  refine j_aload_n 1 dL_law_800 rfl ?_
  refine j_aload_n 0 dL_law_801 rfl ?_
  refine j_iload_n 3 dL_law_802 rfl ?_
  refine j_iconst (x := 1) dL_law_803 rfl (i32_c rfl) ?_
  obtain ⟨o1, h⟩ := h
  refine j_iadd (z := (x3 + 1)) dL_law_804 rfl o1 ?_
  obtain ⟨o2, h⟩ := h
  refine j_sxa dL_law_805 o2.1 o2.2 ?_
  refine j_calliV (Yc := Y_X10_most) (as := [aI (sx xs (x3 + 1))]) (rest := []) dL_law_806 q_L_79 ⟨Nat.le_of_ble_eq_true rfl, Nat.le_of_ble_eq_true rfl, Nat.le_of_ble_eq_true rfl, Nat.le_of_ble_eq_true rfl⟩ sh_0 rfl (Nat.le_of_ble_eq_true rfl) rfl (ti_mono h (fun z2 u1 h => ?_))
  refine j_aload_n 2 dL_law_809 rfl ?_
  refine j_aload_n 0 dL_law_810 rfl ?_
  refine j_iload_n 3 dL_law_811 rfl ?_
  refine j_iconst (x := 1) dL_law_812 rfl (i32_c rfl) ?_
  refine j_iadd (z := (x3 + 1)) dL_law_813 rfl o1 ?_
  refine j_sxa dL_law_814 o2.1 o2.2 ?_
  refine j_calliV (Yc := Y_X11_most) (as := [aI (sx xs (x3 + 1))]) (rest := [aI z2]) dL_law_815 q_L_82 ⟨Nat.le_of_ble_eq_true rfl, Nat.le_of_ble_eq_true rfl, Nat.le_of_ble_eq_true rfl, Nat.le_of_ble_eq_true rfl⟩ sh_61 rfl (Nat.le_of_ble_eq_true rfl) rfl (ti_mono h (fun z4 u3 h => ?_))
  refine j_icmp_eq (tgt := 1456) dL_law_818 (by decide) (fun c3 => ?_) (fun c3 => ?_)
  · replace h := h.1 c3
    exact h
  · replace h := h.2 c3
    refine j_iconst (x := 0) dL_law_821 rfl (i32_c rfl) ?_
    exact h.elim
set_option maxRecDepth 100000 in
set_option maxHeartbeats 4000000 in
theorem B_law_823 {b L : Nat} {xs : Nat → Int32} {M : ax_M} {x3 : Int} (hL : L ≤ 3584) (h : (-2147483648 ≤ (x3 + 1) ∧ (x3 + 1) ≤ 2147483647) ∧ (0 ≤ (x3 + 1) ∧ (x3 + 1) < (L : Int)) ∧ ax_Ti Y_X10_cut [aR 0, aI (sx xs (x3 + 1))] SH M (fun z2 u1 => ax_Ti Y_X11_cut [aR 61, aI (sx xs (x3 + 1))] SH u1 (fun z4 u3 => (((z2 = z4) → ax_J Y_L_law (ax_KL b L xs) 99 28389 1456 [(0, aR 2000), (1, aR 0), (2, aR 61), (3, aI x3)] [] SH u3) ∧ ((¬ z2 = z4) → False))))) : ax_J Y_L_law (ax_KL b L xs) 99 28389 823 [(0, aR 2000), (1, aR 0), (2, aR 61), (3, aI x3)] [] SH M := by
  refine j_aload_n 1 dL_law_823 rfl ?_
  refine j_aload_n 0 dL_law_824 rfl ?_
  refine j_iload_n 3 dL_law_825 rfl ?_
  refine j_iconst (x := 1) dL_law_826 rfl (i32_c rfl) ?_
  obtain ⟨o1, h⟩ := h
  refine j_iadd (z := (x3 + 1)) dL_law_827 rfl o1 ?_
  obtain ⟨o2, h⟩ := h
  refine j_sxa dL_law_828 o2.1 o2.2 ?_
  refine j_calliV (Yc := Y_X10_cut) (as := [aI (sx xs (x3 + 1))]) (rest := []) dL_law_829 q_L_83 ⟨Nat.le_of_ble_eq_true rfl, Nat.le_of_ble_eq_true rfl, Nat.le_of_ble_eq_true rfl, Nat.le_of_ble_eq_true rfl⟩ sh_0 rfl (Nat.le_of_ble_eq_true rfl) rfl (ti_mono h (fun z2 u1 h => ?_))
  refine j_aload_n 2 dL_law_832 rfl ?_
  refine j_aload_n 0 dL_law_833 rfl ?_
  refine j_iload_n 3 dL_law_834 rfl ?_
  refine j_iconst (x := 1) dL_law_835 rfl (i32_c rfl) ?_
  refine j_iadd (z := (x3 + 1)) dL_law_836 rfl o1 ?_
  refine j_sxa dL_law_837 o2.1 o2.2 ?_
  refine j_calliV (Yc := Y_X11_cut) (as := [aI (sx xs (x3 + 1))]) (rest := [aI z2]) dL_law_838 q_L_86 ⟨Nat.le_of_ble_eq_true rfl, Nat.le_of_ble_eq_true rfl, Nat.le_of_ble_eq_true rfl, Nat.le_of_ble_eq_true rfl⟩ sh_61 rfl (Nat.le_of_ble_eq_true rfl) rfl (ti_mono h (fun z4 u3 h => ?_))
  refine j_icmp_eq (tgt := 1456) dL_law_841 (by decide) (fun c3 => ?_) (fun c3 => ?_)
  · replace h := h.1 c3
    exact h
  · replace h := h.2 c3
    refine j_iconst (x := 0) dL_law_844 rfl (i32_c rfl) ?_
    exact h.elim
set_option maxRecDepth 100000 in
set_option maxHeartbeats 4000000 in
theorem B_law_846 {b L : Nat} {xs : Nat → Int32} {M : ax_M} {x3 : Int} (hL : L ≤ 3584) (h : (-2147483648 ≤ (x3 + 1) ∧ (x3 + 1) ≤ 2147483647) ∧ (0 ≤ (x3 + 1) ∧ (x3 + 1) < (L : Int)) ∧ (-2147483648 ≤ (x3 + 2) ∧ (x3 + 2) ≤ 2147483647) ∧ (0 ≤ (x3 + 2) ∧ (x3 + 2) < (L : Int)) ∧ ax_Ti Y_X10_up [aR 0, aI (sx xs (x3 + 1)), aI (sx xs (x3 + 2))] SH M (fun z2 u1 => ax_Ti Y_X11_up [aR 61, aI (sx xs (x3 + 1)), aI (sx xs (x3 + 2))] SH u1 (fun z4 u3 => (((z2 = z4) → ax_J Y_L_law (ax_KL b L xs) 99 28389 1456 [(0, aR 2000), (1, aR 0), (2, aR 61), (3, aI x3)] [] SH u3) ∧ ((¬ z2 = z4) → False))))) : ax_J Y_L_law (ax_KL b L xs) 99 28389 846 [(0, aR 2000), (1, aR 0), (2, aR 61), (3, aI x3)] [] SH M := by
  refine j_aload_n 1 dL_law_846 rfl ?_
  refine j_aload_n 0 dL_law_847 rfl ?_
  refine j_iload_n 3 dL_law_848 rfl ?_
  refine j_iconst (x := 1) dL_law_849 rfl (i32_c rfl) ?_
  obtain ⟨o1, h⟩ := h
  refine j_iadd (z := (x3 + 1)) dL_law_850 rfl o1 ?_
  obtain ⟨o2, h⟩ := h
  refine j_sxa dL_law_851 o2.1 o2.2 ?_
  refine j_aload_n 0 dL_law_852 rfl ?_
  refine j_iload_n 3 dL_law_853 rfl ?_
  refine j_iconst (x := 2) dL_law_854 rfl (i32_c rfl) ?_
  obtain ⟨o3, h⟩ := h
  refine j_iadd (z := (x3 + 2)) dL_law_855 rfl o3 ?_
  obtain ⟨o4, h⟩ := h
  refine j_sxa dL_law_856 o4.1 o4.2 ?_
  refine j_calliV (Yc := Y_X10_up) (as := [aI (sx xs (x3 + 1)), aI (sx xs (x3 + 2))]) (rest := []) dL_law_857 q_L_87 ⟨Nat.le_of_ble_eq_true rfl, Nat.le_of_ble_eq_true rfl, Nat.le_of_ble_eq_true rfl, Nat.le_of_ble_eq_true rfl⟩ sh_0 rfl (Nat.le_of_ble_eq_true rfl) rfl (ti_mono h (fun z2 u1 h => ?_))
  refine j_aload_n 2 dL_law_860 rfl ?_
  refine j_aload_n 0 dL_law_861 rfl ?_
  refine j_iload_n 3 dL_law_862 rfl ?_
  refine j_iconst (x := 1) dL_law_863 rfl (i32_c rfl) ?_
  refine j_iadd (z := (x3 + 1)) dL_law_864 rfl o1 ?_
  refine j_sxa dL_law_865 o2.1 o2.2 ?_
  refine j_aload_n 0 dL_law_866 rfl ?_
  refine j_iload_n 3 dL_law_867 rfl ?_
  refine j_iconst (x := 2) dL_law_868 rfl (i32_c rfl) ?_
  refine j_iadd (z := (x3 + 2)) dL_law_869 rfl o3 ?_
  refine j_sxa dL_law_870 o4.1 o4.2 ?_
  refine j_calliV (Yc := Y_X11_up) (as := [aI (sx xs (x3 + 1)), aI (sx xs (x3 + 2))]) (rest := [aI z2]) dL_law_871 q_L_90 ⟨Nat.le_of_ble_eq_true rfl, Nat.le_of_ble_eq_true rfl, Nat.le_of_ble_eq_true rfl, Nat.le_of_ble_eq_true rfl⟩ sh_61 rfl (Nat.le_of_ble_eq_true rfl) rfl (ti_mono h (fun z4 u3 h => ?_))
  refine j_icmp_eq (tgt := 1456) dL_law_874 (by decide) (fun c5 => ?_) (fun c5 => ?_)
  · replace h := h.1 c5
    exact h
  · replace h := h.2 c5
    refine j_iconst (x := 0) dL_law_877 rfl (i32_c rfl) ?_
    exact h.elim
set_option maxRecDepth 100000 in
set_option maxHeartbeats 4000000 in
theorem B_law_879 {b L : Nat} {xs : Nat → Int32} {M : ax_M} {x3 : Int} (hL : L ≤ 3584) (h : (-2147483648 ≤ (x3 + 1) ∧ (x3 + 1) ≤ 2147483647) ∧ (0 ≤ (x3 + 1) ∧ (x3 + 1) < (L : Int)) ∧ (-2147483648 ≤ (x3 + 2) ∧ (x3 + 2) ≤ 2147483647) ∧ (0 ≤ (x3 + 2) ∧ (x3 + 2) < (L : Int)) ∧ ax_Ti Y_X10_lent [aR 0, aI (sx xs (x3 + 1)), aI (sx xs (x3 + 2))] SH M (fun z2 u1 => ax_Ti Y_X11_lent [aR 61, aI (sx xs (x3 + 1)), aI (sx xs (x3 + 2))] SH u1 (fun z4 u3 => (((z2 = z4) → ax_J Y_L_law (ax_KL b L xs) 99 28389 1456 [(0, aR 2000), (1, aR 0), (2, aR 61), (3, aI x3)] [] SH u3) ∧ ((¬ z2 = z4) → False))))) : ax_J Y_L_law (ax_KL b L xs) 99 28389 879 [(0, aR 2000), (1, aR 0), (2, aR 61), (3, aI x3)] [] SH M := by
  refine j_aload_n 1 dL_law_879 rfl ?_
  refine j_aload_n 0 dL_law_880 rfl ?_
  refine j_iload_n 3 dL_law_881 rfl ?_
  refine j_iconst (x := 1) dL_law_882 rfl (i32_c rfl) ?_
  obtain ⟨o1, h⟩ := h
  refine j_iadd (z := (x3 + 1)) dL_law_883 rfl o1 ?_
  obtain ⟨o2, h⟩ := h
  refine j_sxa dL_law_884 o2.1 o2.2 ?_
  refine j_aload_n 0 dL_law_885 rfl ?_
  refine j_iload_n 3 dL_law_886 rfl ?_
  refine j_iconst (x := 2) dL_law_887 rfl (i32_c rfl) ?_
  obtain ⟨o3, h⟩ := h
  refine j_iadd (z := (x3 + 2)) dL_law_888 rfl o3 ?_
  obtain ⟨o4, h⟩ := h
  refine j_sxa dL_law_889 o4.1 o4.2 ?_
  refine j_calliV (Yc := Y_X10_lent) (as := [aI (sx xs (x3 + 1)), aI (sx xs (x3 + 2))]) (rest := []) dL_law_890 q_L_91 ⟨Nat.le_of_ble_eq_true rfl, Nat.le_of_ble_eq_true rfl, Nat.le_of_ble_eq_true rfl, Nat.le_of_ble_eq_true rfl⟩ sh_0 rfl (Nat.le_of_ble_eq_true rfl) rfl (ti_mono h (fun z2 u1 h => ?_))
  refine j_aload_n 2 dL_law_893 rfl ?_
  refine j_aload_n 0 dL_law_894 rfl ?_
  refine j_iload_n 3 dL_law_895 rfl ?_
  refine j_iconst (x := 1) dL_law_896 rfl (i32_c rfl) ?_
  refine j_iadd (z := (x3 + 1)) dL_law_897 rfl o1 ?_
  refine j_sxa dL_law_898 o2.1 o2.2 ?_
  refine j_aload_n 0 dL_law_899 rfl ?_
  refine j_iload_n 3 dL_law_900 rfl ?_
  refine j_iconst (x := 2) dL_law_901 rfl (i32_c rfl) ?_
  refine j_iadd (z := (x3 + 2)) dL_law_902 rfl o3 ?_
  refine j_sxa dL_law_903 o4.1 o4.2 ?_
  refine j_calliV (Yc := Y_X11_lent) (as := [aI (sx xs (x3 + 1)), aI (sx xs (x3 + 2))]) (rest := [aI z2]) dL_law_904 q_L_94 ⟨Nat.le_of_ble_eq_true rfl, Nat.le_of_ble_eq_true rfl, Nat.le_of_ble_eq_true rfl, Nat.le_of_ble_eq_true rfl⟩ sh_61 rfl (Nat.le_of_ble_eq_true rfl) rfl (ti_mono h (fun z4 u3 h => ?_))
  refine j_icmp_eq (tgt := 1456) dL_law_907 (by decide) (fun c5 => ?_) (fun c5 => ?_)
  · replace h := h.1 c5
    exact h
  · replace h := h.2 c5
    refine j_iconst (x := 0) dL_law_910 rfl (i32_c rfl) ?_
    exact h.elim
set_option maxRecDepth 100000 in
set_option maxHeartbeats 4000000 in
theorem B_law_912 {b L : Nat} {xs : Nat → Int32} {M : ax_M} {x3 : Int} (hL : L ≤ 3584) (h : (-2147483648 ≤ (x3 + 1) ∧ (x3 + 1) ≤ 2147483647) ∧ (0 ≤ (x3 + 1) ∧ (x3 + 1) < (L : Int)) ∧ (-2147483648 ≤ (x3 + 2) ∧ (x3 + 2) ≤ 2147483647) ∧ (0 ≤ (x3 + 2) ∧ (x3 + 2) < (L : Int)) ∧ (-2147483648 ≤ (x3 + 3) ∧ (x3 + 3) ≤ 2147483647) ∧ (0 ≤ (x3 + 3) ∧ (x3 + 3) < (L : Int)) ∧ ax_Ti Y_X10_mark [aR 0, aI (sx xs (x3 + 1)), aI (sx xs (x3 + 2)), aI (sx xs (x3 + 3))] SH M (fun z2 u1 => ax_Ti Y_X11_mark [aR 61, aI (sx xs (x3 + 1)), aI (sx xs (x3 + 2)), aI (sx xs (x3 + 3))] SH u1 (fun z4 u3 => (((z2 = z4) → ax_J Y_L_law (ax_KL b L xs) 99 28389 1456 [(0, aR 2000), (1, aR 0), (2, aR 61), (3, aI x3)] [] SH u3) ∧ ((¬ z2 = z4) → False))))) : ax_J Y_L_law (ax_KL b L xs) 99 28389 912 [(0, aR 2000), (1, aR 0), (2, aR 61), (3, aI x3)] [] SH M := by
  refine j_aload_n 1 dL_law_912 rfl ?_
  refine j_aload_n 0 dL_law_913 rfl ?_
  refine j_iload_n 3 dL_law_914 rfl ?_
  refine j_iconst (x := 1) dL_law_915 rfl (i32_c rfl) ?_
  obtain ⟨o1, h⟩ := h
  refine j_iadd (z := (x3 + 1)) dL_law_916 rfl o1 ?_
  obtain ⟨o2, h⟩ := h
  refine j_sxa dL_law_917 o2.1 o2.2 ?_
  refine j_aload_n 0 dL_law_918 rfl ?_
  refine j_iload_n 3 dL_law_919 rfl ?_
  refine j_iconst (x := 2) dL_law_920 rfl (i32_c rfl) ?_
  obtain ⟨o3, h⟩ := h
  refine j_iadd (z := (x3 + 2)) dL_law_921 rfl o3 ?_
  obtain ⟨o4, h⟩ := h
  refine j_sxa dL_law_922 o4.1 o4.2 ?_
  refine j_aload_n 0 dL_law_923 rfl ?_
  refine j_iload_n 3 dL_law_924 rfl ?_
  refine j_iconst (x := 3) dL_law_925 rfl (i32_c rfl) ?_
  obtain ⟨o5, h⟩ := h
  refine j_iadd (z := (x3 + 3)) dL_law_926 rfl o5 ?_
  obtain ⟨o6, h⟩ := h
  refine j_sxa dL_law_927 o6.1 o6.2 ?_
  refine j_calliV (Yc := Y_X10_mark) (as := [aI (sx xs (x3 + 1)), aI (sx xs (x3 + 2)), aI (sx xs (x3 + 3))]) (rest := []) dL_law_928 q_L_95 ⟨Nat.le_of_ble_eq_true rfl, Nat.le_of_ble_eq_true rfl, Nat.le_of_ble_eq_true rfl, Nat.le_of_ble_eq_true rfl⟩ sh_0 rfl (Nat.le_of_ble_eq_true rfl) rfl (ti_mono h (fun z2 u1 h => ?_))
  refine j_aload_n 2 dL_law_931 rfl ?_
  refine j_aload_n 0 dL_law_932 rfl ?_
  refine j_iload_n 3 dL_law_933 rfl ?_
  refine j_iconst (x := 1) dL_law_934 rfl (i32_c rfl) ?_
  refine j_iadd (z := (x3 + 1)) dL_law_935 rfl o1 ?_
  refine j_sxa dL_law_936 o2.1 o2.2 ?_
  refine j_aload_n 0 dL_law_937 rfl ?_
  refine j_iload_n 3 dL_law_938 rfl ?_
  refine j_iconst (x := 2) dL_law_939 rfl (i32_c rfl) ?_
  refine j_iadd (z := (x3 + 2)) dL_law_940 rfl o3 ?_
  refine j_sxa dL_law_941 o4.1 o4.2 ?_
  refine j_aload_n 0 dL_law_942 rfl ?_
  refine j_iload_n 3 dL_law_943 rfl ?_
  refine j_iconst (x := 3) dL_law_944 rfl (i32_c rfl) ?_
  refine j_iadd (z := (x3 + 3)) dL_law_945 rfl o5 ?_
  refine j_sxa dL_law_946 o6.1 o6.2 ?_
  refine j_calliV (Yc := Y_X11_mark) (as := [aI (sx xs (x3 + 1)), aI (sx xs (x3 + 2)), aI (sx xs (x3 + 3))]) (rest := [aI z2]) dL_law_947 q_L_99 ⟨Nat.le_of_ble_eq_true rfl, Nat.le_of_ble_eq_true rfl, Nat.le_of_ble_eq_true rfl, Nat.le_of_ble_eq_true rfl⟩ sh_61 rfl (Nat.le_of_ble_eq_true rfl) rfl (ti_mono h (fun z4 u3 h => ?_))
  refine j_icmp_eq (tgt := 1456) dL_law_950 (by decide) (fun c7 => ?_) (fun c7 => ?_)
  · replace h := h.1 c7
    exact h
  · replace h := h.2 c7
    refine j_iconst (x := 0) dL_law_953 rfl (i32_c rfl) ?_
    exact h.elim
set_option maxRecDepth 100000 in
set_option maxHeartbeats 4000000 in
theorem B_law_955 {b L : Nat} {xs : Nat → Int32} {M : ax_M} {x3 : Int} (hL : L ≤ 3584) (h : (-2147483648 ≤ (x3 + 1) ∧ (x3 + 1) ≤ 2147483647) ∧ (0 ≤ (x3 + 1) ∧ (x3 + 1) < (L : Int)) ∧ (-2147483648 ≤ (x3 + 2) ∧ (x3 + 2) ≤ 2147483647) ∧ (0 ≤ (x3 + 2) ∧ (x3 + 2) < (L : Int)) ∧ (-2147483648 ≤ (x3 + 3) ∧ (x3 + 3) ≤ 2147483647) ∧ (0 ≤ (x3 + 3) ∧ (x3 + 3) < (L : Int)) ∧ (-2147483648 ≤ (x3 + 4) ∧ (x3 + 4) ≤ 2147483647) ∧ (0 ≤ (x3 + 4) ∧ (x3 + 4) < (L : Int)) ∧ ax_Ti Y_X10_tells [aR 0, aI (sx xs (x3 + 1)), aI (sx xs (x3 + 2)), aI (sx xs (x3 + 3)), aI (sx xs (x3 + 4))] SH M (fun z2 u1 => ax_Ti Y_X11_tells [aR 61, aI (sx xs (x3 + 1)), aI (sx xs (x3 + 2)), aI (sx xs (x3 + 3)), aI (sx xs (x3 + 4))] SH u1 (fun z4 u3 => (((z2 = z4) → ax_J Y_L_law (ax_KL b L xs) 99 28389 1456 [(0, aR 2000), (1, aR 0), (2, aR 61), (3, aI x3)] [] SH u3) ∧ ((¬ z2 = z4) → False))))) : ax_J Y_L_law (ax_KL b L xs) 99 28389 955 [(0, aR 2000), (1, aR 0), (2, aR 61), (3, aI x3)] [] SH M := by
  refine j_aload_n 1 dL_law_955 rfl ?_
  refine j_aload_n 0 dL_law_956 rfl ?_
  refine j_iload_n 3 dL_law_957 rfl ?_
  refine j_iconst (x := 1) dL_law_958 rfl (i32_c rfl) ?_
  obtain ⟨o1, h⟩ := h
  refine j_iadd (z := (x3 + 1)) dL_law_959 rfl o1 ?_
  obtain ⟨o2, h⟩ := h
  refine j_sxa dL_law_960 o2.1 o2.2 ?_
  refine j_aload_n 0 dL_law_961 rfl ?_
  refine j_iload_n 3 dL_law_962 rfl ?_
  refine j_iconst (x := 2) dL_law_963 rfl (i32_c rfl) ?_
  obtain ⟨o3, h⟩ := h
  refine j_iadd (z := (x3 + 2)) dL_law_964 rfl o3 ?_
  obtain ⟨o4, h⟩ := h
  refine j_sxa dL_law_965 o4.1 o4.2 ?_
  refine j_aload_n 0 dL_law_966 rfl ?_
  refine j_iload_n 3 dL_law_967 rfl ?_
  refine j_iconst (x := 3) dL_law_968 rfl (i32_c rfl) ?_
  obtain ⟨o5, h⟩ := h
  refine j_iadd (z := (x3 + 3)) dL_law_969 rfl o5 ?_
  obtain ⟨o6, h⟩ := h
  refine j_sxa dL_law_970 o6.1 o6.2 ?_
  refine j_aload_n 0 dL_law_971 rfl ?_
  refine j_iload_n 3 dL_law_972 rfl ?_
  refine j_iconst (x := 4) dL_law_973 rfl (i32_c rfl) ?_
  obtain ⟨o7, h⟩ := h
  refine j_iadd (z := (x3 + 4)) dL_law_974 rfl o7 ?_
  obtain ⟨o8, h⟩ := h
  refine j_sxa dL_law_975 o8.1 o8.2 ?_
  refine j_calliV (Yc := Y_X10_tells) (as := [aI (sx xs (x3 + 1)), aI (sx xs (x3 + 2)), aI (sx xs (x3 + 3)), aI (sx xs (x3 + 4))]) (rest := []) dL_law_976 q_L_100 ⟨Nat.le_of_ble_eq_true rfl, Nat.le_of_ble_eq_true rfl, Nat.le_of_ble_eq_true rfl, Nat.le_of_ble_eq_true rfl⟩ sh_0 rfl (Nat.le_of_ble_eq_true rfl) rfl (ti_mono h (fun z2 u1 h => ?_))
  refine j_aload_n 2 dL_law_979 rfl ?_
  refine j_aload_n 0 dL_law_980 rfl ?_
  refine j_iload_n 3 dL_law_981 rfl ?_
  refine j_iconst (x := 1) dL_law_982 rfl (i32_c rfl) ?_
  refine j_iadd (z := (x3 + 1)) dL_law_983 rfl o1 ?_
  refine j_sxa dL_law_984 o2.1 o2.2 ?_
  refine j_aload_n 0 dL_law_985 rfl ?_
  refine j_iload_n 3 dL_law_986 rfl ?_
  refine j_iconst (x := 2) dL_law_987 rfl (i32_c rfl) ?_
  refine j_iadd (z := (x3 + 2)) dL_law_988 rfl o3 ?_
  refine j_sxa dL_law_989 o4.1 o4.2 ?_
  refine j_aload_n 0 dL_law_990 rfl ?_
  refine j_iload_n 3 dL_law_991 rfl ?_
  refine j_iconst (x := 3) dL_law_992 rfl (i32_c rfl) ?_
  refine j_iadd (z := (x3 + 3)) dL_law_993 rfl o5 ?_
  refine j_sxa dL_law_994 o6.1 o6.2 ?_
  refine j_aload_n 0 dL_law_995 rfl ?_
  refine j_iload_n 3 dL_law_996 rfl ?_
  refine j_iconst (x := 4) dL_law_997 rfl (i32_c rfl) ?_
  refine j_iadd (z := (x3 + 4)) dL_law_998 rfl o7 ?_
  refine j_sxa dL_law_999 o8.1 o8.2 ?_
  refine j_calliV (Yc := Y_X11_tells) (as := [aI (sx xs (x3 + 1)), aI (sx xs (x3 + 2)), aI (sx xs (x3 + 3)), aI (sx xs (x3 + 4))]) (rest := [aI z2]) dL_law_1000 q_L_104 ⟨Nat.le_of_ble_eq_true rfl, Nat.le_of_ble_eq_true rfl, Nat.le_of_ble_eq_true rfl, Nat.le_of_ble_eq_true rfl⟩ sh_61 rfl (Nat.le_of_ble_eq_true rfl) rfl (ti_mono h (fun z4 u3 h => ?_))
  refine j_icmp_eq (tgt := 1456) dL_law_1003 (by decide) (fun c9 => ?_) (fun c9 => ?_)
  · replace h := h.1 c9
    exact h
  · replace h := h.2 c9
    refine j_iconst (x := 0) dL_law_1006 rfl (i32_c rfl) ?_
    exact h.elim
set_option maxRecDepth 100000 in
set_option maxHeartbeats 4000000 in
theorem B_law_1008 {b L : Nat} {xs : Nat → Int32} {M : ax_M} {x3 : Int} (hL : L ≤ 3584) (h : (-2147483648 ≤ (x3 + 1) ∧ (x3 + 1) ≤ 2147483647) ∧ (0 ≤ (x3 + 1) ∧ (x3 + 1) < (L : Int)) ∧ (-2147483648 ≤ (x3 + 2) ∧ (x3 + 2) ≤ 2147483647) ∧ (0 ≤ (x3 + 2) ∧ (x3 + 2) < (L : Int)) ∧ (-2147483648 ≤ (x3 + 3) ∧ (x3 + 3) ≤ 2147483647) ∧ (0 ≤ (x3 + 3) ∧ (x3 + 3) < (L : Int)) ∧ (-2147483648 ≤ (x3 + 4) ∧ (x3 + 4) ≤ 2147483647) ∧ (0 ≤ (x3 + 4) ∧ (x3 + 4) < (L : Int)) ∧ ax_Ti Y_X10_toldBest [aR 0, aI (sx xs (x3 + 1)), aI (sx xs (x3 + 2)), aI (sx xs (x3 + 3)), aI (sx xs (x3 + 4))] SH M (fun z2 u1 => ax_Ti Y_X11_toldBest [aR 61, aI (sx xs (x3 + 1)), aI (sx xs (x3 + 2)), aI (sx xs (x3 + 3)), aI (sx xs (x3 + 4))] SH u1 (fun z4 u3 => (((z2 = z4) → ax_J Y_L_law (ax_KL b L xs) 99 28389 1456 [(0, aR 2000), (1, aR 0), (2, aR 61), (3, aI x3)] [] SH u3) ∧ ((¬ z2 = z4) → False))))) : ax_J Y_L_law (ax_KL b L xs) 99 28389 1008 [(0, aR 2000), (1, aR 0), (2, aR 61), (3, aI x3)] [] SH M := by
  refine j_aload_n 1 dL_law_1008 rfl ?_
  refine j_aload_n 0 dL_law_1009 rfl ?_
  refine j_iload_n 3 dL_law_1010 rfl ?_
  refine j_iconst (x := 1) dL_law_1011 rfl (i32_c rfl) ?_
  obtain ⟨o1, h⟩ := h
  refine j_iadd (z := (x3 + 1)) dL_law_1012 rfl o1 ?_
  obtain ⟨o2, h⟩ := h
  refine j_sxa dL_law_1013 o2.1 o2.2 ?_
  refine j_aload_n 0 dL_law_1014 rfl ?_
  refine j_iload_n 3 dL_law_1015 rfl ?_
  refine j_iconst (x := 2) dL_law_1016 rfl (i32_c rfl) ?_
  obtain ⟨o3, h⟩ := h
  refine j_iadd (z := (x3 + 2)) dL_law_1017 rfl o3 ?_
  obtain ⟨o4, h⟩ := h
  refine j_sxa dL_law_1018 o4.1 o4.2 ?_
  refine j_aload_n 0 dL_law_1019 rfl ?_
  refine j_iload_n 3 dL_law_1020 rfl ?_
  refine j_iconst (x := 3) dL_law_1021 rfl (i32_c rfl) ?_
  obtain ⟨o5, h⟩ := h
  refine j_iadd (z := (x3 + 3)) dL_law_1022 rfl o5 ?_
  obtain ⟨o6, h⟩ := h
  refine j_sxa dL_law_1023 o6.1 o6.2 ?_
  refine j_aload_n 0 dL_law_1024 rfl ?_
  refine j_iload_n 3 dL_law_1025 rfl ?_
  refine j_iconst (x := 4) dL_law_1026 rfl (i32_c rfl) ?_
  obtain ⟨o7, h⟩ := h
  refine j_iadd (z := (x3 + 4)) dL_law_1027 rfl o7 ?_
  obtain ⟨o8, h⟩ := h
  refine j_sxa dL_law_1028 o8.1 o8.2 ?_
  refine j_calliV (Yc := Y_X10_toldBest) (as := [aI (sx xs (x3 + 1)), aI (sx xs (x3 + 2)), aI (sx xs (x3 + 3)), aI (sx xs (x3 + 4))]) (rest := []) dL_law_1029 q_L_105 ⟨Nat.le_of_ble_eq_true rfl, Nat.le_of_ble_eq_true rfl, Nat.le_of_ble_eq_true rfl, Nat.le_of_ble_eq_true rfl⟩ sh_0 rfl (Nat.le_of_ble_eq_true rfl) rfl (ti_mono h (fun z2 u1 h => ?_))
  refine j_aload_n 2 dL_law_1032 rfl ?_
  refine j_aload_n 0 dL_law_1033 rfl ?_
  refine j_iload_n 3 dL_law_1034 rfl ?_
  refine j_iconst (x := 1) dL_law_1035 rfl (i32_c rfl) ?_
  refine j_iadd (z := (x3 + 1)) dL_law_1036 rfl o1 ?_
  refine j_sxa dL_law_1037 o2.1 o2.2 ?_
  refine j_aload_n 0 dL_law_1038 rfl ?_
  refine j_iload_n 3 dL_law_1039 rfl ?_
  refine j_iconst (x := 2) dL_law_1040 rfl (i32_c rfl) ?_
  refine j_iadd (z := (x3 + 2)) dL_law_1041 rfl o3 ?_
  refine j_sxa dL_law_1042 o4.1 o4.2 ?_
  refine j_aload_n 0 dL_law_1043 rfl ?_
  refine j_iload_n 3 dL_law_1044 rfl ?_
  refine j_iconst (x := 3) dL_law_1045 rfl (i32_c rfl) ?_
  refine j_iadd (z := (x3 + 3)) dL_law_1046 rfl o5 ?_
  refine j_sxa dL_law_1047 o6.1 o6.2 ?_
  refine j_aload_n 0 dL_law_1048 rfl ?_
  refine j_iload_n 3 dL_law_1049 rfl ?_
  refine j_iconst (x := 4) dL_law_1050 rfl (i32_c rfl) ?_
  refine j_iadd (z := (x3 + 4)) dL_law_1051 rfl o7 ?_
  refine j_sxa dL_law_1052 o8.1 o8.2 ?_
  refine j_calliV (Yc := Y_X11_toldBest) (as := [aI (sx xs (x3 + 1)), aI (sx xs (x3 + 2)), aI (sx xs (x3 + 3)), aI (sx xs (x3 + 4))]) (rest := [aI z2]) dL_law_1053 q_L_108 ⟨Nat.le_of_ble_eq_true rfl, Nat.le_of_ble_eq_true rfl, Nat.le_of_ble_eq_true rfl, Nat.le_of_ble_eq_true rfl⟩ sh_61 rfl (Nat.le_of_ble_eq_true rfl) rfl (ti_mono h (fun z4 u3 h => ?_))
  refine j_icmp_eq (tgt := 1456) dL_law_1056 (by decide) (fun c9 => ?_) (fun c9 => ?_)
  · replace h := h.1 c9
    exact h
  · replace h := h.2 c9
    refine j_iconst (x := 0) dL_law_1059 rfl (i32_c rfl) ?_
    exact h.elim
set_option maxRecDepth 100000 in
set_option maxHeartbeats 4000000 in
theorem B_law_1061 {b L : Nat} {xs : Nat → Int32} {M : ax_M} {x3 : Int} (hL : L ≤ 3584) (h : (-2147483648 ≤ (x3 + 1) ∧ (x3 + 1) ≤ 2147483647) ∧ (0 ≤ (x3 + 1) ∧ (x3 + 1) < (L : Int)) ∧ (-2147483648 ≤ (x3 + 2) ∧ (x3 + 2) ≤ 2147483647) ∧ (0 ≤ (x3 + 2) ∧ (x3 + 2) < (L : Int)) ∧ (-2147483648 ≤ (x3 + 3) ∧ (x3 + 3) ≤ 2147483647) ∧ (0 ≤ (x3 + 3) ∧ (x3 + 3) < (L : Int)) ∧ (-2147483648 ≤ (x3 + 4) ∧ (x3 + 4) ≤ 2147483647) ∧ (0 ≤ (x3 + 4) ∧ (x3 + 4) < (L : Int)) ∧ (-2147483648 ≤ (x3 + 5) ∧ (x3 + 5) ≤ 2147483647) ∧ (0 ≤ (x3 + 5) ∧ (x3 + 5) < (L : Int)) ∧ (-2147483648 ≤ (x3 + 6) ∧ (x3 + 6) ≤ 2147483647) ∧ (0 ≤ (x3 + 6) ∧ (x3 + 6) < (L : Int)) ∧ ax_Ti Y_X10_byTwo [aR 0, aI (sx xs (x3 + 1)), aI (sx xs (x3 + 2)), aI (sx xs (x3 + 3)), aI (sx xs (x3 + 4)), aI (sx xs (x3 + 5)), aI (sx xs (x3 + 6))] SH M (fun z2 u1 => ax_Ti Y_X11_byTwo [aR 61, aI (sx xs (x3 + 1)), aI (sx xs (x3 + 2)), aI (sx xs (x3 + 3)), aI (sx xs (x3 + 4)), aI (sx xs (x3 + 5)), aI (sx xs (x3 + 6))] SH u1 (fun z4 u3 => (((z2 = z4) → ax_J Y_L_law (ax_KL b L xs) 99 28389 1456 [(0, aR 2000), (1, aR 0), (2, aR 61), (3, aI x3)] [] SH u3) ∧ ((¬ z2 = z4) → False))))) : ax_J Y_L_law (ax_KL b L xs) 99 28389 1061 [(0, aR 2000), (1, aR 0), (2, aR 61), (3, aI x3)] [] SH M := by
  refine j_aload_n 1 dL_law_1061 rfl ?_
  refine j_aload_n 0 dL_law_1062 rfl ?_
  refine j_iload_n 3 dL_law_1063 rfl ?_
  refine j_iconst (x := 1) dL_law_1064 rfl (i32_c rfl) ?_
  obtain ⟨o1, h⟩ := h
  refine j_iadd (z := (x3 + 1)) dL_law_1065 rfl o1 ?_
  obtain ⟨o2, h⟩ := h
  refine j_sxa dL_law_1066 o2.1 o2.2 ?_
  refine j_aload_n 0 dL_law_1067 rfl ?_
  refine j_iload_n 3 dL_law_1068 rfl ?_
  refine j_iconst (x := 2) dL_law_1069 rfl (i32_c rfl) ?_
  obtain ⟨o3, h⟩ := h
  refine j_iadd (z := (x3 + 2)) dL_law_1070 rfl o3 ?_
  obtain ⟨o4, h⟩ := h
  refine j_sxa dL_law_1071 o4.1 o4.2 ?_
  refine j_aload_n 0 dL_law_1072 rfl ?_
  refine j_iload_n 3 dL_law_1073 rfl ?_
  refine j_iconst (x := 3) dL_law_1074 rfl (i32_c rfl) ?_
  obtain ⟨o5, h⟩ := h
  refine j_iadd (z := (x3 + 3)) dL_law_1075 rfl o5 ?_
  obtain ⟨o6, h⟩ := h
  refine j_sxa dL_law_1076 o6.1 o6.2 ?_
  refine j_aload_n 0 dL_law_1077 rfl ?_
  refine j_iload_n 3 dL_law_1078 rfl ?_
  refine j_iconst (x := 4) dL_law_1079 rfl (i32_c rfl) ?_
  obtain ⟨o7, h⟩ := h
  refine j_iadd (z := (x3 + 4)) dL_law_1080 rfl o7 ?_
  obtain ⟨o8, h⟩ := h
  refine j_sxa dL_law_1081 o8.1 o8.2 ?_
  refine j_aload_n 0 dL_law_1082 rfl ?_
  refine j_iload_n 3 dL_law_1083 rfl ?_
  refine j_iconst (x := 5) dL_law_1084 rfl (i32_c rfl) ?_
  obtain ⟨o9, h⟩ := h
  refine j_iadd (z := (x3 + 5)) dL_law_1085 rfl o9 ?_
  obtain ⟨o10, h⟩ := h
  refine j_sxa dL_law_1086 o10.1 o10.2 ?_
  refine j_aload_n 0 dL_law_1087 rfl ?_
  refine j_iload_n 3 dL_law_1088 rfl ?_
  refine j_bipush (x := 6) dL_law_1089 rfl (i32_c rfl) ?_
  obtain ⟨o11, h⟩ := h
  refine j_iadd (z := (x3 + 6)) dL_law_1091 rfl o11 ?_
  obtain ⟨o12, h⟩ := h
  refine j_sxa dL_law_1092 o12.1 o12.2 ?_
  refine j_calliV (Yc := Y_X10_byTwo) (as := [aI (sx xs (x3 + 1)), aI (sx xs (x3 + 2)), aI (sx xs (x3 + 3)), aI (sx xs (x3 + 4)), aI (sx xs (x3 + 5)), aI (sx xs (x3 + 6))]) (rest := []) dL_law_1093 q_L_109 ⟨Nat.le_of_ble_eq_true rfl, Nat.le_of_ble_eq_true rfl, Nat.le_of_ble_eq_true rfl, Nat.le_of_ble_eq_true rfl⟩ sh_0 rfl (Nat.le_of_ble_eq_true rfl) rfl (ti_mono h (fun z2 u1 h => ?_))
  refine j_aload_n 2 dL_law_1096 rfl ?_
  refine j_aload_n 0 dL_law_1097 rfl ?_
  refine j_iload_n 3 dL_law_1098 rfl ?_
  refine j_iconst (x := 1) dL_law_1099 rfl (i32_c rfl) ?_
  refine j_iadd (z := (x3 + 1)) dL_law_1100 rfl o1 ?_
  refine j_sxa dL_law_1101 o2.1 o2.2 ?_
  refine j_aload_n 0 dL_law_1102 rfl ?_
  refine j_iload_n 3 dL_law_1103 rfl ?_
  refine j_iconst (x := 2) dL_law_1104 rfl (i32_c rfl) ?_
  refine j_iadd (z := (x3 + 2)) dL_law_1105 rfl o3 ?_
  refine j_sxa dL_law_1106 o4.1 o4.2 ?_
  refine j_aload_n 0 dL_law_1107 rfl ?_
  refine j_iload_n 3 dL_law_1108 rfl ?_
  refine j_iconst (x := 3) dL_law_1109 rfl (i32_c rfl) ?_
  refine j_iadd (z := (x3 + 3)) dL_law_1110 rfl o5 ?_
  refine j_sxa dL_law_1111 o6.1 o6.2 ?_
  refine j_aload_n 0 dL_law_1112 rfl ?_
  refine j_iload_n 3 dL_law_1113 rfl ?_
  refine j_iconst (x := 4) dL_law_1114 rfl (i32_c rfl) ?_
  refine j_iadd (z := (x3 + 4)) dL_law_1115 rfl o7 ?_
  refine j_sxa dL_law_1116 o8.1 o8.2 ?_
  refine j_aload_n 0 dL_law_1117 rfl ?_
  refine j_iload_n 3 dL_law_1118 rfl ?_
  refine j_iconst (x := 5) dL_law_1119 rfl (i32_c rfl) ?_
  refine j_iadd (z := (x3 + 5)) dL_law_1120 rfl o9 ?_
  refine j_sxa dL_law_1121 o10.1 o10.2 ?_
  refine j_aload_n 0 dL_law_1122 rfl ?_
  refine j_iload_n 3 dL_law_1123 rfl ?_
  refine j_bipush (x := 6) dL_law_1124 rfl (i32_c rfl) ?_
  refine j_iadd (z := (x3 + 6)) dL_law_1126 rfl o11 ?_
  refine j_sxa dL_law_1127 o12.1 o12.2 ?_
  refine j_calliV (Yc := Y_X11_byTwo) (as := [aI (sx xs (x3 + 1)), aI (sx xs (x3 + 2)), aI (sx xs (x3 + 3)), aI (sx xs (x3 + 4)), aI (sx xs (x3 + 5)), aI (sx xs (x3 + 6))]) (rest := [aI z2]) dL_law_1128 q_L_113 ⟨Nat.le_of_ble_eq_true rfl, Nat.le_of_ble_eq_true rfl, Nat.le_of_ble_eq_true rfl, Nat.le_of_ble_eq_true rfl⟩ sh_61 rfl (Nat.le_of_ble_eq_true rfl) rfl (ti_mono h (fun z4 u3 h => ?_))
  refine j_icmp_eq (tgt := 1456) dL_law_1131 (by decide) (fun c13 => ?_) (fun c13 => ?_)
  · replace h := h.1 c13
    exact h
  · replace h := h.2 c13
    refine j_iconst (x := 0) dL_law_1134 rfl (i32_c rfl) ?_
    exact h.elim
set_option maxRecDepth 100000 in
set_option maxHeartbeats 4000000 in
theorem B_law_1136 {b L : Nat} {xs : Nat → Int32} {M : ax_M} {x3 : Int} (hL : L ≤ 3584) (h : (-2147483648 ≤ (x3 + 1) ∧ (x3 + 1) ≤ 2147483647) ∧ (0 ≤ (x3 + 1) ∧ (x3 + 1) < (L : Int)) ∧ (-2147483648 ≤ (x3 + 2) ∧ (x3 + 2) ≤ 2147483647) ∧ (0 ≤ (x3 + 2) ∧ (x3 + 2) < (L : Int)) ∧ (-2147483648 ≤ (x3 + 3) ∧ (x3 + 3) ≤ 2147483647) ∧ (0 ≤ (x3 + 3) ∧ (x3 + 3) < (L : Int)) ∧ ax_Ti Y_X10_tooLate [aR 0, aI (sx xs (x3 + 1)), aI (sx xs (x3 + 2)), aI (sx xs (x3 + 3))] SH M (fun z2 u1 => ax_Ti Y_X11_tooLate [aR 61, aI (sx xs (x3 + 1)), aI (sx xs (x3 + 2)), aI (sx xs (x3 + 3))] SH u1 (fun z4 u3 => (((z2 = z4) → ax_J Y_L_law (ax_KL b L xs) 99 28389 1456 [(0, aR 2000), (1, aR 0), (2, aR 61), (3, aI x3)] [] SH u3) ∧ ((¬ z2 = z4) → False))))) : ax_J Y_L_law (ax_KL b L xs) 99 28389 1136 [(0, aR 2000), (1, aR 0), (2, aR 61), (3, aI x3)] [] SH M := by
  refine j_aload_n 1 dL_law_1136 rfl ?_
  refine j_aload_n 0 dL_law_1137 rfl ?_
  refine j_iload_n 3 dL_law_1138 rfl ?_
  refine j_iconst (x := 1) dL_law_1139 rfl (i32_c rfl) ?_
  obtain ⟨o1, h⟩ := h
  refine j_iadd (z := (x3 + 1)) dL_law_1140 rfl o1 ?_
  obtain ⟨o2, h⟩ := h
  refine j_sxa dL_law_1141 o2.1 o2.2 ?_
  refine j_aload_n 0 dL_law_1142 rfl ?_
  refine j_iload_n 3 dL_law_1143 rfl ?_
  refine j_iconst (x := 2) dL_law_1144 rfl (i32_c rfl) ?_
  obtain ⟨o3, h⟩ := h
  refine j_iadd (z := (x3 + 2)) dL_law_1145 rfl o3 ?_
  obtain ⟨o4, h⟩ := h
  refine j_sxa dL_law_1146 o4.1 o4.2 ?_
  refine j_aload_n 0 dL_law_1147 rfl ?_
  refine j_iload_n 3 dL_law_1148 rfl ?_
  refine j_iconst (x := 3) dL_law_1149 rfl (i32_c rfl) ?_
  obtain ⟨o5, h⟩ := h
  refine j_iadd (z := (x3 + 3)) dL_law_1150 rfl o5 ?_
  obtain ⟨o6, h⟩ := h
  refine j_sxa dL_law_1151 o6.1 o6.2 ?_
  refine j_calliV (Yc := Y_X10_tooLate) (as := [aI (sx xs (x3 + 1)), aI (sx xs (x3 + 2)), aI (sx xs (x3 + 3))]) (rest := []) dL_law_1152 q_L_114 ⟨Nat.le_of_ble_eq_true rfl, Nat.le_of_ble_eq_true rfl, Nat.le_of_ble_eq_true rfl, Nat.le_of_ble_eq_true rfl⟩ sh_0 rfl (Nat.le_of_ble_eq_true rfl) rfl (ti_mono h (fun z2 u1 h => ?_))
  refine j_aload_n 2 dL_law_1155 rfl ?_
  refine j_aload_n 0 dL_law_1156 rfl ?_
  refine j_iload_n 3 dL_law_1157 rfl ?_
  refine j_iconst (x := 1) dL_law_1158 rfl (i32_c rfl) ?_
  refine j_iadd (z := (x3 + 1)) dL_law_1159 rfl o1 ?_
  refine j_sxa dL_law_1160 o2.1 o2.2 ?_
  refine j_aload_n 0 dL_law_1161 rfl ?_
  refine j_iload_n 3 dL_law_1162 rfl ?_
  refine j_iconst (x := 2) dL_law_1163 rfl (i32_c rfl) ?_
  refine j_iadd (z := (x3 + 2)) dL_law_1164 rfl o3 ?_
  refine j_sxa dL_law_1165 o4.1 o4.2 ?_
  refine j_aload_n 0 dL_law_1166 rfl ?_
  refine j_iload_n 3 dL_law_1167 rfl ?_
  refine j_iconst (x := 3) dL_law_1168 rfl (i32_c rfl) ?_
  refine j_iadd (z := (x3 + 3)) dL_law_1169 rfl o5 ?_
  refine j_sxa dL_law_1170 o6.1 o6.2 ?_
  refine j_calliV (Yc := Y_X11_tooLate) (as := [aI (sx xs (x3 + 1)), aI (sx xs (x3 + 2)), aI (sx xs (x3 + 3))]) (rest := [aI z2]) dL_law_1171 q_L_117 ⟨Nat.le_of_ble_eq_true rfl, Nat.le_of_ble_eq_true rfl, Nat.le_of_ble_eq_true rfl, Nat.le_of_ble_eq_true rfl⟩ sh_61 rfl (Nat.le_of_ble_eq_true rfl) rfl (ti_mono h (fun z4 u3 h => ?_))
  refine j_icmp_eq (tgt := 1456) dL_law_1174 (by decide) (fun c7 => ?_) (fun c7 => ?_)
  · replace h := h.1 c7
    exact h
  · replace h := h.2 c7
    refine j_iconst (x := 0) dL_law_1177 rfl (i32_c rfl) ?_
    exact h.elim
set_option maxRecDepth 100000 in
set_option maxHeartbeats 4000000 in
theorem B_law_1179 {b L : Nat} {xs : Nat → Int32} {M : ax_M} {x3 : Int} (hL : L ≤ 3584) (h : (-2147483648 ≤ (x3 + 1) ∧ (x3 + 1) ≤ 2147483647) ∧ (0 ≤ (x3 + 1) ∧ (x3 + 1) < (L : Int)) ∧ ax_Ti Y_X10_go [aR 0, aI (sx xs (x3 + 1))] SH M (fun z2 u1 => ax_Ti Y_X11_go [aR 61, aI (sx xs (x3 + 1))] SH u1 (fun z4 u3 => (((z2 = z4) → ax_J Y_L_law (ax_KL b L xs) 99 28389 1456 [(0, aR 2000), (1, aR 0), (2, aR 61), (3, aI x3)] [] SH u3) ∧ ((¬ z2 = z4) → False))))) : ax_J Y_L_law (ax_KL b L xs) 99 28389 1179 [(0, aR 2000), (1, aR 0), (2, aR 61), (3, aI x3)] [] SH M := by
  refine j_aload_n 1 dL_law_1179 rfl ?_
  refine j_aload_n 0 dL_law_1180 rfl ?_
  refine j_iload_n 3 dL_law_1181 rfl ?_
  refine j_iconst (x := 1) dL_law_1182 rfl (i32_c rfl) ?_
  obtain ⟨o1, h⟩ := h
  refine j_iadd (z := (x3 + 1)) dL_law_1183 rfl o1 ?_
  obtain ⟨o2, h⟩ := h
  refine j_sxa dL_law_1184 o2.1 o2.2 ?_
  refine j_calliV (Yc := Y_X10_go) (as := [aI (sx xs (x3 + 1))]) (rest := []) dL_law_1185 q_L_118 ⟨Nat.le_of_ble_eq_true rfl, Nat.le_of_ble_eq_true rfl, Nat.le_of_ble_eq_true rfl, Nat.le_of_ble_eq_true rfl⟩ sh_0 rfl (Nat.le_of_ble_eq_true rfl) rfl (ti_mono h (fun z2 u1 h => ?_))
  refine j_aload_n 2 dL_law_1188 rfl ?_
  refine j_aload_n 0 dL_law_1189 rfl ?_
  refine j_iload_n 3 dL_law_1190 rfl ?_
  refine j_iconst (x := 1) dL_law_1191 rfl (i32_c rfl) ?_
  refine j_iadd (z := (x3 + 1)) dL_law_1192 rfl o1 ?_
  refine j_sxa dL_law_1193 o2.1 o2.2 ?_
  refine j_calliV (Yc := Y_X11_go) (as := [aI (sx xs (x3 + 1))]) (rest := [aI z2]) dL_law_1194 q_L_121 ⟨Nat.le_of_ble_eq_true rfl, Nat.le_of_ble_eq_true rfl, Nat.le_of_ble_eq_true rfl, Nat.le_of_ble_eq_true rfl⟩ sh_61 rfl (Nat.le_of_ble_eq_true rfl) rfl (ti_mono h (fun z4 u3 h => ?_))
  refine j_icmp_eq (tgt := 1456) dL_law_1197 (by decide) (fun c3 => ?_) (fun c3 => ?_)
  · replace h := h.1 c3
    exact h
  · replace h := h.2 c3
    refine j_iconst (x := 0) dL_law_1200 rfl (i32_c rfl) ?_
    exact h.elim
set_option maxRecDepth 100000 in
set_option maxHeartbeats 4000000 in
theorem B_law_1202 {b L : Nat} {xs : Nat → Int32} {M : ax_M} {x3 : Int} (hL : L ≤ 3584) (h : ax_Ti Y_X10_clear [aR 0] SH M (fun z2 u1 => ax_Ti Y_X11_clear [aR 61] SH u1 (fun z4 u3 => (((z2 = z4) → ax_J Y_L_law (ax_KL b L xs) 99 28389 1456 [(0, aR 2000), (1, aR 0), (2, aR 61), (3, aI x3)] [] SH u3) ∧ ((¬ z2 = z4) → False))))) : ax_J Y_L_law (ax_KL b L xs) 99 28389 1202 [(0, aR 2000), (1, aR 0), (2, aR 61), (3, aI x3)] [] SH M := by
  refine j_aload_n 1 dL_law_1202 rfl ?_
  refine j_calliV (Yc := Y_X10_clear) (as := []) (rest := []) dL_law_1203 q_L_122 ⟨Nat.le_of_ble_eq_true rfl, Nat.le_of_ble_eq_true rfl, Nat.le_of_ble_eq_true rfl, Nat.le_of_ble_eq_true rfl⟩ sh_0 rfl (Nat.le_of_ble_eq_true rfl) rfl (ti_mono h (fun z2 u1 h => ?_))
  refine j_aload_n 2 dL_law_1206 rfl ?_
  refine j_calliV (Yc := Y_X11_clear) (as := []) (rest := [aI z2]) dL_law_1207 q_L_125 ⟨Nat.le_of_ble_eq_true rfl, Nat.le_of_ble_eq_true rfl, Nat.le_of_ble_eq_true rfl, Nat.le_of_ble_eq_true rfl⟩ sh_61 rfl (Nat.le_of_ble_eq_true rfl) rfl (ti_mono h (fun z4 u3 h => ?_))
  refine j_icmp_eq (tgt := 1456) dL_law_1210 (by decide) (fun c1 => ?_) (fun c1 => ?_)
  · replace h := h.1 c1
    exact h
  · replace h := h.2 c1
    refine j_iconst (x := 0) dL_law_1213 rfl (i32_c rfl) ?_
    exact h.elim
set_option maxRecDepth 100000 in
set_option maxHeartbeats 4000000 in
theorem B_law_1215 {b L : Nat} {xs : Nat → Int32} {M : ax_M} {x3 : Int} (hL : L ≤ 3584) (h : (-2147483648 ≤ (x3 + 1) ∧ (x3 + 1) ≤ 2147483647) ∧ (0 ≤ (x3 + 1) ∧ (x3 + 1) < (L : Int)) ∧ (-2147483648 ≤ (x3 + 2) ∧ (x3 + 2) ≤ 2147483647) ∧ (0 ≤ (x3 + 2) ∧ (x3 + 2) < (L : Int)) ∧ (-2147483648 ≤ (x3 + 3) ∧ (x3 + 3) ≤ 2147483647) ∧ (0 ≤ (x3 + 3) ∧ (x3 + 3) < (L : Int)) ∧ (-2147483648 ≤ (x3 + 4) ∧ (x3 + 4) ≤ 2147483647) ∧ (0 ≤ (x3 + 4) ∧ (x3 + 4) < (L : Int)) ∧ ax_Ti Y_X10_judge [aR 0, aI (sx xs (x3 + 1)), aI (sx xs (x3 + 2)), aI (sx xs (x3 + 3)), aI (sx xs (x3 + 4))] SH M (fun z2 u1 => ax_Ti Y_X11_judge [aR 61, aI (sx xs (x3 + 1)), aI (sx xs (x3 + 2)), aI (sx xs (x3 + 3)), aI (sx xs (x3 + 4))] SH u1 (fun z4 u3 => (((z2 = z4) → ax_J Y_L_law (ax_KL b L xs) 99 28389 1456 [(0, aR 2000), (1, aR 0), (2, aR 61), (3, aI x3)] [] SH u3) ∧ ((¬ z2 = z4) → False))))) : ax_J Y_L_law (ax_KL b L xs) 99 28389 1215 [(0, aR 2000), (1, aR 0), (2, aR 61), (3, aI x3)] [] SH M := by
  refine j_aload_n 1 dL_law_1215 rfl ?_
  refine j_aload_n 0 dL_law_1216 rfl ?_
  refine j_iload_n 3 dL_law_1217 rfl ?_
  refine j_iconst (x := 1) dL_law_1218 rfl (i32_c rfl) ?_
  obtain ⟨o1, h⟩ := h
  refine j_iadd (z := (x3 + 1)) dL_law_1219 rfl o1 ?_
  obtain ⟨o2, h⟩ := h
  refine j_sxa dL_law_1220 o2.1 o2.2 ?_
  refine j_aload_n 0 dL_law_1221 rfl ?_
  refine j_iload_n 3 dL_law_1222 rfl ?_
  refine j_iconst (x := 2) dL_law_1223 rfl (i32_c rfl) ?_
  obtain ⟨o3, h⟩ := h
  refine j_iadd (z := (x3 + 2)) dL_law_1224 rfl o3 ?_
  obtain ⟨o4, h⟩ := h
  refine j_sxa dL_law_1225 o4.1 o4.2 ?_
  refine j_aload_n 0 dL_law_1226 rfl ?_
  refine j_iload_n 3 dL_law_1227 rfl ?_
  refine j_iconst (x := 3) dL_law_1228 rfl (i32_c rfl) ?_
  obtain ⟨o5, h⟩ := h
  refine j_iadd (z := (x3 + 3)) dL_law_1229 rfl o5 ?_
  obtain ⟨o6, h⟩ := h
  refine j_sxa dL_law_1230 o6.1 o6.2 ?_
  refine j_aload_n 0 dL_law_1231 rfl ?_
  refine j_iload_n 3 dL_law_1232 rfl ?_
  refine j_iconst (x := 4) dL_law_1233 rfl (i32_c rfl) ?_
  obtain ⟨o7, h⟩ := h
  refine j_iadd (z := (x3 + 4)) dL_law_1234 rfl o7 ?_
  obtain ⟨o8, h⟩ := h
  refine j_sxa dL_law_1235 o8.1 o8.2 ?_
  refine j_calliV (Yc := Y_X10_judge) (as := [aI (sx xs (x3 + 1)), aI (sx xs (x3 + 2)), aI (sx xs (x3 + 3)), aI (sx xs (x3 + 4))]) (rest := []) dL_law_1236 q_L_126 ⟨Nat.le_of_ble_eq_true rfl, Nat.le_of_ble_eq_true rfl, Nat.le_of_ble_eq_true rfl, Nat.le_of_ble_eq_true rfl⟩ sh_0 rfl (Nat.le_of_ble_eq_true rfl) rfl (ti_mono h (fun z2 u1 h => ?_))
  refine j_aload_n 2 dL_law_1239 rfl ?_
  refine j_aload_n 0 dL_law_1240 rfl ?_
  refine j_iload_n 3 dL_law_1241 rfl ?_
  refine j_iconst (x := 1) dL_law_1242 rfl (i32_c rfl) ?_
  refine j_iadd (z := (x3 + 1)) dL_law_1243 rfl o1 ?_
  refine j_sxa dL_law_1244 o2.1 o2.2 ?_
  refine j_aload_n 0 dL_law_1245 rfl ?_
  refine j_iload_n 3 dL_law_1246 rfl ?_
  refine j_iconst (x := 2) dL_law_1247 rfl (i32_c rfl) ?_
  refine j_iadd (z := (x3 + 2)) dL_law_1248 rfl o3 ?_
  refine j_sxa dL_law_1249 o4.1 o4.2 ?_
  refine j_aload_n 0 dL_law_1250 rfl ?_
  refine j_iload_n 3 dL_law_1251 rfl ?_
  refine j_iconst (x := 3) dL_law_1252 rfl (i32_c rfl) ?_
  refine j_iadd (z := (x3 + 3)) dL_law_1253 rfl o5 ?_
  refine j_sxa dL_law_1254 o6.1 o6.2 ?_
  refine j_aload_n 0 dL_law_1255 rfl ?_
  refine j_iload_n 3 dL_law_1256 rfl ?_
  refine j_iconst (x := 4) dL_law_1257 rfl (i32_c rfl) ?_
  refine j_iadd (z := (x3 + 4)) dL_law_1258 rfl o7 ?_
  refine j_sxa dL_law_1259 o8.1 o8.2 ?_
  refine j_calliV (Yc := Y_X11_judge) (as := [aI (sx xs (x3 + 1)), aI (sx xs (x3 + 2)), aI (sx xs (x3 + 3)), aI (sx xs (x3 + 4))]) (rest := [aI z2]) dL_law_1260 q_L_129 ⟨Nat.le_of_ble_eq_true rfl, Nat.le_of_ble_eq_true rfl, Nat.le_of_ble_eq_true rfl, Nat.le_of_ble_eq_true rfl⟩ sh_61 rfl (Nat.le_of_ble_eq_true rfl) rfl (ti_mono h (fun z4 u3 h => ?_))
  refine j_icmp_eq (tgt := 1456) dL_law_1263 (by decide) (fun c9 => ?_) (fun c9 => ?_)
  · replace h := h.1 c9
    exact h
  · replace h := h.2 c9
    refine j_iconst (x := 0) dL_law_1266 rfl (i32_c rfl) ?_
    exact h.elim
set_option maxRecDepth 100000 in
set_option maxHeartbeats 4000000 in
theorem B_law_1268 {b L : Nat} {xs : Nat → Int32} {M : ax_M} {x3 : Int} (hL : L ≤ 3584) (h : (-2147483648 ≤ (x3 + 1) ∧ (x3 + 1) ≤ 2147483647) ∧ (0 ≤ (x3 + 1) ∧ (x3 + 1) < (L : Int)) ∧ (-2147483648 ≤ (x3 + 2) ∧ (x3 + 2) ≤ 2147483647) ∧ (0 ≤ (x3 + 2) ∧ (x3 + 2) < (L : Int)) ∧ ax_Ti Y_X10_opens [aR 0, aI (sx xs (x3 + 1)), aI (sx xs (x3 + 2))] SH M (fun z2 u1 => ax_Ti Y_X11_opens [aR 61, aI (sx xs (x3 + 1)), aI (sx xs (x3 + 2))] SH u1 (fun z4 u3 => (((z2 = z4) → ax_J Y_L_law (ax_KL b L xs) 99 28389 1456 [(0, aR 2000), (1, aR 0), (2, aR 61), (3, aI x3)] [] SH u3) ∧ ((¬ z2 = z4) → False))))) : ax_J Y_L_law (ax_KL b L xs) 99 28389 1268 [(0, aR 2000), (1, aR 0), (2, aR 61), (3, aI x3)] [] SH M := by
  refine j_aload_n 1 dL_law_1268 rfl ?_
  refine j_aload_n 0 dL_law_1269 rfl ?_
  refine j_iload_n 3 dL_law_1270 rfl ?_
  refine j_iconst (x := 1) dL_law_1271 rfl (i32_c rfl) ?_
  obtain ⟨o1, h⟩ := h
  refine j_iadd (z := (x3 + 1)) dL_law_1272 rfl o1 ?_
  obtain ⟨o2, h⟩ := h
  refine j_sxa dL_law_1273 o2.1 o2.2 ?_
  refine j_aload_n 0 dL_law_1274 rfl ?_
  refine j_iload_n 3 dL_law_1275 rfl ?_
  refine j_iconst (x := 2) dL_law_1276 rfl (i32_c rfl) ?_
  obtain ⟨o3, h⟩ := h
  refine j_iadd (z := (x3 + 2)) dL_law_1277 rfl o3 ?_
  obtain ⟨o4, h⟩ := h
  refine j_sxa dL_law_1278 o4.1 o4.2 ?_
  refine j_calliV (Yc := Y_X10_opens) (as := [aI (sx xs (x3 + 1)), aI (sx xs (x3 + 2))]) (rest := []) dL_law_1279 q_L_130 ⟨Nat.le_of_ble_eq_true rfl, Nat.le_of_ble_eq_true rfl, Nat.le_of_ble_eq_true rfl, Nat.le_of_ble_eq_true rfl⟩ sh_0 rfl (Nat.le_of_ble_eq_true rfl) rfl (ti_mono h (fun z2 u1 h => ?_))
  refine j_aload_n 2 dL_law_1282 rfl ?_
  refine j_aload_n 0 dL_law_1283 rfl ?_
  refine j_iload_n 3 dL_law_1284 rfl ?_
  refine j_iconst (x := 1) dL_law_1285 rfl (i32_c rfl) ?_
  refine j_iadd (z := (x3 + 1)) dL_law_1286 rfl o1 ?_
  refine j_sxa dL_law_1287 o2.1 o2.2 ?_
  refine j_aload_n 0 dL_law_1288 rfl ?_
  refine j_iload_n 3 dL_law_1289 rfl ?_
  refine j_iconst (x := 2) dL_law_1290 rfl (i32_c rfl) ?_
  refine j_iadd (z := (x3 + 2)) dL_law_1291 rfl o3 ?_
  refine j_sxa dL_law_1292 o4.1 o4.2 ?_
  refine j_calliV (Yc := Y_X11_opens) (as := [aI (sx xs (x3 + 1)), aI (sx xs (x3 + 2))]) (rest := [aI z2]) dL_law_1293 q_L_133 ⟨Nat.le_of_ble_eq_true rfl, Nat.le_of_ble_eq_true rfl, Nat.le_of_ble_eq_true rfl, Nat.le_of_ble_eq_true rfl⟩ sh_61 rfl (Nat.le_of_ble_eq_true rfl) rfl (ti_mono h (fun z4 u3 h => ?_))
  refine j_icmp_eq (tgt := 1456) dL_law_1296 (by decide) (fun c5 => ?_) (fun c5 => ?_)
  · replace h := h.1 c5
    exact h
  · replace h := h.2 c5
    refine j_iconst (x := 0) dL_law_1299 rfl (i32_c rfl) ?_
    exact h.elim
set_option maxRecDepth 100000 in
set_option maxHeartbeats 4000000 in
theorem B_law_1301 {b L : Nat} {xs : Nat → Int32} {M : ax_M} {x3 : Int} (hL : L ≤ 3584) (h : (-2147483648 ≤ (x3 + 1) ∧ (x3 + 1) ≤ 2147483647) ∧ (0 ≤ (x3 + 1) ∧ (x3 + 1) < (L : Int)) ∧ (-2147483648 ≤ (x3 + 2) ∧ (x3 + 2) ≤ 2147483647) ∧ (0 ≤ (x3 + 2) ∧ (x3 + 2) < (L : Int)) ∧ ax_Ti Y_X10_safe [aR 0, aI (sx xs (x3 + 1)), aI (sx xs (x3 + 2))] SH M (fun z2 u1 => ax_Ti Y_X11_safe [aR 61, aI (sx xs (x3 + 1)), aI (sx xs (x3 + 2))] SH u1 (fun z4 u3 => (((z2 = z4) → ax_J Y_L_law (ax_KL b L xs) 99 28389 1456 [(0, aR 2000), (1, aR 0), (2, aR 61), (3, aI x3)] [] SH u3) ∧ ((¬ z2 = z4) → False))))) : ax_J Y_L_law (ax_KL b L xs) 99 28389 1301 [(0, aR 2000), (1, aR 0), (2, aR 61), (3, aI x3)] [] SH M := by
  refine j_aload_n 1 dL_law_1301 rfl ?_
  refine j_aload_n 0 dL_law_1302 rfl ?_
  refine j_iload_n 3 dL_law_1303 rfl ?_
  refine j_iconst (x := 1) dL_law_1304 rfl (i32_c rfl) ?_
  obtain ⟨o1, h⟩ := h
  refine j_iadd (z := (x3 + 1)) dL_law_1305 rfl o1 ?_
  obtain ⟨o2, h⟩ := h
  refine j_sxa dL_law_1306 o2.1 o2.2 ?_
  refine j_aload_n 0 dL_law_1307 rfl ?_
  refine j_iload_n 3 dL_law_1308 rfl ?_
  refine j_iconst (x := 2) dL_law_1309 rfl (i32_c rfl) ?_
  obtain ⟨o3, h⟩ := h
  refine j_iadd (z := (x3 + 2)) dL_law_1310 rfl o3 ?_
  obtain ⟨o4, h⟩ := h
  refine j_sxa dL_law_1311 o4.1 o4.2 ?_
  refine j_calliV (Yc := Y_X10_safe) (as := [aI (sx xs (x3 + 1)), aI (sx xs (x3 + 2))]) (rest := []) dL_law_1312 q_L_134 ⟨Nat.le_of_ble_eq_true rfl, Nat.le_of_ble_eq_true rfl, Nat.le_of_ble_eq_true rfl, Nat.le_of_ble_eq_true rfl⟩ sh_0 rfl (Nat.le_of_ble_eq_true rfl) rfl (ti_mono h (fun z2 u1 h => ?_))
  refine j_aload_n 2 dL_law_1315 rfl ?_
  refine j_aload_n 0 dL_law_1316 rfl ?_
  refine j_iload_n 3 dL_law_1317 rfl ?_
  refine j_iconst (x := 1) dL_law_1318 rfl (i32_c rfl) ?_
  refine j_iadd (z := (x3 + 1)) dL_law_1319 rfl o1 ?_
  refine j_sxa dL_law_1320 o2.1 o2.2 ?_
  refine j_aload_n 0 dL_law_1321 rfl ?_
  refine j_iload_n 3 dL_law_1322 rfl ?_
  refine j_iconst (x := 2) dL_law_1323 rfl (i32_c rfl) ?_
  refine j_iadd (z := (x3 + 2)) dL_law_1324 rfl o3 ?_
  refine j_sxa dL_law_1325 o4.1 o4.2 ?_
  refine j_calliV (Yc := Y_X11_safe) (as := [aI (sx xs (x3 + 1)), aI (sx xs (x3 + 2))]) (rest := [aI z2]) dL_law_1326 q_L_137 ⟨Nat.le_of_ble_eq_true rfl, Nat.le_of_ble_eq_true rfl, Nat.le_of_ble_eq_true rfl, Nat.le_of_ble_eq_true rfl⟩ sh_61 rfl (Nat.le_of_ble_eq_true rfl) rfl (ti_mono h (fun z4 u3 h => ?_))
  refine j_icmp_eq (tgt := 1456) dL_law_1329 (by decide) (fun c5 => ?_) (fun c5 => ?_)
  · replace h := h.1 c5
    exact h
  · replace h := h.2 c5
    refine j_iconst (x := 0) dL_law_1332 rfl (i32_c rfl) ?_
    exact h.elim
set_option maxRecDepth 100000 in
set_option maxHeartbeats 4000000 in
theorem B_law_1334 {b L : Nat} {xs : Nat → Int32} {M : ax_M} {x3 : Int} (hL : L ≤ 3584) (h : (-2147483648 ≤ (x3 + 1) ∧ (x3 + 1) ≤ 2147483647) ∧ (0 ≤ (x3 + 1) ∧ (x3 + 1) < (L : Int)) ∧ (-2147483648 ≤ (x3 + 2) ∧ (x3 + 2) ≤ 2147483647) ∧ (0 ≤ (x3 + 2) ∧ (x3 + 2) < (L : Int)) ∧ (-2147483648 ≤ (x3 + 3) ∧ (x3 + 3) ≤ 2147483647) ∧ (0 ≤ (x3 + 3) ∧ (x3 + 3) < (L : Int)) ∧ ax_Ti Y_X10_safest [aR 0, aI (sx xs (x3 + 1)), aI (sx xs (x3 + 2)), aI (sx xs (x3 + 3))] SH M (fun z2 u1 => ax_Ti Y_X11_safest [aR 61, aI (sx xs (x3 + 1)), aI (sx xs (x3 + 2)), aI (sx xs (x3 + 3))] SH u1 (fun z4 u3 => (((z2 = z4) → ax_J Y_L_law (ax_KL b L xs) 99 28389 1456 [(0, aR 2000), (1, aR 0), (2, aR 61), (3, aI x3)] [] SH u3) ∧ ((¬ z2 = z4) → False))))) : ax_J Y_L_law (ax_KL b L xs) 99 28389 1334 [(0, aR 2000), (1, aR 0), (2, aR 61), (3, aI x3)] [] SH M := by
  refine j_aload_n 1 dL_law_1334 rfl ?_
  refine j_aload_n 0 dL_law_1335 rfl ?_
  refine j_iload_n 3 dL_law_1336 rfl ?_
  refine j_iconst (x := 1) dL_law_1337 rfl (i32_c rfl) ?_
  obtain ⟨o1, h⟩ := h
  refine j_iadd (z := (x3 + 1)) dL_law_1338 rfl o1 ?_
  obtain ⟨o2, h⟩ := h
  refine j_sxa dL_law_1339 o2.1 o2.2 ?_
  refine j_aload_n 0 dL_law_1340 rfl ?_
  refine j_iload_n 3 dL_law_1341 rfl ?_
  refine j_iconst (x := 2) dL_law_1342 rfl (i32_c rfl) ?_
  obtain ⟨o3, h⟩ := h
  refine j_iadd (z := (x3 + 2)) dL_law_1343 rfl o3 ?_
  obtain ⟨o4, h⟩ := h
  refine j_sxa dL_law_1344 o4.1 o4.2 ?_
  refine j_aload_n 0 dL_law_1345 rfl ?_
  refine j_iload_n 3 dL_law_1346 rfl ?_
  refine j_iconst (x := 3) dL_law_1347 rfl (i32_c rfl) ?_
  obtain ⟨o5, h⟩ := h
  refine j_iadd (z := (x3 + 3)) dL_law_1348 rfl o5 ?_
  obtain ⟨o6, h⟩ := h
  refine j_sxa dL_law_1349 o6.1 o6.2 ?_
  refine j_calliV (Yc := Y_X10_safest) (as := [aI (sx xs (x3 + 1)), aI (sx xs (x3 + 2)), aI (sx xs (x3 + 3))]) (rest := []) dL_law_1350 q_L_138 ⟨Nat.le_of_ble_eq_true rfl, Nat.le_of_ble_eq_true rfl, Nat.le_of_ble_eq_true rfl, Nat.le_of_ble_eq_true rfl⟩ sh_0 rfl (Nat.le_of_ble_eq_true rfl) rfl (ti_mono h (fun z2 u1 h => ?_))
  refine j_aload_n 2 dL_law_1353 rfl ?_
  refine j_aload_n 0 dL_law_1354 rfl ?_
  refine j_iload_n 3 dL_law_1355 rfl ?_
  refine j_iconst (x := 1) dL_law_1356 rfl (i32_c rfl) ?_
  refine j_iadd (z := (x3 + 1)) dL_law_1357 rfl o1 ?_
  refine j_sxa dL_law_1358 o2.1 o2.2 ?_
  refine j_aload_n 0 dL_law_1359 rfl ?_
  refine j_iload_n 3 dL_law_1360 rfl ?_
  refine j_iconst (x := 2) dL_law_1361 rfl (i32_c rfl) ?_
  refine j_iadd (z := (x3 + 2)) dL_law_1362 rfl o3 ?_
  refine j_sxa dL_law_1363 o4.1 o4.2 ?_
  refine j_aload_n 0 dL_law_1364 rfl ?_
  refine j_iload_n 3 dL_law_1365 rfl ?_
  refine j_iconst (x := 3) dL_law_1366 rfl (i32_c rfl) ?_
  refine j_iadd (z := (x3 + 3)) dL_law_1367 rfl o5 ?_
  refine j_sxa dL_law_1368 o6.1 o6.2 ?_
  refine j_calliV (Yc := Y_X11_safest) (as := [aI (sx xs (x3 + 1)), aI (sx xs (x3 + 2)), aI (sx xs (x3 + 3))]) (rest := [aI z2]) dL_law_1369 q_L_141 ⟨Nat.le_of_ble_eq_true rfl, Nat.le_of_ble_eq_true rfl, Nat.le_of_ble_eq_true rfl, Nat.le_of_ble_eq_true rfl⟩ sh_61 rfl (Nat.le_of_ble_eq_true rfl) rfl (ti_mono h (fun z4 u3 h => ?_))
  refine j_icmp_eq (tgt := 1456) dL_law_1372 (by decide) (fun c7 => ?_) (fun c7 => ?_)
  · replace h := h.1 c7
    exact h
  · replace h := h.2 c7
    refine j_iconst (x := 0) dL_law_1375 rfl (i32_c rfl) ?_
    exact h.elim
set_option maxRecDepth 100000 in
set_option maxHeartbeats 4000000 in
theorem B_law_1377 {b L : Nat} {xs : Nat → Int32} {M : ax_M} {x3 : Int} (hL : L ≤ 3584) (h : (-2147483648 ≤ (x3 + 1) ∧ (x3 + 1) ≤ 2147483647) ∧ (0 ≤ (x3 + 1) ∧ (x3 + 1) < (L : Int)) ∧ (-2147483648 ≤ (x3 + 2) ∧ (x3 + 2) ≤ 2147483647) ∧ (0 ≤ (x3 + 2) ∧ (x3 + 2) < (L : Int)) ∧ ax_Ti Y_X10_knock [aR 0, aI (sx xs (x3 + 1)), aI (sx xs (x3 + 2))] SH M (fun z2 u1 => ax_Ti Y_X11_knock [aR 61, aI (sx xs (x3 + 1)), aI (sx xs (x3 + 2))] SH u1 (fun z4 u3 => (((z2 = z4) → ax_J Y_L_law (ax_KL b L xs) 99 28389 1456 [(0, aR 2000), (1, aR 0), (2, aR 61), (3, aI x3)] [] SH u3) ∧ ((¬ z2 = z4) → False))))) : ax_J Y_L_law (ax_KL b L xs) 99 28389 1377 [(0, aR 2000), (1, aR 0), (2, aR 61), (3, aI x3)] [] SH M := by
  refine j_aload_n 1 dL_law_1377 rfl ?_
  refine j_aload_n 0 dL_law_1378 rfl ?_
  refine j_iload_n 3 dL_law_1379 rfl ?_
  refine j_iconst (x := 1) dL_law_1380 rfl (i32_c rfl) ?_
  obtain ⟨o1, h⟩ := h
  refine j_iadd (z := (x3 + 1)) dL_law_1381 rfl o1 ?_
  obtain ⟨o2, h⟩ := h
  refine j_sxa dL_law_1382 o2.1 o2.2 ?_
  refine j_aload_n 0 dL_law_1383 rfl ?_
  refine j_iload_n 3 dL_law_1384 rfl ?_
  refine j_iconst (x := 2) dL_law_1385 rfl (i32_c rfl) ?_
  obtain ⟨o3, h⟩ := h
  refine j_iadd (z := (x3 + 2)) dL_law_1386 rfl o3 ?_
  obtain ⟨o4, h⟩ := h
  refine j_sxa dL_law_1387 o4.1 o4.2 ?_
  refine j_calliV (Yc := Y_X10_knock) (as := [aI (sx xs (x3 + 1)), aI (sx xs (x3 + 2))]) (rest := []) dL_law_1388 q_L_142 ⟨Nat.le_of_ble_eq_true rfl, Nat.le_of_ble_eq_true rfl, Nat.le_of_ble_eq_true rfl, Nat.le_of_ble_eq_true rfl⟩ sh_0 rfl (Nat.le_of_ble_eq_true rfl) rfl (ti_mono h (fun z2 u1 h => ?_))
  refine j_aload_n 2 dL_law_1391 rfl ?_
  refine j_aload_n 0 dL_law_1392 rfl ?_
  refine j_iload_n 3 dL_law_1393 rfl ?_
  refine j_iconst (x := 1) dL_law_1394 rfl (i32_c rfl) ?_
  refine j_iadd (z := (x3 + 1)) dL_law_1395 rfl o1 ?_
  refine j_sxa dL_law_1396 o2.1 o2.2 ?_
  refine j_aload_n 0 dL_law_1397 rfl ?_
  refine j_iload_n 3 dL_law_1398 rfl ?_
  refine j_iconst (x := 2) dL_law_1399 rfl (i32_c rfl) ?_
  refine j_iadd (z := (x3 + 2)) dL_law_1400 rfl o3 ?_
  refine j_sxa dL_law_1401 o4.1 o4.2 ?_
  refine j_calliV (Yc := Y_X11_knock) (as := [aI (sx xs (x3 + 1)), aI (sx xs (x3 + 2))]) (rest := [aI z2]) dL_law_1402 q_L_145 ⟨Nat.le_of_ble_eq_true rfl, Nat.le_of_ble_eq_true rfl, Nat.le_of_ble_eq_true rfl, Nat.le_of_ble_eq_true rfl⟩ sh_61 rfl (Nat.le_of_ble_eq_true rfl) rfl (ti_mono h (fun z4 u3 h => ?_))
  refine j_icmp_eq (tgt := 1456) dL_law_1405 (by decide) (fun c5 => ?_) (fun c5 => ?_)
  · replace h := h.1 c5
    exact h
  · replace h := h.2 c5
    refine j_iconst (x := 0) dL_law_1408 rfl (i32_c rfl) ?_
    exact h.elim
set_option maxRecDepth 100000 in
set_option maxHeartbeats 4000000 in
theorem B_law_1410 {b L : Nat} {xs : Nat → Int32} {M : ax_M} {x3 : Int} (hL : L ≤ 3584) (h : (-2147483648 ≤ (x3 + 1) ∧ (x3 + 1) ≤ 2147483647) ∧ (0 ≤ (x3 + 1) ∧ (x3 + 1) < (L : Int)) ∧ ax_Ti Y_X10_keep [aR 0, aI (sx xs (x3 + 1))] SH M (fun z2 u1 => ax_Ti Y_X11_keep [aR 61, aI (sx xs (x3 + 1))] SH u1 (fun z4 u3 => (((z2 = z4) → ax_J Y_L_law (ax_KL b L xs) 99 28389 1456 [(0, aR 2000), (1, aR 0), (2, aR 61), (3, aI x3)] [] SH u3) ∧ ((¬ z2 = z4) → False))))) : ax_J Y_L_law (ax_KL b L xs) 99 28389 1410 [(0, aR 2000), (1, aR 0), (2, aR 61), (3, aI x3)] [] SH M := by
  refine j_aload_n 1 dL_law_1410 rfl ?_
  refine j_aload_n 0 dL_law_1411 rfl ?_
  refine j_iload_n 3 dL_law_1412 rfl ?_
  refine j_iconst (x := 1) dL_law_1413 rfl (i32_c rfl) ?_
  obtain ⟨o1, h⟩ := h
  refine j_iadd (z := (x3 + 1)) dL_law_1414 rfl o1 ?_
  obtain ⟨o2, h⟩ := h
  refine j_sxa dL_law_1415 o2.1 o2.2 ?_
  refine j_calliV (Yc := Y_X10_keep) (as := [aI (sx xs (x3 + 1))]) (rest := []) dL_law_1416 q_L_146 ⟨Nat.le_of_ble_eq_true rfl, Nat.le_of_ble_eq_true rfl, Nat.le_of_ble_eq_true rfl, Nat.le_of_ble_eq_true rfl⟩ sh_0 rfl (Nat.le_of_ble_eq_true rfl) rfl (ti_mono h (fun z2 u1 h => ?_))
  refine j_aload_n 2 dL_law_1419 rfl ?_
  refine j_aload_n 0 dL_law_1420 rfl ?_
  refine j_iload_n 3 dL_law_1421 rfl ?_
  refine j_iconst (x := 1) dL_law_1422 rfl (i32_c rfl) ?_
  refine j_iadd (z := (x3 + 1)) dL_law_1423 rfl o1 ?_
  refine j_sxa dL_law_1424 o2.1 o2.2 ?_
  refine j_calliV (Yc := Y_X11_keep) (as := [aI (sx xs (x3 + 1))]) (rest := [aI z2]) dL_law_1425 q_L_149 ⟨Nat.le_of_ble_eq_true rfl, Nat.le_of_ble_eq_true rfl, Nat.le_of_ble_eq_true rfl, Nat.le_of_ble_eq_true rfl⟩ sh_61 rfl (Nat.le_of_ble_eq_true rfl) rfl (ti_mono h (fun z4 u3 h => ?_))
  refine j_icmp_eq (tgt := 1456) dL_law_1428 (by decide) (fun c3 => ?_) (fun c3 => ?_)
  · replace h := h.1 c3
    exact h
  · replace h := h.2 c3
    refine j_iconst (x := 0) dL_law_1431 rfl (i32_c rfl) ?_
    exact h.elim
set_option maxRecDepth 100000 in
set_option maxHeartbeats 4000000 in
theorem B_law_1433 {b L : Nat} {xs : Nat → Int32} {M : ax_M} {x3 : Int} (hL : L ≤ 3584) (h : (-2147483648 ≤ (x3 + 1) ∧ (x3 + 1) ≤ 2147483647) ∧ (0 ≤ (x3 + 1) ∧ (x3 + 1) < (L : Int)) ∧ ax_Ti Y_X10_goBack [aR 0, aI (sx xs (x3 + 1))] SH M (fun z2 u1 => ax_Ti Y_X11_goBack [aR 61, aI (sx xs (x3 + 1))] SH u1 (fun z4 u3 => (((z2 = z4) → ax_J Y_L_law (ax_KL b L xs) 99 28389 1456 [(0, aR 2000), (1, aR 0), (2, aR 61), (3, aI x3)] [] SH u3) ∧ ((¬ z2 = z4) → False))))) : ax_J Y_L_law (ax_KL b L xs) 99 28389 1433 [(0, aR 2000), (1, aR 0), (2, aR 61), (3, aI x3)] [] SH M := by
  refine j_aload_n 1 dL_law_1433 rfl ?_
  refine j_aload_n 0 dL_law_1434 rfl ?_
  refine j_iload_n 3 dL_law_1435 rfl ?_
  refine j_iconst (x := 1) dL_law_1436 rfl (i32_c rfl) ?_
  obtain ⟨o1, h⟩ := h
  refine j_iadd (z := (x3 + 1)) dL_law_1437 rfl o1 ?_
  obtain ⟨o2, h⟩ := h
  refine j_sxa dL_law_1438 o2.1 o2.2 ?_
  refine j_calliV (Yc := Y_X10_goBack) (as := [aI (sx xs (x3 + 1))]) (rest := []) dL_law_1439 q_L_150 ⟨Nat.le_of_ble_eq_true rfl, Nat.le_of_ble_eq_true rfl, Nat.le_of_ble_eq_true rfl, Nat.le_of_ble_eq_true rfl⟩ sh_0 rfl (Nat.le_of_ble_eq_true rfl) rfl (ti_mono h (fun z2 u1 h => ?_))
  refine j_aload_n 2 dL_law_1442 rfl ?_
  refine j_aload_n 0 dL_law_1443 rfl ?_
  refine j_iload_n 3 dL_law_1444 rfl ?_
  refine j_iconst (x := 1) dL_law_1445 rfl (i32_c rfl) ?_
  refine j_iadd (z := (x3 + 1)) dL_law_1446 rfl o1 ?_
  refine j_sxa dL_law_1447 o2.1 o2.2 ?_
  refine j_calliV (Yc := Y_X11_goBack) (as := [aI (sx xs (x3 + 1))]) (rest := [aI z2]) dL_law_1448 q_L_153 ⟨Nat.le_of_ble_eq_true rfl, Nat.le_of_ble_eq_true rfl, Nat.le_of_ble_eq_true rfl, Nat.le_of_ble_eq_true rfl⟩ sh_61 rfl (Nat.le_of_ble_eq_true rfl) rfl (ti_mono h (fun z4 u3 h => ?_))
  refine j_icmp_eq (tgt := 1456) dL_law_1451 (by decide) (fun c3 => ?_) (fun c3 => ?_)
  · replace h := h.1 c3
    exact h
  · replace h := h.2 c3
    refine j_iconst (x := 0) dL_law_1454 rfl (i32_c rfl) ?_
    exact h.elim
set_option maxRecDepth 100000 in
set_option maxHeartbeats 4000000 in
theorem B_law_1456 {b L : Nat} {xs : Nat → Int32} {M : ax_M} {x3 : Int} (hL : L ≤ 3584) (h : (-2147483648 ≤ (x3 + 7) ∧ (x3 + 7) ≤ 2147483647) ∧ ax_J Y_L_law (ax_KL b L xs) 99 28389 18 [(0, aR 2000), (1, aR 0), (2, aR 61), (3, aI (x3 + 7))] [] SH M) : ax_J Y_L_law (ax_KL b L xs) 99 28389 1456 [(0, aR 2000), (1, aR 0), (2, aR 61), (3, aI x3)] [] SH M := by
  obtain ⟨o1, h⟩ := h
  refine j_iinc (ll' := [(3, aI (x3 + 7)), (0, aR 2000), (1, aR 0), (2, aR 61)]) 3 dL_law_1456 rfl (Nat.le_of_ble_eq_true rfl) o1 rfl ?_
  refine j_goto (tgt := 18) dL_law_1459 (by decide) ?_
  refine j_sub [1, 2, 3, 0] rfl ?_
  exact h
