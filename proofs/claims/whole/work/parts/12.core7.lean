/-! constructors: the shape grows -/
def ax_Qc (E : ax_E) (sh : ax_S) (A : Nat → Prop) (post : ax_S → ax_M → Prop) : Array Value → State → Outcome → State → Prop := va_Qv (fun (u : ax_S × ax_M × ax_E) => post u.1 u.2.1 ∧ ax_ext sh.length E u.2.2) (fun u t => ax_B u.2.2 u.1 A u.2.1 t) A
def ax_Tc (Y : ax_Y) (as : List ax_V) (sh : ax_S) (M : ax_M) (post : ax_S → ax_M → Prop) : Prop := (∀ v ∈ as, ax_vr v) → ax_mr sh M → ∀ (l : Launch) (E : ax_E) (sz : Nat), Met l (yn Y) (ax_w0 Y) (ax_rm Y) (ax_Pc E as sh M sz) (ax_Qc E sh (va_A (ax_ws E sh M) sz) post) (ymc Y) (yms Y) (va_A (ax_ws E sh M) sz)
def ax_Kc (Y : ax_Y) (sh : ax_S) (post : ax_S → ax_M → Prop) : ax_KT := fun _ _ _ _ s _ args below _ _ A E Q => ∃ E0 : ax_E, ax_ext sh.length E0 E ∧ Q = MQ below (ax_Qc E0 sh A post) args s (ymc Y) (yms Y) A
theorem kc_st {Y : ax_Y} {sh : ax_S} {post : ax_S → ax_M → Prop} {n : Nat} (h : sh.length ≤ n) : ax_Kst (ax_Kc Y sh post) n := by
  intro p l e R s m args below meth c A E E' Q hx ⟨E0, h1, h2⟩
  exact ⟨E0, h1.trans hx h, h2⟩
theorem j_cret {Y : ax_Y} {nc ns pc : Nat} {ll : List (Nat × ax_V)} {sh0 sh : ax_S} {M : ax_M} {post : ax_S → ax_M → Prop} (hd : decode (yc Y) pc = .ok (.return_, 1)) (hr : yr Y = none) (hc : nc ≤ ymc Y ∧ ns ≤ yms Y) (kk : post sh M) : ax_J Y (ax_Kc Y sh0 post) nc ns pc ll [] sh M := by
  intro p l e R s m args below meth c A E Q C hK H locs ls hW hl hr1 hr2
  have hlocks := C.2.2.2.2.2.1
  obtain ⟨E0, hx, rfl⟩ := hK
  refine W.widen hc.1 hc.2 ?_
  exact W.vret C.1 C.2.1 (by rw [C.2.2.1, hr]) (fun t ht hWm => ⟨⟨(sh, M, E), rfl, ⟨kk, hx⟩, by rw [ht]; exact hW.1, hW.2.1, hW.2.2.2⟩, hW.2.2.1.F ht⟩) hW.2.2.1.2.2 hd hlocks
theorem tc_of {Y : ax_Y} {as : List ax_V} {ll : List (Nat × ax_V)} {sh : ax_S} {M : ax_M} {post : ax_S → ax_M → Prop} (hy : plainName (yn Y).cls = true) (hwid : ax_wid as ≤ yl Y) (hll : ax_ent 0 as = ll) (k : ax_mr sh M → ax_J Y (ax_Kc Y sh post) 0 0 0 ll [] sh M) : ax_Tc Y as sh M post := by
  intro hvr hmr l E sz
  refine Met.ofW (cc := yc Y) (maxL := yl Y) (ret := yr Y) hy rfl ?_
  intro p e s m args below meth c s₁ B hml hv
  obtain ⟨rfl, hsz, hP, hK, hD0, hTb, hStr⟩ := hv
  subst hsz
  have hD := hD0.self (sz := s.heap.size)
  rw [lg_entry_eq]
  have hl := lv_entry (as.map (cv E)) (n := yl Y) (by rw [ent_len]; exact hwid)
  rw [← ent_cv E as 0, hll] at hl
  exact k hmr p l e _ s m _ below meth c (va_A (ax_ws E sh M) s.heap.size) E _ ⟨B.exec, B.bytes, B.returns, hml, findClass_of_methodNamed B.named, B.notSynchronized, fun h => ((name_of_methodNamed B.named B.method).1).trans h, hTb, fun q h => Or.inr h, hK, hStr, Nat.le_refl _, Nat.le_refl _, Nat.le_refl _, Nat.le_refl _⟩ ⟨E, ax_ext.rf, rfl⟩ s.heap [] _ ⟨hP, hD, va_S.rf, hmr⟩ hl (by rw [← hll]; exact ent_vr as 0 hvr) (fun v h => by cases h)
/-- a constructor's call -/
def ax_CI (own : String) (idx : Nat) (Yc : ax_Y) (n : Nat) : Prop := ax_CB Yc n ∧ ax_CM own idx Yc ∧ Cond.instanceMethod (yn Yc) ∈ ax_tb ∧ (yn Yc).name = "<init>" ∧ yr Yc = none
theorem j_callcI {Y Yc : ax_Y} {K : ax_KT} {nc ns pc n idx b : Nat} {ll : List (Nat × ax_V)} {st as rest : List ax_V} {sh : ax_S} {M : ax_M} (hd : decode (yc Y) pc = .ok (.invokespecial idx, 3)) (hc : ax_CI (yn Y).cls idx Yc n) (hf : ax_fit Y Yc nc ns) (hn : as.length = n) (hrm : ax_wid rest ≤ 8) (hst : as.reverse ++ aR b :: rest = st)
    (hlo : (ll.all fun q => ax_lo sh.length q.2) = true) (hlo2 : rest.all (ax_lo sh.length) = true) (hKs : ax_Kst K sh.length)
    (hT : ax_Tc Yc (aR b :: as) sh M (fun sh' M' => ax_J Y K (nc + ymc Yc) (ns + yms Yc) (pc + 3) ll rest sh' M')) : ax_J Y K nc ns pc ll st sh M := by
  subst hst
  intro p l e R s m args below meth c A E Q C hK H locs ls hW hl hr1 hr2
  have hM := hT (fun v hv => hr2 v (by rcases List.mem_cons.mp hv with h | h; (rw [h]; simp); (exact List.mem_append_left _ (List.mem_reverse.mpr h)))) hW.2.2.2 l E H.size
  have hFc := ax_free hW C.2.2.2.2.2.2.2.2.1
  obtain ⟨hB, hL, hI, hnm, hret⟩ := hc
  have hts : ∀ w ∈ ax_tb, w.before args s = true := fun w h => C.2.2.2.2.2.2.2.1 w h args
  have hR := C.2.2.2.2.2.2.2.2.2.2.2
  have hws : ∀ w ∈ ax_w0 Yc, ∀ (a' : Array Value) (U : State), s.WarmedH U.vm → w.before a' U = true := fun w hw a' U hWm => by
    rcases List.mem_singleton.mp hw with rfl
    exact ax_move hWm C.2.2.2.2.2.2.2.1 _ hB.1 a'
  have hpre : PreS s H (ax_Pc E (aR b :: as) sh M H.size) (.ref (E.2.2.1 b) :: as.map (cv E)) := ⟨ax_blind, ax_pre C hW (aR b :: as)⟩
  have hr1' : (ax_rm Yc).frames + 1 ≤ R.frames := Nat.le_trans hf.1 hR.1
  have hr2' : 8 + (yl Yc + 11) + (ax_rm Yc).locals ≤ R.locals := by
    have h1 := hR.2.1
    have h2 := hf.1
    have h3 := hf.2.1
    show 8 + (yl Yc + 11) + 64 * yk Yc ≤ R.locals
    omega
  have hst : ((as.reverse ++ aR b :: rest)).map (cv E) = (as.map (cv E)).reverse ++ .ref (E.2.2.1 b) :: rest.map (cv E) := by
    rw [List.map_append, List.map_reverse]; rfl
  have hfit : nc + ymc Yc ≤ R.cells ∧ ns + yms Yc ≤ R.slots := ⟨Nat.le_trans hf.2.2.1 hR.2.2.1, Nat.le_trans hf.2.2.2 hR.2.2.2⟩
  have hcat : 2 * (F0 m pc ls (((as.reverse ++ aR b :: rest)).map (cv E))).monitorRoom + ((rest.map (cv E)).map fun v => v.category).sum ≤ 8 := by
    have h1 := ax_wcat (E := E) rest
    exact lv_room (by rw [h1]; exact hrm)
  have hcode : Cond.code (yn Yc) (yc Yc) (yl Yc) none ∈ ax_tb := by rw [← hret]; exact hB.1
  have hcw : Cond.code (yn Yc) (yc Yc) (yl Yc) none ∈ ax_w0 Yc := by rw [← hret]; exact List.mem_singleton.mpr rfl
  have hrun : va_Run p l e R s m args below meth c H locs nc ns (ymc Yc) (yms Yc) (F0 m pc ls (((as.reverse ++ aR b :: rest)).map (cv E))) (rest.map (cv E)) (ax_Qc E sh (va_A (ax_ws E sh M) H.size) (fun sh' M' => ax_J Y K (nc + ymc Yc) (ns + yms Yc) (pc + 3) ll rest sh' M') (Value.ref (E.2.2.1 b) :: as.map (cv E)).toArray) (va_A (ax_ws E sh M) H.size) := by
    rcases hL with hL | ⟨host, hL⟩
    · exact va_runI (Ts := ax_tb) ⟨C.1, C.2.1, C.2.2.2.1, C.2.2.2.2.1, hts⟩ hM ⟨⟨rfl, rfl, hr1', hr2', hws, hcw, hts _ hcode, hts _ hB.2.1, hB.2.2.1, cb_n hB, hts _ hL⟩, hnm, hts _ hI⟩ hpre rfl (by rw [List.length_map]; exact hn) hl.1 hst hcat hd hfit
    · exact va_runIN (Ts := ax_tb) ⟨C.1, C.2.1, C.2.2.2.1, C.2.2.2.2.1, hts⟩ hM ⟨⟨⟨rfl, rfl, hr1', hr2', hws, hcw⟩, hts _ hcode, hts _ hB.2.1, hB.2.2.1, cb_n hB, hts _ hL⟩, hnm, hts _ hI⟩ hpre rfl (by rw [List.length_map]; exact hn) hl.1 hst hcat hd hfit
  refine va_callv hrun hW.2.2.1 (fun q _ h => hFc q h) hFc (fun u t H1 locs1 ht hvm hw hB hz1 hk1 hS1 => ?_)
  obtain ⟨sh', M', E'⟩ := u
  obtain ⟨hJ, hx⟩ := hw
  obtain ⟨hP1, hD1, hm1⟩ := hB
  rw [ht] at hP1
  have h := hJ p l e R s m args below meth c A E' Q (c_ext C hx) (hKs _ _ _ _ _ _ _ _ _ _ _ _ _ _ hx hK) H1 locs1 ls ⟨hP1, hD1.weaken (fun _ q _ h => hFc q.1 h), hS1, hm1⟩ (by rw [cvl_ext hx hlo]; exact hl) hr1 (fun v hv => hr2 v (List.mem_append_right _ (List.mem_cons_of_mem _ hv)))
  rw [map_ext hx hlo2] at h
  exact h
theorem tc_mono {Y : ax_Y} {as : List ax_V} {sh : ax_S} {M : ax_M} {post post2 : ax_S → ax_M → Prop} (h : ax_Tc Y as sh M post) (hp : ∀ a u, post a u → post2 a u) : ax_Tc Y as sh M post2 := by
  intro hvr hmr l E sz
  have h1 := h hvr hmr l E sz
  intro p e ha hc hk s m args below hf h2 h3 h4
  obtain ⟨t, o, a1, a2, a3, a4, a5⟩ := h1 p e ha hc hk s m args below hf h2 h3 h4
  refine ⟨t, o, a1, a2, a3, ?_, a5⟩
  obtain ⟨⟨u, c1, ⟨c2, c4⟩, c3⟩, b2⟩ := a4
  exact ⟨⟨u, c1, ⟨hp _ _ c2, c4⟩, c3⟩, b2⟩
/-! arraycopy -/
def ax_cp (M : ax_M) (b0 b1 : Nat) (sp dp n : Int) : ax_M := fun a j => if a = b1 ∧ dp ≤ j ∧ j < dp + n then M b0 (sp + (j - dp)) else M a j
theorem cp_eq (M : ax_M) (b0 b1 : Nat) (sp dp n : Int) : ax_cp M b0 b1 sp dp n = fun a => if a = b1 then (fun j => if dp ≤ j ∧ j < dp + n then M b0 (sp + (j - dp)) else M b1 j) else M a := by
  funext a j
  unfold ax_cp
  by_cases h : a = b1
  · subst h; simp
  · simp [h]
theorem mr_cp {sh : ax_S} {M : ax_M} {b0 b1 kd n0 n1 : Nat} {sp dp n : Int} (h : ax_mr sh M) (h0 : sh[b0]? = some (.inl (kd, n0))) (h1 : sh[b1]? = some (.inl (kd, n1))) (hsp : 0 ≤ sp) (hb : sp + n ≤ n0) : ax_mr sh (ax_cp M b0 b1 sp dp n) := by
  refine ⟨fun a kd' n' ha j hj => ?_, fun a ci' kds' ha j kd' hj => ?_⟩
  · unfold ax_cp
    by_cases hc : a = b1 ∧ dp ≤ (j : Int) ∧ (j : Int) < dp + n
    · rw [if_pos hc]
      rw [hc.1] at ha
      rw [h1] at ha
      cases ha
      have h2 := h.1 b0 kd n0 h0 (sp + ((j : Int) - dp)).toNat (by omega)
      rwa [Int.toNat_of_nonneg (by omega)] at h2
    · rw [if_neg hc]
      exact h.1 a kd' n' ha j hj
  · unfold ax_cp
    by_cases hc : a = b1 ∧ dp ≤ (j : Int) ∧ (j : Int) < dp + n
    · rw [hc.1] at ha
      rw [h1] at ha
      cases ha
    · rw [if_neg hc]
      exact h.2 a ci' kds' ha j kd' hj
theorem cpy_eq {M : ax_M} {b0 b1 : Nat} {sp dp n : Int} (hsp : 0 ≤ sp) (hdp : 0 ≤ dp) (hn : 0 ≤ n) : va_cpy (fun j : Nat => Int32.ofInt (M b0 (j : Int))) (fun j : Nat => Int32.ofInt (M b1 (j : Int))) sp.toNat dp.toNat n.toNat = fun j : Nat => Int32.ofInt (if dp ≤ (j : Int) ∧ (j : Int) < dp + n then M b0 (sp + ((j : Int) - dp)) else M b1 (j : Int)) := by
  funext j
  unfold va_cpy
  by_cases h : dp.toNat ≤ j ∧ j < dp.toNat + n.toNat
  · have h2 : dp ≤ (j : Int) ∧ (j : Int) < dp + n := by omega
    rw [if_pos h, if_pos h2]
    have h3 : ((sp.toNat + (j - dp.toNat) : Nat) : Int) = sp + ((j : Int) - dp) := by omega
    show Int32.ofInt (M b0 ((sp.toNat + (j - dp.toNat) : Nat) : Int)) = _
    rw [h3]
  · have h2 : ¬ (dp ≤ (j : Int) ∧ (j : Int) < dp + n) := by omega
    rw [if_neg h, if_neg h2]
theorem j_copy {Y : ax_Y} {K : ax_KT} {nc ns pc idx b0 b1 n0 n1 : Nat} {ll : List (Nat × ax_V)} {rest : List ax_V} {sh : ax_S} {M : ax_M} {sp dp n : Int} (kd : Nat) (hkd : kd = 0 ∨ kd = 3) (hd : decode (yc Y) pc = .ok (.invokestatic idx, 3)) (hw1 : Cond.methodLink (yn Y).cls idx arraycopyName ∈ ax_tb) (hw2 : Cond.native arraycopyName ∈ ax_tb) (hw3 : Cond.static arraycopyName ∈ ax_tb) (hw4 : Cond.initialized "java/lang/System" ∈ ax_tb)
    (h0 : sh[b0]? = some (.inl (kd, n0))) (h1 : sh[b1]? = some (.inl (kd, n1))) (hsp : 0 ≤ sp) (hdp : 0 ≤ dp) (hn : 0 ≤ n) (hb0 : sp + n ≤ n0) (hb1 : dp + n ≤ n1) (hk : 1 ≤ yk Y) (hrm : ax_wid rest ≤ 8)
    (kk : ax_J Y K nc ns (pc + 3) ll rest sh (ax_cp M b0 b1 sp dp n)) : ax_J Y K nc ns pc ll (aI n :: aI dp :: aR b1 :: aI sp :: aR b0 :: rest) sh M := by
  intro p l e R s m args below meth c A E Q C hK H locs ls hW hl hr1 hr2
  have hts : ∀ w ∈ ax_tb, w.before args s = true := fun w h => C.2.2.2.2.2.2.2.1 w h args
  have hR := C.2.2.2.2.2.2.2.2.2.2.2
  have hni : i32 n := j_h1 hr2
  have hdi : i32 dp := j_h1 (j_t1 hr2)
  have hsi : i32 sp := j_h1 (j_t1 (j_t1 (j_t1 hr2)))
  have hcell : ∀ b n', sh[b]? = some (.inl (kd, n')) → (ax_ws E sh M)[b]? = some (E.2.2.1 b, .inl (E.2.1 kd, n', .inl (fun j : Nat => Int32.ofInt (M b (j : Int))))) := by
    intro b n' h
    rcases hkd with rfl | rfl <;> exact ws_at h
  have hwc := ax_wcat (E := E) rest
  have key : ∀ ty : FieldType, (ax_tys E)[kd]? = some (E.2.1 kd, ty) → refKind ty = false → (∀ i : Nat, i < n.toNat → fits ty (.int (Int32.ofInt (M b0 ((sp.toNat + i : Nat) : Int)))) = true) → W p l e R s m args below meth c H locs nc ns Q (F0 m pc ls ((aI n :: aI dp :: aR b1 :: aI sp :: aR b0 :: rest).map (cv E))) := by
    intro ty hty hrk hfit
    refine va_copyi (ws := ax_ws E sh M) C.1 C.2.1 (by rw [C.2.2.2.1]; exact hl.1.symm) C.2.2.2.2.1 (hts _ hw1) (hts _ hw2) (hts _ hw3) (hts _ hw4) C.2.2.2.2.2.2.2.2.2.1 hW.1 hW.2.1 hW.2.2.1 b0 b1 kd kd (hcell b0 n0 h0) (hcell b1 n1 h1) hty hty hrk (fun h => by have := (c32_lt hsi i32_0).mp h; omega) (fun h => by have := (c32_lt hdi i32_0).mp h; omega) (fun h => by have := (c32_lt hni i32_0).mp h; omega) (by rw [v_nat hsi, v_nat hni]; omega) (by rw [v_nat hdi, v_nat hni]; omega) (by rw [v_nat hsi, v_nat hni]; exact hfit) (Nat.le_trans hk hR.1) (by
      have h2 := hR.2.1
      rw [hwc]
      show ax_wid rest + (7 + 11) ≤ R.locals
      omega) hd (fun H1 locs1 hP1 hD1 hS1 => ?_)
    rw [v_nat hsi, v_nat hdi, v_nat hni, cpy_eq hsp hdp hn] at hP1 hD1
    have e4 : (ax_ws E sh M).set b1 (E.2.2.1 b1, .inl (E.2.1 kd, n1, .inl (fun j : Nat => Int32.ofInt (if dp ≤ (j : Int) ∧ (j : Int) < dp + n then M b0 (sp + ((j : Int) - dp)) else M b1 (j : Int))))) = ax_ws E sh (ax_cp M b0 b1 sp dp n) := by
      rw [cp_eq]
      have h9 := ws_set (E := E) (M := M) h1 (fun j => if dp ≤ j ∧ j < dp + n then M b0 (sp + (j - dp)) else M b1 j)
      rw [← h9]
      rcases hkd with rfl | rfl <;> rfl
    rw [e4] at hP1 hD1
    exact kk p l e R s m args below meth c A E Q C hK H1 locs1 ls ⟨hP1, hD1, hS1, mr_cp hW.2.2.2 h0 h1 hsp hb0⟩ hl hr1 (j_t1 (j_t1 (j_t1 (j_t1 (j_t1 hr2)))))
  rcases hkd with rfl | rfl
  · exact key .int rfl rfl (fun i hi => rfl)
  · refine key .boolean rfl rfl (fun i hi => ?_)
    have h2 := (hW.2.2.2.1 b0 3 n0 h0 (sp.toNat + i) (by omega)).1
    rcases h2 with h2 | h2 <;> rw [h2] <;> rfl
