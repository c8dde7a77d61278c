def ax_rm (Y : ax_Y) : Room := { frames := yk Y, cells := ymc Y, slots := yms Y, locals := 64 * yk Y }
def ax_Pc (E : ax_E) (as : List ax_V) (sh : ax_S) (M : ax_M) (sz : Nat) : Array Value → State → Prop := va_Pc (as.map (cv E)) (fun U => U.heap.size = sz ∧ va_P E.1 vwCl (ax_ws E sh M) U.heap ∧ va_K E.1 vwCl (ax_tys E) U ∧ va_D (fun _ => True) (ax_ws E sh M) ∧ ax_Tb U ∧ ax_Str E (va_A (ax_ws E sh M) sz) U U.heap)
def ax_B (E : ax_E) (sh : ax_S) (A : Nat → Prop) (u : ax_M) (t : State) : Prop := va_P E.1 vwCl (ax_ws E sh u) t.heap ∧ va_D A (ax_ws E sh u) ∧ ax_mr sh u
abbrev ax_w0 (Y : ax_Y) : List Cond := [.code (yn Y) (yc Y) (yl Y) (yr Y)]
def ax_Str.moved {E : ax_E} {A : Nat → Prop} {s U : State} {H : Heap} (hW : s.WarmedH U.vm) (h : ax_Str E A s H) : ax_Str E A U H := ⟨h.1.moved hW.alike, fun i o k tx hi => (h.2.1 i o k tx hi).warm hW, h.2.2.1.moved hW.alike, h.2.2.2.moved hW.alike⟩
theorem ax_blind {E : ax_E} {as : List ax_V} {sh : ax_S} {M : ax_M} {sz : Nat} : FrameBlind (ax_Pc E as sh M sz) := by
  intro a U g mk ⟨h0, h1, h2, h3, h4, h5, h6⟩
  exact ⟨h0, h1, h2, va_K.moved (u := U) (U := U.calling g mk a) (Vm.Alike.refl U.vm) h3, h4, ax_move (s := U) (U := U.calling g mk a) (State.WarmedH.refl U) h5, ax_Str.moved (s := U) (U := U.calling g mk a) (State.WarmedH.refl U) h6⟩
def ax_Qi (E : ax_E) (sh : ax_S) (A : Nat → Prop) (post : Int → ax_M → Prop) : Array Value → State → Outcome → State → Prop := va_Qi (fun (r : Int32) (u : ax_M) => ∃ z : Int, r = Int32.ofInt z ∧ i32 z ∧ post z u) (ax_B E sh A) A
/-- the method's contract: from these arguments in this world it ends, and 'post' holds of answer and memory -/
def ax_Ti (Y : ax_Y) (as : List ax_V) (sh : ax_S) (M : ax_M) (post : Int → ax_M → Prop) : Prop := (∀ v ∈ as, ax_vr v) → ax_mr sh M → ∀ (l : Launch) (E : ax_E) (sz : Nat), Met l (yn Y) (ax_w0 Y) (ax_rm Y) (ax_Pc E as sh M sz) (ax_Qi E sh (va_A (ax_ws E sh M) sz) post) (ymc Y) (yms Y) (va_A (ax_ws E sh M) sz)
def ax_Ki (Y : ax_Y) (sh : ax_S) (post : Int → ax_M → Prop) : ax_KT := fun _ _ _ _ s _ args below _ _ A E Q => Q = MQ below (ax_Qi E sh A post) args s (ymc Y) (yms Y) A
def ax_Ql (E : ax_E) (sh : ax_S) (A : Nat → Prop) (post : Int → ax_M → Prop) : Array Value → State → Outcome → State → Prop := va_Ql (fun (r : Int64) (u : ax_M) => ∃ z : Int, r = Int64.ofInt z ∧ i64 z ∧ post z u) (ax_B E sh A) A
/-- the method's contract: from these arguments in this world it ends, and 'post' holds of answer and memory -/
def ax_Tl (Y : ax_Y) (as : List ax_V) (sh : ax_S) (M : ax_M) (post : Int → ax_M → Prop) : Prop := (∀ v ∈ as, ax_vr v) → ax_mr sh M → ∀ (l : Launch) (E : ax_E) (sz : Nat), Met l (yn Y) (ax_w0 Y) (ax_rm Y) (ax_Pc E as sh M sz) (ax_Ql E sh (va_A (ax_ws E sh M) sz) post) (ymc Y) (yms Y) (va_A (ax_ws E sh M) sz)
def ax_Kl (Y : ax_Y) (sh : ax_S) (post : Int → ax_M → Prop) : ax_KT := fun _ _ _ _ s _ args below _ _ A E Q => Q = MQ below (ax_Ql E sh A post) args s (ymc Y) (yms Y) A
def ax_Qv (E : ax_E) (sh : ax_S) (A : Nat → Prop) (post :  ax_M → Prop) : Array Value → State → Outcome → State → Prop := va_Qv post (ax_B E sh A) A
/-- the method's contract: from these arguments in this world it ends, and 'post' holds of answer and memory -/
def ax_Tv (Y : ax_Y) (as : List ax_V) (sh : ax_S) (M : ax_M) (post :  ax_M → Prop) : Prop := (∀ v ∈ as, ax_vr v) → ax_mr sh M → ∀ (l : Launch) (E : ax_E) (sz : Nat), Met l (yn Y) (ax_w0 Y) (ax_rm Y) (ax_Pc E as sh M sz) (ax_Qv E sh (va_A (ax_ws E sh M) sz) post) (ymc Y) (yms Y) (va_A (ax_ws E sh M) sz)
def ax_Kv (Y : ax_Y) (sh : ax_S) (post :  ax_M → Prop) : ax_KT := fun _ _ _ _ s _ args below _ _ A E Q => Q = MQ below (ax_Qv E sh A post) args s (ymc Y) (yms Y) A
theorem j_iret {Y : ax_Y} {nc ns pc : Nat} {ll : List (Nat × ax_V)} {sh : ax_S} {M : ax_M} {post : Int → ax_M → Prop} {z : Int} (hd : decode (yc Y) pc = .ok (.ireturn, 1)) (hr : yr Y = some .int) (hc : nc ≤ ymc Y ∧ ns ≤ yms Y) (kk : i32 z → post z M) : ax_J Y (ax_Ki Y sh post) nc ns pc ll [aI z] sh M := by
  intro p l e R s m args below meth c A E Q C hK H locs ls hW hl hr1 hr2
  have hz : i32 z := j_h1 hr2
  have hlocks := C.2.2.2.2.2.1
  rw [show Q = _ from hK]
  refine W.widen hc.1 hc.2 ?_
  exact W.iret C.1 C.2.1 (by rw [C.2.2.1, hr]) (fun t ht hWm => ⟨⟨_, M, rfl, ⟨z, rfl, hz, kk hz⟩, by rw [ht]; exact hW.1, hW.2.1, hW.2.2.2⟩, hW.2.2.1.F ht⟩) hW.2.2.1.2.2 hd hlocks
theorem j_zret {Y : ax_Y} {nc ns pc : Nat} {ll : List (Nat × ax_V)} {sh : ax_S} {M : ax_M} {post : Int → ax_M → Prop} {z : Int} (hd : decode (yc Y) pc = .ok (.ireturn, 1)) (hr : yr Y = some .boolean) (hc : nc ≤ ymc Y ∧ ns ≤ yms Y) (hb : z = 0 ∨ z = 1) (kk : post z M) : ax_J Y (ax_Ki Y sh post) nc ns pc ll [aI z] sh M := by
  intro p l e R s m args below meth c A E Q C hK H locs ls hW hl hr1 hr2
  have hz : i32 z := j_h1 hr2
  have hlocks := C.2.2.2.2.2.1
  rw [show Q = _ from hK]
  refine W.widen hc.1 hc.2 ?_
  exact W.zret (ty := .boolean) C.1 C.2.1 (by rw [C.2.2.1, hr]) (by rcases hb with h | h <;> rw [h] <;> decide) (fun t ht hWm => ⟨⟨_, M, rfl, ⟨z, rfl, hz, kk⟩, by rw [ht]; exact hW.1, hW.2.1, hW.2.2.2⟩, hW.2.2.1.F ht⟩) hW.2.2.1.2.2 hd hlocks
theorem j_lret {Y : ax_Y} {nc ns pc : Nat} {ll : List (Nat × ax_V)} {sh : ax_S} {M : ax_M} {post : Int → ax_M → Prop} {z : Int} (hd : decode (yc Y) pc = .ok (.lreturn, 1)) (hr : yr Y = some .long) (hc : nc ≤ ymc Y ∧ ns ≤ yms Y) (kk : i64 z → post z M) : ax_J Y (ax_Kl Y sh post) nc ns pc ll [aL z] sh M := by
  intro p l e R s m args below meth c A E Q C hK H locs ls hW hl hr1 hr2
  have hz : i64 z := j_h1 hr2
  have hlocks := C.2.2.2.2.2.1
  rw [show Q = _ from hK]
  refine W.widen hc.1 hc.2 ?_
  exact W.lret C.1 C.2.1 (by rw [C.2.2.1, hr]) (fun t ht hWm => ⟨⟨_, M, rfl, ⟨z, rfl, hz, kk hz⟩, by rw [ht]; exact hW.1, hW.2.1, hW.2.2.2⟩, hW.2.2.1.F ht⟩) hW.2.2.1.2.2 hd hlocks
theorem j_vret {Y : ax_Y} {nc ns pc : Nat} {ll : List (Nat × ax_V)} {sh : ax_S} {M : ax_M} {post : ax_M → Prop} (hd : decode (yc Y) pc = .ok (.return_, 1)) (hr : yr Y = none) (hc : nc ≤ ymc Y ∧ ns ≤ yms Y) (kk : post M) : ax_J Y (ax_Kv Y sh post) nc ns pc ll [] sh M := by
  intro p l e R s m args below meth c A E Q C hK H locs ls hW hl hr1 hr2
  have hlocks := C.2.2.2.2.2.1
  rw [show Q = _ from hK]
  refine W.widen hc.1 hc.2 ?_
  exact W.vret C.1 C.2.1 (by rw [C.2.2.1, hr]) (fun t ht hWm => ⟨⟨M, rfl, kk, by rw [ht]; exact hW.1, hW.2.1, hW.2.2.2⟩, hW.2.2.1.F ht⟩) hW.2.2.1.2.2 hd hlocks
def ax_ent : Nat → List ax_V → List (Nat × ax_V)
  | _, [] => []
  | i, v :: vs => (i, v) :: ax_ent (if ax_two v then i + 2 else i + 1) vs
def ax_wid (as : List ax_V) : Nat := (as.map (fun v => if ax_two v then 2 else 1)).sum
theorem ent_cv (E : ax_E) : ∀ (as : List ax_V) (i : Nat), cvl E (ax_ent i as) = lv_args i (as.map (cv E))
  | [], _ => rfl
  | v :: vs, i => by
    show (i, cv E v) :: cvl E (ax_ent _ vs) = (i, cv E v) :: lv_args _ _
    rw [ent_cv E vs]
    congr 2
    rw [cv_cat]
    cases ax_two v <;> rfl
theorem ent_vr : ∀ (as : List ax_V) (i : Nat), (∀ v ∈ as, ax_vr v) → ∀ q ∈ ax_ent i as, ax_vr q.2
  | [], _, _, q, hq => by cases hq
  | v :: vs, i, h, q, hq => by
    rcases List.mem_cons.mp hq with rfl | hq
    · exact h v List.mem_cons_self
    · exact ent_vr vs _ (fun w hw => h w (List.mem_cons_of_mem _ hw)) q hq
theorem ent_len (E : ax_E) : ∀ as : List ax_V, (lg_sl (as.map (cv E))).length = ax_wid as
  | [] => rfl
  | v :: vs => by
    have h := ent_len E vs
    simp only [lg_sl, ax_wid, List.map_cons, List.flatMap_cons, List.length_append, List.sum_cons] at h ⊢
    rw [h]
    congr 1
    rcases v with x | x | x <;> rfl
theorem ti_of {Y : ax_Y} {as : List ax_V} {ll : List (Nat × ax_V)} {sh : ax_S} {M : ax_M} {post : Int → ax_M → Prop} (hy : plainName (yn Y).cls = true) (hwid : ax_wid as ≤ yl Y) (hll : ax_ent 0 as = ll) (k : ax_mr sh M → ax_J Y (ax_Ki Y sh post) 0 0 0 ll [] sh M) : ax_Ti Y as sh M post := by
  intro hvr hmr l E sz
  refine Met.ofW (cc := yc Y) (maxL := yl Y) (ret := yr Y) hy rfl ?_
  intro p e s m args below meth c s₁ B hml hv
  obtain ⟨rfl, hsz, hP, hK, hD0, hTb, hStr⟩ := hv
  subst hsz
  have hD := hD0.self (sz := s.heap.size)
  rw [lg_entry_eq]
  have hl := lv_entry (as.map (cv E)) (n := yl Y) (by rw [ent_len]; exact hwid)
  rw [← ent_cv E as 0, hll] at hl
  exact k hmr p l e _ s m _ below meth c (va_A (ax_ws E sh M) s.heap.size) E _ ⟨B.exec, B.bytes, B.returns, hml, findClass_of_methodNamed B.named, B.notSynchronized, fun h => ((name_of_methodNamed B.named B.method).1).trans h, hTb, fun q h => Or.inr h, hK, hStr, Nat.le_refl _, Nat.le_refl _, Nat.le_refl _, Nat.le_refl _⟩ rfl s.heap [] _ ⟨hP, hD, va_S.rf, hmr⟩ hl (by rw [← hll]; exact ent_vr as 0 hvr) (fun v h => by cases h)
theorem ti_mono {Y : ax_Y} {as : List ax_V} {sh : ax_S} {M : ax_M} {post post2 : Int → ax_M → Prop} (h : ax_Ti Y as sh M post) (hp : ∀ z u, post z u → post2 z u) : ax_Ti Y as sh M post2 := by
  intro hvr hmr l E sz
  have h1 := h hvr hmr l E sz
  intro p e ha hc hk s m args below hf h2 h3 h4
  obtain ⟨t, o, a1, a2, a3, a4, a5⟩ := h1 p e ha hc hk s m args below hf h2 h3 h4
  refine ⟨t, o, a1, a2, a3, ?_, a5⟩
  obtain ⟨b1, b2⟩ := a4
  refine ⟨?_, b2⟩
  obtain ⟨r, u, c1, ⟨z, c2, c3, c4⟩, c5⟩ := b1
  exact ⟨r, u, c1, ⟨z, c2, c3, hp z u c4⟩, c5⟩
theorem tl_of {Y : ax_Y} {as : List ax_V} {ll : List (Nat × ax_V)} {sh : ax_S} {M : ax_M} {post : Int → ax_M → Prop} (hy : plainName (yn Y).cls = true) (hwid : ax_wid as ≤ yl Y) (hll : ax_ent 0 as = ll) (k : ax_mr sh M → ax_J Y (ax_Kl Y sh post) 0 0 0 ll [] sh M) : ax_Tl Y as sh M post := by
  intro hvr hmr l E sz
  refine Met.ofW (cc := yc Y) (maxL := yl Y) (ret := yr Y) hy rfl ?_
  intro p e s m args below meth c s₁ B hml hv
  obtain ⟨rfl, hsz, hP, hK, hD0, hTb, hStr⟩ := hv
  subst hsz
  have hD := hD0.self (sz := s.heap.size)
  rw [lg_entry_eq]
  have hl := lv_entry (as.map (cv E)) (n := yl Y) (by rw [ent_len]; exact hwid)
  rw [← ent_cv E as 0, hll] at hl
  exact k hmr p l e _ s m _ below meth c (va_A (ax_ws E sh M) s.heap.size) E _ ⟨B.exec, B.bytes, B.returns, hml, findClass_of_methodNamed B.named, B.notSynchronized, fun h => ((name_of_methodNamed B.named B.method).1).trans h, hTb, fun q h => Or.inr h, hK, hStr, Nat.le_refl _, Nat.le_refl _, Nat.le_refl _, Nat.le_refl _⟩ rfl s.heap [] _ ⟨hP, hD, va_S.rf, hmr⟩ hl (by rw [← hll]; exact ent_vr as 0 hvr) (fun v h => by cases h)
theorem tl_mono {Y : ax_Y} {as : List ax_V} {sh : ax_S} {M : ax_M} {post post2 : Int → ax_M → Prop} (h : ax_Tl Y as sh M post) (hp : ∀ z u, post z u → post2 z u) : ax_Tl Y as sh M post2 := by
  intro hvr hmr l E sz
  have h1 := h hvr hmr l E sz
  intro p e ha hc hk s m args below hf h2 h3 h4
  obtain ⟨t, o, a1, a2, a3, a4, a5⟩ := h1 p e ha hc hk s m args below hf h2 h3 h4
  refine ⟨t, o, a1, a2, a3, ?_, a5⟩
  obtain ⟨b1, b2⟩ := a4
  refine ⟨?_, b2⟩
  obtain ⟨r, u, c1, ⟨z, c2, c3, c4⟩, c5⟩ := b1
  exact ⟨r, u, c1, ⟨z, c2, c3, hp z u c4⟩, c5⟩
theorem tv_of {Y : ax_Y} {as : List ax_V} {ll : List (Nat × ax_V)} {sh : ax_S} {M : ax_M} {post :  ax_M → Prop} (hy : plainName (yn Y).cls = true) (hwid : ax_wid as ≤ yl Y) (hll : ax_ent 0 as = ll) (k : ax_mr sh M → ax_J Y (ax_Kv Y sh post) 0 0 0 ll [] sh M) : ax_Tv Y as sh M post := by
  intro hvr hmr l E sz
  refine Met.ofW (cc := yc Y) (maxL := yl Y) (ret := yr Y) hy rfl ?_
  intro p e s m args below meth c s₁ B hml hv
  obtain ⟨rfl, hsz, hP, hK, hD0, hTb, hStr⟩ := hv
  subst hsz
  have hD := hD0.self (sz := s.heap.size)
  rw [lg_entry_eq]
  have hl := lv_entry (as.map (cv E)) (n := yl Y) (by rw [ent_len]; exact hwid)
  rw [← ent_cv E as 0, hll] at hl
  exact k hmr p l e _ s m _ below meth c (va_A (ax_ws E sh M) s.heap.size) E _ ⟨B.exec, B.bytes, B.returns, hml, findClass_of_methodNamed B.named, B.notSynchronized, fun h => ((name_of_methodNamed B.named B.method).1).trans h, hTb, fun q h => Or.inr h, hK, hStr, Nat.le_refl _, Nat.le_refl _, Nat.le_refl _, Nat.le_refl _⟩ rfl s.heap [] _ ⟨hP, hD, va_S.rf, hmr⟩ hl (by rw [← hll]; exact ent_vr as 0 hvr) (fun v h => by cases h)
theorem tv_mono {Y : ax_Y} {as : List ax_V} {sh : ax_S} {M : ax_M} {post post2 :  ax_M → Prop} (h : ax_Tv Y as sh M post) (hp : ∀ u, post u → post2 u) : ax_Tv Y as sh M post2 := by
  intro hvr hmr l E sz
  have h1 := h hvr hmr l E sz
  intro p e ha hc hk s m args below hf h2 h3 h4
  obtain ⟨t, o, a1, a2, a3, a4, a5⟩ := h1 p e ha hc hk s m args below hf h2 h3 h4
  refine ⟨t, o, a1, a2, a3, ?_, a5⟩
  obtain ⟨b1, b2⟩ := a4
  refine ⟨?_, b2⟩
  obtain ⟨u, c1, c2, c3⟩ := b1
  exact ⟨u, c1, hp u c2, c3⟩
/-- a call's words: a virtual one (private or not, own or a nest mate's), of n arguments beside the receiver; a static one -/
def ax_CB (Yc : ax_Y) (n : Nat) : Prop := Cond.code (yn Yc) (yc Yc) (yl Yc) (yr Yc) ∈ ax_tb ∧ Cond.initialized (yn Yc).cls ∈ ax_tb ∧ ((yn Yc).cls ≠ "java/lang/invoke/MethodHandle" ∧ (yn Yc).cls ≠ "java/lang/invoke/VarHandle") ∧ (parseMethodDescriptor (yn Yc).desc).map (fun d => d.parameters.length) = some n
def ax_CM (own : String) (idx : Nat) (Yc : ax_Y) : Prop := Cond.methodLink own idx (yn Yc) ∈ ax_tb ∨ ∃ host : String, Cond.methodLinkNest own idx (yn Yc) host ∈ ax_tb
def ax_CV (own : String) (idx : Nat) (Yc : ax_Y) (n ci : Nat) : Prop := ax_CB Yc n ∧ ax_CM own idx Yc ∧ Cond.instanceMethod (yn Yc) ∈ ax_tb ∧ Cond.selects (yn Yc).cls (yn Yc) (yn Yc) ∈ ax_tb ∧ ∃ q : vw_C, vwCl[ci]? = some q ∧ q.1 = (yn Yc).cls
def ax_CS (own : String) (idx : Nat) (Yc : ax_Y) (n : Nat) : Prop := ax_CB Yc n ∧ ax_CM own idx Yc ∧ Cond.static (yn Yc) ∈ ax_tb
def ax_fit (Y Yc : ax_Y) (nc ns : Nat) : Prop := yk Yc + 1 ≤ yk Y ∧ yl Yc ≤ 45 ∧ nc + ymc Yc ≤ ymc Y ∧ ns + yms Yc ≤ yms Y
theorem cb_n {Yc : ax_Y} {n : Nat} (h : ax_CB Yc n) : ∀ sig, parseMethodDescriptor (yn Yc).desc = some sig → n = sig.parameters.length := by
  intro sig hs
  have h2 := h.2.2.2
  rw [hs] at h2
  exact (Option.some.inj h2).symm
theorem ax_free {E : ax_E} {sh : ax_S} {M : ax_M} {A : Nat → Prop} {s : State} {H : Heap} {locs : List Loc} (hW : ax_W E sh M A s H locs) (hA : ∀ q, s.heap.size ≤ q → A q) : ∀ q, va_A (ax_ws E sh M) H.size q → A q := by
  intro q h
  rcases h with ⟨k, e, h⟩ | h
  · exact hW.2.1.2 k _ h
  · exact hA q (Nat.le_trans hW.2.2.1.1 h)
theorem ax_pre {Y : ax_Y} {p : Program} {R : Room} {s : State} {m : MethodId} {meth : Method} {c : Code} {A : Nat → Prop} {E : ax_E} {sh : ax_S} {M : ax_M} {H : Heap} {locs : List Loc} (C : ax_C Y p R s m meth c A E) (hW : ax_W E sh M A s H locs) (as : List ax_V) : ∀ U : State, U.heap = H → s.WarmedH U.vm → ax_Pc E as sh M H.size (as.map (cv E)).toArray U := by
  intro U hU hWm
  have hS0 := C.2.2.2.2.2.2.2.2.2.2.1
  refine ⟨rfl, by rw [hU], by rw [hU]; exact hW.1, va_K.moved hWm.alike C.2.2.2.2.2.2.2.2.2.1, hW.2.1.weaken (fun _ _ _ _ => trivial), ax_move hWm C.2.2.2.2.2.2.2.1, ax_Str.moved hWm ⟨?_, hS0.2.1, ?_, ?_⟩⟩
  · rw [hU]
    exact (hS0.1.kept hW.2.2.1.2.1).narrow (ax_free hW C.2.2.2.2.2.2.2.2.1)
  · rw [hU]
    exact (hS0.2.2.1.kept hW.2.2.1.2.1).narrow (ax_free hW C.2.2.2.2.2.2.2.2.1)
  · rw [hU]
    exact (hS0.2.2.2.kept hW.2.2.1.2.1).narrow (ax_free hW C.2.2.2.2.2.2.2.2.1)
theorem ax_wcat {E : ax_E} : ∀ (st : List ax_V), ((st.map (cv E)).map fun v => v.category).sum = ax_wid st
  | [] => rfl
  | v :: vs => by
    have h := ax_wcat (E := E) vs
    simp only [List.map_cons, List.sum_cons, ax_wid] at h ⊢
    rw [h, cv_cat]
theorem ax_runV {Y Yc : ax_Y} {n ci idx b nc ns pc : Nat} {kds : List Nat} {as rest : List ax_V} {p : Program} {l : Launch} {e : Env} {R : Room} {s : State} {m : MethodId} {args : Array Value} {below : List Frame} {meth : Method} {c : Code} {A : Nat → Prop} {E : ax_E} {sh : ax_S} {M : ax_M} {H : Heap} {locs : List Loc} {ls : Array Slot} {Qc : Array Value → State → Outcome → State → Prop} {free : Addr → Prop}
    (hd : decode (yc Y) pc = .ok (.invokevirtual idx, 3)) (hc : ax_CV (yn Y).cls idx Yc n ci) (hf : ax_fit Y Yc nc ns) (hs : sh[b]? = some (.inr (ci, kds))) (hn : as.length = n) (hrm : ax_wid rest ≤ 8)
    (C : ax_C Y p R s m meth c A E) (hW : ax_W E sh M A s H locs) (hsz : ls.size = yl Y) (hM : Met l (yn Yc) (ax_w0 Yc) (ax_rm Yc) (ax_Pc E (aR b :: as) sh M H.size) Qc (ymc Yc) (yms Yc) free) :
    va_Run p l e R s m args below meth c H locs nc ns (ymc Yc) (yms Yc) (F0 m pc ls (((as.reverse ++ aR b :: rest)).map (cv E))) (rest.map (cv E)) (Qc (((aR b :: as)).map (cv E)).toArray) free := by
  obtain ⟨hB, hL, hI, hSe, q, hq, hqn⟩ := hc
  have hts : ∀ w ∈ ax_tb, w.before args s = true := fun w h => C.2.2.2.2.2.2.2.1 w h args
  have hR := C.2.2.2.2.2.2.2.2.2.2.2
  have hws : ∀ w ∈ ax_w0 Yc, ∀ (a' : Array Value) (U : State), s.WarmedH U.vm → w.before a' U = true := fun w hw a' U hWm => by
    rcases List.mem_singleton.mp hw with rfl
    exact ax_move hWm C.2.2.2.2.2.2.2.1 _ hB.1 a'
  have hrv := va_recv C.2.2.2.2.2.2.2.2.2.1 hW.1 hq (q0 := b) (ws_at hs)
  rw [hqn] at hrv
  have hpre : PreV s H (yn Yc).cls (E.2.2.1 b) (ax_Pc E (aR b :: as) sh M H.size) (as.map (cv E)) := ⟨ax_blind, hrv, ax_pre C hW (aR b :: as)⟩
  have hr1 : (ax_rm Yc).frames + 1 ≤ R.frames := Nat.le_trans hf.1 hR.1
  have hr2 : 8 + (yl Yc + 11) + (ax_rm Yc).locals ≤ R.locals := by
    have h1 := hR.2.1
    have h2 := hf.1
    have h3 := hf.2.1
    show 8 + (yl Yc + 11) + 64 * yk Yc ≤ R.locals
    omega
  have hst : ((as.reverse ++ aR b :: rest)).map (cv E) = (as.map (cv E)).reverse ++ .ref (E.2.2.1 b) :: rest.map (cv E) := by
    rw [List.map_append, List.map_reverse]; rfl
  have hfit : nc + ymc Yc ≤ R.cells ∧ ns + yms Yc ≤ R.slots := ⟨Nat.le_trans hf.2.2.1 hR.2.2.1, Nat.le_trans hf.2.2.2 hR.2.2.2⟩
  have hcat : 2 * (F0 m pc ls (((as.reverse ++ aR b :: rest)).map (cv E))).monitorRoom + ((rest.map (cv E)).map fun v => v.category).sum ≤ 8 := by
    have h1 := ax_wcat (E := E) rest
    exact lv_room (by rw [h1]; exact hrm)
  rcases hL with hL | ⟨host, hL⟩
  · exact va_runV (Ts := ax_tb) ⟨C.1, C.2.1, C.2.2.2.1, C.2.2.2.2.1, hts⟩ hM ⟨⟨rfl, rfl, hr1, hr2, hws, List.mem_singleton.mpr rfl, hts _ hB.1, hts _ hB.2.1, hB.2.2.1, cb_n hB, hts _ hL⟩, hts _ hI, hts _ hSe⟩ hpre rfl (by rw [List.length_map]; exact hn) hsz hst hcat hd hfit
  · exact va_runVN (Ts := ax_tb) ⟨C.1, C.2.1, C.2.2.2.1, C.2.2.2.2.1, hts⟩ hM ⟨⟨⟨rfl, rfl, hr1, hr2, hws, List.mem_singleton.mpr rfl⟩, hts _ hB.1, hts _ hB.2.1, hB.2.2.1, cb_n hB, hts _ hL⟩, hts _ hI, hts _ hSe⟩ hpre rfl (by rw [List.length_map]; exact hn) hsz hst hcat hd hfit
theorem ax_runS {Y Yc : ax_Y} {n idx nc ns pc : Nat} {as rest : List ax_V} {p : Program} {l : Launch} {e : Env} {R : Room} {s : State} {m : MethodId} {args : Array Value} {below : List Frame} {meth : Method} {c : Code} {A : Nat → Prop} {E : ax_E} {sh : ax_S} {M : ax_M} {H : Heap} {locs : List Loc} {ls : Array Slot} {Qc : Array Value → State → Outcome → State → Prop} {free : Addr → Prop}
    (hd : decode (yc Y) pc = .ok (.invokestatic idx, 3)) (hc : ax_CS (yn Y).cls idx Yc n) (hf : ax_fit Y Yc nc ns) (hn : as.length = n) (hrm : ax_wid rest ≤ 8)
    (C : ax_C Y p R s m meth c A E) (hW : ax_W E sh M A s H locs) (hsz : ls.size = yl Y) (hM : Met l (yn Yc) (ax_w0 Yc) (ax_rm Yc) (ax_Pc E as sh M H.size) Qc (ymc Yc) (yms Yc) free) :
    va_Run p l e R s m args below meth c H locs nc ns (ymc Yc) (yms Yc) (F0 m pc ls (((as.reverse ++ rest)).map (cv E))) (rest.map (cv E)) (Qc ((as).map (cv E)).toArray) free := by
  obtain ⟨hB, hL, hI⟩ := hc
  have hts : ∀ w ∈ ax_tb, w.before args s = true := fun w h => C.2.2.2.2.2.2.2.1 w h args
  have hR := C.2.2.2.2.2.2.2.2.2.2.2
  have hws : ∀ w ∈ ax_w0 Yc, ∀ (a' : Array Value) (U : State), s.WarmedH U.vm → w.before a' U = true := fun w hw a' U hWm => by
    rcases List.mem_singleton.mp hw with rfl
    exact ax_move hWm C.2.2.2.2.2.2.2.1 _ hB.1 a'
  have hpre : PreS s H (ax_Pc E as sh M H.size) (as.map (cv E)) := ⟨ax_blind, ax_pre C hW as⟩
  have hr1 : (ax_rm Yc).frames + 1 ≤ R.frames := Nat.le_trans hf.1 hR.1
  have hr2 : 8 + (yl Yc + 11) + (ax_rm Yc).locals ≤ R.locals := by
    have h1 := hR.2.1
    have h2 := hf.1
    have h3 := hf.2.1
    show 8 + (yl Yc + 11) + 64 * yk Yc ≤ R.locals
    omega
  have hst : ((as.reverse ++ rest)).map (cv E) = (as.map (cv E)).reverse ++ rest.map (cv E) := by
    rw [List.map_append, List.map_reverse]
  have hfit : nc + ymc Yc ≤ R.cells ∧ ns + yms Yc ≤ R.slots := ⟨Nat.le_trans hf.2.2.1 hR.2.2.1, Nat.le_trans hf.2.2.2 hR.2.2.2⟩
  have hcat : 2 * (F0 m pc ls (((as.reverse ++ rest)).map (cv E))).monitorRoom + ((rest.map (cv E)).map fun v => v.category).sum ≤ 8 := by
    have h1 := ax_wcat (E := E) rest
    exact lv_room (by rw [h1]; exact hrm)
  rcases hL with hL | ⟨host, hL⟩
  · exact va_runS (Ts := ax_tb) ⟨C.1, C.2.1, C.2.2.2.1, C.2.2.2.2.1, hts⟩ hM ⟨⟨rfl, rfl, hr1, hr2, hws, List.mem_singleton.mpr rfl, hts _ hB.1, hts _ hB.2.1, hB.2.2.1, cb_n hB, hts _ hL⟩, hts _ hI⟩ hpre rfl (by rw [List.length_map]; exact hn) hsz hst hcat hd hfit
  · exact va_runSN (Ts := ax_tb) ⟨C.1, C.2.1, C.2.2.2.1, C.2.2.2.2.1, hts⟩ hM ⟨⟨⟨rfl, rfl, hr1, hr2, hws, List.mem_singleton.mpr rfl⟩, hts _ hB.1, hts _ hB.2.1, hB.2.2.1, cb_n hB, hts _ hL⟩, hts _ hI, trivial⟩ hpre rfl (by rw [List.length_map]; exact hn) hsz hst hcat hd hfit
section JCALL
variable {Y Yc : ax_Y} {K : ax_KT} {nc ns pc n ci idx b : Nat} {ll : List (Nat × ax_V)} {st as rest : List ax_V} {sh : ax_S} {M : ax_M} {kds : List Nat}
theorem j_calliV (hd : decode (yc Y) pc = .ok (.invokevirtual idx, 3)) (hc : ax_CV (yn Y).cls idx Yc n ci) (hf : ax_fit Y Yc nc ns) (hs : sh[b]? = some (.inr (ci, kds))) (hn : as.length = n) (hrm : ax_wid rest ≤ 8) (hst : as.reverse ++ aR b :: rest = st) (hT : ax_Ti Yc (aR b :: as) sh M (fun z u => ax_J Y K (nc + ymc Yc) (ns + yms Yc) (pc + 3) ll (aI z :: rest) sh u)) : ax_J Y K nc ns pc ll st sh M := by
  subst hst
  intro p l e R s m args below meth c A E Q C hK H locs ls hW hl hr1 hr2
  have hM := hT (fun v hv => hr2 v (by rcases List.mem_cons.mp hv with h | h; (rw [h]; simp); (exact List.mem_append_left _ (List.mem_reverse.mpr h)))) hW.2.2.2 l E H.size
  have hFc := ax_free hW C.2.2.2.2.2.2.2.2.1
  refine va_calli (ax_runV hd hc hf hs hn hrm C hW hl.1 hM) hW.2.2.1 (fun q _ h => hFc q h) hFc (fun r u t H1 locs1 ht hvm hw hB hz1 hk1 hS1 => ?_)
  obtain ⟨hP1, hD1, hm1⟩ := hB
  rw [ht] at hP1
  obtain ⟨z, rfl, hz, hJ⟩ := hw
  exact hJ p l e R s m args below meth c A E Q C hK H1 locs1 ls ⟨hP1, hD1.weaken (fun _ q _ h => hFc q.1 h), hS1, hm1⟩ hl hr1 (j_cons hz (fun v hv => hr2 v (List.mem_append_right _ (List.mem_cons_of_mem _ hv))))
theorem j_calliS (hd : decode (yc Y) pc = .ok (.invokestatic idx, 3)) (hc : ax_CS (yn Y).cls idx Yc n) (hf : ax_fit Y Yc nc ns) (hn : as.length = n) (hrm : ax_wid rest ≤ 8) (hst : as.reverse ++ rest = st) (hT : ax_Ti Yc as sh M (fun z u => ax_J Y K (nc + ymc Yc) (ns + yms Yc) (pc + 3) ll (aI z :: rest) sh u)) : ax_J Y K nc ns pc ll st sh M := by
  subst hst
  intro p l e R s m args below meth c A E Q C hK H locs ls hW hl hr1 hr2
  have hM := hT (fun v hv => hr2 v (List.mem_append_left _ (List.mem_reverse.mpr hv))) hW.2.2.2 l E H.size
  have hFc := ax_free hW C.2.2.2.2.2.2.2.2.1
  refine va_calli (ax_runS hd hc hf hn hrm C hW hl.1 hM) hW.2.2.1 (fun q _ h => hFc q h) hFc (fun r u t H1 locs1 ht hvm hw hB hz1 hk1 hS1 => ?_)
  obtain ⟨hP1, hD1, hm1⟩ := hB
  rw [ht] at hP1
  obtain ⟨z, rfl, hz, hJ⟩ := hw
  exact hJ p l e R s m args below meth c A E Q C hK H1 locs1 ls ⟨hP1, hD1.weaken (fun _ q _ h => hFc q.1 h), hS1, hm1⟩ hl hr1 (j_cons hz (fun v hv => hr2 v (List.mem_append_right _ hv)))
theorem j_calllV (hd : decode (yc Y) pc = .ok (.invokevirtual idx, 3)) (hc : ax_CV (yn Y).cls idx Yc n ci) (hf : ax_fit Y Yc nc ns) (hs : sh[b]? = some (.inr (ci, kds))) (hn : as.length = n) (hrm : ax_wid rest ≤ 8) (hst : as.reverse ++ aR b :: rest = st) (hT : ax_Tl Yc (aR b :: as) sh M (fun z u => ax_J Y K (nc + ymc Yc) (ns + yms Yc) (pc + 3) ll (aL z :: rest) sh u)) : ax_J Y K nc ns pc ll st sh M := by
  subst hst
  intro p l e R s m args below meth c A E Q C hK H locs ls hW hl hr1 hr2
  have hM := hT (fun v hv => hr2 v (by rcases List.mem_cons.mp hv with h | h; (rw [h]; simp); (exact List.mem_append_left _ (List.mem_reverse.mpr h)))) hW.2.2.2 l E H.size
  have hFc := ax_free hW C.2.2.2.2.2.2.2.2.1
  refine va_calll (ax_runV hd hc hf hs hn hrm C hW hl.1 hM) hW.2.2.1 (fun q _ h => hFc q h) hFc (fun r u t H1 locs1 ht hvm hw hB hz1 hk1 hS1 => ?_)
  obtain ⟨hP1, hD1, hm1⟩ := hB
  rw [ht] at hP1
  obtain ⟨z, rfl, hz, hJ⟩ := hw
  exact hJ p l e R s m args below meth c A E Q C hK H1 locs1 ls ⟨hP1, hD1.weaken (fun _ q _ h => hFc q.1 h), hS1, hm1⟩ hl hr1 (j_cons hz (fun v hv => hr2 v (List.mem_append_right _ (List.mem_cons_of_mem _ hv))))
theorem j_calllS (hd : decode (yc Y) pc = .ok (.invokestatic idx, 3)) (hc : ax_CS (yn Y).cls idx Yc n) (hf : ax_fit Y Yc nc ns) (hn : as.length = n) (hrm : ax_wid rest ≤ 8) (hst : as.reverse ++ rest = st) (hT : ax_Tl Yc as sh M (fun z u => ax_J Y K (nc + ymc Yc) (ns + yms Yc) (pc + 3) ll (aL z :: rest) sh u)) : ax_J Y K nc ns pc ll st sh M := by
  subst hst
  intro p l e R s m args below meth c A E Q C hK H locs ls hW hl hr1 hr2
  have hM := hT (fun v hv => hr2 v (List.mem_append_left _ (List.mem_reverse.mpr hv))) hW.2.2.2 l E H.size
  have hFc := ax_free hW C.2.2.2.2.2.2.2.2.1
  refine va_calll (ax_runS hd hc hf hn hrm C hW hl.1 hM) hW.2.2.1 (fun q _ h => hFc q h) hFc (fun r u t H1 locs1 ht hvm hw hB hz1 hk1 hS1 => ?_)
  obtain ⟨hP1, hD1, hm1⟩ := hB
  rw [ht] at hP1
  obtain ⟨z, rfl, hz, hJ⟩ := hw
  exact hJ p l e R s m args below meth c A E Q C hK H1 locs1 ls ⟨hP1, hD1.weaken (fun _ q _ h => hFc q.1 h), hS1, hm1⟩ hl hr1 (j_cons hz (fun v hv => hr2 v (List.mem_append_right _ hv)))
theorem j_callvV (hd : decode (yc Y) pc = .ok (.invokevirtual idx, 3)) (hc : ax_CV (yn Y).cls idx Yc n ci) (hf : ax_fit Y Yc nc ns) (hs : sh[b]? = some (.inr (ci, kds))) (hn : as.length = n) (hrm : ax_wid rest ≤ 8) (hst : as.reverse ++ aR b :: rest = st) (hT : ax_Tv Yc (aR b :: as) sh M (fun u => ax_J Y K (nc + ymc Yc) (ns + yms Yc) (pc + 3) ll (rest) sh u)) : ax_J Y K nc ns pc ll st sh M := by
  subst hst
  intro p l e R s m args below meth c A E Q C hK H locs ls hW hl hr1 hr2
  have hM := hT (fun v hv => hr2 v (by rcases List.mem_cons.mp hv with h | h; (rw [h]; simp); (exact List.mem_append_left _ (List.mem_reverse.mpr h)))) hW.2.2.2 l E H.size
  have hFc := ax_free hW C.2.2.2.2.2.2.2.2.1
  refine va_callv (ax_runV hd hc hf hs hn hrm C hW hl.1 hM) hW.2.2.1 (fun q _ h => hFc q h) hFc (fun u t H1 locs1 ht hvm hw hB hz1 hk1 hS1 => ?_)
  obtain ⟨hP1, hD1, hm1⟩ := hB
  rw [ht] at hP1
  exact hw p l e R s m args below meth c A E Q C hK H1 locs1 ls ⟨hP1, hD1.weaken (fun _ q _ h => hFc q.1 h), hS1, hm1⟩ hl hr1 (fun v hv => hr2 v (List.mem_append_right _ (List.mem_cons_of_mem _ hv)))
theorem j_callvS (hd : decode (yc Y) pc = .ok (.invokestatic idx, 3)) (hc : ax_CS (yn Y).cls idx Yc n) (hf : ax_fit Y Yc nc ns) (hn : as.length = n) (hrm : ax_wid rest ≤ 8) (hst : as.reverse ++ rest = st) (hT : ax_Tv Yc as sh M (fun u => ax_J Y K (nc + ymc Yc) (ns + yms Yc) (pc + 3) ll (rest) sh u)) : ax_J Y K nc ns pc ll st sh M := by
  subst hst
  intro p l e R s m args below meth c A E Q C hK H locs ls hW hl hr1 hr2
  have hM := hT (fun v hv => hr2 v (List.mem_append_left _ (List.mem_reverse.mpr hv))) hW.2.2.2 l E H.size
  have hFc := ax_free hW C.2.2.2.2.2.2.2.2.1
  refine va_callv (ax_runS hd hc hf hn hrm C hW hl.1 hM) hW.2.2.1 (fun q _ h => hFc q h) hFc (fun u t H1 locs1 ht hvm hw hB hz1 hk1 hS1 => ?_)
  obtain ⟨hP1, hD1, hm1⟩ := hB
  rw [ht] at hP1
  exact hw p l e R s m args below meth c A E Q C hK H1 locs1 ls ⟨hP1, hD1.weaken (fun _ q _ h => hFc q.1 h), hS1, hm1⟩ hl hr1 (fun v hv => hr2 v (List.mem_append_right _ hv))
end JCALL
