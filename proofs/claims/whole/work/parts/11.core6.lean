/-! making cells: the places behind the last; addresses of places that were are kept -/
def ax_ext (n : Nat) (E E' : ax_E) : Prop := E'.1 = E.1 ∧ E'.2.1 = E.2.1 ∧ E'.2.2.2 = E.2.2.2 ∧ ∀ k, (k < n ∨ 1000 ≤ k) → E'.2.2.1 k = E.2.2.1 k
theorem ax_ext.trans {n n' : Nat} {E E' E2 : ax_E} (h : ax_ext n E E') (h2 : ax_ext n' E' E2) (hn : n ≤ n') : ax_ext n E E2 := ⟨h2.1.trans h.1, h2.2.1.trans h.2.1, h2.2.2.1.trans h.2.2.1, fun k hk => (h2.2.2.2 k (by omega)).trans (h.2.2.2 k hk)⟩
theorem ax_ext.rf {n : Nat} {E : ax_E} : ax_ext n E E := ⟨rfl, rfl, rfl, fun _ _ => rfl⟩
/-- refs of a value lie below n, or among the texts -/
def ax_lo (n : Nat) : ax_V → Bool
  | .inr (.inr k) => decide (k < n ∨ 1000 ≤ k)
  | _ => true
theorem cv_ext {n : Nat} {E E' : ax_E} (h : ax_ext n E E') {v : ax_V} (hv : ax_lo n v = true) : cv E' v = cv E v := by
  rcases v with x | x | x
  · rfl
  · rfl
  · have h2 : x < n ∨ 1000 ≤ x := of_decide_eq_true hv
    show Value.ref _ = Value.ref _
    rw [h.2.2.2 x h2]
theorem map_ext {n : Nat} {E E' : ax_E} (h : ax_ext n E E') {st : List ax_V} (hv : st.all (ax_lo n) = true) : st.map (cv E') = st.map (cv E) := by
  apply List.map_congr_left
  intro v hm
  exact cv_ext h (List.all_eq_true.mp hv v hm)
theorem cvl_ext {n : Nat} {E E' : ax_E} (h : ax_ext n E E') {ll : List (Nat × ax_V)} (hv : (ll.all fun q => ax_lo n q.2) = true) : cvl E' ll = cvl E ll := by
  apply List.map_congr_left
  intro q hm
  show (q.1, cv E' q.2) = (q.1, cv E q.2)
  rw [cv_ext h (List.all_eq_true.mp hv q hm)]
theorem val_ext {n : Nat} {E E' : ax_E} (h : ax_ext n E E') {kd : Nat} {x : Int} (hx : (kd = 2 → x < (n : Int)) ∧ (10 ≤ kd → kd - 10 < n)) : ax_val E' kd x = ax_val E kd x := by
  unfold ax_val
  by_cases h10 : 10 ≤ kd
  · rw [if_pos h10, if_pos h10, h.2.2.2 _ (Or.inl (hx.2 h10))]
  rw [if_neg h10, if_neg h10]
  split
  · rfl
  · by_cases h0 : x < 0
    · rw [if_pos h0, if_pos h0]
    · rw [if_neg h0, if_neg h0, h.2.2.2 x.toNat (Or.inl (by have := hx.1 rfl; omega))]
  · rfl
theorem ws_ext {sh : ax_S} {M : ax_M} {E E' : ax_E} (h : ax_ext sh.length E E') (hm : ax_mr sh M) : ax_ws E' sh M = ax_ws E sh M := by
  apply List.ext_getElem?
  intro k
  cases hk : sh[k]? with
  | none => simp [ax_ws, List.getElem?_mapIdx, hk]
  | some x =>
    rw [ws_at hk, ws_at hk]
    have hkl : k < sh.length := (List.getElem?_eq_some_iff.mp hk).1
    rw [h.2.2.2 k (Or.inl hkl)]
    congr 2
    rcases x with ⟨kd, n⟩ | ⟨ci, kds⟩
    · simp only [ax_cell, h.2.1]
      congr 2
      unfold ax_arr
      split
      · rfl
      · congr 5
        funext j
        by_cases hj : j < n ∧ 0 ≤ M k (j : Int)
        · have h1 := (hm.1 k 2 n hk j hj.1).2 rfl
          rw [if_pos hj, if_pos hj, h.2.2.2 _ (Or.inl (by omega))]
        · rw [if_neg hj, if_neg hj]
      · rfl
    · simp only [ax_cell]
      congr 2
      apply List.ext_getElem?
      intro j
      cases hj : kds[j]? with
      | none => simp [ax_fs, List.getElem?_mapIdx, hj]
      | some kd =>
        rw [fs_at hj, fs_at hj, val_ext h (hm.2 k ci kds hk j kd hj).2]
theorem c_ext {Y : ax_Y} {p : Program} {R : Room} {s : State} {m : MethodId} {meth : Method} {c : Code} {A : Nat → Prop} {E E' : ax_E} {n : Nat} (C : ax_C Y p R s m meth c A E) (h : ax_ext n E E') : ax_C Y p R s m meth c A E' := by
  obtain ⟨h1, h2, h3, h4, h5, h6, h7, h8, h9, h10, ⟨h11, h12, h14, h15⟩, h13⟩ := C
  have ha : ∀ i, E'.2.2.1 (1000 + i) = E.2.2.1 (1000 + i) := fun i => h.2.2.2 _ (Or.inr (by omega))
  have hf : (fun i => E'.2.2.1 (1000 + i)) = (fun i => E.2.2.1 (1000 + i)) := funext ha
  have hf2 : (fun i => E'.2.2.1 (1100 + i)) = (fun i => E.2.2.1 (1100 + i)) := funext (fun i => h.2.2.2 _ (Or.inr (by omega)))
  refine ⟨h1, h2, h3, h4, h5, h6, h7, h8, h9, ?_, ⟨?_, fun i o k tx hi => ?_, h14, h15⟩, h13⟩
  · rw [h.1]; unfold ax_tys; rw [h.2.1]; exact h10
  · rw [hf, hf2]; exact h11
  · rw [ha]; exact h12 i o k tx hi
/-- an end that doesn't mind new places from n on -/
def ax_Kst (K : ax_KT) (n : Nat) : Prop := ∀ (p : Program) (l : Launch) (e : Env) (R : Room) (s : State) (m : MethodId) (args : Array Value) (below : List Frame) (meth : Method) (c : Code) (A : Nat → Prop) (E E' : ax_E) (Q : State → Prop), ax_ext n E E' → K p l e R s m args below meth c A E Q → K p l e R s m args below meth c A E' Q
def ax_nw (kds : List Nat) : Int → Int := fun j => if kds[j.toNat]? = some 2 then -1 else 0
def ax_add (M : ax_M) (n : Nat) (f : Int → Int) : ax_M := fun a => if a = n then f else M a
theorem ws_add {E : ax_E} {sh : ax_S} {M : ax_M} {x : (Nat × Nat) ⊕ (Nat × List Nat)} {f : Int → Int} : ax_ws E (sh ++ [x]) (ax_add M sh.length f) = ax_ws E sh M ++ [(E.2.2.1 sh.length, ax_cell E x f)] := by
  apply List.ext_getElem?
  intro k
  by_cases h : k < sh.length
  · rw [List.getElem?_append_left (by simpa [ax_ws] using h)]
    have h2 : ¬ k = sh.length := by omega
    simp only [ax_ws, List.getElem?_mapIdx]
    rw [List.getElem?_append_left h]
    simp only [ax_add, if_neg h2]
  · by_cases h3 : k = sh.length
    · subst h3
      rw [List.getElem?_append_right (by simp [ax_ws])]
      simp [ax_ws, List.getElem?_mapIdx, ax_add]
    · rw [List.getElem?_eq_none (by simp [ax_ws]; omega), List.getElem?_eq_none (by simp [ax_ws]; omega)]
theorem mr_add {sh : ax_S} {M : ax_M} {x : (Nat × Nat) ⊕ (Nat × List Nat)} {f : Int → Int} (h : ax_mr sh M) (h1 : ∀ kd n, x = .inl (kd, n) → ∀ j : Nat, j < n → ax_rg kd (f (j : Int)) ∧ (kd = 2 → f (j : Int) < 0)) (h2 : ∀ ci kds, x = .inr (ci, kds) → ∀ j kd : Nat, kds[j]? = some kd → ax_rg kd (f (j : Int)) ∧ (kd = 2 → f (j : Int) < 0) ∧ kd < 10) : ax_mr (sh ++ [x]) (ax_add M sh.length f) := by
  have hc : ∀ (k : Nat) (y : (Nat × Nat) ⊕ (Nat × List Nat)), (sh ++ [x])[k]? = some y → (sh[k]? = some y ∧ ¬ k = sh.length) ∨ (y = x ∧ k = sh.length) := by
    intro k y hk
    by_cases hl : k < sh.length
    · rw [List.getElem?_append_left hl] at hk
      exact Or.inl ⟨hk, by omega⟩
    · rw [List.getElem?_append_right (by omega)] at hk
      have hz : k - sh.length < 1 := (List.getElem?_eq_some_iff.mp hk).1
      have hk0 : k = sh.length := by omega
      subst hk0
      rw [Nat.sub_self] at hk
      exact Or.inr ⟨(Option.some.inj hk).symm, rfl⟩
  have hlen : ((sh ++ [x]).length : Int) = (sh.length : Int) + 1 := by simp
  refine ⟨fun k kd n hk j hj => ?_, fun k ci kds hk j kd hj => ?_⟩
  · rcases hc k _ hk with ⟨a, b⟩ | ⟨a, b⟩
    · have q := h.1 k kd n a j hj
      simp only [ax_add, b, if_false]
      exact ⟨q.1, fun z => by have := q.2 z; rw [hlen]; omega⟩
    · have q := h1 kd n a.symm j hj
      subst b
      simp only [ax_add, if_true]
      exact ⟨q.1, fun z => by have := q.2 z; rw [hlen]; omega⟩
  · rcases hc k _ hk with ⟨a, b⟩ | ⟨a, b⟩
    · have q := h.2 k ci kds a j kd hj
      simp only [ax_add, b, if_false]
      exact ⟨q.1, fun z => by have := q.2.1 z; rw [hlen]; omega, fun z => by have := q.2.2 z; rw [List.length_append]; omega⟩
    · have q := h2 ci kds a.symm j kd hj
      subst b
      simp only [ax_add, if_true]
      exact ⟨q.1, fun z => by have := q.2.1 z; rw [hlen]; omega, fun z => by have := q.2.2; omega⟩
def ax_mk (E : ax_E) (n q : Nat) : ax_E := (E.1, E.2.1, fun k => if k = n then q else E.2.2.1 k, E.2.2.2)
theorem mk_ext {E : ax_E} {n q : Nat} (hn : n < 1000) : ax_ext n E (ax_mk E n q) := ⟨rfl, rfl, rfl, fun k hk => if_neg (by omega)⟩
theorem mk_at {E : ax_E} {n q : Nat} : (ax_mk E n q).2.2.1 n = q := if_pos rfl
/-- an object of a class can be made: class entry, fields' kinds -/
def ax_NW (own : String) (idx ci N : Nat) (kds : List Nat) : Prop := ∃ (C : String) (T : u_T) (ty : Nat → FieldType), vwCl[ci]? = some (C, T, N) ∧ (∀ w ∈ u_ws C T N, w ∈ ax_tb) ∧ (∀ k, k < N → parseFieldDescriptor (T k).2.2.1 = some (ty k)) ∧ Cond.classLink own idx C ∈ ax_tb ∧ Cond.instantiable C N ∈ ax_tb ∧ Cond.initialized C ∈ ax_tb ∧ (∀ j, j < N → ∃ kd, kds[j]? = some kd ∧ (kd = 2 → defaultValue (ty j) = .null) ∧ (kd = 1 → defaultValue (ty j) = .long 0) ∧ (kd = 0 → defaultValue (ty j) = .int 0) ∧ kd < 3)
section JNEW
variable {Y Yc : ax_Y} {K : ax_KT} {nc ns pc n ci idx b N : Nat} {ll : List (Nat × ax_V)} {st as rest : List ax_V} {sh : ax_S} {M : ax_M} {kds : List Nat}
theorem j_new (hd : decode (yc Y) pc = .ok (.new idx, 3)) (hnw : ax_NW (yn Y).cls idx ci N kds) (hk3 : kds.all (fun k => decide (k < 3)) = true) (hn : sh.length < 1000) (hlo : (ll.all fun q => ax_lo sh.length q.2) = true) (hlo2 : st.all (ax_lo sh.length) = true) (hKs : ax_Kst K sh.length) (hc : nc + 1 ≤ ymc Y ∧ ns + N ≤ yms Y)
    (kk : ax_J Y K (nc + 1) (ns + N) (pc + 3) ll (aR sh.length :: st) (sh ++ [.inr (ci, kds)]) (ax_add M sh.length (ax_nw kds))) : ax_J Y K nc ns pc ll st sh M := by
  intro p l e R s m args below meth c A E Q C hK H locs ls hW hl hr1 hr2
  obtain ⟨Cn, T, ty, hcl, hin, hty, hw1, hw2, hw3, hdf⟩ := hnw
  have hts : ∀ w ∈ ax_tb, w.before args s = true := fun w h => C.2.2.2.2.2.2.2.1 w h args
  have hR := C.2.2.2.2.2.2.2.2.2.2.2
  have hfs : ∀ j, j < N → defaultValue (ty j) = vp_V (ax_fs E kds (ax_nw kds)) j := by
    intro j hj
    obtain ⟨kd, q1, q2, q3, q4, q5⟩ := hdf j hj
    unfold vp_V
    rw [List.getD_eq_getElem?_getD, fs_at q1]
    show defaultValue (ty j) = ax_val E kd (ax_nw kds (j : Int))
    unfold ax_nw
    rw [Int.toNat_natCast, q1]
    rcases (show kd = 0 ∨ kd = 1 ∨ kd = 2 by omega) with rfl | rfl | rfl
    · rw [q4 rfl]; rfl
    · rw [q3 rfl]; rfl
    · rw [q2 rfl]; rfl
  refine va_new (ci := ci) (fs := ax_fs E kds (ax_nw kds)) C.1 C.2.1 hts hin ty hty C.2.2.2.2.1 (hts _ hw1) (hts _ hw2) (hts _ hw3) C.2.2.2.2.2.2.2.2.2.1 hW.1 hW.2.1 hW.2.2.1 C.2.2.2.2.2.2.2.2.1 hcl hfs (Nat.le_trans hc.1 hR.2.2.1) (Nat.le_trans hc.2 hR.2.2.2) hd (fun q H1 hP1 hD1 hS1 => ?_)
  have hx : ax_ext sh.length E (ax_mk E sh.length q) := mk_ext hn
  have hfe : ax_fs E kds (ax_nw kds) = ax_fs (ax_mk E sh.length q) kds (ax_nw kds) := by
    apply List.ext_getElem?
    intro j
    cases hj : kds[j]? with
    | none => simp [ax_fs, List.getElem?_mapIdx, hj]
    | some kd =>
      rw [fs_at hj, fs_at hj, val_ext hx ⟨fun z => by
        subst z
        unfold ax_nw
        rw [Int.toNat_natCast, hj]
        simp; omega, fun z => by
        have hk := of_decide_eq_true (List.all_eq_true.mp hk3 kd (List.mem_of_getElem? hj))
        omega⟩]
  have hwe : ax_ws E sh M ++ [(q, .inr (ci, ax_fs E kds (ax_nw kds)))] = ax_ws (ax_mk E sh.length q) (sh ++ [.inr (ci, kds)]) (ax_add M sh.length (ax_nw kds)) := by
    rw [ws_add, ws_ext hx hW.2.2.2, mk_at, hfe]; rfl
  rw [hwe] at hP1 hD1
  have h := kk p l e R s m args below meth c A (ax_mk E sh.length q) Q (c_ext C hx) (hKs _ _ _ _ _ _ _ _ _ _ _ _ _ _ hx hK) H1 locs ls ⟨hP1, hD1, hS1, mr_add hW.2.2.2 (fun kd n h => by cases h) (fun ci' kds' h j kd hj => by
    cases h
    have hk := of_decide_eq_true (List.all_eq_true.mp hk3 kd (List.mem_of_getElem? hj))
    unfold ax_nw
    rw [Int.toNat_natCast, hj]
    rcases (show kd = 0 ∨ kd = 1 ∨ kd = 2 by omega) with rfl | rfl | rfl
    · exact ⟨⟨by decide, by decide⟩, (fun z => by cases z), by omega⟩
    · exact ⟨⟨by decide, by decide⟩, (fun z => by cases z), by omega⟩
    · exact ⟨(by show (-1 : Int) ≤ (if some 2 = some 2 then -1 else 0); decide), fun _ => by decide, by omega⟩)⟩ (by rw [cvl_ext hx hlo]; exact hl) hr1 (j_cons trivial hr2)
  rw [List.map_cons, map_ext hx hlo2] at h
  have h2 : cv (ax_mk E sh.length q) (aR sh.length) = .ref q := by
    show Value.ref _ = Value.ref q
    rw [mk_at]
  rw [h2] at h
  exact h
theorem j_newa0 {z : Int} (N : Nat) (hd : decode (yc Y) pc = .ok (.newarray .int, 2)) (hw : Cond.arrayClass .int ∈ ax_tb) (hz : z = (N : Int)) (hN : N ≤ 10000) (hn : sh.length < 1000) (hlo : (ll.all fun q => ax_lo sh.length q.2) = true) (hlo2 : st.all (ax_lo sh.length) = true) (hKs : ax_Kst K sh.length) (hc : nc + 1 ≤ ymc Y ∧ ns + N ≤ yms Y)
    (kk : ax_J Y K (nc + 1) (ns + N) (pc + 2) ll (aR sh.length :: st) (sh ++ [.inl (0, N)]) (ax_add M sh.length (fun _ => 0))) : ax_J Y K nc ns pc ll (aI z :: st) sh M := by
  subst hz
  intro p l e R s m args below meth c A E Q C hK H locs ls hW hl hr1 hr2
  have hts : ∀ w ∈ ax_tb, w.before args s = true := fun w h => C.2.2.2.2.2.2.2.1 w h args
  have hR := C.2.2.2.2.2.2.2.2.2.2.2
  have hKv := C.2.2.2.2.2.2.2.2.2.1
  have hNi : i32 (N : Int) := j_h1 hr2
  have hb : N * componentBytes .int ≤ 536870912 := Nat.le_trans (Nat.mul_le_mul_right _ hN) (by decide)
  refine va_newa (atype := .int) (a0 := ax_arr E 0 N (fun _ => 0)) (N' := N) C.1 C.2.1 (hts _ hw) rfl hKv hW.1 hW.2.1 hW.2.2.1 C.2.2.2.2.2.2.2.2.1 (fun cA => rfl) (by
    intro h
    have h2 := (c32_lt hNi i32_0).mp h
    omega) (by rw [v_nat hNi]; omega) hb (Nat.le_trans hc.1 hR.2.2.1) (Nat.le_trans hc.2 hR.2.2.2) hd (fun q cA H1 hK1 hP1 hD1 hS1 => ?_)
  have hcA : cA = E.2.1 0 := by
    have h1 := (hK1.2 (ax_tys E).length (cA, .int) (by rw [List.getElem?_append_right (Nat.le_refl _), Nat.sub_self]; rfl)).2
    have h2 := (hKv.2 0 (E.2.1 0, .int) rfl).2
    exact Option.some.inj (h1.symm.trans h2)
  subst hcA
  have hx : ax_ext sh.length E (ax_mk E sh.length q) := mk_ext hn
  have hwe : ax_ws E sh M ++ [(q, .inl (E.2.1 0, ax_arr E 0 N (fun _ => 0)))] = ax_ws (ax_mk E sh.length q) (sh ++ [.inl (0, N)]) (ax_add M sh.length (fun _ => 0)) := by
    rw [ws_add, ws_ext hx hW.2.2.2, mk_at]; rfl
  rw [hwe] at hP1 hD1
  have h := kk p l e R s m args below meth c A (ax_mk E sh.length q) Q (c_ext C hx) (hKs _ _ _ _ _ _ _ _ _ _ _ _ _ _ hx hK) H1 locs ls ⟨hP1, hD1, hS1, mr_add hW.2.2.2 (fun kd n h j hj => by
    cases h
    exact ⟨⟨by decide, by decide⟩, fun z => by cases z⟩) (fun ci' kds' h j kd hj => by cases h)⟩ (by rw [cvl_ext hx hlo]; exact hl) hr1 (j_cons trivial (j_t1 hr2))
  rw [List.map_cons, map_ext hx hlo2] at h
  have h2 : cv (ax_mk E sh.length q) (aR sh.length) = .ref q := by
    show Value.ref _ = Value.ref q
    rw [mk_at]
  rw [h2] at h
  exact h
theorem j_newa1 {z : Int} (N : Nat) (hd : decode (yc Y) pc = .ok (.newarray .long, 2)) (hw : Cond.arrayClass .long ∈ ax_tb) (hz : z = (N : Int)) (hN : N ≤ 10000) (hn : sh.length < 1000) (hlo : (ll.all fun q => ax_lo sh.length q.2) = true) (hlo2 : st.all (ax_lo sh.length) = true) (hKs : ax_Kst K sh.length) (hc : nc + 1 ≤ ymc Y ∧ ns + N ≤ yms Y)
    (kk : ax_J Y K (nc + 1) (ns + N) (pc + 2) ll (aR sh.length :: st) (sh ++ [.inl (1, N)]) (ax_add M sh.length (fun _ => 0))) : ax_J Y K nc ns pc ll (aI z :: st) sh M := by
  subst hz
  intro p l e R s m args below meth c A E Q C hK H locs ls hW hl hr1 hr2
  have hts : ∀ w ∈ ax_tb, w.before args s = true := fun w h => C.2.2.2.2.2.2.2.1 w h args
  have hR := C.2.2.2.2.2.2.2.2.2.2.2
  have hKv := C.2.2.2.2.2.2.2.2.2.1
  have hNi : i32 (N : Int) := j_h1 hr2
  have hb : N * componentBytes .long ≤ 536870912 := Nat.le_trans (Nat.mul_le_mul_right _ hN) (by decide)
  refine va_newa (atype := .long) (a0 := ax_arr E 1 N (fun _ => 0)) (N' := N) C.1 C.2.1 (hts _ hw) rfl hKv hW.1 hW.2.1 hW.2.2.1 C.2.2.2.2.2.2.2.2.1 (fun cA => rfl) (by
    intro h
    have h2 := (c32_lt hNi i32_0).mp h
    omega) (by rw [v_nat hNi]; omega) hb (Nat.le_trans hc.1 hR.2.2.1) (Nat.le_trans hc.2 hR.2.2.2) hd (fun q cA H1 hK1 hP1 hD1 hS1 => ?_)
  have hcA : cA = E.2.1 1 := by
    have h1 := (hK1.2 (ax_tys E).length (cA, .long) (by rw [List.getElem?_append_right (Nat.le_refl _), Nat.sub_self]; rfl)).2
    have h2 := (hKv.2 1 (E.2.1 1, .long) rfl).2
    exact Option.some.inj (h1.symm.trans h2)
  subst hcA
  have hx : ax_ext sh.length E (ax_mk E sh.length q) := mk_ext hn
  have hwe : ax_ws E sh M ++ [(q, .inl (E.2.1 1, ax_arr E 1 N (fun _ => 0)))] = ax_ws (ax_mk E sh.length q) (sh ++ [.inl (1, N)]) (ax_add M sh.length (fun _ => 0)) := by
    rw [ws_add, ws_ext hx hW.2.2.2, mk_at]; rfl
  rw [hwe] at hP1 hD1
  have h := kk p l e R s m args below meth c A (ax_mk E sh.length q) Q (c_ext C hx) (hKs _ _ _ _ _ _ _ _ _ _ _ _ _ _ hx hK) H1 locs ls ⟨hP1, hD1, hS1, mr_add hW.2.2.2 (fun kd n h j hj => by
    cases h
    exact ⟨⟨by decide, by decide⟩, fun z => by cases z⟩) (fun ci' kds' h j kd hj => by cases h)⟩ (by rw [cvl_ext hx hlo]; exact hl) hr1 (j_cons trivial (j_t1 hr2))
  rw [List.map_cons, map_ext hx hlo2] at h
  have h2 : cv (ax_mk E sh.length q) (aR sh.length) = .ref q := by
    show Value.ref _ = Value.ref q
    rw [mk_at]
  rw [h2] at h
  exact h
theorem j_newa3 {z : Int} (N : Nat) (hd : decode (yc Y) pc = .ok (.newarray .boolean, 2)) (hw : Cond.arrayClass .boolean ∈ ax_tb) (hz : z = (N : Int)) (hN : N ≤ 10000) (hn : sh.length < 1000) (hlo : (ll.all fun q => ax_lo sh.length q.2) = true) (hlo2 : st.all (ax_lo sh.length) = true) (hKs : ax_Kst K sh.length) (hc : nc + 1 ≤ ymc Y ∧ ns + N ≤ yms Y)
    (kk : ax_J Y K (nc + 1) (ns + N) (pc + 2) ll (aR sh.length :: st) (sh ++ [.inl (3, N)]) (ax_add M sh.length (fun _ => 0))) : ax_J Y K nc ns pc ll (aI z :: st) sh M := by
  subst hz
  intro p l e R s m args below meth c A E Q C hK H locs ls hW hl hr1 hr2
  have hts : ∀ w ∈ ax_tb, w.before args s = true := fun w h => C.2.2.2.2.2.2.2.1 w h args
  have hR := C.2.2.2.2.2.2.2.2.2.2.2
  have hKv := C.2.2.2.2.2.2.2.2.2.1
  have hNi : i32 (N : Int) := j_h1 hr2
  have hb : N * componentBytes .boolean ≤ 536870912 := Nat.le_trans (Nat.mul_le_mul_right _ hN) (by decide)
  refine va_newa (atype := .boolean) (a0 := ax_arr E 3 N (fun _ => 0)) (N' := N) C.1 C.2.1 (hts _ hw) rfl hKv hW.1 hW.2.1 hW.2.2.1 C.2.2.2.2.2.2.2.2.1 (fun cA => rfl) (by
    intro h
    have h2 := (c32_lt hNi i32_0).mp h
    omega) (by rw [v_nat hNi]; omega) hb (Nat.le_trans hc.1 hR.2.2.1) (Nat.le_trans hc.2 hR.2.2.2) hd (fun q cA H1 hK1 hP1 hD1 hS1 => ?_)
  have hcA : cA = E.2.1 3 := by
    have h1 := (hK1.2 (ax_tys E).length (cA, .boolean) (by rw [List.getElem?_append_right (Nat.le_refl _), Nat.sub_self]; rfl)).2
    have h2 := (hKv.2 3 (E.2.1 3, .boolean) rfl).2
    exact Option.some.inj (h1.symm.trans h2)
  subst hcA
  have hx : ax_ext sh.length E (ax_mk E sh.length q) := mk_ext hn
  have hwe : ax_ws E sh M ++ [(q, .inl (E.2.1 3, ax_arr E 3 N (fun _ => 0)))] = ax_ws (ax_mk E sh.length q) (sh ++ [.inl (3, N)]) (ax_add M sh.length (fun _ => 0)) := by
    rw [ws_add, ws_ext hx hW.2.2.2, mk_at]; rfl
  rw [hwe] at hP1 hD1
  have h := kk p l e R s m args below meth c A (ax_mk E sh.length q) Q (c_ext C hx) (hKs _ _ _ _ _ _ _ _ _ _ _ _ _ _ hx hK) H1 locs ls ⟨hP1, hD1, hS1, mr_add hW.2.2.2 (fun kd n h j hj => by
    cases h
    exact ⟨Or.inl rfl, fun z => by cases z⟩) (fun ci' kds' h j kd hj => by cases h)⟩ (by rw [cvl_ext hx hlo]; exact hl) hr1 (j_cons trivial (j_t1 hr2))
  rw [List.map_cons, map_ext hx hlo2] at h
  have h2 : cv (ax_mk E sh.length q) (aR sh.length) = .ref q := by
    show Value.ref _ = Value.ref q
    rw [mk_at]
  rw [h2] at h
  exact h
theorem j_newa4 {z : Int} (N : Nat) (hd : decode (yc Y) pc = .ok (.newarray .byte, 2)) (hw : Cond.arrayClass .byte ∈ ax_tb) (hz : z = (N : Int)) (hN : N ≤ 10000) (hn : sh.length < 1000) (hlo : (ll.all fun q => ax_lo sh.length q.2) = true) (hlo2 : st.all (ax_lo sh.length) = true) (hKs : ax_Kst K sh.length) (hc : nc + 1 ≤ ymc Y ∧ ns + N ≤ yms Y)
    (kk : ax_J Y K (nc + 1) (ns + N) (pc + 2) ll (aR sh.length :: st) (sh ++ [.inl (4, N)]) (ax_add M sh.length (fun _ => 0))) : ax_J Y K nc ns pc ll (aI z :: st) sh M := by
  subst hz
  intro p l e R s m args below meth c A E Q C hK H locs ls hW hl hr1 hr2
  have hts : ∀ w ∈ ax_tb, w.before args s = true := fun w h => C.2.2.2.2.2.2.2.1 w h args
  have hR := C.2.2.2.2.2.2.2.2.2.2.2
  have hKv := C.2.2.2.2.2.2.2.2.2.1
  have hNi : i32 (N : Int) := j_h1 hr2
  have hb : N * componentBytes .byte ≤ 536870912 := Nat.le_trans (Nat.mul_le_mul_right _ hN) (by decide)
  refine va_newa (atype := .byte) (a0 := ax_arr E 4 N (fun _ => 0)) (N' := N) C.1 C.2.1 (hts _ hw) rfl hKv hW.1 hW.2.1 hW.2.2.1 C.2.2.2.2.2.2.2.2.1 (fun cA => rfl) (by
    intro h
    have h2 := (c32_lt hNi i32_0).mp h
    omega) (by rw [v_nat hNi]; omega) hb (Nat.le_trans hc.1 hR.2.2.1) (Nat.le_trans hc.2 hR.2.2.2) hd (fun q cA H1 hK1 hP1 hD1 hS1 => ?_)
  have hcA : cA = E.2.1 4 := by
    have h1 := (hK1.2 (ax_tys E).length (cA, .byte) (by rw [List.getElem?_append_right (Nat.le_refl _), Nat.sub_self]; rfl)).2
    have h2 := (hKv.2 4 (E.2.1 4, .byte) rfl).2
    exact Option.some.inj (h1.symm.trans h2)
  subst hcA
  have hx : ax_ext sh.length E (ax_mk E sh.length q) := mk_ext hn
  have hwe : ax_ws E sh M ++ [(q, .inl (E.2.1 4, ax_arr E 4 N (fun _ => 0)))] = ax_ws (ax_mk E sh.length q) (sh ++ [.inl (4, N)]) (ax_add M sh.length (fun _ => 0)) := by
    rw [ws_add, ws_ext hx hW.2.2.2, mk_at]; rfl
  rw [hwe] at hP1 hD1
  have h := kk p l e R s m args below meth c A (ax_mk E sh.length q) Q (c_ext C hx) (hKs _ _ _ _ _ _ _ _ _ _ _ _ _ _ hx hK) H1 locs ls ⟨hP1, hD1, hS1, mr_add hW.2.2.2 (fun kd n h j hj => by
    cases h
    exact ⟨⟨by decide, by decide⟩, fun z => by cases z⟩) (fun ci' kds' h j kd hj => by cases h)⟩ (by rw [cvl_ext hx hlo]; exact hl) hr1 (j_cons trivial (j_t1 hr2))
  rw [List.map_cons, map_ext hx hlo2] at h
  have h2 : cv (ax_mk E sh.length q) (aR sh.length) = .ref q := by
    show Value.ref _ = Value.ref q
    rw [mk_at]
  rw [h2] at h
  exact h
theorem j_anew {z : Int} (N : Nat) (hd : decode (yc Y) pc = .ok (.anewarray idx, 3)) (hw : Cond.classLink (yn Y).cls idx "LastLamps$Crew" ∈ ax_tb) (hw2 : Cond.arrayOver (.object "LastLamps$Crew") ∈ ax_tb) (hz : z = (N : Int)) (hN : N ≤ 10000) (hn : sh.length < 1000) (hlo : (ll.all fun q => ax_lo sh.length q.2) = true) (hlo2 : st.all (ax_lo sh.length) = true) (hKs : ax_Kst K sh.length) (hc : nc + 1 ≤ ymc Y ∧ ns + N ≤ yms Y)
    (kk : ax_J Y K (nc + 1) (ns + N) (pc + 3) ll (aR sh.length :: st) (sh ++ [.inl (2, N)]) (ax_add M sh.length (fun _ => -1))) : ax_J Y K nc ns pc ll (aI z :: st) sh M := by
  subst hz
  intro p l e R s m args below meth c A E Q C hK H locs ls hW hl hr1 hr2
  have hts : ∀ w ∈ ax_tb, w.before args s = true := fun w h => C.2.2.2.2.2.2.2.1 w h args
  have hR := C.2.2.2.2.2.2.2.2.2.2.2
  have hKv := C.2.2.2.2.2.2.2.2.2.1
  have hNi : i32 (N : Int) := j_h1 hr2
  refine va_newq (N' := N) C.1 C.2.1 C.2.2.2.2.1 (hts _ hw) (C.2.2.2.2.2.2.2.1 _ hw2 #[]) hKv hW.1 hW.2.1 hW.2.2.1 C.2.2.2.2.2.2.2.2.1 (by
    intro h
    have h2 := (c32_lt hNi i32_0).mp h
    omega) (by rw [v_nat hNi]; omega) (by omega) (Nat.le_trans hc.1 hR.2.2.1) (Nat.le_trans hc.2 hR.2.2.2) hd (fun q cA H1 hK1 hP1 hD1 hS1 => ?_)
  have hcA : cA = E.2.1 2 := by
    obtain ⟨_, _, _, _, _, h1⟩ := (hK1.2 (ax_tys E).length (cA, .object "LastLamps$Crew") (by rw [List.getElem?_append_right (Nat.le_refl _), Nat.sub_self]; rfl)).2
    obtain ⟨_, _, _, _, _, h2⟩ := (hKv.2 2 (E.2.1 2, .object "LastLamps$Crew") rfl).2
    exact Option.some.inj (h1.symm.trans h2)
  subst hcA
  have hx : ax_ext sh.length E (ax_mk E sh.length q) := mk_ext hn
  have hwe : ax_ws E sh M ++ [(q, .inl (E.2.1 2, N, .inr (.inr (.inr (.inr (fun _ => none))))))] = ax_ws (ax_mk E sh.length q) (sh ++ [.inl (2, N)]) (ax_add M sh.length (fun _ => -1)) := by
    have hf : (fun j : Nat => if j < N ∧ (0 : Int) ≤ -1 then some ((ax_mk E sh.length q).2.2.1 (-1 : Int).toNat) else none) = fun _ => none := by
      funext j
      exact if_neg (by omega)
    rw [ws_add, ws_ext hx hW.2.2.2, mk_at]
    congr 1
    show [(q, (Sum.inl (E.2.1 2, N, Sum.inr (Sum.inr (Sum.inr (Sum.inr fun _ => none)))) : va_E))] = [(q, Sum.inl (E.2.1 2, N, Sum.inr (Sum.inr (Sum.inr (Sum.inr (fun j : Nat => if j < N ∧ (0 : Int) ≤ -1 then some ((ax_mk E sh.length q).2.2.1 (-1 : Int).toNat) else none))))))]
    rw [hf]
  rw [hwe] at hP1 hD1
  have h := kk p l e R s m args below meth c A (ax_mk E sh.length q) Q (c_ext C hx) (hKs _ _ _ _ _ _ _ _ _ _ _ _ _ _ hx hK) H1 locs ls ⟨hP1, hD1, hS1, mr_add hW.2.2.2 (fun kd n h j hj => by
    cases h
    exact ⟨(by show (-1 : Int) ≤ -1; decide), fun _ => by decide⟩) (fun ci' kds' h j kd hj => by cases h)⟩ (by rw [cvl_ext hx hlo]; exact hl) hr1 (j_cons trivial (j_t1 hr2))
  rw [List.map_cons, map_ext hx hlo2] at h
  have h2 : cv (ax_mk E sh.length q) (aR sh.length) = .ref q := by
    show Value.ref _ = Value.ref q
    rw [mk_at]
  rw [h2] at h
  exact h
theorem j_aast {i : Int} {r : Nat} {kds : List Nat} (hd : decode (yc Y) pc = .ok (.aastore, 1)) (hs : sh[b]? = some (.inl (2, n))) (h0 : 0 ≤ i) (h1 : i < (n : Int)) (hr : sh[r]? = some (.inr (0, kds))) (kk : ax_J Y K nc ns (pc + 1) ll st sh (ax_up M b i (r : Int))) : ax_J Y K nc ns pc ll (aR r :: aI i :: aR b :: st) sh M := by
  intro p l e R s m args below meth c A E Q C hK H locs ls hW hl hr1 hr2
  have hi : i32 i := j_h1 (j_t1 hr2)
  have hrl : r < sh.length := (List.getElem?_eq_some_iff.mp hr).1
  have hws : (ax_ws E sh M)[b]? = some (E.2.2.1 b, .inl (E.2.1 2, n, .inr (.inr (.inr (.inr (fun j : Nat => if j < n ∧ 0 ≤ M b (j : Int) then some (E.2.2.1 (M b (j : Int)).toNat) else none)))))) := ws_at hs
  have hwr : (ax_ws E sh M)[r]? = some (E.2.2.1 r, .inr (0, ax_fs E kds (M r))) := ws_at hr
  refine va_astq (ws := ax_ws E sh M) (r := (RX0, TX0, 8)) C.1 C.2.1 C.2.2.2.2.2.2.2.2.2.1 hW.1 hW.2.1 hW.2.2.1 b 2 r 0 hws rfl hwr rfl (v_in hi h0 h1) hd (fun H1 locs1 hP1 hD1 hS1 => ?_)
  have e4 : (ax_ws E sh M).set b (E.2.2.1 b, .inl (E.2.1 2, n, .inr (.inr (.inr (.inr (va_up (fun j : Nat => if j < n ∧ 0 ≤ M b (j : Int) then some (E.2.2.1 (M b (j : Int)).toNat) else none) (Int32.ofInt i).toNatClampNeg (some (E.2.2.1 r)))))))) = ax_ws E sh (ax_up M b i (r : Int)) := by
    have ef : va_up (fun j : Nat => if j < n ∧ 0 ≤ M b (j : Int) then some (E.2.2.1 (M b (j : Int)).toNat) else none) (Int32.ofInt i).toNatClampNeg (some (E.2.2.1 r)) = fun j : Nat => if j < n ∧ 0 ≤ (if (j : Int) = i then (r : Int) else M b (j : Int)) then some (E.2.2.1 (if (j : Int) = i then (r : Int) else M b (j : Int)).toNat) else none := by
      funext j
      simp only [va_up, v_nat hi]
      by_cases h : j = i.toNat
      · have h2 : (j : Int) = i := by omega
        have h3 : j < n ∧ 0 ≤ (r : Int) := ⟨by omega, by omega⟩
        rw [if_pos h, if_pos h2, if_pos h3, Int.toNat_natCast]
      · have h2 : ¬ (j : Int) = i := by omega
        rw [if_neg h, if_neg h2]
    rw [ef, up_eq]
    exact ws_set (E := E) (M := M) hs (fun j => if j = i then (r : Int) else M b j)
  rw [e4] at hP1 hD1
  exact kk p l e R s m args below meth c A E Q C hK H1 locs1 ls ⟨hP1, hD1, hS1, mr_upa hW.2.2.2 hs ⟨(by show -1 ≤ (r : Int); omega), fun _ => by omega⟩⟩ hl hr1 (j_t1 (j_t1 (j_t1 hr2)))
theorem j_objInit (hd : decode (yc Y) pc = .ok (.invokespecial idx, 3)) (hw1 : Cond.methodLink (yn Y).cls idx Lib.objectInit ∈ ax_tb) (hw2 : Cond.instanceMethod Lib.objectInit ∈ ax_tb) (hw3 : Cond.code Lib.objectInit ⟨#[0xb1]⟩ 1 none ∈ ax_tb) (hk : 1 ≤ yk Y) (hrm : ax_wid rest ≤ 8) (kk : ax_J Y K nc ns (pc + 3) ll rest sh M) : ax_J Y K nc ns pc ll (aR b :: rest) sh M := by
  intro p l e R s m args below meth c A E Q C hK H locs ls hW hl hr1 hr2
  have hts : ∀ w ∈ ax_tb, w.before args s = true := fun w h => C.2.2.2.2.2.2.2.1 w h args
  have hR := C.2.2.2.2.2.2.2.2.2.2.2
  have h1 := ax_wcat (E := E) rest
  refine W.objInit C.1 C.2.1 C.2.2.2.2.1 (hts _ hw1) (hts _ hw2) (hts _ hw3) (g := F0 m pc ls ((aR b :: rest).map (cv E))) rfl (by rw [C.2.2.2.1]; exact hl.1) rfl hd (Nat.le_trans hk hR.1) (by
    have h2 := hR.2.1
    show 2 * 0 + _ + 12 ≤ _
    rw [h1]; omega) ?_
  exact kk p l e R s m args below meth c A E Q C hK H locs ls hW hl hr1 (j_t1 hr2)
end JNEW
