section WORLD
variable {E : ax_E} {sh : ax_S} {M : ax_M}
theorem ws_at {k : Nat} {x : (Nat × Nat) ⊕ (Nat × List Nat)} (h : sh[k]? = some x) : (ax_ws E sh M)[k]? = some (E.2.2.1 k, ax_cell E x (M k)) := by
  simp [ax_ws, List.getElem?_mapIdx, h]
theorem up_eq (M : ax_M) (b : Nat) (i v : Int) : ax_up M b i v = fun a => if a = b then (fun j => if j = i then v else M b j) else M a := by
  funext a j
  unfold ax_up
  by_cases h : a = b
  · subst h; simp
  · simp [h]
theorem ws_set {b : Nat} {x : (Nat × Nat) ⊕ (Nat × List Nat)} (hs : sh[b]? = some x) (f : Int → Int) : (ax_ws E sh M).set b (E.2.2.1 b, ax_cell E x f) = ax_ws E sh (fun a => if a = b then f else M a) := by
  apply List.ext_getElem?
  intro k
  have hb : b < sh.length := (List.getElem?_eq_some_iff.mp hs).1
  by_cases h : k = b
  · subst h
    rw [List.getElem?_set_self (by simp [ax_ws]; exact hb)]
    simp [ax_ws, List.getElem?_mapIdx, hs]
  · rw [List.getElem?_set_ne (Ne.symm h)]
    simp [ax_ws, List.getElem?_mapIdx, h]
theorem fs_set {kds : List Nat} {k kd : Nat} (hk : kds[k]? = some kd) (f : Int → Int) (z : Int) : (ax_fs E kds f).set k (ax_val E kd z) = ax_fs E kds (fun j => if j = (k : Int) then z else f j) := by
  apply List.ext_getElem?
  intro j
  have hb : k < kds.length := (List.getElem?_eq_some_iff.mp hk).1
  by_cases h : j = k
  · subst h
    rw [List.getElem?_set_self (by simp [ax_fs]; exact hb)]
    simp [ax_fs, List.getElem?_mapIdx, hk]
  · rw [List.getElem?_set_ne (Ne.symm h)]
    have h2 : ¬ ((j : Int) = (k : Int)) := by omega
    simp [ax_fs, List.getElem?_mapIdx, h2]
theorem fs_at {kds : List Nat} {k kd : Nat} (hk : kds[k]? = some kd) (f : Int → Int) : (ax_fs E kds f)[k]? = some (ax_val E kd (f (k : Int))) := by
  simp [ax_fs, List.getElem?_mapIdx, hk]
theorem mr_o {b ci k kd : Nat} {kds : List Nat} (h : ax_mr sh M) (hs : sh[b]? = some (.inr (ci, kds))) (hk : kds[k]? = some kd) : ax_rg kd (M b (k : Int)) := (h.2 b ci kds hs k kd hk).1
theorem mr_a {b kd n : Nat} {i : Int} (h : ax_mr sh M) (hs : sh[b]? = some (.inl (kd, n))) (h0 : 0 ≤ i) (h1 : i < n) : ax_rg kd (M b i) := by
  have h2 := (h.1 b kd n hs i.toNat (by omega)).1
  rwa [Int.toNat_of_nonneg h0] at h2
theorem mr_upo {b ci k kd : Nat} {kds : List Nat} {z : Int} (h : ax_mr sh M) (hs : sh[b]? = some (.inr (ci, kds))) (hk : kds[k]? = some kd) (hz : ax_rg kd z ∧ (kd = 2 → z < (sh.length : Int)) ∧ (10 ≤ kd → kd - 10 < sh.length)) : ax_mr sh (ax_up M b (k : Int) z) := by
  refine ⟨fun a kd' n' ha j hj => ?_, fun a ci' kds' ha j kd' hj => ?_⟩
  · unfold ax_up
    by_cases hab : a = b
    · subst hab
      rw [hs] at ha; cases ha
    · simp [hab]; exact h.1 a kd' n' ha j hj
  · unfold ax_up
    by_cases hab : a = b
    · subst hab
      rw [hs] at ha; cases ha
      by_cases hjk : (j : Int) = (k : Int)
      · have : j = k := by omega
        subst this
        rw [hk] at hj; cases hj
        simp; exact hz
      · simp [hjk]; exact h.2 a ci kds hs j kd' hj
    · simp [hab]; exact h.2 a ci' kds' ha j kd' hj
theorem mr_upa {b kd n : Nat} {i z : Int} (h : ax_mr sh M) (hs : sh[b]? = some (.inl (kd, n))) (hz : ax_rg kd z ∧ (kd = 2 → z < (sh.length : Int))) : ax_mr sh (ax_up M b i z) := by
  refine ⟨fun a kd' n' ha j hj => ?_, fun a ci' kds' ha j kd' hj => ?_⟩
  · unfold ax_up
    by_cases hab : a = b
    · subst hab
      rw [hs] at ha; cases ha
      by_cases hjk : (j : Int) = i
      · simp [hjk]; exact hz
      · simp [hjk]; exact h.1 a kd n hs j hj
    · simp [hab]; exact h.1 a kd' n' ha j hj
  · unfold ax_up
    by_cases hab : a = b
    · subst hab
      rw [hs] at ha; cases ha
    · simp [hab]; exact h.2 a ci' kds' ha j kd' hj
end WORLD
/-- a field that a class's entry names: class, place; own or a nest mate's -/
def ax_FL (own : String) (idx ci k : Nat) : Prop := ∃ (C : String) (T : u_T) (N : Nat), vwCl[ci]? = some (C, T, N) ∧ (∀ w ∈ u_ws C T N, w ∈ ax_tb) ∧ k < N ∧ (T k).1 = C ∧ (Cond.fieldLink own idx C (T k).2.1 (T k).2.2.1 ∈ ax_tb ∨ ∃ host : String, Cond.fieldLinkNest own idx C (T k).2.1 (T k).2.2.1 host ∈ ax_tb)
/-- the same, written: its type, final or not -/
def ax_FP (own : String) (idx ci k : Nat) (ty : FieldType) (fin : Bool) : Prop := ∃ (C : String) (T : u_T) (N : Nat), vwCl[ci]? = some (C, T, N) ∧ (∀ w ∈ u_ws C T N, w ∈ ax_tb) ∧ k < N ∧ (T k).1 = C ∧ (∃ ty0 : Nat → FieldType, ∀ k, k < N → parseFieldDescriptor (T k).2.2.1 = some (ty0 k)) ∧ (∀ a, a < N → ∀ b, b < N → a ≠ b → (T a).2.1 ≠ (T b).2.1) ∧ parseFieldDescriptor (T k).2.2.1 = some ty ∧ (T k).2.2.2 = fin ∧ ((Cond.fieldLink own idx C (T k).2.1 (T k).2.2.1 ∈ ax_tb ∧ (fin = true → C = own)) ∨ (fin = false ∧ ∃ host : String, Cond.fieldLinkNest own idx C (T k).2.1 (T k).2.2.1 host ∈ ax_tb))
section JROWS3
variable {Y : ax_Y} {K : ax_KT} {nc ns pc : Nat} {ll ll' : List (Nat × ax_V)} {st : List ax_V} {sh : ax_S} {M : ax_M}
theorem j_getv {idx ci k b kd : Nat} {kds : List Nat} {v : ax_V} (hd : decode (yc Y) pc = .ok (.getfield idx, 3)) (hf : ax_FL (yn Y).cls idx ci k) (hs : sh[b]? = some (.inr (ci, kds))) (hk : kds[k]? = some kd)
    (hv : ∀ E : ax_E, ax_rg kd (M b (k : Int)) → ax_val E kd (M b (k : Int)) = cv E v ∧ ax_vr v) (kk : ax_J Y K nc ns (pc + 3) ll (v :: st) sh M) : ax_J Y K nc ns pc ll (aR b :: st) sh M := by
  intro p l e R s m args below meth c A E Q C hK H locs ls hW hl hr1 hr2
  obtain ⟨Cn, T, N, hc, hin, hkN, hT, hlink⟩ := hf
  have hrg := mr_o hW.2.2.2 hs hk
  obtain ⟨e1, e2⟩ := hv E hrg
  have hts : ∀ w ∈ ax_tb, w.before args s = true := fun w h => C.2.2.2.2.2.2.2.1 w h args
  have hws : (ax_ws E sh M)[b]? = some (E.2.2.1 b, .inr (ci, ax_fs E kds (M b))) := ws_at hs
  have hfv : (ax_fs E kds (M b))[k]? = some (cv E v) := by rw [fs_at hk, e1]
  have h := kk p l e R s m args below meth c A E Q C hK H locs ls hW hl hr1 (j_cons e2 (j_t1 hr2))
  rcases hlink with hlink | ⟨host, hlink⟩
  · exact va_get C.1 C.2.1 hts hin C.2.2.2.2.1 C.2.2.2.2.2.2.2.2.2.1 hW.1 b hws hc k hkN (hts _ hlink) (fun x h9 => by rw [hT] at h9; exact h9) hfv hd h
  · exact va_getN C.1 C.2.1 hts hin C.2.2.2.2.1 C.2.2.2.2.2.2.2.2.2.1 hW.1 b hws hc k hkN (hts _ hlink) (fun x h9 => by rw [hT] at h9; exact h9) hfv hd h
theorem j_geti {idx ci k b : Nat} {kds : List Nat} (hd : decode (yc Y) pc = .ok (.getfield idx, 3)) (hf : ax_FL (yn Y).cls idx ci k) (hs : sh[b]? = some (.inr (ci, kds))) (hk : kds[k]? = some 0) {i : Int} (hi : (k : Int) = i) (kk : i32 (M b i) → ax_J Y K nc ns (pc + 3) ll (aI (M b i) :: st) sh M) : ax_J Y K nc ns pc ll (aR b :: st) sh M := by
  subst hi
  intro p l e R s m args below meth c A E Q C hK H locs ls hW hl hr1 hr2
  have hrg : i32 (M b (k : Int)) := mr_o hW.2.2.2 hs hk
  exact j_getv (v := aI (M b (k : Int))) hd hf hs hk (fun E h => ⟨rfl, h⟩) (kk hrg) p l e R s m args below meth c A E Q C hK H locs ls hW hl hr1 hr2
theorem j_getl {idx ci k b : Nat} {kds : List Nat} (hd : decode (yc Y) pc = .ok (.getfield idx, 3)) (hf : ax_FL (yn Y).cls idx ci k) (hs : sh[b]? = some (.inr (ci, kds))) (hk : kds[k]? = some 1) {i : Int} (hi : (k : Int) = i) (kk : ax_J Y K nc ns (pc + 3) ll (aL (M b i) :: st) sh M) : ax_J Y K nc ns pc ll (aR b :: st) sh M := by
  subst hi
  exact j_getv (v := aL (M b (k : Int))) hd hf hs hk (fun E h => ⟨rfl, h⟩) kk
theorem j_getr {idx ci k b : Nat} {kds : List Nat} (r : Nat) (hd : decode (yc Y) pc = .ok (.getfield idx, 3)) (hf : ax_FL (yn Y).cls idx ci k) (hs : sh[b]? = some (.inr (ci, kds))) (hk : kds[k]? = some 2) {i : Int} (hi : (k : Int) = i) (hr : M b i = (r : Int)) (kk : ax_J Y K nc ns (pc + 3) ll (aR r :: st) sh M) : ax_J Y K nc ns pc ll (aR b :: st) sh M := by
  subst hi
  refine j_getv (v := aR r) hd hf hs hk (fun E h => ⟨?_, trivial⟩) kk
  rw [hr]
  have h1 : ¬ ((r : Int) < 0) := by omega
  show (if (r : Int) < 0 then Value.null else .ref (E.2.2.1 (r : Int).toNat)) = .ref (E.2.2.1 r)
  rw [if_neg h1, Int.toNat_natCast]
theorem j_putv {idx ci k b kd : Nat} {kds : List Nat} {v : ax_V} {ty : FieldType} {fin : Bool} {z : Int} (hd : decode (yc Y) pc = .ok (.putfield idx, 3)) (hf : ax_FP (yn Y).cls idx ci k ty fin) (hfin : fin = true → (yn Y).name = "<init>") (hs : sh[b]? = some (.inr (ci, kds))) (hk : kds[k]? = some kd)
    (hv : ax_vr v → (ax_rg kd z ∧ (kd = 2 → z < (sh.length : Int)) ∧ (10 ≤ kd → kd - 10 < sh.length)) ∧ ∀ E : ax_E, cv E v = ax_val E kd z ∧ narrow ty (cv E v) = cv E v ∧ fits ty (cv E v) = true) (kk : ax_J Y K nc ns (pc + 3) ll st sh (ax_up M b (k : Int) z)) : ax_J Y K nc ns pc ll (v :: aR b :: st) sh M := by
  intro p l e R s m args below meth c A E Q C hK H locs ls hW hl hr1 hr2
  obtain ⟨Cn, T, N, hc, hin, hkN, hT, ⟨ty0, hty⟩, hnm, hpt, hfn, hlink⟩ := hf
  obtain ⟨hz, hv2⟩ := hv (j_h1 hr2)
  obtain ⟨e1, e2, e3⟩ := hv2 E
  have hts : ∀ w ∈ ax_tb, w.before args s = true := fun w h => C.2.2.2.2.2.2.2.1 w h args
  have hws : (ax_ws E sh M)[b]? = some (E.2.2.1 b, .inr (ci, ax_fs E kds (M b))) := ws_at hs
  have hkl : k < (ax_fs E kds (M b)).length := by
    have := (List.getElem?_eq_some_iff.mp hk).1
    simpa [ax_fs] using this
  have key : ∀ (H1 : Heap) (locs1 : List Loc), va_P E.1 vwCl ((ax_ws E sh M).set b (E.2.2.1 b, .inr (ci, (ax_fs E kds (M b)).set k (cv E v)))) H1 → va_D A ((ax_ws E sh M).set b (E.2.2.1 b, .inr (ci, (ax_fs E kds (M b)).set k (cv E v)))) → va_S A s.heap H1 locs1 → W p l e R s m args below meth c H1 locs1 nc ns Q (F0 m (pc + 3) ls (st.map (cv E))) := by
    intro H1 locs1 hP1 hD1 hS1
    have e4 : (ax_ws E sh M).set b (E.2.2.1 b, .inr (ci, (ax_fs E kds (M b)).set k (cv E v))) = ax_ws E sh (ax_up M b (k : Int) z) := by
      rw [up_eq, e1, fs_set hk]
      exact ws_set (E := E) (M := M) hs (fun j => if j = (k : Int) then z else M b j)
    rw [e4] at hP1 hD1
    exact kk p l e R s m args below meth c A E Q C hK H1 locs1 ls ⟨hP1, hD1, hS1, mr_upo hW.2.2.2 hs hk hz⟩ hl hr1 (j_t1 (j_t1 hr2))
  rcases hlink with ⟨hlink, hown⟩ | ⟨hff, host, hlink⟩
  · cases fin with
    | false => exact va_put C.1 C.2.1 hts hin ty0 hty hnm C.2.2.2.2.1 C.2.2.2.2.2.2.2.2.2.1 hW.1 hW.2.1 hW.2.2.1 b hws hc k hkN (hts _ hlink) (fun x h9 => by rw [hT] at h9; exact h9) hfn hpt e2 e3 hkl hd key
    | true => exact va_putF C.1 C.2.1 hts hin ty0 hty hnm C.2.2.2.2.1 C.2.2.2.2.2.2.2.2.2.1 hW.1 hW.2.1 hW.2.2.1 b hws hc k hkN (hts _ hlink) (fun x h9 => by rw [hT] at h9; exact h9) hfn (C.2.2.2.2.2.2.1 (hfin rfl)) (by rw [hT]; exact hown rfl) hpt e2 e3 hkl hd key
  · subst hff
    exact va_putN C.1 C.2.1 hts hin ty0 hty hnm C.2.2.2.2.1 C.2.2.2.2.2.2.2.2.2.1 hW.1 hW.2.1 hW.2.2.1 b hws hc k hkN (hts _ hlink) (fun x h9 => by rw [hT] at h9; exact h9) hfn hpt e2 e3 hkl hd key
theorem j_puti {idx ci k b : Nat} {kds : List Nat} {fin : Bool} {z : Int} (hd : decode (yc Y) pc = .ok (.putfield idx, 3)) (hf : ax_FP (yn Y).cls idx ci k .int fin) (hfin : fin = true → (yn Y).name = "<init>") (hs : sh[b]? = some (.inr (ci, kds))) (hk : kds[k]? = some 0) {i : Int} (hi : (k : Int) = i) (kk : ax_J Y K nc ns (pc + 3) ll st sh (ax_up M b i z)) : ax_J Y K nc ns pc ll (aI z :: aR b :: st) sh M := by
  subst hi
  exact j_putv hd hf hfin hs hk (fun h => ⟨⟨h, (fun h => by cases h), (fun h => by omega)⟩, fun E => ⟨rfl, rfl, rfl⟩⟩) kk
theorem j_putl {idx ci k b : Nat} {kds : List Nat} {fin : Bool} {z : Int} (hd : decode (yc Y) pc = .ok (.putfield idx, 3)) (hf : ax_FP (yn Y).cls idx ci k .long fin) (hfin : fin = true → (yn Y).name = "<init>") (hs : sh[b]? = some (.inr (ci, kds))) (hk : kds[k]? = some 1) {i : Int} (hi : (k : Int) = i) (kk : ax_J Y K nc ns (pc + 3) ll st sh (ax_up M b i z)) : ax_J Y K nc ns pc ll (aL z :: aR b :: st) sh M := by
  subst hi
  exact j_putv hd hf hfin hs hk (fun h => ⟨⟨h, (fun h => by cases h), (fun h => by omega)⟩, fun E => ⟨rfl, rfl, rfl⟩⟩) kk
theorem j_putr {idx ci k b r : Nat} {kds : List Nat} {fin : Bool} {ty : FieldType} (hd : decode (yc Y) pc = .ok (.putfield idx, 3)) (hf : ax_FP (yn Y).cls idx ci k ty fin) (hty : ∀ a : Nat, narrow ty (.ref a) = .ref a ∧ fits ty (.ref a) = true) (hfin : fin = true → (yn Y).name = "<init>") (hs : sh[b]? = some (.inr (ci, kds))) (hk : kds[k]? = some 2) {i : Int} (hi : (k : Int) = i) (hlt : r < sh.length) (kk : ax_J Y K nc ns (pc + 3) ll st sh (ax_up M b i (r : Int))) : ax_J Y K nc ns pc ll (aR r :: aR b :: st) sh M := by
  subst hi
  refine j_putv (z := (r : Int)) hd hf hfin hs hk (fun h => ⟨⟨(by show -1 ≤ (r : Int); omega), fun _ => by omega, fun h => by omega⟩, fun E => ⟨?_, hty _⟩⟩) kk
  have h1 : ¬ ((r : Int) < 0) := by omega
  show Value.ref (E.2.2.1 r) = (if (r : Int) < 0 then Value.null else .ref (E.2.2.1 (r : Int).toNat))
  rw [if_neg h1, Int.toNat_natCast]
theorem j_getc {idx ci k b : Nat} {kds : List Nat} (r : Nat) (hd : decode (yc Y) pc = .ok (.getfield idx, 3)) (hf : ax_FL (yn Y).cls idx ci k) (hs : sh[b]? = some (.inr (ci, kds))) (hk : kds[k]? = some (10 + r)) (kk : ax_J Y K nc ns (pc + 3) ll (aR r :: st) sh M) : ax_J Y K nc ns pc ll (aR b :: st) sh M := by
  refine j_getv (v := aR r) hd hf hs hk (fun E h => ⟨?_, trivial⟩) kk
  unfold ax_val
  rw [if_pos (by omega), Nat.add_sub_cancel_left]
  rfl
/-- a ref is written for good: the shape has it from now on -/
theorem j_putc {idx ci k b r : Nat} {kds : List Nat} {fin : Bool} {ty : FieldType} {sh' : ax_S} (hd : decode (yc Y) pc = .ok (.putfield idx, 3)) (hf : ax_FP (yn Y).cls idx ci k ty fin) (hty : ∀ a : Nat, narrow ty (.ref a) = .ref a ∧ fits ty (.ref a) = true) (hfin : fin = true → (yn Y).name = "<init>") (hs : sh[b]? = some (.inr (ci, kds))) (hk : kds[k]? = some 2) (hlt : r < sh.length) (hsh : sh.set b (.inr (ci, kds.set k (10 + r))) = sh') (kk : ax_J Y K nc ns (pc + 3) ll st sh' M) : ax_J Y K nc ns pc ll (aR r :: aR b :: st) sh M := by
  refine j_putr (i := (k : Int)) hd hf hty hfin hs hk rfl hlt ?_
  intro p l e R s m args below meth c A E Q C hK H locs ls hW hl hr1 hr2
  have hb : b < sh.length := (List.getElem?_eq_some_iff.mp hs).1
  have hkl : k < kds.length := (List.getElem?_eq_some_iff.mp hk).1
  subst hsh
  have hws : ax_ws E sh (ax_up M b (k : Int) (r : Int)) = ax_ws E (sh.set b (.inr (ci, kds.set k (10 + r)))) M := by
    apply List.ext_getElem?
    intro a
    by_cases hab : a = b
    · subst hab
      rw [ws_at hs, ws_at (x := .inr (ci, kds.set k (10 + r))) (by rw [List.getElem?_set_self hb])]
      congr 2
      simp only [ax_cell]
      congr 2
      apply List.ext_getElem?
      intro j
      by_cases hjk : j = k
      · subst hjk
        rw [fs_at hk, fs_at (kd := 10 + r) (by rw [List.getElem?_set_self hkl])]
        congr 1
        have h1 : ¬ ((r : Int) < 0) := by omega
        have h2 : ax_up M a (j : Int) (r : Int) a (j : Int) = (r : Int) := by simp [ax_up]
        rw [h2]
        unfold ax_val
        rw [if_neg (show ¬ 10 ≤ 2 by omega), if_pos (show 10 ≤ 10 + r by omega), Nat.add_sub_cancel_left]
        show (if (r : Int) < 0 then Value.null else .ref (E.2.2.1 (r : Int).toNat)) = _
        rw [if_neg h1, Int.toNat_natCast]
      · cases hj : kds[j]? with
        | none =>
          simp [ax_fs, List.getElem?_mapIdx, hj, Ne.symm hjk]
        | some kd =>
          rw [fs_at hj, fs_at (kd := kd) (by rw [List.getElem?_set_ne (Ne.symm hjk)]; exact hj)]
          have h2 : ax_up M a (k : Int) (r : Int) a (j : Int) = M a (j : Int) := by
            have h3 : ¬ ((j : Int) = (k : Int)) := by omega
            simp [ax_up, h3]
          rw [h2]
    · have h2 : ax_up M b (k : Int) (r : Int) a = M a := by
        funext j
        simp [ax_up, hab]
      simp [ax_ws, List.getElem?_mapIdx, List.getElem?_set_ne (Ne.symm hab), h2]
  have hmr : ax_mr (sh.set b (.inr (ci, kds.set k (10 + r)))) M := by
    have h0 := hW.2.2.2
    have hl2 : (sh.set b (.inr (ci, kds.set k (10 + r)))).length = sh.length := List.length_set
    have hup : ∀ (a : Nat) (j : Int), ¬ (a = b ∧ j = (k : Int)) → ax_up M b (k : Int) (r : Int) a j = M a j := by
      intro a j h
      unfold ax_up
      rw [if_neg h]
    refine ⟨fun a kd n ha j hj => ?_, fun a ci' kds' ha j kd hj => ?_⟩
    · by_cases hab : a = b
      · subst hab
        rw [List.getElem?_set_self hb] at ha
        cases ha
      · rw [List.getElem?_set_ne (Ne.symm hab)] at ha
        have q := h0.1 a kd n ha j hj
        rw [hup a j (fun z => hab z.1)] at q
        rw [hl2]; exact q
    · by_cases hab : a = b
      · subst hab
        rw [List.getElem?_set_self hb] at ha
        cases ha
        by_cases hjk : j = k
        · subst hjk
          rw [List.getElem?_set_self hkl] at hj
          cases hj
          refine ⟨?_, fun z => by omega, fun _ => by rw [hl2]; omega⟩
          unfold ax_rg
          split <;> first | trivial | omega
        · rw [List.getElem?_set_ne (Ne.symm hjk)] at hj
          have q := h0.2 a ci kds hs j kd hj
          rw [hup a j (fun z => hjk (by have := z.2; omega))] at q
          rw [hl2]; exact q
      · rw [List.getElem?_set_ne (Ne.symm hab)] at ha
        have q := h0.2 a ci' kds' ha j kd hj
        rw [hup a j (fun z => hab z.1)] at q
        rw [hl2]; exact q
  have hW' : ax_W E (sh.set b (.inr (ci, kds.set k (10 + r)))) M A s H locs := ⟨by rw [← hws]; exact hW.1, by rw [← hws]; exact hW.2.1, hW.2.2.1, hmr⟩
  exact kk p l e R s m args below meth c A E Q C hK H locs ls hW' hl hr1 hr2
end JROWS3
