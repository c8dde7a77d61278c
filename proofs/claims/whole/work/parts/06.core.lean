/-! CORE: one judgement over all methods. Numbers are whole numbers (Int) with their bounds as duties; refs are places; a world is a shape and a memory -/
abbrev ax_V : Type := Int ⊕ (Int ⊕ Nat)
abbrev aI (x : Int) : ax_V := .inl x
abbrev aL (x : Int) : ax_V := .inr (.inl x)
abbrev aR (k : Nat) : ax_V := .inr (.inr k)
abbrev ax_M : Type := Nat → Int → Int
abbrev ax_S : Type := List ((Nat × Nat) ⊕ (Nat × List Nat))
/-- a method: its name, code, locals, answer; rank; cells, slots that it makes -/
abbrev ax_Y : Type := MethodName × ByteArray × Nat × Option FieldType × Nat × Nat × Nat
abbrev yn (Y : ax_Y) : MethodName := Y.1
abbrev yc (Y : ax_Y) : ByteArray := Y.2.1
abbrev yl (Y : ax_Y) : Nat := Y.2.2.1
abbrev yr (Y : ax_Y) : Option FieldType := Y.2.2.2.1
abbrev yk (Y : ax_Y) : Nat := Y.2.2.2.2.1
abbrev ymc (Y : ax_Y) : Nat := Y.2.2.2.2.2.1
abbrev yms (Y : ax_Y) : Nat := Y.2.2.2.2.2.2
/-- classes' numbers and slots; array classes by kind; addresses of places; addresses of the texts' bytes -/
abbrev ax_E : Type := va_G × (Nat → ClassId) × (Nat → Nat) × (Nat → Nat)
def cv (E : ax_E) : ax_V → Value
  | .inl x => .int (Int32.ofInt x)
  | .inr (.inl x) => .long (Int64.ofInt x)
  | .inr (.inr k) => .ref (E.2.2.1 k)
def i32 (x : Int) : Prop := -2147483648 ≤ x ∧ x ≤ 2147483647
def i64 (x : Int) : Prop := -9223372036854775808 ≤ x ∧ x ≤ 9223372036854775807
def ax_vr : ax_V → Prop
  | .inl x => i32 x
  | .inr (.inl x) => i64 x
  | .inr (.inr _) => True
/-- kinds: 0 int, 1 long, 2 a ref, 3 boolean, 4 byte; 10 and r: the ref of place r, for good -/
def ax_rg (kd : Nat) (x : Int) : Prop := match kd with
  | 0 => i32 x
  | 1 => i64 x
  | 2 => -1 ≤ x
  | 3 => x = 0 ∨ x = 1
  | 4 => -128 ≤ x ∧ x ≤ 127
  | _ => True
def ax_val (E : ax_E) (kd : Nat) (x : Int) : Value := if 10 ≤ kd then .ref (E.2.2.1 (kd - 10)) else match kd with
  | 1 => .long (Int64.ofInt x)
  | 2 => if x < 0 then .null else .ref (E.2.2.1 x.toNat)
  | _ => .int (Int32.ofInt x)
def ax_arr (E : ax_E) (kd n : Nat) (f : Int → Int) : vp_A := match kd with
  | 1 => (n, .inr (.inl (fun j => Int64.ofInt (f (j : Int)))))
  | 2 => (n, .inr (.inr (.inr (.inr (fun j => if j < n ∧ 0 ≤ f (j : Int) then some (E.2.2.1 (f (j : Int)).toNat) else none)))))
  | _ => (n, .inl (fun j => Int32.ofInt (f (j : Int))))
def ax_fs (E : ax_E) (kds : List Nat) (f : Int → Int) : List Value := kds.mapIdx (fun j kd => ax_val E kd (f (j : Int)))
def ax_cell (E : ax_E) (x : (Nat × Nat) ⊕ (Nat × List Nat)) (f : Int → Int) : va_E := match x with
  | .inl q => .inl (E.2.1 q.1, ax_arr E q.1 q.2 f)
  | .inr q => .inr (q.1, ax_fs E q.2 f)
def ax_ws (E : ax_E) (sh : ax_S) (M : ax_M) : va_W := sh.mapIdx (fun k x => (E.2.2.1 k, ax_cell E x (M k)))
def ax_mr (sh : ax_S) (M : ax_M) : Prop := (∀ (k kd n : Nat), sh[k]? = some (.inl (kd, n)) → ∀ j : Nat, j < n → ax_rg kd (M k (j : Int)) ∧ (kd = 2 → M k (j : Int) < (sh.length : Int))) ∧ ∀ (k ci : Nat) (kds : List Nat), sh[k]? = some (.inr (ci, kds)) → ∀ (j kd : Nat), kds[j]? = some kd → ax_rg kd (M k (j : Int)) ∧ (kd = 2 → M k (j : Int) < (sh.length : Int)) ∧ (10 ≤ kd → kd - 10 < sh.length)
def ax_up (M : ax_M) (k : Nat) (i v : Int) : ax_M := fun a j => if a = k ∧ j = i then v else M a j
def ax_tys (E : ax_E) : List (ClassId × FieldType) := [(E.2.1 0, .int), (E.2.1 1, .long), (E.2.1 2, .object "LastLamps$Crew"), (E.2.1 3, .boolean), (E.2.1 4, .byte)]
def ax_port (w : Cond) : Bool := goodWord w || (match w with
  | .fieldLinkNest .. => true
  | .methodLinkNest .. => true
  | .arrayOver (.object _) => true
  | _ => false)
def ax_tb : List Cond := lw_tbl.filter ax_port
theorem ax_in {w : Cond} (i : Nat) (h : lw_tbl[i]? = some w) (hp : ax_port w = true) : w ∈ ax_tb := List.mem_filter.mpr ⟨List.mem_of_getElem? h, hp⟩
def ax_Tb (s : State) : Prop := ∀ w ∈ ax_tb, ∀ a : Array Value, w.before a s = true
theorem ax_move {s U : State} (hW : s.WarmedH U.vm) (h : ax_Tb s) : ax_Tb U := by
  intro w hw a
  have hp := (List.mem_filter.mp hw).2
  have h0 := h w hw #[]
  unfold ax_port at hp
  rw [Bool.or_eq_true] at hp
  rcases hp with hp | hp
  · exact word_at hW (good_of_word hp) h0
  · split at hp
    · exact va_Nw.use rfl (va_Nw.warmF hW h0)
    · exact va_Nw.use rfl (va_Nw.warmM hW h0)
    · exact va_AO.use (va_AO.moved hW.alike h0)
    · cases hp
/-- the texts: class, entry, text; lengths; bytes -/
def ax_txt : List (String × Nat × String) := [("LastLamps$Reader", 52, "places"), ("LastLamps$Reader", 67, "out"), ("LastLamps$Reader", 73, "way"), ("LastLamps$Reader", 91, "dark"), ("LastLamps$Reader", 93, "wide"), ("LastLamps$Reader", 95, "fills"), ("LastLamps$Reader", 97, "bad")]
def ax_byt : List (List Int32) := [[112, 108, 97, 99, 101, 115], [111, 117, 116], [119, 97, 121], [100, 97, 114, 107], [119, 105, 100, 101], [102, 105, 108, 108, 115], [98, 97, 100]]
def ax_len : List Nat := [6, 3, 3, 4, 4, 5, 3]
def ax_Str (E : ax_E) (A : Nat → Prop) (U : State) (H : Heap) : Prop := vk_S 7 ax_len ax_byt (fun i => E.2.2.1 (1000 + i)) (fun i => E.2.2.1 (1100 + i)) A U H ∧ (∀ (i : Nat) (o : String) (k : Nat) (tx : String), ax_txt[i]? = some (o, k, tx) → vk_R o k tx (E.2.2.1 (1000 + i)) U) ∧ va_Z "java/lang/String" "COMPACT_STRINGS" "Z" (.int 1) A U H ∧ va_Zq "jdk/internal/util/Preconditions" "SIOOBE_FORMATTER" "Ljava/util/function/BiFunction;" A U H
def ax_C (Y : ax_Y) (p : Program) (R : Room) (s : State) (m : MethodId) (meth : Method) (c : Code) (A : Nat → Prop) (E : ax_E) : Prop :=
  p.tables.exec = Jvm.exec ∧ c.code = yc Y ∧ meth.sig.returnType = yr Y ∧ c.maxLocals = yl Y ∧ s.vm.findClass (yn Y).cls = some m.cls ∧ meth.locks = false ∧ ((yn Y).name = "<init>" → meth.name = "<init>") ∧ ax_Tb s ∧ (∀ q, s.heap.size ≤ q → A q) ∧ va_K E.1 vwCl (ax_tys E) s ∧ ax_Str E A s s.heap ∧ (yk Y ≤ R.frames ∧ 64 * yk Y ≤ R.locals ∧ ymc Y ≤ R.cells ∧ yms Y ≤ R.slots)
def ax_W (E : ax_E) (sh : ax_S) (M : ax_M) (A : Nat → Prop) (s : State) (H : Heap) (locs : List Loc) : Prop :=
  va_P E.1 vwCl (ax_ws E sh M) H ∧ va_D A (ax_ws E sh M) ∧ va_S A s.heap H locs ∧ ax_mr sh M
def cvl (E : ax_E) (ll : List (Nat × ax_V)) : List (Nat × Value) := ll.map (fun q => (q.1, cv E q.2))
/-- how a method ends -/
abbrev ax_KT : Type := Program → Launch → Env → Room → State → MethodId → Array Value → List Frame → Method → Code → (Nat → Prop) → ax_E → (State → Prop) → Prop
/-- THE JUDGEMENT: from pc, with these locals and this stack, in this world, the method comes to its end -/
def ax_J (Y : ax_Y) (K : ax_KT) (nc ns pc : Nat) (ll : List (Nat × ax_V)) (st : List ax_V) (sh : ax_S) (M : ax_M) : Prop :=
  ∀ (p : Program) (l : Launch) (e : Env) (R : Room) (s : State) (m : MethodId) (args : Array Value) (below : List Frame) (meth : Method) (c : Code) (A : Nat → Prop) (E : ax_E) (Q : State → Prop),
    ax_C Y p R s m meth c A E → K p l e R s m args below meth c A E Q → ∀ (H : Heap) (locs : List Loc) (ls : Array Slot), ax_W E sh M A s H locs → lv_has ls (yl Y) (cvl E ll) → (∀ q ∈ ll, ax_vr q.2) → (∀ v ∈ st, ax_vr v) →
    W p l e R s m args below meth c H locs nc ns Q (F0 m pc ls (st.map (cv E)))
section JROWS
variable {Y : ax_Y} {K : ax_KT} {nc ns pc : Nat} {ll ll' : List (Nat × ax_V)} {st : List ax_V} {sh : ax_S} {M : ax_M}
theorem j_at {E : ax_E} {ls : Array Slot} {n : Nat} (h : lv_has ls n (cvl E ll)) (k : Nat) {i : Nat} {v : ax_V} (hk : ll[k]? = some (i, v)) : ls[i]? = some (.val (cv E v)) :=
  lv_at h k (by simp [cvl, hk])
theorem j_vr (h : ∀ q ∈ ll, ax_vr q.2) (k : Nat) {i : Nat} {v : ax_V} (hk : ll[k]? = some (i, v)) : ax_vr v := h _ (List.mem_of_getElem? hk)
theorem j_cons {v : ax_V} (h1 : ax_vr v) (h2 : ∀ v ∈ st, ax_vr v) : ∀ w ∈ v :: st, ax_vr w := List.forall_mem_cons.mpr ⟨h1, h2⟩
theorem j_sub (ks : List Nat) (hl : ks.filterMap (fun k => ll[k]?) = ll') (k : ax_J Y K nc ns pc ll' st sh M) : ax_J Y K nc ns pc ll st sh M := by
  intro p l e R s m args below meth c A E Q C hK H locs ls hW hl1 hr1 hr2
  have hm : ∀ q ∈ ll', q ∈ ll := by
    intro q hq
    rw [← hl] at hq
    obtain ⟨i, -, hi⟩ := List.mem_filterMap.mp hq
    exact List.mem_of_getElem? hi
  refine k p l e R s m args below meth c A E Q C hK H locs ls hW ⟨hl1.1, hl1.2.1, fun q hq => ?_⟩ (fun q hq => hr1 q (hm q hq)) hr2
  obtain ⟨q0, h1, rfl⟩ := List.mem_map.mp hq
  exact hl1.2.2 _ (List.mem_map.mpr ⟨q0, hm q0 h1, rfl⟩)
theorem j_iload_n {k : Fin 4} {x : Int} (j : Nat) (hd : decode (yc Y) pc = .ok (.iload_n k, 1)) (hk : ll[j]? = some ((k : Nat), aI x)) (kk : ax_J Y K nc ns (pc + 1) ll (aI x :: st) sh M) : ax_J Y K nc ns pc ll st sh M := by
  intro p l e R s m args below meth c A E Q C hK H locs ls hW hl hr1 hr2
  exact lv_iload_n C.1 C.2.1 hd rfl (j_at hl j hk) (kk p l e R s m args below meth c A E Q C hK H locs ls hW hl hr1 (j_cons (j_vr hr1 j hk) hr2))
theorem j_iload {i : Nat} {x : Int} (j : Nat) (hd : decode (yc Y) pc = .ok (.iload i, 2)) (hk : ll[j]? = some (i, aI x)) (kk : ax_J Y K nc ns (pc + 2) ll (aI x :: st) sh M) : ax_J Y K nc ns pc ll st sh M := by
  intro p l e R s m args below meth c A E Q C hK H locs ls hW hl hr1 hr2
  exact lv_iload C.1 C.2.1 hd (j_at hl j hk) (kk p l e R s m args below meth c A E Q C hK H locs ls hW hl hr1 (j_cons (j_vr hr1 j hk) hr2))
theorem j_lload_n {k : Fin 4} {x : Int} (j : Nat) (hd : decode (yc Y) pc = .ok (.lload_n k, 1)) (hk : ll[j]? = some ((k : Nat), aL x)) (kk : ax_J Y K nc ns (pc + 1) ll (aL x :: st) sh M) : ax_J Y K nc ns pc ll st sh M := by
  intro p l e R s m args below meth c A E Q C hK H locs ls hW hl hr1 hr2
  exact lv_lload_n C.1 C.2.1 hd rfl (j_at hl j hk) (kk p l e R s m args below meth c A E Q C hK H locs ls hW hl hr1 (j_cons (j_vr hr1 j hk) hr2))
theorem j_lload {i : Nat} {x : Int} (j : Nat) (hd : decode (yc Y) pc = .ok (.lload i, 2)) (hk : ll[j]? = some (i, aL x)) (kk : ax_J Y K nc ns (pc + 2) ll (aL x :: st) sh M) : ax_J Y K nc ns pc ll st sh M := by
  intro p l e R s m args below meth c A E Q C hK H locs ls hW hl hr1 hr2
  exact lv_lload C.1 C.2.1 hd (j_at hl j hk) (kk p l e R s m args below meth c A E Q C hK H locs ls hW hl hr1 (j_cons (j_vr hr1 j hk) hr2))
theorem j_aload_n {k : Fin 4} {x : Nat} (j : Nat) (hd : decode (yc Y) pc = .ok (.aload_n k, 1)) (hk : ll[j]? = some ((k : Nat), aR x)) (kk : ax_J Y K nc ns (pc + 1) ll (aR x :: st) sh M) : ax_J Y K nc ns pc ll st sh M := by
  intro p l e R s m args below meth c A E Q C hK H locs ls hW hl hr1 hr2
  exact lv_aload_n C.1 C.2.1 hd rfl (j_at hl j hk) (kk p l e R s m args below meth c A E Q C hK H locs ls hW hl hr1 (j_cons (j_vr hr1 j hk) hr2))
theorem j_aload {i : Nat} {x : Nat} (j : Nat) (hd : decode (yc Y) pc = .ok (.aload i, 2)) (hk : ll[j]? = some (i, aR x)) (kk : ax_J Y K nc ns (pc + 2) ll (aR x :: st) sh M) : ax_J Y K nc ns pc ll st sh M := by
  intro p l e R s m args below meth c A E Q C hK H locs ls hW hl hr1 hr2
  exact lv_aload C.1 C.2.1 hd (j_at hl j hk) (kk p l e R s m args below meth c A E Q C hK H locs ls hW hl hr1 (j_cons (j_vr hr1 j hk) hr2))
def ax_two : ax_V → Bool
  | .inr (.inl _) => true
  | _ => false
def ax_st1 (ll : List (Nat × ax_V)) (i : Nat) (v : ax_V) : List (Nat × ax_V) := (i, v) :: ll.filter (fun q => !(q.1 == i) && !(q.1 + 1 == i && ax_two q.2))
def ax_st2 (ll : List (Nat × ax_V)) (i : Nat) (v : ax_V) : List (Nat × ax_V) := (i, v) :: ll.filter (fun q => !(q.1 == i) && (!(q.1 == i + 1) && !(q.1 + 1 == i && ax_two q.2)))
theorem ax_two_cat (E : ax_E) (v : ax_V) : ((cv E v).category == 2) = ax_two v := by
  rcases v with x | x | x <;> rfl
theorem cvl_st1 (E : ax_E) (i : Nat) (v : ax_V) : (i, cv E v) :: (cvl E ll).filter (fun q => !(q.1 == i) && !(q.1 + 1 == i && q.2.category == 2)) = cvl E (ax_st1 ll i v) := by
  simp only [cvl, ax_st1, List.map_cons, List.filter_map]
  congr 2
  apply List.filter_congr
  intro q _
  simp only [Function.comp, ax_two_cat]
theorem cvl_st2 (E : ax_E) (i : Nat) (v : ax_V) : (i, cv E v) :: (cvl E ll).filter (fun q => !(q.1 == i) && (!(q.1 == i + 1) && !(q.1 + 1 == i && q.2.category == 2))) = cvl E (ax_st2 ll i v) := by
  simp only [cvl, ax_st2, List.map_cons, List.filter_map]
  congr 2
  apply List.filter_congr
  intro q _
  simp only [Function.comp, ax_two_cat]
theorem j_vs1 {i : Nat} {v : ax_V} (h : ∀ q ∈ ll, ax_vr q.2) (hv : ax_vr v) : ∀ q ∈ ax_st1 ll i v, ax_vr q.2 := by
  intro q hq
  rcases List.mem_cons.mp hq with rfl | hq
  · exact hv
  · exact h q (List.mem_filter.mp hq).1
theorem j_vs2 {i : Nat} {v : ax_V} (h : ∀ q ∈ ll, ax_vr q.2) (hv : ax_vr v) : ∀ q ∈ ax_st2 ll i v, ax_vr q.2 := by
  intro q hq
  rcases List.mem_cons.mp hq with rfl | hq
  · exact hv
  · exact h q (List.mem_filter.mp hq).1
theorem j_istore_n {k : Fin 4} {x : Int} (hd : decode (yc Y) pc = .ok (.istore_n k, 1)) (hn : (k : Nat) < yl Y) (hl : ax_st1 ll (k : Nat) (aI x) = ll') (kk : ax_J Y K nc ns (pc + 1) ll' st sh M) : ax_J Y K nc ns pc ll (aI x :: st) sh M := by
  intro p l e R s m args below meth c A E Q C hK H locs ls hW hl1 hr1 hr2
  have hr := List.forall_mem_cons.mp hr2
  exact lv_istore_n C.1 C.2.1 hd rfl hl1 hn (by rw [← hl]; exact cvl_st1 E _ (aI x)) (fun ls' h => kk p l e R s m args below meth c A E Q C hK H locs ls' hW h (by rw [← hl]; exact j_vs1 hr1 hr.1) hr.2)
theorem j_istore {i : Nat} {x : Int} (hd : decode (yc Y) pc = .ok (.istore i, 2)) (hn : i < yl Y) (hl : ax_st1 ll i (aI x) = ll') (kk : ax_J Y K nc ns (pc + 2) ll' st sh M) : ax_J Y K nc ns pc ll (aI x :: st) sh M := by
  intro p l e R s m args below meth c A E Q C hK H locs ls hW hl1 hr1 hr2
  have hr := List.forall_mem_cons.mp hr2
  exact lv_istore C.1 C.2.1 hd hl1 hn (by rw [← hl]; exact cvl_st1 E _ (aI x)) (fun ls' h => kk p l e R s m args below meth c A E Q C hK H locs ls' hW h (by rw [← hl]; exact j_vs1 hr1 hr.1) hr.2)
theorem j_astore_n {k : Fin 4} {x : Nat} (hd : decode (yc Y) pc = .ok (.astore_n k, 1)) (hn : (k : Nat) < yl Y) (hl : ax_st1 ll (k : Nat) (aR x) = ll') (kk : ax_J Y K nc ns (pc + 1) ll' st sh M) : ax_J Y K nc ns pc ll (aR x :: st) sh M := by
  intro p l e R s m args below meth c A E Q C hK H locs ls hW hl1 hr1 hr2
  have hr := List.forall_mem_cons.mp hr2
  exact lv_astore_n C.1 C.2.1 hd rfl hl1 hn (by rw [← hl]; exact cvl_st1 E _ (aR x)) (fun ls' h => kk p l e R s m args below meth c A E Q C hK H locs ls' hW h (by rw [← hl]; exact j_vs1 hr1 hr.1) hr.2)
theorem j_lstore_n {k : Fin 4} {x : Int} (hd : decode (yc Y) pc = .ok (.lstore_n k, 1)) (hn : (k : Nat) + 1 < yl Y) (hl : ax_st2 ll (k : Nat) (aL x) = ll') (kk : ax_J Y K nc ns (pc + 1) ll' st sh M) : ax_J Y K nc ns pc ll (aL x :: st) sh M := by
  intro p l e R s m args below meth c A E Q C hK H locs ls hW hl1 hr1 hr2
  have hr := List.forall_mem_cons.mp hr2
  exact lv_lstore_n C.1 C.2.1 hd rfl hl1 hn (by rw [← hl]; exact cvl_st2 E _ (aL x)) (fun ls' h => kk p l e R s m args below meth c A E Q C hK H locs ls' hW h (by rw [← hl]; exact j_vs2 hr1 hr.1) hr.2)
theorem j_lstore {i : Nat} {x : Int} (hd : decode (yc Y) pc = .ok (.lstore i, 2)) (hn : i + 1 < yl Y) (hl : ax_st2 ll i (aL x) = ll') (kk : ax_J Y K nc ns (pc + 2) ll' st sh M) : ax_J Y K nc ns pc ll (aL x :: st) sh M := by
  intro p l e R s m args below meth c A E Q C hK H locs ls hW hl1 hr1 hr2
  have hr := List.forall_mem_cons.mp hr2
  exact lv_lstore C.1 C.2.1 hd hl1 hn (by rw [← hl]; exact cvl_st2 E _ (aL x)) (fun ls' h => kk p l e R s m args below meth c A E Q C hK H locs ls' hW h (by rw [← hl]; exact j_vs2 hr1 hr.1) hr.2)
theorem j_iinc {i : Nat} {n x : Int} (j : Nat) (hd : decode (yc Y) pc = .ok (.iinc i n, 3)) (hk : ll[j]? = some (i, aI x)) (hn : i < yl Y) (hr : i32 (x + n)) (hl : ax_st1 ll i (aI (x + n)) = ll') (kk : ax_J Y K nc ns (pc + 3) ll' st sh M) : ax_J Y K nc ns pc ll st sh M := by
  intro p l e R s m args below meth c A E Q C hK H locs ls hW hl1 hr1 hr2
  exact lv_iinc (v := Int32.ofInt (x + n)) C.1 C.2.1 hd hl1 (k := j) (x := Int32.ofInt x) (by simp [cvl, hk, cv]) (Int32.ofInt_add x n).symm hn (by rw [← hl]; exact cvl_st1 E _ (aI (x + n))) (fun ls' h => kk p l e R s m args below meth c A E Q C hK H locs ls' hW h (by rw [← hl]; exact j_vs1 hr1 hr) hr2)
theorem j_goto {off : Int} {tgt : Nat} (hd : decode (yc Y) pc = .ok (.goto off, 3)) (ht : (pc : Int) + off = (tgt : Int)) (kk : ax_J Y K nc ns tgt ll st sh M) : ax_J Y K nc ns pc ll st sh M := by
  intro p l e R s m args below meth c A E Q C hK H locs ls hW hl hr1 hr2
  exact lv_goto C.1 C.2.1 hd ht (kk p l e R s m args below meth c A E Q C hK H locs ls hW hl hr1 hr2)
end JROWS
