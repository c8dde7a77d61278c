theorem ax_Tb0 {s : State} {args : Array Value} (h : ∀ w ∈ lw_tbl, w.before args s = true) : ax_Tb s := by
  intro w hw a
  have hp := (List.mem_filter.mp hw).2
  have h0 := h w (List.mem_filter.mp hw).1
  unfold ax_port at hp
  rw [Bool.or_eq_true] at hp
  rcases hp with hp | hp
  · exact word_at (State.WarmedH.refl s) (good_of_word hp) h0
  · split at hp
    · exact va_Nw.use rfl (va_Nw.of rfl h0)
    · exact va_Nw.use rfl (va_Nw.of rfl h0)
    · exact va_AO.use (va_AO.of h0)
    · cases hp
def lw_tm (i : Nat) : Term := .string "LastLamps$Reader" (([52, 67, 73, 91, 93, 95, 97] : List Nat).getD i 0)
theorem lw_str {s : State} {args : Array Value} {A : Nat → Prop} (hs : (Jvm.Cond.and given_1 narrow_1).before args s = true) (hA : ∀ a : Nat, a < s.heap.size → ¬ A a) : ∃ adK adV : Nat → Nat, vk_S 7 ax_len ax_byt adK adV A s s.heap ∧ ∀ i : Nat, i < 7 → (lw_tm i).eval args s none [] s = some (.ref (adK i)) := by
  have hq := flat_of_before _ hs
  have h7 : ∀ {P : Nat → Prop}, P 0 → P 1 → P 2 → P 3 → P 4 → P 5 → P 6 → ∀ i, i < 7 → P i := by
    intro P a0 a1 a2 a3 a4 a5 a6 i hi
    rcases (show i = 0 ∨ i = 1 ∨ i = 2 ∨ i = 3 ∨ i = 4 ∨ i = 5 ∨ i = 6 by omega) with rfl | rfl | rfl | rfl | rfl | rfl | rfl <;> assumption
  refine vk_Sof (tm := lw_tm) (by decide) ?_ ?_ ?_ ?_ ?_ ?_ hA
  · exact h7 (hq _ (by decide +kernel)) (hq _ (by decide +kernel)) (hq _ (by decide +kernel)) (hq _ (by decide +kernel)) (hq _ (by decide +kernel)) (hq _ (by decide +kernel)) (hq _ (by decide +kernel))
  · exact h7 (hq _ (by decide +kernel)) (hq _ (by decide +kernel)) (hq _ (by decide +kernel)) (hq _ (by decide +kernel)) (hq _ (by decide +kernel)) (hq _ (by decide +kernel)) (hq _ (by decide +kernel))
  · exact h7 (hq _ (by decide +kernel)) (hq _ (by decide +kernel)) (hq _ (by decide +kernel)) (hq _ (by decide +kernel)) (hq _ (by decide +kernel)) (hq _ (by decide +kernel)) (hq _ (by decide +kernel))
  · exact h7 (hq _ (by decide +kernel)) (hq _ (by decide +kernel)) (hq _ (by decide +kernel)) (hq _ (by decide +kernel)) (hq _ (by decide +kernel)) (hq _ (by decide +kernel)) (hq _ (by decide +kernel))
  · have h8 : ∀ {P : Nat → Prop} (n : Nat), n ≤ 6 → (0 < n → P 0) → (1 < n → P 1) → (2 < n → P 2) → (3 < n → P 3) → (4 < n → P 4) → (5 < n → P 5) → ∀ j, j < n → P j := by
      intro P n hn a0 a1 a2 a3 a4 a5 j hj
      rcases (show j = 0 ∨ j = 1 ∨ j = 2 ∨ j = 3 ∨ j = 4 ∨ j = 5 by omega) with rfl | rfl | rfl | rfl | rfl | rfl
      · exact a0 hj
      · exact a1 hj
      · exact a2 hj
      · exact a3 hj
      · exact a4 hj
      · exact a5 hj
    refine h7 ?_ ?_ ?_ ?_ ?_ ?_ ?_
    · exact h8 6 (by decide) (fun _ => hq _ (by decide +kernel)) (fun _ => hq _ (by decide +kernel)) (fun _ => hq _ (by decide +kernel)) (fun _ => hq _ (by decide +kernel)) (fun _ => hq _ (by decide +kernel)) (fun _ => hq _ (by decide +kernel))
    · exact h8 3 (by decide) (fun _ => hq _ (by decide +kernel)) (fun _ => hq _ (by decide +kernel)) (fun _ => hq _ (by decide +kernel)) (fun h => absurd h (by decide)) (fun h => absurd h (by decide)) (fun h => absurd h (by decide))
    · exact h8 3 (by decide) (fun _ => hq _ (by decide +kernel)) (fun _ => hq _ (by decide +kernel)) (fun _ => hq _ (by decide +kernel)) (fun h => absurd h (by decide)) (fun h => absurd h (by decide)) (fun h => absurd h (by decide))
    · exact h8 4 (by decide) (fun _ => hq _ (by decide +kernel)) (fun _ => hq _ (by decide +kernel)) (fun _ => hq _ (by decide +kernel)) (fun _ => hq _ (by decide +kernel)) (fun h => absurd h (by decide)) (fun h => absurd h (by decide))
    · exact h8 4 (by decide) (fun _ => hq _ (by decide +kernel)) (fun _ => hq _ (by decide +kernel)) (fun _ => hq _ (by decide +kernel)) (fun _ => hq _ (by decide +kernel)) (fun h => absurd h (by decide)) (fun h => absurd h (by decide))
    · exact h8 5 (by decide) (fun _ => hq _ (by decide +kernel)) (fun _ => hq _ (by decide +kernel)) (fun _ => hq _ (by decide +kernel)) (fun _ => hq _ (by decide +kernel)) (fun _ => hq _ (by decide +kernel)) (fun h => absurd h (by decide))
    · exact h8 3 (by decide) (fun _ => hq _ (by decide +kernel)) (fun _ => hq _ (by decide +kernel)) (fun _ => hq _ (by decide +kernel)) (fun h => absurd h (by decide)) (fun h => absurd h (by decide)) (fun h => absurd h (by decide))
  · intro i j hi hj
    revert j
    revert i
    refine h7 ?_ ?_ ?_ ?_ ?_ ?_ ?_ <;> refine h7 ?_ ?_ ?_ ?_ ?_ ?_ ?_ <;> intro hne <;> first | exact absurd rfl hne | exact Or.inl (hq _ (by decide +kernel)) | exact Or.inr (hq _ (by decide +kernel))
set_option maxHeartbeats 4000000 in
set_option maxRecDepth 100000 in
theorem whole_start {p : Program} {e : Env} {s : State} {m : MethodId} {below : List Frame} {meth : Method} {c : Code} (l : Launch) (hflags : l.flags = flags0) {b L : Nat} {xs : Nat → Int32} (hL : L ≤ 3584) (C0 : lw_At p s m meth c b L xs) : W p l e room_1 s m #[Value.ref b] below meth c s.heap [] 0 0 (lw_Z below #[Value.ref b] s) (entryFrame m ([Value.ref b] : List Value).toArray 4) := by
  obtain ⟨hx, hb, hr, hml, hown, hts, hX, hbl, hlocks, hgv⟩ := id C0
  have hTb : ax_Tb s := ax_Tb0 hts
  have hA0 : ∀ a : Nat, a < s.heap.size → ¬ (fun q : Nat => s.heap.size ≤ q) a := fun a h => Nat.not_le.mpr h
  obtain ⟨adK, adV, hS, hev⟩ := lw_str (A := fun q => s.heap.size ≤ q) hgv hA0
  have hq := flat_of_before _ hgv
  have hts2 : ∀ w ∈ ax_tb, w.before #[Value.ref b] s = true := fun w hw => hTb w hw _
  obtain ⟨c0, i0, k0⟩ := u_known (C := RX0) (T := TX0) (N := 8) (n := 8) hts2 k_X0 (hts2 (.instantiable RX0 8) (ax_in 233 (by decide +kernel) rfl))
  obtain ⟨c1, i1, k1⟩ := u_known (C := RX1) (T := TX1) (N := 8) (n := 8) hts2 k_X1 (hts2 (.instantiable RX1 8) (ax_in 386 (by decide +kernel) rfl))
  obtain ⟨c2, i2, k2⟩ := u_known (C := RX2) (T := TX2) (N := 12) (n := 12) hts2 k_X2 (hts2 (.instantiable RX2 12) (ax_in 343 (by decide +kernel) rfl))
  obtain ⟨c3, i3, k3⟩ := u_known (C := RX3) (T := TX3) (N := 5) (n := 5) hts2 k_X3 (hts2 (.instantiable RX3 5) (ax_in 169 (by decide +kernel) rfl))
  obtain ⟨c4, i4, k4⟩ := u_known (C := RX4) (T := TX4) (N := 7) (n := 7) hts2 k_X4 (hts2 (.instantiable RX4 7) (ax_in 471 (by decide +kernel) rfl))
  obtain ⟨c5, i5, k5⟩ := u_known (C := RX5) (T := TX5) (N := 6) (n := 6) hts2 k_X5 (hts2 (.instantiable RX5 6) (ax_in 163 (by decide +kernel) rfl))
  obtain ⟨c6, i6, k6⟩ := u_known (C := RX6) (T := TX6) (N := 2) (n := 2) hts2 k_X6 (hts2 (.instantiable RX6 2) (ax_in 289 (by decide +kernel) rfl))
  obtain ⟨c7, i7, k7⟩ := u_known (C := RX7) (T := TX7) (N := 15) (n := 15) hts2 k_X7 (hts2 (.instantiable RX7 15) (ax_in 417 (by decide +kernel) rfl))
  obtain ⟨c8, i8, k8⟩ := u_known (C := RX8) (T := TX8) (N := 2) (n := 2) hts2 k_X8 (hts2 (.instantiable RX8 2) (ax_in 146 (by decide +kernel) rfl))
  obtain ⟨c9, i9, k9⟩ := u_known (C := RX9) (T := TX9) (N := 8) (n := 8) hts2 k_X9 (hts2 (.instantiable RX9 8) (ax_in 306 (by decide +kernel) rfl))
  obtain ⟨c10, i10, k10⟩ := u_known (C := RX10) (T := TX10) (N := 13) (n := 13) hts2 k_X10 (hts2 (.instantiable RX10 13) (ax_in 138 (by decide +kernel) rfl))
  obtain ⟨c11, i11, k11⟩ := u_known (C := RX11) (T := TX11) (N := 61) (n := 61) hts2 k_X11 (hts2 (.instantiable RX11 61) (ax_in 1101 (by decide +kernel) rfl))
  obtain ⟨dC, dI, hKc⟩ : ∃ (dC : Nat → ClassId) (dI : Nat → Nat → Nat), ∀ (k : Nat) (q : vw_C), vwCl[k]? = some q → u_Kn s q.1 q.2.1 q.2.2 (dC k) (dI k) := by
    refine ⟨fun k => match k with | 0 => c0 | 1 => c1 | 2 => c2 | 3 => c3 | 4 => c4 | 5 => c5 | 6 => c6 | 7 => c7 | 8 => c8 | 9 => c9 | 10 => c10 | _ => c11, fun k => match k with | 0 => i0 | 1 => i1 | 2 => i2 | 3 => i3 | 4 => i4 | 5 => i5 | 6 => i6 | 7 => i7 | 8 => i8 | 9 => i9 | 10 => i10 | _ => i11, ?_⟩
    intro k q hq
    match k, hq with
    | 0, hq => cases hq; exact k0
    | 1, hq => cases hq; exact k1
    | 2, hq => cases hq; exact k2
    | 3, hq => cases hq; exact k3
    | 4, hq => cases hq; exact k4
    | 5, hq => cases hq; exact k5
    | 6, hq => cases hq; exact k6
    | 7, hq => cases hq; exact k7
    | 8, hq => cases hq; exact k8
    | 9, hq => cases hq; exact k9
    | 10, hq => cases hq; exact k10
    | 11, hq => cases hq; exact k11
    | k + 12, hq => simp [vwCl] at hq
  obtain ⟨aI0, kI0, pI0, eI1, eI2, eI3⟩ := Cond.arrayClass_spec (hts2 (.arrayClass .int) (ax_in 208 (by decide +kernel) rfl))
  obtain ⟨aJ0, kJ0, pJ0, eJ1, eJ2, eJ3⟩ := Cond.arrayClass_spec (hts2 (.arrayClass .long) (ax_in 1290 (by decide +kernel) rfl))
  obtain ⟨aZ0, kZ0, pZ0, eZ1, eZ2, eZ3⟩ := Cond.arrayClass_spec (hts2 (.arrayClass .boolean) (ax_in 286 (by decide +kernel) rfl))
  obtain ⟨aB0, kB0, pB0, eB1, eB2, eB3⟩ := Cond.arrayClass_spec (hts2 (.arrayClass .byte) (ax_in 161 (by decide +kernel) rfl))
  obtain ⟨pO0, aO0, kO0, eO1, eO2, eO3, eO4, eO5⟩ := Cond.arrayOver_spec (hts2 (.arrayOver (.object "LastLamps$Crew")) (ax_in 287 (by decide +kernel) rfl))
  obtain ⟨E, e1, e20, e21, e22, e23, e24, hadS, hadK, hadV⟩ : ∃ E : ax_E, E.1 = (dC, dI) ∧ E.2.1 0 = aI0 ∧ E.2.1 1 = aJ0 ∧ E.2.1 2 = aO0 ∧ E.2.1 3 = aZ0 ∧ E.2.1 4 = aB0 ∧ E.2.2.1 2000 = b ∧ (∀ i, i < 7 → E.2.2.1 (1000 + i) = adK i) ∧ (∀ i, i < 7 → E.2.2.1 (1100 + i) = adV i) := by
    refine ⟨((dC, dI), fun k => if k = 0 then aI0 else if k = 1 then aJ0 else if k = 2 then aO0 else if k = 3 then aZ0 else aB0, fun k => if k = 2000 then b else if 1100 ≤ k then adV (k - 1100) else adK (k - 1000), fun _ => 0), rfl, rfl, rfl, rfl, rfl, rfl, rfl, fun i hi => ?_, fun i hi => ?_⟩
    · show (if 1000 + i = 2000 then b else if 1100 ≤ 1000 + i then adV (1000 + i - 1100) else adK (1000 + i - 1000)) = adK i
      rw [if_neg (by omega), if_neg (by omega), Nat.add_sub_cancel_left]
    · show (if 1100 + i = 2000 then b else if 1100 ≤ 1100 + i then adV (1100 + i - 1100) else adK (1100 + i - 1000)) = adV i
      rw [if_neg (by omega), if_pos (by omega), Nat.add_sub_cancel_left]
  have hKt : va_K E.1 vwCl (ax_tys E) s := by
    refine ⟨by rw [e1]; exact hKc, ?_⟩
    unfold ax_tys
    rw [e20, e21, e22, e23, e24]
    intro k q hk
    rcases (show k = 0 ∨ k = 1 ∨ k = 2 ∨ k = 3 ∨ k = 4 ∨ 5 ≤ k by omega) with rfl | rfl | rfl | rfl | rfl | h5
    · cases hk; exact ⟨fun n z => ⟨fun k h => (by cases h), kI0, eI2, pI0, eI3⟩, eI1⟩
    · cases hk; exact ⟨fun n z => ⟨fun k h => (by cases h), kJ0, eJ2, pJ0, eJ3⟩, eJ1⟩
    · cases hk; exact ⟨fun n z => ⟨fun k h => (by cases h), kO0, eO3, pO0, eO4⟩, ⟨kO0, pO0, eO3, eO4, eO1, eO5⟩⟩
    · cases hk; exact ⟨fun n z => ⟨fun k h => (by cases h), kZ0, eZ2, pZ0, eZ3⟩, eZ1⟩
    · cases hk; exact ⟨fun n z => ⟨fun k h => (by cases h), kB0, eB2, pB0, eB3⟩, eB1⟩
    · rw [List.getElem?_eq_none (by simpa using h5)] at hk; cases hk
  have hStr : ax_Str E (fun q => s.heap.size ≤ q) s s.heap := by
    refine ⟨⟨fun i hi => ?_, fun i j hi hj h => hS.2 i j hi hj ?_⟩, fun i o k tx hi => ?_, ?_, ?_⟩
    · have h := hS.1 i hi
      show va_O "java/lang/String" (E.2.2.1 (1000 + i)) _ s s.heap ∧ va_OF "java/lang/String" "coder" "B" (.int 0) (E.2.2.1 (1000 + i)) _ s s.heap ∧ va_OF "java/lang/String" "value" "[B" (.ref (E.2.2.1 (1100 + i))) (E.2.2.1 (1000 + i)) _ s s.heap ∧ va_T .byte (E.2.2.1 (1100 + i)) (ax_len.getD i 0) (fun j => .int ((ax_byt.getD i []).getD j 0)) _ s s.heap
      rw [hadK i hi, hadV i hi]
      exact h
    · have h2 : E.2.2.1 (1000 + i) = E.2.2.1 (1000 + j) := h
      rw [hadK i hi, hadK j hj] at h2
      exact h2
    · have hi7 : i < 7 := (List.getElem?_eq_some_iff.mp hi).1
      have he := hev i hi7
      show vk_R o k tx (E.2.2.1 (1000 + i)) s
      rw [hadK i hi7]
      have hw : ∀ (k : Nat) (tx : String), Cond.stringRef "LastLamps$Reader" k tx ∈ lw_tbl → (Term.string "LastLamps$Reader" k).eval #[Value.ref b] s none [] s = some (.ref (adK i)) → vk_R "LastLamps$Reader" k tx (adK i) s := fun k tx h1 h2 => vk_R.of (hts _ h1) h2
      rcases (show i = 0 ∨ i = 1 ∨ i = 2 ∨ i = 3 ∨ i = 4 ∨ i = 5 ∨ i = 6 by omega) with rfl | rfl | rfl | rfl | rfl | rfl | rfl <;> cases hi
      · exact hw 52 "places" (List.mem_of_getElem? (i := 568) (by decide +kernel)) he
      · exact hw 67 "out" (List.mem_of_getElem? (i := 650) (by decide +kernel)) he
      · exact hw 73 "way" (List.mem_of_getElem? (i := 655) (by decide +kernel)) he
      · exact hw 91 "dark" (List.mem_of_getElem? (i := 664) (by decide +kernel)) he
      · exact hw 93 "wide" (List.mem_of_getElem? (i := 665) (by decide +kernel)) he
      · exact hw 95 "fills" (List.mem_of_getElem? (i := 666) (by decide +kernel)) he
      · exact hw 97 "bad" (List.mem_of_getElem? (i := 667) (by decide +kernel)) he
    · have h1 : (Cond.eq (.static "java/lang/String" "COMPACT_STRINGS" "Z") (.int 1)).before #[Value.ref b] s = true := hq _ (by decide +kernel)
      exact va_Zof (hts _ (List.mem_of_getElem? (i := 582) (by decide +kernel))) (hts _ (List.mem_of_getElem? (i := 129) (by decide +kernel))) (va_eqi h1) hA0
    · have h1 : (Cond.isRef (.static "jdk/internal/util/Preconditions" "SIOOBE_FORMATTER" "Ljava/util/function/BiFunction;")).before #[Value.ref b] s = true := hq _ (by decide +kernel)
      exact va_Zqof (hts _ (List.mem_of_getElem? (i := 606) (by decide +kernel))) (hts _ (List.mem_of_getElem? (i := 131) (by decide +kernel))) h1 hA0
  rw [lg_entry_eq]
  have hl := lv_entry ([.ref b]) (n := 4) (Nat.le_of_ble_eq_true rfl)
  have hbE : cv E (aR 2000) = .ref b := by
    show Value.ref (E.2.2.1 2000) = Value.ref b
    rw [hadS]
  have hJ := law_all (b := b) (xs := xs) hL
  have hK : ax_KL b L xs p l e room_1 s m #[Value.ref b] below meth c (fun q => s.heap.size ≤ q) E (lw_Z below #[Value.ref b] s) := ⟨rfl, rfl, rfl, hadS, hX, hbl, rfl⟩
  refine hJ p l e room_1 s m #[Value.ref b] below meth c (fun q => s.heap.size ≤ q) E _ ⟨hx, hb, hr, hml, hown, hlocks, (fun h => absurd h (by decide)), hTb, fun q h => h, hKt, hStr, Nat.le_of_ble_eq_true rfl, Nat.le_of_ble_eq_true rfl, Nat.le_of_ble_eq_true rfl, Nat.le_of_ble_eq_true rfl⟩ hK s.heap [] _ ⟨fun k q h => (by simp [ax_ws] at h), ⟨fun i j p q h => (by simp [ax_ws] at h), fun k q h => (by simp [ax_ws] at h)⟩, va_S.rf, ⟨fun k kd n h => (by simp at h), fun k ci kds h => (by simp at h)⟩⟩ ?_ (fun q hq => by rcases List.mem_singleton.mp hq with rfl; trivial) (fun v h => by cases h)
  show lv_has _ 4 [(0, cv E (aR 2000))]
  rw [hbE]
  exact hl
-- ===== YOUR PART ENDS =====
set_option maxHeartbeats 4000000 in
theorem lw_walk (l : Launch) (hflags : l.flags = flags0) (b : Addr) (xs : List Int32) : MetFree l x (headSpec (Jvm.Cond.code x code maxLocals ret :: tables_1) room_1) (lw_P b xs) (fun _ _ _ _ _ => True) lw_Q := by
  refine MetFree.of_bodyS (code := code) (maxLocals := maxLocals) (ret := ret) (by decide) ?_ ?_
  · intro args s m h hn
    obtain ⟨meth, c, h1, h2, h3, h4, h5, h6, -, -⟩ := Cond.code_spec hn (atoms_spec (ws := Jvm.Cond.code x code maxLocals ret :: tables_1) h _ List.mem_cons_self)
    exact ⟨meth, c, h1, h2, h3, h4, h5, h6⟩
  · intro p e s m args below meth c s₁ B hml0 hP _
    obtain ⟨rfl, hx, hbd, hgv⟩ := hP
    obtain ⟨scr, harrAt, hlist, hof, hsmall⟩ := hx
    obtain ⟨hcb, hkn, -, -⟩ := State.arrayAt?_spec harrAt
    have hown : s.vm.findClass R_law = some m.cls := findClass_of_methodNamed B.named
    have hts0 : ∀ c ∈ (Jvm.Cond.code x code maxLocals ret :: tables_1), c.before #[Value.ref b] s = true := atoms_spec (ws := Jvm.Cond.code x code maxLocals ret :: tables_1) B.pre
    have hts : ∀ w ∈ lw_tbl, w.before #[Value.ref b] s = true := k2_hts_sels lw_privs (fun w hw => hts0 w (List.mem_cons_of_mem _ hw)) lw_privs_ok
    have hml : c.maxLocals = 4 := B.maxLocals_eq (hts0 _ List.mem_cons_self)
    have X₀ : Stand p l e room_1 s m #[Value.ref b] below meth c s₁ [] 0 0 := Stand.of_body B
    have hh0 : s₁.heap = s.heap := by rw [B.state]; rfl
    have hsz : scr.slots.size = xs.length := by rw [← Array.length_toList, hlist, List.length_map]
    have hval : ∀ j : Nat, j < xs.length → scr.slots[j]? = some (.int (xs.getD j 0)) := fun j hj => by
      rw [← Array.getElem?_toList, hlist]
      simp [hj]
    have hbl : b < s.heap.size := (Array.getElem?_eq_some_iff.mp hcb).1
    have hX : va_X b xs.length (fun j => xs.getD j 0) s s.heap := ⟨scr, hcb, hof, hkn, hsz, hval⟩
    have K : W p l e room_1 s m #[Value.ref b] below meth c s₁.heap [] 0 0 (lw_Z below #[Value.ref b] s) (entryFrame m ([Value.ref b] : List Value).toArray 4) := by
      rw [hh0]
      exact whole_start l hflags hbd ⟨B.exec, B.bytes, B.returns, hml, hown, hts, hX, hbl, B.notSynchronized, hgv⟩
    obtain ⟨t, a1, o, b1, b2, b3⟩ := K s₁ rfl X₀
    exact ⟨t, o, a1, b1, b2, b3⟩
theorem lw_pre_spec {args : Array Value} {s : State} (h : (Jvm.Cond.and given_1 narrow_1).before args s = true) (hr : rest_1_c.before args s = true) : ∃ (b : Addr) (xs : List Int32), lw_P b xs args s := by
  have hs := flat_of_before _ h
  have hq := flat_of_before _ hr
  have hc : (Cond.count 1).before args s = true := hs _ (by decide +kernel)
  have harr : (Cond.arrayOf (.arg 0) .int).before args s = true := hs _ (by decide +kernel)
  have hle : (Cond.le (.length (.arg 0)) (.int 3584)).before args s = true := hs _ (by decide +kernel)
  have hlen : (Cond.isInt (.length (.arg 0))).before args s = true := hq _ (by decide +kernel)
  have hall : (Cond.all (.arg 0) (.isInt (.elem (.arg 0) (.index 0)))).before args s = true := hq _ (by decide +kernel)
  obtain ⟨b, xs, hb, hx⟩ := State.ints_of_pre rfl harr hlen hall
  have hsm : xs.length < 2 ^ 31 := hx.choose_spec.2.2.2
  have hev : (Term.length (.arg 0)).eval args s none [] s = some (.int xs.length.toInt32) := hx.length_eval hb
  have hv := Cond.le_ints hev (show (Term.int 3584).eval args s none [] s = some (.int 3584) from rfl)
  have hd : xs.length.toInt32 ≤ 3584 := by
    simpa [Cond.before, Cond.holds, hv] using hle
  have hN : xs.length ≤ 3584 := (Int32.ofNat_le_ofNat hsm (by decide)).mp (show Int32.ofNat xs.length ≤ Int32.ofNat 3584 from hd)
  exact ⟨b, xs, Cond.one_arg hc (show args[0]? = some (.ref b) from hb), hx, hN, h⟩
theorem lw_comes (l : Launch) (hflags : l.flags = flags0) : Comes l x (Jvm.Cond.code x code maxLocals ret :: tables_1) room_1 (fun tb e args s => Calls_1 tb e args s ∧ rest_1 tb e args s ∧ Pre_1 tb e args s)
    (fun _ _ args s o t => lw_Q args s o t) := by
  intro p e ha hc hk s m args below hf hfit hheap happ hpre
  obtain ⟨b, xs, hP⟩ := lw_pre_spec hpre.2.2 hpre.2.1
  obtain ⟨k, o, h1, h2, h3, hQ⟩ := lw_walk l hflags b xs p e ha hc hk s m args below hf ((Spec.applies_iff_loose hf).mp happ).1 hP trivial
  exact ⟨k, o, h1, h2, h3, hQ⟩
theorem lw_frame {s t : State} {o : Outcome} {args : Array Value} (h : Framed s o t [] 600000 7302250) :
    Framed s o t (fieldLocs frame_1_writes args s ++ arrayLocs frame_1_arrays args s ++ staticLocs frame_1_statics s) 600000 7302250 := h
theorem lw_limb (L : Cond) (hL : ∀ (args : Array Value) (s t : State), L.after args s (.returned (some (.int 1))) t = true) :
    ArmFor flags0 classFile x code maxLocals ret World_1 tables_1 room_1 Calls_1 rest_1 Pre_1
      (fun tb e a s o t => postC L tb e a s o t ∧ Framed s o t (fieldLocs frame_1_writes a s ++ arrayLocs frame_1_arrays a s ++ staticLocs frame_1_statics s) 600000 7302250) := by
  intro l hflags _ _ p e ha hc hk s m args below hf hfit hheap happ hpre
  obtain ⟨k, o, h1, h2, h3, rfl, hF⟩ := lw_comes l hflags p e ha hc hk s m args below hf hfit hheap happ hpre
  exact ⟨k, _, h1, h2, h3, hL args s _, lw_frame hF⟩
theorem i_vc : Claimed_1_1 ∧ Claimed_1_2 := ⟨lw_limb limb_1_1 (fun args s t => by simp [limb_1_1, Cond.after, Cond.holds, Cond.value]), lw_limb limb_1_2 (fun args s t => Cond.after_iff.mpr (by
  first | (rw [show limb_1_2 = Cond.eq .result (.int 1) from rfl, Cond.eq_ints (x := 1) (y := 1) rfl rfl]; simp; done) | (simp [limb_1_2, Cond.value, Term.eval]; done)))⟩
