theorem dJ0_length_8abf5_0 : decode cJ0_length_8abf5 0 = .ok (.aload_n 0, 1) := by decide +kernel
theorem dJ0_length_8abf5_1 : decode cJ0_length_8abf5 1 = .ok (.getfield 9, 3) := by decide +kernel
theorem dJ0_length_8abf5_4 : decode cJ0_length_8abf5 4 = .ok (.arraylength, 1) := by decide +kernel
theorem dJ0_length_8abf5_5 : decode cJ0_length_8abf5 5 = .ok (.aload_n 0, 1) := by decide +kernel
theorem dJ0_length_8abf5_6 : decode cJ0_length_8abf5 6 = .ok (.invokevirtual 335, 3) := by decide +kernel
theorem dJ0_length_8abf5_9 : decode cJ0_length_8abf5 9 = .ok (.ishr, 1) := by decide +kernel
theorem dJ0_length_8abf5_10 : decode cJ0_length_8abf5 10 = .ok (.ireturn, 1) := by decide +kernel
theorem dJ0_coder_7d493_0 : decode cJ0_coder_7d493 0 = .ok (.getstatic 38, 3) := by decide +kernel
theorem dJ0_coder_7d493_3 : decode cJ0_coder_7d493 3 = .ok (.ifCond .eq 10, 3) := by decide +kernel
theorem dJ0_coder_7d493_6 : decode cJ0_coder_7d493 6 = .ok (.aload_n 0, 1) := by decide +kernel
theorem dJ0_coder_7d493_7 : decode cJ0_coder_7d493 7 = .ok (.getfield 15, 3) := by decide +kernel
theorem dJ0_coder_7d493_10 : decode cJ0_coder_7d493 10 = .ok (.goto 4, 3) := by decide +kernel
theorem dJ0_coder_7d493_13 : decode cJ0_coder_7d493 13 = .ok (.iconst 1, 1) := by decide +kernel
theorem dJ0_coder_7d493_14 : decode cJ0_coder_7d493 14 = .ok (.ireturn, 1) := by decide +kernel
theorem dJ0_isLatin1_aae02_0 : decode cJ0_isLatin1_aae02 0 = .ok (.getstatic 38, 3) := by decide +kernel
theorem dJ0_isLatin1_aae02_3 : decode cJ0_isLatin1_aae02 3 = .ok (.ifCond .eq 14, 3) := by decide +kernel
theorem dJ0_isLatin1_aae02_6 : decode cJ0_isLatin1_aae02 6 = .ok (.aload_n 0, 1) := by decide +kernel
theorem dJ0_isLatin1_aae02_7 : decode cJ0_isLatin1_aae02 7 = .ok (.getfield 15, 3) := by decide +kernel
theorem dJ0_isLatin1_aae02_10 : decode cJ0_isLatin1_aae02 10 = .ok (.ifCond .ne 7, 3) := by decide +kernel
theorem dJ0_isLatin1_aae02_13 : decode cJ0_isLatin1_aae02 13 = .ok (.iconst 1, 1) := by decide +kernel
theorem dJ0_isLatin1_aae02_14 : decode cJ0_isLatin1_aae02 14 = .ok (.goto 4, 3) := by decide +kernel
theorem dJ0_isLatin1_aae02_17 : decode cJ0_isLatin1_aae02 17 = .ok (.iconst 0, 1) := by decide +kernel
theorem dJ0_isLatin1_aae02_18 : decode cJ0_isLatin1_aae02 18 = .ok (.ireturn, 1) := by decide +kernel
theorem dJ0_charAt_5068e_0 : decode cJ0_charAt_5068e 0 = .ok (.aload_n 0, 1) := by decide +kernel
theorem dJ0_charAt_5068e_1 : decode cJ0_charAt_5068e 1 = .ok (.invokevirtual 492, 3) := by decide +kernel
theorem dJ0_charAt_5068e_4 : decode cJ0_charAt_5068e 4 = .ok (.ifCond .eq 12, 3) := by decide +kernel
theorem dJ0_charAt_5068e_7 : decode cJ0_charAt_5068e 7 = .ok (.aload_n 0, 1) := by decide +kernel
theorem dJ0_charAt_5068e_8 : decode cJ0_charAt_5068e 8 = .ok (.getfield 9, 3) := by decide +kernel
theorem dJ0_charAt_5068e_11 : decode cJ0_charAt_5068e 11 = .ok (.iload_n 1, 1) := by decide +kernel
theorem dJ0_charAt_5068e_12 : decode cJ0_charAt_5068e 12 = .ok (.invokestatic 495, 3) := by decide +kernel
theorem dJ0_charAt_5068e_15 : decode cJ0_charAt_5068e 15 = .ok (.ireturn, 1) := by decide +kernel
theorem dJ0_charAt_5068e_16 : decode cJ0_charAt_5068e 16 = .ok (.aload_n 0, 1) := by decide +kernel
theorem dJ0_charAt_5068e_17 : decode cJ0_charAt_5068e 17 = .ok (.getfield 9, 3) := by decide +kernel
theorem dJ0_charAt_5068e_20 : decode cJ0_charAt_5068e 20 = .ok (.iload_n 1, 1) := by decide +kernel
theorem dJ0_charAt_5068e_21 : decode cJ0_charAt_5068e 21 = .ok (.invokestatic 498, 3) := by decide +kernel
theorem dJ0_charAt_5068e_24 : decode cJ0_charAt_5068e 24 = .ok (.ireturn, 1) := by decide +kernel
theorem dJ1_charAt_3b067_0 : decode cJ1_charAt_3b067 0 = .ok (.iload_n 1, 1) := by decide +kernel
theorem dJ1_charAt_3b067_1 : decode cJ1_charAt_3b067 1 = .ok (.aload_n 0, 1) := by decide +kernel
theorem dJ1_charAt_3b067_2 : decode cJ1_charAt_3b067 2 = .ok (.arraylength, 1) := by decide +kernel
theorem dJ1_charAt_3b067_3 : decode cJ1_charAt_3b067 3 = .ok (.invokestatic 9, 3) := by decide +kernel
theorem dJ1_charAt_3b067_6 : decode cJ1_charAt_3b067 6 = .ok (.aload_n 0, 1) := by decide +kernel
theorem dJ1_charAt_3b067_7 : decode cJ1_charAt_3b067 7 = .ok (.iload_n 1, 1) := by decide +kernel
theorem dJ1_charAt_3b067_8 : decode cJ1_charAt_3b067 8 = .ok (.baload, 1) := by decide +kernel
theorem dJ1_charAt_3b067_9 : decode cJ1_charAt_3b067 9 = .ok (.sipush 255, 3) := by decide +kernel
theorem dJ1_charAt_3b067_12 : decode cJ1_charAt_3b067 12 = .ok (.iand, 1) := by decide +kernel
theorem dJ1_charAt_3b067_13 : decode cJ1_charAt_3b067 13 = .ok (.i2c, 1) := by decide +kernel
theorem dJ1_charAt_3b067_14 : decode cJ1_charAt_3b067 14 = .ok (.ireturn, 1) := by decide +kernel
theorem dJ0_checkIndex_df160_0 : decode cJ0_checkIndex_df160 0 = .ok (.iload_n 0, 1) := by decide +kernel
theorem dJ0_checkIndex_df160_1 : decode cJ0_checkIndex_df160 1 = .ok (.iload_n 1, 1) := by decide +kernel
theorem dJ0_checkIndex_df160_2 : decode cJ0_checkIndex_df160 2 = .ok (.getstatic 1053, 3) := by decide +kernel
theorem dJ0_checkIndex_df160_5 : decode cJ0_checkIndex_df160 5 = .ok (.invokestatic 1059, 3) := by decide +kernel
theorem dJ0_checkIndex_df160_8 : decode cJ0_checkIndex_df160 8 = .ok (.pop, 1) := by decide +kernel
theorem dJ0_checkIndex_df160_9 : decode cJ0_checkIndex_df160 9 = .ok (.return_, 1) := by decide +kernel
theorem dJ3_0 : decode cJ3_checkIndex_8e157 0 = .ok (.iload_n 0, 1) := by decide +kernel
theorem dJ3_1 : decode cJ3_checkIndex_8e157 1 = .ok (.ifCond .lt 8, 3) := by decide +kernel
theorem dJ3_4 : decode cJ3_checkIndex_8e157 4 = .ok (.iload_n 0, 1) := by decide +kernel
theorem dJ3_5 : decode cJ3_checkIndex_8e157 5 = .ok (.iload_n 1, 1) := by decide +kernel
theorem dJ3_6 : decode cJ3_checkIndex_8e157 6 = .ok (.if_icmp .lt 10, 3) := by decide +kernel
theorem dJ3_16 : decode cJ3_checkIndex_8e157 16 = .ok (.iload_n 0, 1) := by decide +kernel
theorem dJ3_17 : decode cJ3_checkIndex_8e157 17 = .ok (.ireturn, 1) := by decide +kernel
def ax_CVs (own : String) (idx : Nat) (Yc : ax_Y) (n : Nat) : Prop := ax_CB Yc n ∧ ax_CM own idx Yc ∧ Cond.instanceMethod (yn Yc) ∈ ax_tb ∧ Cond.selects (yn Yc).cls (yn Yc) (yn Yc) ∈ ax_tb ∧ (yn Yc).cls = "java/lang/String"
theorem ax_runVs {Y Yc : ax_Y} {n idx i nc ns pc : Nat} {as rest : List ax_V} {p : Program} {l : Launch} {e : Env} {R : Room} {s : State} {m : MethodId} {args : Array Value} {below : List Frame} {meth : Method} {c : Code} {A : Nat → Prop} {E : ax_E} {sh : ax_S} {M : ax_M} {H : Heap} {locs : List Loc} {ls : Array Slot} {Qc : Array Value → State → Outcome → State → Prop} {free : Addr → Prop}
    (hd : decode (yc Y) pc = .ok (.invokevirtual idx, 3)) (hc : ax_CVs (yn Y).cls idx Yc n) (hf : ax_fit Y Yc nc ns) (hi : i < 7) (hn : as.length = n) (hrm : ax_wid rest ≤ 8)
    (C : ax_C Y p R s m meth c A E) (hW : ax_W E sh M A s H locs) (hsz : ls.size = yl Y) (hM : Met l (yn Yc) (ax_w0 Yc) (ax_rm Yc) (ax_Pc E (aR (1000 + i) :: as) sh M H.size) Qc (ymc Yc) (yms Yc) free) :
    va_Run p l e R s m args below meth c H locs nc ns (ymc Yc) (yms Yc) (F0 m pc ls (((as.reverse ++ aR (1000 + i) :: rest)).map (cv E))) (rest.map (cv E)) (Qc (((aR (1000 + i) :: as)).map (cv E)).toArray) free := by
  obtain ⟨hB, hL, hI, hSe, hqn⟩ := hc
  have hts : ∀ w ∈ ax_tb, w.before args s = true := fun w h => C.2.2.2.2.2.2.2.1 w h args
  have hR := C.2.2.2.2.2.2.2.2.2.2.2
  have hws : ∀ w ∈ ax_w0 Yc, ∀ (a' : Array Value) (U : State), s.WarmedH U.vm → w.before a' U = true := fun w hw a' U hWm => by
    rcases List.mem_singleton.mp hw with rfl
    exact ax_move hWm C.2.2.2.2.2.2.2.1 _ hB.1 a'
  have hrv := vk_recv C.2.2.2.2.2.2.2.2.2.2.1.1 hi hW.2.2.1
  rw [← hqn] at hrv
  have hpre : PreV s H (yn Yc).cls (E.2.2.1 (1000 + i)) (ax_Pc E (aR (1000 + i) :: as) sh M H.size) (as.map (cv E)) := ⟨ax_blind, hrv, ax_pre C hW (aR (1000 + i) :: as)⟩
  have hr1 : (ax_rm Yc).frames + 1 ≤ R.frames := Nat.le_trans hf.1 hR.1
  have hr2 : 8 + (yl Yc + 11) + (ax_rm Yc).locals ≤ R.locals := by
    have h1 := hR.2.1
    have h2 := hf.1
    have h3 := hf.2.1
    show 8 + (yl Yc + 11) + 64 * yk Yc ≤ R.locals
    omega
  have hst : ((as.reverse ++ aR (1000 + i) :: rest)).map (cv E) = (as.map (cv E)).reverse ++ .ref (E.2.2.1 (1000 + i)) :: rest.map (cv E) := by
    rw [List.map_append, List.map_reverse]; rfl
  have hfit : nc + ymc Yc ≤ R.cells ∧ ns + yms Yc ≤ R.slots := ⟨Nat.le_trans hf.2.2.1 hR.2.2.1, Nat.le_trans hf.2.2.2 hR.2.2.2⟩
  have hcat : 2 * (F0 m pc ls (((as.reverse ++ aR (1000 + i) :: rest)).map (cv E))).monitorRoom + ((rest.map (cv E)).map fun v => v.category).sum ≤ 8 := by
    have h1 := ax_wcat (E := E) rest
    exact lv_room (by rw [h1]; exact hrm)
  rcases hL with hL | ⟨host, hL⟩
  · exact va_runV (Ts := ax_tb) ⟨C.1, C.2.1, C.2.2.2.1, C.2.2.2.2.1, hts⟩ hM ⟨⟨rfl, rfl, hr1, hr2, hws, List.mem_singleton.mpr rfl, hts _ hB.1, hts _ hB.2.1, hB.2.2.1, cb_n hB, hts _ hL⟩, hts _ hI, hts _ hSe⟩ hpre rfl (by rw [List.length_map]; exact hn) hsz hst hcat hd hfit
  · exact va_runVN (Ts := ax_tb) ⟨C.1, C.2.1, C.2.2.2.1, C.2.2.2.2.1, hts⟩ hM ⟨⟨⟨rfl, rfl, hr1, hr2, hws, List.mem_singleton.mpr rfl⟩, hts _ hB.1, hts _ hB.2.1, hB.2.2.1, cb_n hB, hts _ hL⟩, hts _ hI, hts _ hSe⟩ hpre rfl (by rw [List.length_map]; exact hn) hsz hst hcat hd hfit
theorem j_callis {Y Yc : ax_Y} {K : ax_KT} {nc ns pc n idx i : Nat} {ll : List (Nat × ax_V)} {st as rest : List ax_V} {sh : ax_S} {M : ax_M} (hd : decode (yc Y) pc = .ok (.invokevirtual idx, 3)) (hc : ax_CVs (yn Y).cls idx Yc n) (hf : ax_fit Y Yc nc ns) (hi : i < 7) (hn : as.length = n) (hrm : ax_wid rest ≤ 8) (hst : as.reverse ++ aR (1000 + i) :: rest = st) (hT : ax_Ti Yc (aR (1000 + i) :: as) sh M (fun z u => ax_J Y K (nc + ymc Yc) (ns + yms Yc) (pc + 3) ll (aI z :: rest) sh u)) : ax_J Y K nc ns pc ll st sh M := by
  subst hst
  intro p l e R s m args below meth c A E Q C hK H locs ls hW hl hr1 hr2
  have hM := hT (fun v hv => hr2 v (by rcases List.mem_cons.mp hv with h | h; (rw [h]; simp); (exact List.mem_append_left _ (List.mem_reverse.mpr h)))) hW.2.2.2 l E H.size
  have hFc := ax_free hW C.2.2.2.2.2.2.2.2.1
  refine va_calli (ax_runVs hd hc hf hi hn hrm C hW hl.1 hM) hW.2.2.1 (fun q _ h => hFc q h) hFc (fun r u t H1 locs1 ht hvm hw hB hz1 hk1 hS1 => ?_)
  obtain ⟨hP1, hD1, hm1⟩ := hB
  rw [ht] at hP1
  obtain ⟨z, rfl, hz, hJ⟩ := hw
  exact hJ p l e R s m args below meth c A E Q C hK H1 locs1 ls ⟨hP1, hD1.weaken (fun _ q _ h => hFc q.1 h), hS1, hm1⟩ hl hr1 (j_cons hz (fun v hv => hr2 v (List.mem_append_right _ (List.mem_cons_of_mem _ hv))))
theorem j_nret {Y : ax_Y} {nc ns pc : Nat} {ll : List (Nat × ax_V)} {sh : ax_S} {M : ax_M} {post : Int → ax_M → Prop} {z : Int} {ty : FieldType} (hd : decode (yc Y) pc = .ok (.ireturn, 1)) (hr : yr Y = some ty) (hc : nc ≤ ymc Y ∧ ns ≤ yms Y) (hb : narrow ty (.int (Int32.ofInt z)) = .int (Int32.ofInt z)) (kk : post z M) : ax_J Y (ax_Ki Y sh post) nc ns pc ll [aI z] sh M := by
  intro p l e R s m args below meth c A E Q C hK H locs ls hW hl hr1 hr2
  have hz : i32 z := j_h1 hr2
  have hlocks := C.2.2.2.2.2.1
  rw [show Q = _ from hK]
  refine W.widen hc.1 hc.2 ?_
  exact W.zret (ty := ty) C.1 C.2.1 (by rw [C.2.2.1, hr]) hb (fun t ht hWm => ⟨⟨_, M, rfl, ⟨z, rfl, hz, kk⟩, by rw [ht]; exact hW.1, hW.2.1, hW.2.2.2⟩, hW.2.2.1.F ht⟩) hW.2.2.1.2.2 hd hlocks
section JSTR
variable {Y : ax_Y} {K : ax_KT} {nc ns pc idx i : Nat} {ll : List (Nat × ax_V)} {st : List ax_V} {sh : ax_S} {M : ax_M}
theorem j_sgv (hd : decode (yc Y) pc = .ok (.getfield idx, 3)) (hl0 : Cond.fieldLink (yn Y).cls idx "java/lang/String" "value" "[B" ∈ ax_tb) (hi : i < 7) (kk : ax_J Y K nc ns (pc + 3) ll (aR (1100 + i) :: st) sh M) : ax_J Y K nc ns pc ll (aR (1000 + i) :: st) sh M := by
  intro p l e R s m args below meth c A E Q C hK H locs ls hW hl hr1 hr2
  have hE := (C.2.2.2.2.2.2.2.2.2.2.1.1.1 i hi).2.2.1
  exact vk_getf C.1 C.2.1 hE hW.2.2.1 C.2.2.2.2.1 (C.2.2.2.2.2.2.2.1 _ hl0 args) (fun x h => h) hd (kk p l e R s m args below meth c A E Q C hK H locs ls hW hl hr1 (j_cons trivial (j_t1 hr2)))
theorem j_sgc (hd : decode (yc Y) pc = .ok (.getfield idx, 3)) (hl0 : Cond.fieldLink (yn Y).cls idx "java/lang/String" "coder" "B" ∈ ax_tb) (hi : i < 7) (kk : ax_J Y K nc ns (pc + 3) ll (aI 0 :: st) sh M) : ax_J Y K nc ns pc ll (aR (1000 + i) :: st) sh M := by
  intro p l e R s m args below meth c A E Q C hK H locs ls hW hl hr1 hr2
  have hE := (C.2.2.2.2.2.2.2.2.2.2.1.1.1 i hi).2.1
  exact vk_getf C.1 C.2.1 hE hW.2.2.1 C.2.2.2.2.1 (C.2.2.2.2.2.2.2.1 _ hl0 args) (fun x h => h) hd (kk p l e R s m args below meth c A E Q C hK H locs ls hW hl hr1 (j_cons i32_0 (j_t1 hr2)))
theorem j_gst (hd : decode (yc Y) pc = .ok (.getstatic idx, 3)) (hl0 : Cond.fieldLink (yn Y).cls idx "java/lang/String" "COMPACT_STRINGS" "Z" ∈ ax_tb) (kk : ax_J Y K nc ns (pc + 3) ll (aI 1 :: st) sh M) : ax_J Y K nc ns pc ll st sh M := by
  intro p l e R s m args below meth c A E Q C hK H locs ls hW hl hr1 hr2
  exact va_gets C.1 C.2.1 C.2.2.2.2.2.2.2.2.2.2.1.2.2.1 hW.2.2.1 C.2.2.2.2.1 (C.2.2.2.2.2.2.2.1 _ hl0 args) (fun x h => h) hd (kk p l e R s m args below meth c A E Q C hK H locs ls hW hl hr1 (j_cons ⟨by decide, by decide⟩ hr2))
theorem j_sal (hd : decode (yc Y) pc = .ok (.arraylength, 1)) (hi : i < 7) {v : Int} (hv : Int32.ofNat (ax_len.getD i 0) = Int32.ofInt v) (hr : i32 v) (kk : ax_J Y K nc ns (pc + 1) ll (aI v :: st) sh M) : ax_J Y K nc ns pc ll (aR (1100 + i) :: st) sh M := by
  intro p l e R s m args below meth c A E Q C hK H locs ls hW hl hr1 hr2
  have hT := (C.2.2.2.2.2.2.2.2.2.2.1.1.1 i hi).2.2.2
  exact va_tlen C.1 C.2.1 hT hW.2.2.1 hv hd (kk p l e R s m args below meth c A E Q C hK H locs ls hW hl hr1 (j_cons hr (j_t1 hr2)))
def ax_bI (i : Nat) (k : Int) : Int := ((ax_byt.getD i []).getD k.toNat 0).toInt
theorem j_sbl {k : Int} (hd : decode (yc Y) pc = .ok (.baload, 1)) (hi : i < 7) (h0 : 0 ≤ k) (h1 : k < ((ax_len.getD i 0 : Nat) : Int)) (kk : ax_J Y K nc ns (pc + 1) ll (aI (ax_bI i k) :: st) sh M) : ax_J Y K nc ns pc ll (aI k :: aR (1100 + i) :: st) sh M := by
  intro p l e R s m args below meth c A E Q C hK H locs ls hW hl hr1 hr2
  have hT := (C.2.2.2.2.2.2.2.2.2.2.1.1.1 i hi).2.2.2
  have hk : i32 k := j_h1 hr2
  refine va_tb C.1 C.2.1 hT hW.2.2.1 (v_in hk h0 h1) (v := .int (Int32.ofInt (ax_bI i k))) ?_ hd (kk p l e R s m args below meth c A E Q C hK H locs ls hW hl hr1 (j_cons (c32_toInt _) (j_t1 (j_t1 hr2))))
  rw [v_nat hk]
  show Value.int _ = Value.int _
  congr 1
  unfold ax_bI
  rw [Int32.ofInt_toInt]
theorem j_i2c {x : Int} (hd : decode (yc Y) pc = .ok (.i2c, 1)) (h0 : 0 ≤ x) (h1 : x < 65536) (kk : ax_J Y K nc ns (pc + 1) ll (aI x :: st) sh M) : ax_J Y K nc ns pc ll (aI x :: st) sh M := by
  intro p l e R s m args below meth c A E Q C hK H locs ls hW hl hr1 hr2
  have hx : i32 x := j_h1 hr2
  obtain ⟨q, rfl⟩ := Int.eq_ofNat_of_zero_le h0
  have hq : q < 65536 := by omega
  refine lv_i2c C.1 C.2.1 hd ?_ (kk p l e R s m args below meth c A E Q C hK H locs ls hW hl hr1 hr2)
  have e1 : Int32.ofInt (q : Int) = nI q := Int32.ofInt_eq_ofNat
  rw [e1, pk_char, pk_tn (by omega), Nat.mod_eq_of_lt hq]
end JSTR
/-- Preconditions.checkIndex, an index that is in: nothing is written -/
theorem t_chk (l : Launch) (i n : Int) (v : Value) (hi : i32 i) (hn : i32 n) (h0 : 0 ≤ i) (h1 : i < n) (hv : ¬ v.category = 2) : Met l yJ3_checkIndex_8e157 (ax_w0 Y_J3_checkIndex_8e157) (ax_rm Y_J3_checkIndex_8e157) (va_Pc [.int (Int32.ofInt i), .int (Int32.ofInt n), v] (fun _ => True)) (va_Qi (fun (r : Int32) (_ : Unit) => r = Int32.ofInt i) (fun _ _ => True) (fun _ => False)) 0 0 (fun _ => False) := by
  refine Met.ofW (cc := cJ3_checkIndex_8e157) (maxL := 3) (ret := some .int) (by decide) rfl ?_
  intro p e s m args below meth c s₁ B hml hv0
  obtain ⟨rfl, -⟩ := hv0
  have hx := B.exec
  have hb := B.bytes
  have hr := B.returns
  have hlocks := B.notSynchronized
  have hcat : v.category = 1 := by rcases lv_cat v with h | h; exact h; exact absurd h hv
  have hS : va_S (fun _ => False) s.heap s.heap [] := va_S.rf
  rw [lg_entry_eq]
  have hlen : (lg_sl [Value.int (Int32.ofInt i), .int (Int32.ofInt n), v]).length ≤ 3 := by
    simp only [lg_sl, List.flatMap_cons, List.length_append, List.flatMap_nil, List.length_nil]
    rw [if_neg (show ¬ v.category = 2 from hv)]
    exact (by decide : 1 + (1 + (1 + 0)) ≤ 3)
  have hl := lv_entry [Value.int (Int32.ofInt i), .int (Int32.ofInt n), v] (n := 3) hlen
  generalize (lg_sl [Value.int (Int32.ofInt i), .int (Int32.ofInt n), v] ++ List.replicate (3 - (lg_sl [Value.int (Int32.ofInt i), .int (Int32.ofInt n), v]).length) Slot.unset).toArray = ls at hl ⊢
  have hl0 := lv_at hl 0 (i := 0) (v := .int (Int32.ofInt i)) rfl
  have hl1 := lv_at hl 1 (i := 1) (v := .int (Int32.ofInt n)) rfl
  refine lv_iload_n hx hb dJ3_0 rfl hl0 ?_
  refine lv_if_lt (tgt := 9) hx hb dJ3_1 (by decide) (fun h => absurd ((c32_lt hi i32_0).mp h) (by omega)) (fun _ => ?_)
  refine lv_iload_n hx hb dJ3_4 rfl hl0 ?_
  refine lv_iload_n hx hb dJ3_5 rfl hl1 ?_
  refine lv_icmp_lt (tgt := 16) hx hb dJ3_6 (by decide) (fun _ => ?_) (fun h => absurd ((c32_lt hi hn).mpr h1) h)
  refine lv_iload_n hx hb dJ3_16 rfl hl0 ?_
  exact W.iret hx hb hr (fun t ht hW => ⟨⟨_, (), rfl, rfl, trivial⟩, hS.F ht⟩) hS.2.2 dJ3_17 hlocks
/-- String.checkIndex, an index that is in -/
theorem t_cix {sh : ax_S} {M : ax_M} {i n : Int} {post : ax_M → Prop} (h0 : 0 ≤ i) (h1 : i < n) (h : post M) : ax_Tv Y_J0_checkIndex_df160 [aI i, aI n] sh M post := by
  refine tv_of (ll := [(0, aI i), (1, aI n)]) (by decide) (Nat.le_of_ble_eq_true rfl) rfl (fun _ => ?_)
  refine j_iload_n 0 dJ0_checkIndex_df160_0 rfl ?_
  refine j_iload_n 1 dJ0_checkIndex_df160_1 rfl ?_
  intro p l e R s m args below meth c A E Q C hK H locs ls hW hl hr1 hr2
  have hn : i32 n := j_h1 hr2
  have hi : i32 i := j_h1 (j_t1 hr2)
  have hts : ∀ w ∈ ax_tb, w.before args s = true := fun w h => C.2.2.2.2.2.2.2.1 w h args
  have hR := C.2.2.2.2.2.2.2.2.2.2.2
  have hZq := C.2.2.2.2.2.2.2.2.2.2.1.2.2.2
  have hlk : Cond.fieldLink "java/lang/String" 1053 "jdk/internal/util/Preconditions" "SIOOBE_FORMATTER" "Ljava/util/function/BiFunction;" ∈ ax_tb := (ax_in 605 (by decide +kernel) rfl)
  have hml : Cond.methodLink "java/lang/String" 1059 yJ3_checkIndex_8e157 ∈ ax_tb := (ax_in 607 (by decide +kernel) rfl)
  have hcd : Cond.code yJ3_checkIndex_8e157 cJ3_checkIndex_8e157 3 (some .int) ∈ ax_tb := (ax_in 609 (by decide +kernel) rfl)
  have hst : Cond.static yJ3_checkIndex_8e157 ∈ ax_tb := (ax_in 608 (by decide +kernel) rfl)
  have hin : Cond.initialized "jdk/internal/util/Preconditions" ∈ ax_tb := (ax_in 131 (by decide +kernel) rfl)
  have key : ∀ v : Value, ¬ v.category = 2 → va_Z "jdk/internal/util/Preconditions" "SIOOBE_FORMATTER" "Ljava/util/function/BiFunction;" v A s s.heap → W p l e R s m args below meth c H locs 0 0 Q (F0 m (0 + 1 + 1) ls ([aI n, aI i].map (cv E))) := by
    intro v hv hZ
    refine va_gets C.1 C.2.1 hZ hW.2.2.1 C.2.2.2.2.1 (hts _ hlk) (fun x h => h) dJ0_checkIndex_df160_2 ?_
    have hM := t_chk l i n v hi hn h0 h1 hv
    have hws : ∀ w ∈ ax_w0 Y_J3_checkIndex_8e157, ∀ (a' : Array Value) (U : State), s.WarmedH U.vm → w.before a' U = true := fun w hw a' U hWm => by
      rcases List.mem_singleton.mp hw with rfl
      exact ax_move hWm C.2.2.2.2.2.2.2.1 _ hcd a'
    have hpre : PreS s H (va_Pc [.int (Int32.ofInt i), .int (Int32.ofInt n), v] (fun _ => True)) [.int (Int32.ofInt i), .int (Int32.ofInt n), v] := ⟨fun a U g mk q => q, fun U hU hWm => ⟨rfl, trivial⟩⟩
    have hrun := va_runS (Ts := ax_tb) (own := "java/lang/String") (index := 1059) (n := 3) (g := F0 m 5 ls (v :: [aI n, aI i].map (cv E))) (rest := []) (cells := 0) (slots := 0) (locs := locs) (p := p) (e := e) (R := R) (below := below) (meth := meth) (bytes := cJ3_checkIndex_8e157) (maxL := 3) (ret := some .int) (nL := yl Y_J0_checkIndex_df160) (cc := yc Y_J0_checkIndex_df160) (args := args) (m := m) (c := c) (s := s) ⟨C.1, C.2.1, C.2.2.2.1, C.2.2.2.2.1, hts⟩ hM ⟨⟨rfl, rfl, Nat.le_trans (Nat.le_of_ble_eq_true rfl) hR.1, Nat.le_trans (Nat.le_of_ble_eq_true rfl) hR.2.1, hws, List.mem_singleton.mpr rfl, hts _ hcd, hts _ hin, ⟨by decide, by decide⟩, (fun sig h => by
      have h2 : (parseMethodDescriptor yJ3_checkIndex_8e157.desc).map (fun d => d.parameters.length) = some 3 := by decide +kernel
      rw [h] at h2
      exact (Option.some.inj h2).symm), hts _ hml⟩, hts _ hst⟩ hpre rfl rfl hl.1 rfl (lv_room (Nat.le_of_ble_eq_true rfl)) dJ0_checkIndex_df160_5 ⟨Nat.zero_le _, Nat.zero_le _⟩
    refine va_calli hrun hW.2.2.1 (fun q _ h => h.elim) (fun q h => h.elim) (fun r u t H1 locs1 ht hvm hw hB hz1 hk1 hS1 => ?_)
    refine lv_pop C.1 C.2.1 dJ0_checkIndex_df160_8 rfl ?_
    have hP1 : va_P E.1 vwCl (ax_ws E sh M) H1 := hW.1.kept (fun k q hq => hk1 q.1 ((hW.1 k q hq).lt) (fun z => z))
    exact j_vret (sh := sh) (M := M) (ll := [(0, aI i), (1, aI n)]) dJ0_checkIndex_df160_9 rfl ⟨Nat.le_of_ble_eq_true rfl, Nat.le_of_ble_eq_true rfl⟩ h p l e R s m args below meth c A E Q C hK H1 locs1 ls ⟨hP1, hW.2.1, hS1, hW.2.2.2⟩ hl hr1 (fun v h => by cases h)
  rcases hZq with hZ | ⟨t, hZ⟩
  · exact key .null (by decide) hZ
  · exact key (.ref t) (show ¬ (1 : Nat) = 2 by decide) hZ
theorem qs_coder : ax_CVs "java/lang/String" 335 Y_J0_coder_7d493 0 := ⟨⟨(ax_in 580 (by decide +kernel) rfl), (ax_in 129 (by decide +kernel) rfl), ⟨by decide, by decide⟩, by decide +kernel⟩, Or.inl (ax_in 577 (by decide +kernel) rfl), (ax_in 578 (by decide +kernel) rfl), (ax_in 579 (by decide +kernel) rfl), rfl⟩
theorem qs_latin : ax_CVs "java/lang/String" 492 Y_J0_isLatin1_aae02 0 := ⟨⟨(ax_in 598 (by decide +kernel) rfl), (ax_in 129 (by decide +kernel) rfl), ⟨by decide, by decide⟩, by decide +kernel⟩, Or.inl (ax_in 595 (by decide +kernel) rfl), (ax_in 596 (by decide +kernel) rfl), (ax_in 597 (by decide +kernel) rfl), rfl⟩
theorem qs_lch : ax_CS "java/lang/String" 495 Y_J1_charAt_3b067 2 := ⟨⟨(ax_in 601 (by decide +kernel) rfl), (ax_in 130 (by decide +kernel) rfl), ⟨by decide, by decide⟩, by decide +kernel⟩, Or.inl (ax_in 599 (by decide +kernel) rfl), (ax_in 600 (by decide +kernel) rfl)⟩
theorem qs_cix : ax_CS "java/lang/StringLatin1" 9 Y_J0_checkIndex_df160 2 := ⟨⟨(ax_in 604 (by decide +kernel) rfl), (ax_in 129 (by decide +kernel) rfl), ⟨by decide, by decide⟩, by decide +kernel⟩, Or.inl (ax_in 602 (by decide +kernel) rfl), (ax_in 603 (by decide +kernel) rfl)⟩
theorem qs_len : ax_CVs "LastLamps$Reader" 108 Y_J0_length_8abf5 0 := ⟨⟨(ax_in 576 (by decide +kernel) rfl), (ax_in 129 (by decide +kernel) rfl), ⟨by decide, by decide⟩, by decide +kernel⟩, Or.inl (ax_in 573 (by decide +kernel) rfl), (ax_in 574 (by decide +kernel) rfl), (ax_in 575 (by decide +kernel) rfl), rfl⟩
theorem qs_chr : ax_CVs "LastLamps$Reader" 118 Y_J0_charAt_5068e 1 := ⟨⟨(ax_in 594 (by decide +kernel) rfl), (ax_in 129 (by decide +kernel) rfl), ⟨by decide, by decide⟩, by decide +kernel⟩, Or.inl (ax_in 591 (by decide +kernel) rfl), (ax_in 592 (by decide +kernel) rfl), (ax_in 593 (by decide +kernel) rfl), rfl⟩
theorem t_coder {sh : ax_S} {M : ax_M} {i : Nat} {post : Int → ax_M → Prop} (hi : i < 7) (h : post 0 M) : ax_Ti Y_J0_coder_7d493 [aR (1000 + i)] sh M post := by
  refine ti_of (ll := [(0, aR (1000 + i))]) (by decide) (Nat.le_of_ble_eq_true rfl) rfl (fun _ => ?_)
  refine j_gst dJ0_coder_7d493_0 (ax_in 581 (by decide +kernel) rfl) ?_
  refine j_if_eq (tgt := 13) dJ0_coder_7d493_3 (by decide) (fun c => absurd c (by decide)) (fun _ => ?_)
  refine j_aload_n 0 dJ0_coder_7d493_6 rfl ?_
  refine j_sgc dJ0_coder_7d493_7 (ax_in 1627 (by decide +kernel) rfl) hi ?_
  refine j_goto (tgt := 14) dJ0_coder_7d493_10 (by decide) ?_
  exact j_nret (ty := .byte) dJ0_coder_7d493_14 rfl ⟨Nat.le_of_ble_eq_true rfl, Nat.le_of_ble_eq_true rfl⟩ (by decide) h
theorem t_latin {sh : ax_S} {M : ax_M} {i : Nat} {post : Int → ax_M → Prop} (hi : i < 7) (h : post 1 M) : ax_Ti Y_J0_isLatin1_aae02 [aR (1000 + i)] sh M post := by
  refine ti_of (ll := [(0, aR (1000 + i))]) (by decide) (Nat.le_of_ble_eq_true rfl) rfl (fun _ => ?_)
  refine j_gst dJ0_isLatin1_aae02_0 (ax_in 581 (by decide +kernel) rfl) ?_
  refine j_if_eq (tgt := 17) dJ0_isLatin1_aae02_3 (by decide) (fun c => absurd c (by decide)) (fun _ => ?_)
  refine j_aload_n 0 dJ0_isLatin1_aae02_6 rfl ?_
  refine j_sgc dJ0_isLatin1_aae02_7 (ax_in 1627 (by decide +kernel) rfl) hi ?_
  refine j_if_ne (tgt := 17) dJ0_isLatin1_aae02_10 (by decide) (fun c => absurd rfl c) (fun _ => ?_)
  refine j_iconst (x := 1) dJ0_isLatin1_aae02_13 rfl (i32_c rfl) ?_
  refine j_goto (tgt := 18) dJ0_isLatin1_aae02_14 (by decide) ?_
  exact j_zret dJ0_isLatin1_aae02_18 rfl ⟨Nat.le_of_ble_eq_true rfl, Nat.le_of_ble_eq_true rfl⟩ (by decide) h
theorem t_slen {sh : ax_S} {M : ax_M} {i : Nat} {v : Int} {post : Int → ax_M → Prop} (hi : i < 7) (hv : Int32.ofNat (ax_len.getD i 0) = Int32.ofInt v) (hr : i32 v) (h : post v M) : ax_Ti Y_J0_length_8abf5 [aR (1000 + i)] sh M post := by
  refine ti_of (ll := [(0, aR (1000 + i))]) (by decide) (Nat.le_of_ble_eq_true rfl) rfl (fun _ => ?_)
  refine j_aload_n 0 dJ0_length_8abf5_0 rfl ?_
  refine j_sgv dJ0_length_8abf5_1 (ax_in 1626 (by decide +kernel) rfl) hi ?_
  refine j_sal dJ0_length_8abf5_4 hi hv hr ?_
  refine j_aload_n 0 dJ0_length_8abf5_5 rfl ?_
  refine j_callis (Yc := Y_J0_coder_7d493) (as := []) (rest := [aI v]) dJ0_length_8abf5_6 qs_coder ⟨Nat.le_of_ble_eq_true rfl, Nat.le_of_ble_eq_true rfl, Nat.le_of_ble_eq_true rfl, Nat.le_of_ble_eq_true rfl⟩ hi rfl (Nat.le_of_ble_eq_true rfl) rfl (t_coder hi ?_)
  have e1 : bo_shr v 0 = v := by
    unfold bo_shr
    rw [show Int32.ofInt 0 &&& 31 = 0 from rfl]
    have h2 : Int32.ofInt v >>> (0 : Int32) = Int32.ofInt v := by
      have := sb_shr0 (Int32.ofInt v)
      exact this
    rw [h2, c32_in hr]
  refine j_ishr (z := v) dJ0_length_8abf5_9 e1 ?_
  exact j_iret dJ0_length_8abf5_10 rfl ⟨Nat.le_of_ble_eq_true rfl, Nat.le_of_ble_eq_true rfl⟩ (fun _ => h)
def ax_chs : List (List Int) := [[112, 108, 97, 99, 101, 115], [111, 117, 116], [119, 97, 121], [100, 97, 114, 107], [119, 105, 100, 101], [102, 105, 108, 108, 115], [98, 97, 100]]
def ax_chr (i : Nat) (k : Int) : Int := (ax_chs.getD i []).getD k.toNat 0
theorem chr_ok : ∀ i, i < 7 → ∀ k, k < ax_len.getD i 0 → (ax_bI i (k : Int) = ax_chr i (k : Int) ∧ bo_and (ax_bI i (k : Int)) 255 = ax_chr i (k : Int) ∧ 0 ≤ ax_chr i (k : Int) ∧ ax_chr i (k : Int) < 65536) := by decide +kernel
theorem chr_ok' {i : Nat} {k : Int} (hi : i < 7) (h0 : 0 ≤ k) (h1 : k < ((ax_len.getD i 0 : Nat) : Int)) : ax_bI i k = ax_chr i k ∧ bo_and (ax_bI i k) 255 = ax_chr i k ∧ 0 ≤ ax_chr i k ∧ ax_chr i k < 65536 := by
  obtain ⟨q, rfl⟩ := Int.eq_ofNat_of_zero_le h0
  exact chr_ok i hi q (by omega)
theorem t_lch {sh : ax_S} {M : ax_M} {i : Nat} {k : Int} {post : Int → ax_M → Prop} (hi : i < 7) (h0 : 0 ≤ k) (h1 : k < ((ax_len.getD i 0 : Nat) : Int)) (h : post (ax_chr i k) M) : ax_Ti Y_J1_charAt_3b067 [aR (1100 + i), aI k] sh M post := by
  have hc := chr_ok' hi h0 h1
  have hlen : ax_len.getD i 0 < 100 := by
    have : ∀ i, i < 7 → ax_len.getD i 0 < 100 := by decide
    exact this i hi
  refine ti_of (ll := [(0, aR (1100 + i)), (1, aI k)]) (by decide) (Nat.le_of_ble_eq_true rfl) rfl (fun _ => ?_)
  refine j_iload_n 1 dJ1_charAt_3b067_0 rfl ?_
  refine j_aload_n 0 dJ1_charAt_3b067_1 rfl ?_
  refine j_sal (v := ((ax_len.getD i 0 : Nat) : Int)) dJ1_charAt_3b067_2 hi Int32.ofInt_eq_ofNat.symm ⟨by omega, by omega⟩ ?_
  refine j_callvS (Yc := Y_J0_checkIndex_df160) (as := [aI k, aI ((ax_len.getD i 0 : Nat) : Int)]) (rest := []) dJ1_charAt_3b067_3 qs_cix ⟨Nat.le_of_ble_eq_true rfl, Nat.le_of_ble_eq_true rfl, Nat.le_of_ble_eq_true rfl, Nat.le_of_ble_eq_true rfl⟩ rfl (Nat.le_of_ble_eq_true rfl) rfl (t_cix h0 h1 ?_)
  refine j_aload_n 0 dJ1_charAt_3b067_6 rfl ?_
  refine j_iload_n 1 dJ1_charAt_3b067_7 rfl ?_
  refine j_sbl dJ1_charAt_3b067_8 hi h0 h1 ?_
  refine j_sipush (x := 255) dJ1_charAt_3b067_9 rfl (i32_c rfl) ?_
  refine j_iand (z := ax_chr i k) dJ1_charAt_3b067_12 hc.2.1 ?_
  refine j_i2c dJ1_charAt_3b067_13 hc.2.2.1 hc.2.2.2 ?_
  refine j_nret (ty := .char) dJ1_charAt_3b067_14 rfl ⟨Nat.le_of_ble_eq_true rfl, Nat.le_of_ble_eq_true rfl⟩ ?_ h
  obtain ⟨q, hq⟩ := Int.eq_ofNat_of_zero_le hc.2.2.1
  have hq2 := hc.2.2.2
  rw [hq] at hq2 ⊢
  have e1 : Int32.ofInt (q : Int) = nI q := Int32.ofInt_eq_ofNat
  rw [e1]
  exact (pk_charN (by omega)).1
theorem t_schr {sh : ax_S} {M : ax_M} {i : Nat} {k : Int} {post : Int → ax_M → Prop} (hi : i < 7) (h0 : 0 ≤ k) (h1 : k < ((ax_len.getD i 0 : Nat) : Int)) (h : post (ax_chr i k) M) : ax_Ti Y_J0_charAt_5068e [aR (1000 + i), aI k] sh M post := by
  have hc := chr_ok' hi h0 h1
  refine ti_of (ll := [(0, aR (1000 + i)), (1, aI k)]) (by decide) (Nat.le_of_ble_eq_true rfl) rfl (fun _ => ?_)
  refine j_aload_n 0 dJ0_charAt_5068e_0 rfl ?_
  refine j_callis (Yc := Y_J0_isLatin1_aae02) (as := []) (rest := []) dJ0_charAt_5068e_1 qs_latin ⟨Nat.le_of_ble_eq_true rfl, Nat.le_of_ble_eq_true rfl, Nat.le_of_ble_eq_true rfl, Nat.le_of_ble_eq_true rfl⟩ hi rfl (Nat.le_of_ble_eq_true rfl) rfl (t_latin hi ?_)
  refine j_if_eq (tgt := 16) dJ0_charAt_5068e_4 (by decide) (fun c => absurd c (by decide)) (fun _ => ?_)
  refine j_aload_n 0 dJ0_charAt_5068e_7 rfl ?_
  refine j_sgv dJ0_charAt_5068e_8 (ax_in 1626 (by decide +kernel) rfl) hi ?_
  refine j_iload_n 1 dJ0_charAt_5068e_11 rfl ?_
  refine j_calliS (Yc := Y_J1_charAt_3b067) (as := [aR (1100 + i), aI k]) (rest := []) dJ0_charAt_5068e_12 qs_lch ⟨Nat.le_of_ble_eq_true rfl, Nat.le_of_ble_eq_true rfl, Nat.le_of_ble_eq_true rfl, Nat.le_of_ble_eq_true rfl⟩ rfl (Nat.le_of_ble_eq_true rfl) rfl (t_lch hi h0 h1 ?_)
  refine j_nret (ty := .char) dJ0_charAt_5068e_15 rfl ⟨Nat.le_of_ble_eq_true rfl, Nat.le_of_ble_eq_true rfl⟩ ?_ h
  obtain ⟨q, hq⟩ := Int.eq_ofNat_of_zero_le hc.2.2.1
  have hq2 := hc.2.2.2
  rw [hq] at hq2 ⊢
  have e1 : Int32.ofInt (q : Int) = nI q := Int32.ofInt_eq_ofNat
  rw [e1]
  exact (pk_charN (by omega)).1
theorem j_slen {Y : ax_Y} {K : ax_KT} {pc i : Nat} {ll : List (Nat × ax_V)} {rest : List ax_V} {sh : ax_S} {M : ax_M} {v : Int} (hd : decode (yc Y) pc = .ok (.invokevirtual 108, 3)) (hown : (yn Y).cls = "LastLamps$Reader") (hk : yk Y_J0_length_8abf5 + 1 ≤ yk Y) (hi : i < 7) (hrm : ax_wid rest ≤ 8) (hv : ((ax_len.getD i 0 : Nat) : Int) = v) (kk : ax_J Y K 0 0 (pc + 3) ll (aI v :: rest) sh M) : ax_J Y K 0 0 pc ll (aR (1000 + i) :: rest) sh M := by
  have hlen : ax_len.getD i 0 < 100 := by
    have : ∀ i, i < 7 → ax_len.getD i 0 < 100 := by decide
    exact this i hi
  exact j_callis (Yc := Y_J0_length_8abf5) (as := []) hd (by rw [hown]; exact qs_len) ⟨hk, Nat.le_of_ble_eq_true rfl, Nat.zero_le _, Nat.zero_le _⟩ hi rfl hrm rfl (t_slen hi (by rw [← hv]; exact Int32.ofInt_eq_ofNat.symm) (by rw [← hv]; exact ⟨by omega, by omega⟩) kk)
theorem j_schar {Y : ax_Y} {K : ax_KT} {pc i : Nat} {ll : List (Nat × ax_V)} {rest : List ax_V} {sh : ax_S} {M : ax_M} {k n : Int} (hd : decode (yc Y) pc = .ok (.invokevirtual 118, 3)) (hown : (yn Y).cls = "LastLamps$Reader") (hk : yk Y_J0_charAt_5068e + 1 ≤ yk Y) (hi : i < 7) (hrm : ax_wid rest ≤ 8) (hn : ((ax_len.getD i 0 : Nat) : Int) = n) (h : 0 ≤ k ∧ k < n) (kk : ax_J Y K 0 0 (pc + 3) ll (aI (ax_chr i k) :: rest) sh M) : ax_J Y K 0 0 pc ll (aI k :: aR (1000 + i) :: rest) sh M :=
  j_callis (Yc := Y_J0_charAt_5068e) (as := [aI k]) hd (by rw [hown]; exact qs_chr) ⟨hk, Nat.le_of_ble_eq_true rfl, Nat.zero_le _, Nat.zero_le _⟩ hi rfl hrm rfl (t_schr hi h.1 (by rw [hn]; exact h.2) kk)
theorem j_mmax {Y : ax_Y} {K : ax_KT} {nc ns pc idx : Nat} {ll : List (Nat × ax_V)} {rest : List ax_V} {sh : ax_S} {M : ax_M} {x y : Int} (hd : decode (yc Y) pc = .ok (.invokestatic idx, 3)) (hl0 : Cond.methodLink (yn Y).cls idx Lib.Math.max.name ∈ ax_tb) (hc : nc ≤ ymc Y ∧ ns ≤ yms Y) (hk : 1 ≤ yk Y) (hrm : ax_wid rest ≤ 8) (kk : ax_J Y K nc ns (pc + 3) ll (aI (max x y) :: rest) sh M) : ax_J Y K nc ns pc ll (aI y :: aI x :: rest) sh M := by
  intro p l e R s m args below meth c A E Q C hK H locs ls hW hl hr1 hr2
  have hy : i32 y := j_h1 hr2
  have hx : i32 x := j_h1 (j_t1 hr2)
  have hts : ∀ w ∈ ax_tb, w.before args s = true := fun w h => C.2.2.2.2.2.2.2.1 w h args
  have hR := C.2.2.2.2.2.2.2.2.2.2.2
  have h1 := ax_wcat (E := E) rest
  have hv : (if Int32.ofInt x < Int32.ofInt y then Int32.ofInt y else Int32.ofInt x) = Int32.ofInt (max x y) := by
    by_cases h : x < y
    · rw [if_pos ((c32_lt hx hy).mpr h)]
      congr 1; omega
    · rw [if_neg (fun z => h ((c32_lt hx hy).mp z))]
      congr 1; omega
  have hr : i32 (max x y) := by
    have a1 := hx.1
    have a2 := hx.2
    have a3 := hy.1
    have a4 := hy.2
    exact ⟨by omega, by omega⟩
  refine va_mmax C.1 C.2.1 (by rw [C.2.2.2.1]; exact hl.1.symm) C.2.2.2.2.1 (hts _ hl0) (hts _ (ax_in 776 (by decide +kernel) rfl)) (hts _ (ax_in 134 (by decide +kernel) rfl)) (hts _ (ax_in 777 (by decide +kernel) rfl)) (Nat.le_trans hk hR.1) (by
    have h2 := hR.2.1
    rw [h1]; omega) (Nat.le_trans hc.1 hR.2.2.1) (Nat.le_trans hc.2 hR.2.2.2) hd ?_
  rw [hv]
  exact kk p l e R s m args below meth c A E Q C hK H locs ls hW hl hr1 (j_cons hr (j_t1 (j_t1 hr2)))
theorem j_mmin {Y : ax_Y} {K : ax_KT} {nc ns pc idx : Nat} {ll : List (Nat × ax_V)} {rest : List ax_V} {sh : ax_S} {M : ax_M} {x y : Int} (hd : decode (yc Y) pc = .ok (.invokestatic idx, 3)) (hl0 : Cond.methodLink (yn Y).cls idx Lib.Math.min.name ∈ ax_tb) (hc : nc ≤ ymc Y ∧ ns ≤ yms Y) (hk : 1 ≤ yk Y) (hrm : ax_wid rest ≤ 8) (kk : ax_J Y K nc ns (pc + 3) ll (aI (min x y) :: rest) sh M) : ax_J Y K nc ns pc ll (aI y :: aI x :: rest) sh M := by
  intro p l e R s m args below meth c A E Q C hK H locs ls hW hl hr1 hr2
  have hy : i32 y := j_h1 hr2
  have hx : i32 x := j_h1 (j_t1 hr2)
  have hts : ∀ w ∈ ax_tb, w.before args s = true := fun w h => C.2.2.2.2.2.2.2.1 w h args
  have hR := C.2.2.2.2.2.2.2.2.2.2.2
  have h1 := ax_wcat (E := E) rest
  have hv : (if Int32.ofInt y < Int32.ofInt x then Int32.ofInt y else Int32.ofInt x) = Int32.ofInt (min x y) := by
    by_cases h : y < x
    · rw [if_pos ((c32_lt hy hx).mpr h)]
      congr 1; omega
    · rw [if_neg (fun z => h ((c32_lt hy hx).mp z))]
      congr 1; omega
  have hr : i32 (min x y) := by
    have a1 := hx.1
    have a2 := hx.2
    have a3 := hy.1
    have a4 := hy.2
    exact ⟨by omega, by omega⟩
  refine va_mmin C.1 C.2.1 (by rw [C.2.2.2.1]; exact hl.1.symm) C.2.2.2.2.1 (hts _ hl0) (hts _ (ax_in 860 (by decide +kernel) rfl)) (hts _ (ax_in 134 (by decide +kernel) rfl)) (hts _ (ax_in 861 (by decide +kernel) rfl)) (Nat.le_trans hk hR.1) (by
    have h2 := hR.2.1
    rw [h1]; omega) (Nat.le_trans hc.1 hR.2.2.1) (Nat.le_trans hc.2 hR.2.2.2) hd ?_
  rw [hv]
  exact kk p l e R s m args below meth c A E Q C hK H locs ls hW hl hr1 (j_cons hr (j_t1 (j_t1 hr2)))
