/-- how many of the first n are not 0 -/
def cnt (f : Int → Int) : Nat → Int
  | 0 => 0
  | n + 1 => cnt f n + (if f n = 0 then 0 else 1)
theorem cnt_le (f : Int → Int) : ∀ n, 0 ≤ cnt f n ∧ cnt f n ≤ n
  | 0 => ⟨Int.le_refl 0, Int.le_refl 0⟩
  | n + 1 => by have := cnt_le f n; unfold cnt; split <;> omega
theorem cnt_congr {f g : Int → Int} : ∀ n : Nat, (∀ k : Int, 0 ≤ k → k < n → f k = g k) → cnt f n = cnt g n
  | 0, _ => rfl
  | n + 1, h => by unfold cnt; rw [cnt_congr n (fun k a b => h k a (by omega)), h n (by omega) (by omega)]
set_option maxHeartbeats 4000000 in
set_option maxRecDepth 100000 in
theorem S_X0_knowing {post : Int → ax_M → Prop} {M : ax_M} (h0 : 0 ≤ M 8 0) (h8 : M 8 0 ≤ 8) (h : post (cnt (M 10) (M 8 0).toNat) M) : ax_Ti Y_X0_knowing [aR 8] SH M post := by
  have L : ∀ m j : Nat, (M 8 0).toNat = j + m → ax_J Y_X0_knowing (ax_Ki Y_X0_knowing SH post) 0 0 4 [(0, aR 8), (1, aI (cnt (M 10) j)), (2, aI j)] [] SH M := by
    intro m
    induction m with
    | zero => intro j hj; refine B_X0_knowing_4 ⟨fun _ => ?_, fun c => by omega⟩; rw [show (M 8 0).toNat = j by omega] at h; exact h
    | succ m ih =>
      intro j hj
      have hc := cnt_le (M 10) j
      have q := ih (j + 1) (by omega)
      unfold cnt at q
      refine B_X0_knowing_4 ⟨fun _ => by omega, fun c => ⟨by omega, fun z => ⟨by omega, by omega, ?_⟩, fun z => ⟨by omega, by omega, ?_⟩⟩⟩
      · rw [if_pos z] at q; exact q
      · rw [if_neg z] at q; exact q
  exact E_X0_knowing (fun _ => L _ 0 (Nat.zero_add _).symm)
set_option maxHeartbeats 4000000 in
set_option maxRecDepth 100000 in
theorem C_count {n : Int} {M : ax_M} {x1 : Int} (hI : Inv n M) : ax_Ti Y_X10_count [aR 0, aI x1] SH M (fun z1 u1 => ax_Ti Y_X11_count [aR 61, aI x1] SH u1 (fun z2 u2 => z1 = z2 ∧ Inv (n + 1) u2)) := by
  have hu := inv_up hI
  have hb := hI.2.1.1
  have hp := inv_pe hI
  have hr := hI.2.2.1.1
  have ht := hI.2.2.2.1.1
  have hcc : cnt (M 10) (M 8 0).toNat = cnt (M 73) (M 61 25).toNat := by
    rw [hb.1]
    exact cnt_congr _ (fun k a b => (hI.2.1.2.1 k a (by omega)).2.2.2.1)
  have L : ∀ z1 : Int, (x1 = 0 → z1 = M 61 0) → (x1 = 1 → z1 = M 61 3) → (x1 = 2 → z1 = M 61 25) → (x1 = 3 → z1 = M 61 29) → (x1 = 4 → z1 = M 61 50) → (x1 = 5 → z1 = M 61 13) → (x1 = 6 → z1 = M 61 1) → (x1 = 7 → z1 = M 61 2) → (x1 = 8 → z1 = cnt (M 73) (M 61 25).toNat) → (x1 < 0 ∨ 8 < x1 → z1 = -1002) → ax_Ti Y_X11_count [aR 61, aI x1] SH M (fun z2 u2 => z1 = z2 ∧ Inv (n + 1) u2) := by
    intro z1 a0 a1 a2 a3 a4 a5 a6 a7 a8 a9
    have L2 : ∀ m j : Nat, (M 61 25).toNat = j + m → ax_J Y_X11_count (ax_Ki Y_X11_count SH (fun z2 u2 => z1 = z2 ∧ Inv (n + 1) u2)) 0 0 4 [(0, aR 61), (1, aI x1), (2, aI (cnt (M 73) j)), (3, aI j)] [] SH M := by
      intro m
      induction m with
      | zero =>
        intro j hj
        rw [show (M 61 25).toNat = j by omega] at a8
        refine B_X11_count_4 ⟨fun _ => ⟨fun c => ⟨a0 c, hu⟩, fun c => ⟨a1 c, hu⟩, fun c => ⟨a2 c, hu⟩, fun c => ⟨a3 c, hu⟩, fun c => ⟨a4 c, hu⟩, fun c => ⟨a5 c, hu⟩, fun c => ⟨a6 c, hu⟩, fun c => ⟨a7 c, hu⟩, fun c => ⟨a8 c, hu⟩, fun c => ⟨a9 c, hu⟩⟩, fun c => by omega⟩
      | succ m ih =>
        intro j hj
        have hc := cnt_le (M 73) j
        have q := ih (j + 1) (by omega)
        unfold cnt at q
        refine B_X11_count_4 ⟨fun _ => by omega, fun c => ⟨by omega, fun z => ⟨by omega, by omega, ?_⟩, fun z => ⟨by omega, by omega, ?_⟩⟩⟩
        · rw [if_pos z] at q; exact q
        · rw [if_neg z] at q; exact q
    exact E_X11_count (fun _ => L2 _ 0 (Nat.zero_add _).symm)
  have e0 : M 6 0 = M 61 0 := hp.1
  have e1 : M 6 1 = M 61 3 := hp.2.1
  have e2 : M 6 2 = M 61 1 := hp.2.2.1
  have e3 : M 6 3 = M 61 2 := hp.2.2.2.1
  refine E_X10_count (fun _ => ?_)
  refine ⟨fun c => L _ ?_ ?_ ?_ ?_ ?_ ?_ ?_ ?_ ?_ ?_, fun c => L _ ?_ ?_ ?_ ?_ ?_ ?_ ?_ ?_ ?_ ?_, fun c => L _ ?_ ?_ ?_ ?_ ?_ ?_ ?_ ?_ ?_ ?_, fun c => L _ ?_ ?_ ?_ ?_ ?_ ?_ ?_ ?_ ?_ ?_, fun c => L _ ?_ ?_ ?_ ?_ ?_ ?_ ?_ ?_ ?_ ?_, fun c => L _ ?_ ?_ ?_ ?_ ?_ ?_ ?_ ?_ ?_ ?_, fun c => L _ ?_ ?_ ?_ ?_ ?_ ?_ ?_ ?_ ?_ ?_, fun c => L _ ?_ ?_ ?_ ?_ ?_ ?_ ?_ ?_ ?_ ?_, fun c => S_X0_knowing (by omega) (by omega) (L _ ?_ ?_ ?_ ?_ ?_ ?_ ?_ ?_ ?_ ?_), fun c => L _ ?_ ?_ ?_ ?_ ?_ ?_ ?_ ?_ ?_ ?_⟩
  all_goals omega
/-- a million, t times taken by c thousandths, rounded down -/
def nbt (c : Int) : Nat → Int
  | 0 => 1000000
  | t + 1 => nbt c t * c / 1000
theorem mul_rg {a c A C : Int} (h0 : 0 ≤ a) (h1 : a ≤ A) (h2 : 0 ≤ c) (h3 : c ≤ C) : 0 ≤ a * c ∧ a * c ≤ A * C := ⟨Int.mul_nonneg h0 h2, Int.mul_le_mul h1 h3 h2 (by omega)⟩
theorem nbt_rg {c : Int} (h0 : 0 ≤ c) (h1 : c ≤ 1000) : ∀ t, 0 ≤ nbt c t ∧ nbt c t ≤ 1000000
  | 0 => by unfold nbt; omega
  | t + 1 => by
    have q := nbt_rg h0 h1 t
    have r := mul_rg q.1 q.2 h0 h1
    unfold nbt
    omega
set_option maxHeartbeats 4000000 in
set_option maxRecDepth 100000 in
theorem S_X3_notBad {post : Int → ax_M → Prop} {M : ax_M} {k t : Int} (hk : 0 ≤ k) (hk2 : k < 24) (ht : 0 ≤ t) (ht2 : t ≤ 99) (hc : 0 ≤ M 7 (k * 7 + 6)) (hc2 : M 7 (k * 7 + 6) ≤ 1000) (h : post (nbt (1000 - M 7 (k * 7 + 6)) t.toNat) M) : ax_Ti Y_X3_notBad [aR 6, aI k, aI t] SH M post := by
  have L : ∀ m j : Nat, t.toNat = j + m → ax_J Y_X3_notBad (ax_Ki Y_X3_notBad SH post) 0 0 19 [(2, aI t), (3, aI (1000 - M 7 (k * 7 + 6))), (4, aI (nbt (1000 - M 7 (k * 7 + 6)) j)), (5, aI j)] [] SH M := by
    intro m
    induction m with
    | zero => intro j hj; refine B_X3_notBad_19 ⟨fun _ => ?_, fun c => by omega⟩; rw [show t.toNat = j by omega] at h; exact h
    | succ m ih =>
      intro j hj
      have q := nbt_rg (c := 1000 - M 7 (k * 7 + 6)) (by omega) (by omega) j
      have r := mul_rg q.1 q.2 (c := 1000 - M 7 (k * 7 + 6)) (C := 1000) (by omega) (by omega)
      exact B_X3_notBad_19 ⟨fun _ => by omega, fun c => ⟨by omega, by omega, by omega, ih (j + 1) (by omega)⟩⟩
  exact E_X3_notBad (fun _ => ⟨by omega, by omega, by omega, by omega, L _ 0 (Nat.zero_add _).symm⟩)
set_option maxHeartbeats 4000000 in
set_option maxRecDepth 100000 in
theorem S_X11_opensOf {post : Int → ax_M → Prop} {M : ax_M} {k t : Int} (hk : 0 ≤ k) (hk2 : k < 24) (ht : 0 ≤ t) (ht2 : t ≤ 99) (hc : 0 ≤ M 68 k) (hc2 : M 68 k ≤ 1000) (h : post (nbt (1000 - M 68 k) t.toNat) M) : ax_Ti Y_X11_opensOf [aR 61, aI k, aI t] SH M post := by
  have L : ∀ m j : Nat, t.toNat = j + m → ax_J Y_X11_opensOf (ax_Ki Y_X11_opensOf SH post) 0 0 7 [(0, aR 61), (1, aI k), (2, aI t), (3, aI (nbt (1000 - M 68 k) j)), (4, aI j)] [] SH M := by
    intro m
    induction m with
    | zero => intro j hj; refine B_X11_opensOf_7 ⟨fun _ => ?_, fun c => by omega⟩; rw [show t.toNat = j by omega] at h; exact h
    | succ m ih =>
      intro j hj
      have q := nbt_rg (c := 1000 - M 68 k) (by omega) (by omega) j
      have r := mul_rg q.1 q.2 (c := 1000 - M 68 k) (C := 1000) (by omega) (by omega)
      exact B_X11_opensOf_7 ⟨fun _ => by omega, fun c => ⟨by omega, by omega, by omega, by omega, by omega, by omega, ih (j + 1) (by omega)⟩⟩
  exact E_X11_opensOf (fun _ => L _ 0 (Nat.zero_add _).symm)
set_option maxHeartbeats 4000000 in
set_option maxRecDepth 100000 in
theorem C_opens {n : Int} {M : ax_M} {x1 x2 : Int} (hI : Inv n M) : ax_Ti Y_X10_opens [aR 0, aI x1, aI x2] SH M (fun z1 u1 => ax_Ti Y_X11_opens [aR 61, aI x1, aI x2] SH u1 (fun z2 u2 => z1 = z2 ∧ Inv (n + 1) u2)) := by
  have hb := hI.1.1.2.1
  have e1 : M 6 1 = M 61 3 := (inv_pe hI).2.1
  have hk : 0 ≤ x1 → x1 < M 61 3 → _ := (inv_pe hI).2.2.2.2 x1
  have hw : 0 ≤ x1 → x1 < M 61 3 → _ := hI.1.1.1 x1
  have hu := inv_up hI
  refine E_X10_opens (fun _ => ?_)
  rw [e1]
  refine ⟨by omega, fun c => ?_, fun c => ⟨fun c2 => ?_, fun c2 => ⟨fun c3 => ?_, fun c3 => ⟨fun c4 => ?_, fun c4 => ?_⟩⟩⟩⟩
  · exact E_X11_opens (fun _ => ⟨by omega, fun _ => ⟨rfl, hu⟩, fun d => by omega⟩)
  · exact E_X11_opens (fun _ => ⟨by omega, fun _ => by omega, fun d => ⟨fun _ => ⟨rfl, hu⟩, fun d => by omega⟩⟩)
  · exact E_X11_opens (fun _ => ⟨by omega, fun _ => by omega, fun d => ⟨fun _ => by omega, fun d => ⟨fun _ => ⟨rfl, hu⟩, fun d => by omega⟩⟩⟩)
  · exact E_X11_opens (fun _ => ⟨by omega, fun _ => by omega, fun d => ⟨fun _ => by omega, fun d => ⟨fun _ => by omega, fun d => ⟨fun _ => ⟨rfl, hu⟩, fun d => by omega⟩⟩⟩⟩)
  · have q := hk c (by omega)
    have w := hw c (by omega)
    have hq : M 7 (x1 * 7 + 6) = M 68 x1 := q.2.2.2.1
    have w1 := w.2.2.2.2.2.2
    refine S_X3_notBad c (by omega) c3 c4 (by omega) (by omega) ?_
    refine E_X11_opens (fun _ => ⟨by omega, fun _ => by omega, fun d => ⟨fun _ => by omega, fun d => ⟨fun _ => by omega, fun d => ⟨fun _ => by omega, fun d => ?_⟩⟩⟩⟩)
    refine S_X11_opensOf c (by omega) c3 c4 (by omega) (by omega) ⟨?_, hu⟩
    rw [hq]
/-- m signs put at the end of a text: its size stands at sp si, its signs at ap -/
def Apn (f : Int → Int) (sp : Nat) (si : Int) (ap : Nat) (m : Nat) (M M' : ax_M) : Prop := Ofs [sp, ap] M M' ∧ M' sp si = M sp si + m ∧ (∀ i, i ≠ si → M' sp i = M sp i) ∧ (∀ k, k < M sp si → M' ap k = M ap k) ∧ ∀ j : Int, 0 ≤ j → j < m → M' ap (M sp si + j) = f (m - 1 - j)
theorem apn_0 {f : Int → Int} {sp : Nat} {si : Int} {ap : Nat} {M : ax_M} : Apn f sp si ap 0 M M := ⟨Ofs.rf, by omega, fun _ _ => rfl, fun _ _ => rfl, fun j a b => by omega⟩
theorem apn_s {f : Int → Int} {sp : Nat} {si : Int} {ap : Nat} {m : Nat} {M M' : ax_M} (hne : ap ≠ sp) (h : Apn f sp si ap m (ax_up (ax_up M ap (M sp si) (f m)) sp si (M sp si + 1)) M') : Apn f sp si ap (m + 1) M M' := by
  obtain ⟨h1, h2, h3, h4, h5⟩ := h
  rw [up_at] at h2 h4 h5
  refine ⟨Ofs.tr (Ofs.tr (Ofs.up (by simp)) (Ofs.up (by simp))) h1, by omega, fun i hi => ?_, fun k hk => ?_, fun j a b => ?_⟩
  · rw [h3 i hi, up_ne _ _ _ hi, up_off M _ _ (Ne.symm hne)]
  · rw [h4 k (by omega), up_off _ _ _ hne, up_ne _ _ _ (by omega)]
  · by_cases hj : j = 0
    · subst hj
      rw [h4 _ (by omega), up_off _ _ _ hne, show M sp si + 0 = M sp si by omega, up_at]
      congr 1
      omega
    · have q := h5 (j - 1) (by omega) (by omega)
      rw [show M sp si + 1 + (j - 1) = M sp si + j by omega] at q
      rw [q]
      congr 1
      omega
def sgX (x : Int) (e : Int) : Int := (Int8.ofInt ((Int32.ofInt (bo_lshr x (8 * e))).toInt)).toInt
def sgM (x : Int) (e : Int) : Int := bo_land (bo_lshr x (8 * e)) 255
theorem land255 (y : Int) : bo_land y 255 = y % 256 := by
  unfold bo_land
  have e : (Int64.ofInt y &&& Int64.ofInt 255).toBitVec = (BitVec.ofInt 64 y) &&& 255#64 := rfl
  show (Int64.ofInt y &&& Int64.ofInt 255).toBitVec.toInt = _
  rw [e, BitVec.toInt_eq_toNat_bmod, BitVec.toNat_and, BitVec.toNat_ofInt]
  have e2 : (255#64).toNat = 2 ^ 8 - 1 := rfl
  rw [e2, Nat.and_two_pow_sub_one_eq_mod]
  have e3 : ((((y % ((2 ^ 64 : Nat) : Int)).toNat % 2 ^ 8 : Nat) : Int)) = y % 256 := by omega
  rw [e3]
  show Int.bmod (y % 256) 18446744073709551616 = y % 256
  rw [Int.bmod_def]
  omega
theorem sg_eq (x e : Int) : 0 ≤ sgM x e ∧ sgM x e ≤ 255 ∧ sgX x e = (if sgM x e < 128 then sgM x e else sgM x e - 256) := by
  unfold sgM sgX
  rw [land255]
  generalize bo_lshr x (8 * e) = y
  rw [Int8.toInt_ofInt, Int32.toInt_ofInt]
  have h : (Int.bmod y (2 ^ 32)).bmod (2 ^ 8) = y.bmod (2 ^ 8) := Int.bmod_bmod_of_dvd (by decide)
  have h2 : Int.bmod (Int.bmod y Int32.size) Int8.size = y.bmod 256 := h
  rw [h2, Int.bmod_def]
  refine ⟨by omega, by omega, ?_⟩
  split <;> split <;> omega
set_option maxHeartbeats 4000000 in
set_option maxRecDepth 100000 in
theorem S_X8_append {post : ax_M → Prop} {M : ax_M} {x1 x2 : Int} (h1 : 1 ≤ x1) (h8 : x1 ≤ 8) (h0 : 0 ≤ M 1 1) (h4 : M 1 1 + x1 ≤ 400) (h : ∀ M', Apn (sgX x2) 1 1 2 x1.toNat M M' → post M') : ax_Tv Y_X8_append [aR 1, aI x1, aL x2] SH M post := by
  have L : ∀ (m : Nat) (M : ax_M), m ≤ 8 → 0 ≤ M 1 1 → M 1 1 + m ≤ 400 → (∀ M', Apn (sgX x2) 1 1 2 m M M' → post M') → ax_J Y_X8_append (ax_Kv Y_X8_append SH post) 0 0 5 [(0, aR 1), (2, aL x2), (4, aI ((m : Int) - 1))] [] SH M := by
    intro m
    induction m with
    | zero => intro M _ _ _ h; exact B_X8_append_5 ⟨fun _ => h _ apn_0, fun c => by omega⟩
    | succ m ih =>
      intro M hm h0 h4 h
      have hr := sg_eq x2 m
      unfold sgX at hr
      have e : ((m + 1 : Nat) : Int) - 1 = m := by omega
      rw [e]
      have hr2 : -128 ≤ (Int8.ofInt ((Int32.ofInt (bo_lshr x2 (8 * m))).toInt)).toInt ∧ (Int8.ofInt ((Int32.ofInt (bo_lshr x2 (8 * m))).toInt)).toInt ≤ 127 := by
        obtain ⟨a, b, c⟩ := hr
        rw [c]
        split <;> omega
      refine B_X8_append_5 ⟨fun _ => by omega, fun c => ⟨fun _ => by omega, fun _ => ⟨by omega, by omega, hr2, by omega, by omega, ?_⟩⟩⟩
      refine ih _ (by omega) ?_ ?_ (fun M' hM => h M' (apn_s (by decide) hM))
      · rw [up_at]; omega
      · rw [up_at]; omega
  refine E_X8_append (fun _ => ⟨by omega, ?_⟩)
  have q := L x1.toNat M (by omega) h0 (by omega) h
  rw [show ((x1.toNat : Nat) : Int) = x1 by omega] at q
  exact q
set_option maxHeartbeats 4000000 in
set_option maxRecDepth 100000 in
theorem C_feed {n : Int} {M : ax_M} {x1 x2 : Int} (hI : Inv n M) : ax_Ti Y_X10_feed [aR 0, aI x1, aL x2] SH M (fun z1 u1 => ax_Ti Y_X11_feed [aR 61, aI x1, aL x2] SH u1 (fun z2 u2 => z1 = z2 ∧ Inv (n + 1) u2)) := by
  obtain ⟨t1, t2, t3, t4⟩ := hI.2.2.2.1
  have hu := inv_up hI
  refine E_X10_feed (fun _ => ?_)
  rw [t1]
  refine ⟨fun c => ?_, fun c => ⟨fun c2 => ?_, fun c2 => ⟨by omega, fun c3 => ?_, fun c3 => ?_⟩⟩⟩
  · exact E_X11_feed (fun _ => ⟨fun _ => ⟨rfl, hu⟩, fun d => by omega⟩)
  · exact E_X11_feed (fun _ => ⟨fun _ => by omega, fun d => ⟨fun _ => ⟨rfl, hu⟩, fun d => by omega⟩⟩)
  · refine S_X8_append c c2 (by omega) (by omega) (fun M1 hA => ?_)
    have f61 : M1 61 = M 61 := hA.1 61 (by decide)
    have L : ∀ (m : Nat) (M2 : ax_M), m ≤ 8 → 0 ≤ M2 61 13 → M2 61 13 + m ≤ 400 → (∀ M', Apn (sgM x2) 61 13 70 m M2 M' → (M1 1 1 = M' 61 13 ∧ Inv (n + 1) M')) → ax_J Y_X11_feed (ax_Ki Y_X11_feed SH (fun z2 u2 => M1 1 1 = z2 ∧ Inv (n + 1) u2)) 0 0 37 [(0, aR 61), (2, aL x2), (4, aI ((m : Int) - 1))] [] SH M2 := by
      intro m
      induction m with
      | zero => intro M _ _ _ h; exact B_X11_feed_37 ⟨fun _ => h _ apn_0, fun c => by omega⟩
      | succ m ih =>
        intro M hm h0 h4 h
        have hr := sg_eq x2 m
        unfold sgM at hr
        have e : ((m + 1 : Nat) : Int) - 1 = m := by omega
        rw [e]
        refine B_X11_feed_37 ⟨fun _ => by omega, fun c => ⟨by omega, ⟨by omega, by omega⟩, by omega, by omega, by omega, ?_⟩⟩
        refine ih _ (by omega) ?_ ?_ (fun M' hM => h M' (apn_s (by decide) hM))
        · rw [up_at]; omega
        · rw [up_at]; omega
    have hfin : ∀ M2, Apn (sgM x2) 61 13 70 x1.toNat M1 M2 → (M1 1 1 = M2 61 13 ∧ Inv (n + 1) M2) := by
      intro M2 hB
      have g : ∀ a, a ≠ 1 → a ≠ 2 → a ≠ 61 → a ≠ 70 → M2 a = M a := fun a a1 a2 a3 a4 => (hB.1 a (by simp [a3, a4])).trans (hA.1 a (by simp [a1, a2]))
      have g61 : ∀ i, i ≠ 13 → M2 61 i = M 61 i := fun i hi => by rw [hB.2.2.1 i hi, f61]
      have g1 : M2 1 = M1 1 := hB.1 1 (by decide)
      have g2 : M2 2 = M1 2 := hB.1 2 (by decide)
      have g70 : M1 70 = M 70 := hA.1 70 (by decide)
      have es : M2 61 13 = M 61 13 + x1.toNat := by rw [hB.2.1, f61]
      have es1 : M1 1 1 = M 61 13 + x1.toNat := by rw [hA.2.1, t1]
      refine ⟨by omega, ?_⟩
      obtain ⟨⟨h1, h2⟩, h3, h4, h5, h6, h7, h8⟩ := hu
      refine ⟨⟨c_PitOk (g 62 (by decide) (by decide) (by decide) (by decide)) (g 63 (by decide) (by decide) (by decide) (by decide)) (g 64 (by decide) (by decide) (by decide) (by decide)) (g 65 (by decide) (by decide) (by decide) (by decide)) (g 66 (by decide) (by decide) (by decide) (by decide)) (g 67 (by decide) (by decide) (by decide) (by decide)) (g 68 (by decide) (by decide) (by decide) (by decide)) (g61 0 (by decide)) (g61 1 (by decide)) (g61 2 (by decide)) (g61 3 (by decide)) h1, c_PitEq (g 6 (by decide) (by decide) (by decide) (by decide)) (g 7 (by decide) (by decide) (by decide) (by decide)) (g 14 (by decide) (by decide) (by decide) (by decide)) (g 62 (by decide) (by decide) (by decide) (by decide)) (g 63 (by decide) (by decide) (by decide) (by decide)) (g 64 (by decide) (by decide) (by decide) (by decide)) (g 65 (by decide) (by decide) (by decide) (by decide)) (g 66 (by decide) (by decide) (by decide) (by decide)) (g 67 (by decide) (by decide) (by decide) (by decide)) (g 68 (by decide) (by decide) (by decide) (by decide)) (g 69 (by decide) (by decide) (by decide) (by decide)) (g61 0 (by decide)) (g61 1 (by decide)) (g61 2 (by decide)) (g61 3 (by decide)) h2⟩, c_CrewEq (g 8 (by decide) (by decide) (by decide) (by decide)) (g 9 (by decide) (by decide) (by decide) (by decide)) (g 10 (by decide) (by decide) (by decide) (by decide)) (g 11 (by decide) (by decide) (by decide) (by decide)) (g 12 (by decide) (by decide) (by decide) (by decide)) (g 13 (by decide) (by decide) (by decide) (by decide)) (g 69 (by decide) (by decide) (by decide) (by decide)) (g 72 (by decide) (by decide) (by decide) (by decide)) (g 73 (by decide) (by decide) (by decide) (by decide)) (g 74 (by decide) (by decide) (by decide) (by decide)) (g 75 (by decide) (by decide) (by decide) (by decide)) (g 76 (by decide) (by decide) (by decide) (by decide)) (g61 0 (by decide)) (g61 3 (by decide)) (g61 25 (by decide)) (g61 29 (by decide)) h3, c_RowEq (g 31 (by decide) (by decide) (by decide) (by decide)) (g 32 (by decide) (by decide) (by decide) (by decide)) (g 91 (by decide) (by decide) (by decide) (by decide)) (g61 0 (by decide)) (g61 50 (by decide)) h4, ⟨by rw [g1]; omega, by omega, by omega, fun k hk hkn => ?_⟩, c_ImgEq (g 30 (by decide) (by decide) (by decide) (by decide)) (g 98 (by decide) (by decide) (by decide) (by decide)) (g 97 (by decide) (by decide) (by decide) (by decide)) (g 16 (by decide) (by decide) (by decide) (by decide)) (g 17 (by decide) (by decide) (by decide) (by decide)) (g 18 (by decide) (by decide) (by decide) (by decide)) (g 19 (by decide) (by decide) (by decide) (by decide)) (g 20 (by decide) (by decide) (by decide) (by decide)) (g 21 (by decide) (by decide) (by decide) (by decide)) (g 22 (by decide) (by decide) (by decide) (by decide)) (g 23 (by decide) (by decide) (by decide) (by decide)) (g 24 (by decide) (by decide) (by decide) (by decide)) (g 25 (by decide) (by decide) (by decide) (by decide)) (g 26 (by decide) (by decide) (by decide) (by decide)) (g 27 (by decide) (by decide) (by decide) (by decide)) (g 28 (by decide) (by decide) (by decide) (by decide)) (g 29 (by decide) (by decide) (by decide) (by decide)) (g61 0 (by decide)) (g61 3 (by decide)) h6, c_TelEq (g 51 (by decide) (by decide) (by decide) (by decide)) (g 59 (by decide) (by decide) (by decide) (by decide)) h7, c_Mis (g 0 (by decide) (by decide) (by decide) (by decide)) (g 15 (by decide) (by decide) (by decide) (by decide)) (g61 32 (by decide)) (g61 14 (by decide)) h8⟩
      rw [g2]
      by_cases hkk : k < M 61 13
      · rw [hA.2.2.2.1 k (by omega), hB.2.2.2.1 k (by rw [f61]; exact hkk), g70]
        exact t4 k hk hkk
      · have qA := hA.2.2.2.2 (k - M 61 13) (by omega) (by omega)
        have qB := hB.2.2.2.2 (k - M 61 13) (by omega) (by omega)
        rw [f61, show M 61 13 + (k - M 61 13) = k by omega] at qB
        rw [t1, show M 61 13 + (k - M 61 13) = k by omega] at qA
        rw [qA, qB]
        exact sg_eq x2 _
    have q := L x1.toNat M1 (by omega) (by rw [f61]; omega) (by rw [f61]; omega) hfin
    rw [show ((x1.toNat : Nat) : Int) = x1 by omega] at q
    refine E_X11_feed (fun _ => ?_)
    rw [f61]
    exact ⟨fun _ => by omega, fun d => ⟨fun _ => by omega, fun d => ⟨by omega, fun _ => ⟨by omega, q⟩, fun d => by omega⟩⟩⟩
  · exact E_X11_feed (fun _ => ⟨fun _ => by omega, fun d => ⟨fun _ => by omega, fun d => ⟨by omega, fun d => by omega, fun _ => ⟨rfl, hu⟩⟩⟩⟩)
