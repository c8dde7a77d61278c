/-- v is not behind i in the order -/
def Lo' (n i : Int) (q : Int → Int) (v : Int) : Prop := ¬ ∃ j, i ≤ j ∧ j < n ∧ q j = v
def Wk (M : ax_M) (T : Int) (φ0 : Int → Int) (n m : Int) (q : Int → Int) (top i : Int) (φ : Int → Int) : Prop := (∀ a, 0 ≤ a → a < 3660 → 0 ≤ φ a ∧ φ a ≤ m + 1 ∧ (¬ Rl M T a → φ a = 0) ∧ (a < 2928 → Rl M T a → φ a ≤ M 66 (a / 122))) ∧ (∀ a, 0 ≤ a → a < 3660 → (Lo' n i q (tlA M a) ∨ Lo' n i q (hdA M a)) → φ a = φ0 a) ∧ ∀ ψ : Int → Int, Sm (fun a => φ a * (ψ (hdA M a) - ψ (tlA M a))) 3660 = Sm (fun a => φ0 a * (ψ (hdA M a) - ψ (tlA M a))) 3660 + ψ top - ψ (q i)
theorem wk_0 {M : ax_M} {T n m i : Int} {φ0 b l q : Int → Int} (h : FV M T φ0 b l m) : Wk M T φ0 n m q (q i) i φ0 :=
  ⟨fun a a0 a1 => by have := h.1 a a0 a1; exact ⟨this.1, by omega, this.2.2⟩, fun _ _ _ _ => rfl, fun ψ => by omega⟩
theorem wk_s {M : ax_M} {T n m top i j s : Int} {φ0 b φ φ' q fr sc : Int → Int} (hB : Bf M T φ0 b n q fr sc) (h : Wk M T φ0 n m q top i φ) (h0 : ∀ a, 0 ≤ a → a < 3660 → φ0 a ≤ m) (j0 : 0 ≤ j) (ji : j < i) (hi : i < n) (hr : Res M T φ0 (q j) (q i) s) (e1 : 0 ≤ s → ∀ a, 0 ≤ a → a < 3660 → φ' a = if a = s then φ a + 1 else φ a) (e2 : s < 0 → ∀ a, 0 ≤ a → a < 3660 → φ' a = if a = -1 - s then φ a - 1 else φ a) : Wk M T φ0 n m q top j φ' := by
  have lo : Lo' n i q (q j) := fun ⟨k, k0, k1, k2⟩ => by
    have := hB.2.2 k j (by omega) k1 j0 (by omega) k2
    omega
  have nlo : ∀ k, j ≤ k → k < n → ¬ Lo' n j q (q k) := fun k a c z => z ⟨k, a, c, rfl⟩
  have mono : ∀ v, Lo' n j q v → Lo' n i q v := fun v z ⟨k, k0, k1, k2⟩ => z ⟨k, by omega, k1, k2⟩
  rcases hr with ⟨s0, r, r1, r2, r3⟩ | ⟨s0, r, r1, r2, r3⟩
  · have e := e1 s0
    have rg := r.1
    have es : φ s = φ0 s := h.2.1 s rg.1 rg.2 (Or.inl (by rw [r1]; exact lo))
    have hs := h.1 s rg.1 rg.2
    have hs0 := h0 s rg.1 rg.2
    refine ⟨fun a a0 a1 => ?_, fun a a0 a1 hl => ?_, fun ψ => ?_⟩
    · have ha := h.1 a a0 a1
      rw [e a a0 a1]
      by_cases z : a = s
      · subst z
        rw [if_pos rfl]
        exact ⟨by omega, by omega, fun w => absurd r w, fun w _ => by have := r3 w; omega⟩
      · rw [if_neg z]; exact ha
    · rw [e a a0 a1]
      by_cases z : a = s
      · exfalso
        subst z
        rw [r1, r2] at hl
        rcases hl with hl | hl
        · exact nlo j (Int.le_refl _) (by omega) hl
        · exact nlo i (by omega) hi hl
      · rw [if_neg z]
        exact h.2.1 a a0 a1 (hl.imp (mono _) (mono _))
    · have u := sm_upd (f := fun a => φ a * (ψ (hdA M a) - ψ (tlA M a))) (g := fun a => φ' a * (ψ (hdA M a) - ψ (tlA M a))) rg.1 3660 (by omega) (fun k k0 k1 k2 => by
        show φ' k * _ = φ k * _
        rw [e k k0 (by omega), if_neg k2])
      rw [u, h.2.2 ψ]
      show _ + (φ' s * (ψ (hdA M s) - ψ (tlA M s)) - φ s * (ψ (hdA M s) - ψ (tlA M s))) = _
      rw [e s rg.1 rg.2, if_pos rfl, r1, r2, Int.add_mul, Int.one_mul]
      omega
  · have e := e2 s0
    have rg := r.1
    have es : φ (-1 - s) = φ0 (-1 - s) := h.2.1 _ rg.1 rg.2 (Or.inr (by rw [r1]; exact lo))
    have hs := h.1 _ rg.1 rg.2
    refine ⟨fun a a0 a1 => ?_, fun a a0 a1 hl => ?_, fun ψ => ?_⟩
    · have ha := h.1 a a0 a1
      rw [e a a0 a1]
      by_cases z : a = -1 - s
      · subst z
        rw [if_pos rfl]
        exact ⟨by omega, by omega, fun w => absurd r w, fun w w2 => by have := hs.2.2.2 w w2; omega⟩
      · rw [if_neg z]; exact ha
    · rw [e a a0 a1]
      by_cases z : a = -1 - s
      · exfalso
        subst z
        rw [r1, r2] at hl
        rcases hl with hl | hl
        · exact nlo i (by omega) hi hl
        · exact nlo j (Int.le_refl _) (by omega) hl
      · rw [if_neg z]
        exact h.2.1 a a0 a1 (hl.imp (mono _) (mono _))
    · have u := sm_upd (f := fun a => φ a * (ψ (hdA M a) - ψ (tlA M a))) (g := fun a => φ' a * (ψ (hdA M a) - ψ (tlA M a))) rg.1 3660 (by omega) (fun k k0 k1 k2 => by
        show φ' k * _ = φ k * _
        rw [e k k0 (by omega), if_neg k2])
      rw [u, h.2.2 ψ]
      show _ + (φ' (-1 - s) * (ψ (hdA M (-1 - s)) - ψ (tlA M (-1 - s))) - φ (-1 - s) * (ψ (hdA M (-1 - s)) - ψ (tlA M (-1 - s)))) = _
      rw [e _ rg.1 rg.2, if_pos rfl, r1, r2, Int.sub_mul, Int.one_mul]
      omega
theorem wk_e {M : ax_M} (hp : PitOk M) {T n m i t : Int} {φ0 b l φ q b' l' : Int → Int} (hF : FV M T φ0 b l m) (h : Wk M T φ0 n m q (61 * M 61 1 + t) i φ) (hq : 0 ≤ q i ∧ q i < 732 ∧ q i % 61 = 0) (hb : b (q i / 61) < mA M (q i / 61)) (ht : 0 ≤ t ∧ t < 61) (hl : l t < M 61 2) (eb : ∀ p, 0 ≤ p → p < 12 → b' p = if p = q i / 61 then b p + 1 else b p) (el : ∀ u, 0 ≤ u → u < 61 → l' u = if u = t then l u + 1 else l u) : FV M T φ b' l' (m + 1) := by
  have p0 : 0 ≤ q i / 61 ∧ q i / 61 < 12 := by omega
  refine ⟨h.1, fun p a c => ?_, fun u a c => ?_, fun ψ => ?_, ?_⟩
  · have := hF.2.1 p a c
    rw [eb p a c]
    by_cases z : p = q i / 61
    · rw [if_pos z]; rw [← z] at hb; omega
    · rw [if_neg z]; exact this
  · have := hF.2.2.1 u a c
    rw [el u a c]
    by_cases z : u = t
    · rw [if_pos z]; rw [← z] at hl; omega
    · rw [if_neg z]; exact this
  · have u1 := sm_upd (f := fun p => b p * ψ (61 * p)) (g := fun p => b' p * ψ (61 * p)) p0.1 12 (by omega) (fun k k0 k1 k2 => by
      show b' k * _ = b k * _
      rw [eb k k0 (by omega), if_neg k2])
    have u2 := sm_upd (f := fun u => l u * ψ (61 * M 61 1 + u)) (g := fun u => l' u * ψ (61 * M 61 1 + u)) ht.1 61 (by omega) (fun k k0 k1 k2 => by
      show l' k * _ = l k * _
      rw [el k k0 (by omega), if_neg k2])
    have w1 : b' (q i / 61) * ψ (61 * (q i / 61)) - b (q i / 61) * ψ (61 * (q i / 61)) = ψ (q i) := by
      rw [eb _ p0.1 p0.2, if_pos rfl, Int.add_mul, Int.one_mul, show 61 * (q i / 61) = q i by omega]; omega
    have w2 : l' t * ψ (61 * M 61 1 + t) - l t * ψ (61 * M 61 1 + t) = ψ (61 * M 61 1 + t) := by
      rw [el _ ht.1 ht.2, if_pos rfl, Int.add_mul, Int.one_mul]; omega
    have e := hF.2.2.2.1 ψ
    rw [u1, u2, h.2.2 ψ]
    show _ + _ - _ + (_ + (b' (q i / 61) * ψ (61 * (q i / 61)) - b (q i / 61) * ψ (61 * (q i / 61)))) - (_ + (l' t * ψ (61 * M 61 1 + t) - l t * ψ (61 * M 61 1 + t))) = 0
    rw [w1, w2]
    omega
  · have u1 := sm_upd (f := b) (g := b') p0.1 12 (by omega) (fun k k0 k1 k2 => by rw [eb k k0 (by omega), if_neg k2])
    rw [u1, hF.2.2.2.2, eb _ p0.1 p0.2, if_pos rfl]
    omega
/-- the class while it searches -/
def CI (G : ax_M) (T : Int) (φ lf β nr nc : Int → Int) (M' : ax_M) : Prop := (Ofs [40, 41, 42, 43, 44, 45, 46, 47, 48] G M' ∧ M' 41 = φ ∧ M' 42 = lf ∧ M' 43 = β ∧ M' 44 = nr ∧ M' 45 = nc ∧ M' 40 11 = T) ∧ Bf G T φ (fun p => mA G p - β p) (M' 40 10) (M' 48) (M' 46) (M' 47) ∧ ∀ v, 0 ≤ v → v < 732 → (¬ M' 46 v = -1 ↔ Sn (M' 40 10) (M' 48) v)
def GwQ (n : Int) (q : Int → Int) (n' : Int) (q' : Int → Int) : Prop := n ≤ n' ∧ ∀ i, 0 ≤ i → i < n → q' i = q i
theorem GwQ.rf {n : Int} {q : Int → Int} : GwQ n q n q := ⟨Int.le_refl _, fun _ _ _ => rfl⟩
theorem GwQ.tr {n n' n'' : Int} {q q' q'' : Int → Int} (h : GwQ n q n' q') (h2 : GwQ n' q' n'' q'') : GwQ n q n'' q'' := ⟨Int.le_trans h.1 h2.1, fun i a b => by rw [h2.2 i a (by have := h.1; omega), h.2 i a b]⟩
theorem GwQ.sn {n n' v : Int} {q q' : Int → Int} (h : GwQ n q n' q') (hs : Sn n q v) : Sn n' q' v := by
  obtain ⟨i, a, b, c⟩ := hs
  exact ⟨i, a, by have := h.1; omega, by rw [h.2 i a b]; exact c⟩
theorem sn_nd {M : ax_M} {T n v : Int} {φ b q fr sc : Int → Int} (h : Bf M T φ b n q fr sc) (hs : Sn n q v) : Nd M T v := by
  obtain ⟨i, a, c, rfl⟩ := hs
  exact (h.2.1 i a c).1
theorem S_X2_see {post : ax_M → Prop} {G M' : ax_M} {T v u s : Int} {φ lf β nr nc : Int → Int} (h12 : G 61 0 ≤ 12) (hI : CI G T φ lf β nr nc M') (hv : Nd G T v) (hr : (u = -2 ∧ v % 61 = 0 ∧ mA G (v / 61) - β (v / 61) < mA G (v / 61)) ∨ (Sn (M' 40 10) (M' 48) u ∧ Res G T φ u v s)) (h : ∀ M2, CI G T φ lf β nr nc M2 → GwQ (M' 40 10) (M' 48) (M2 40 10) (M2 48) → Sn (M2 40 10) (M2 48) v → post M2) : ax_Tv Y_X2_see [aR 40, aI v, aI u, aI s] SH M' post := by
  obtain ⟨⟨o, c41, c42, c43, c44, c45, c11⟩, hB, hsn⟩ := hI
  have hv7 : 0 ≤ v ∧ v < 732 := ⟨hv.1, by have := hv.2.1; omega⟩
  have hs := hsn v hv7.1 hv7.2
  have u1 : ¬ u = -1 := by
    rcases hr with z | z
    · omega
    · have := (sn_nd hB z.1).1; omega
  refine E_X2_see (fun _ => ⟨hv7, fun y => h M' ⟨⟨o, c41, c42, c43, c44, c45, c11⟩, hB, hsn⟩ GwQ.rf (hs.mp y), fun y => ?_⟩)
  have ns : ¬ Sn (M' 40 10) (M' 48) v := fun z => hs.mpr z y
  have n7 := bf_lt h12 hB hv ns
  have n0 := hB.1
  refine ⟨fun z => by omega, fun _ => ⟨by omega, by omega, ?_⟩⟩
  generalize hM2 : ax_up (ax_up (ax_up (ax_up M' 46 v u) 47 v s) 48 (M' 40 10) v) 40 10 (M' 40 10 + 1) = M2
  have o2 : Ofs [40, 46, 47, 48] M' M2 := by rw [← hM2]; exact (((Ofs.up (by decide)).tr (Ofs.up (by decide))).tr (Ofs.up (by decide))).tr (Ofs.up (by decide))
  have en : M2 40 10 = M' 40 10 + 1 := by rw [← hM2]; exact up_at _ _ _ _
  have e11 : M2 40 11 = M' 40 11 := by rw [← hM2, up_ne _ _ _ (by decide), up_off _ _ _ (by decide), up_off _ _ _ (by decide), up_off _ _ _ (by decide)]
  have eq' : ∀ i, M2 48 i = if i = M' 40 10 then v else M' 48 i := by
    intro i
    rw [← hM2, up_off _ _ _ (by decide), up_k, up_off _ _ _ (by decide), up_off _ _ _ (by decide)]
  have ef : ∀ w, M2 46 w = if w = v then u else M' 46 w := by
    intro w
    rw [← hM2, up_off _ _ _ (by decide), up_off _ _ _ (by decide), up_off _ _ _ (by decide), up_k]
  have es : ∀ w, M2 47 w = if w = v then s else M' 47 w := by
    intro w
    rw [← hM2, up_off _ _ _ (by decide), up_off _ _ _ (by decide), up_k, up_off _ _ _ (by decide)]
  have gw : GwQ (M' 40 10) (M' 48) (M2 40 10) (M2 48) := ⟨by omega, fun i a c => by rw [eq', if_neg (by omega)]⟩
  have sv : Sn (M2 40 10) (M2 48) v := ⟨M' 40 10, n0, by omega, by rw [eq', if_pos rfl]⟩
  refine h M2 ⟨⟨o.tr (o2.mono (by decide)), (o2 41 (by decide)).trans c41, (o2 42 (by decide)).trans c42, (o2 43 (by decide)).trans c43, (o2 44 (by decide)).trans c44, (o2 45 (by decide)).trans c45, e11.trans c11⟩, ?_, fun w w0 w1 => ?_⟩ gw sv
  · rw [en]
    refine bf_add hB hv ns ?_ eq' ef es
    rcases hr with z | z
    · exact Or.inl ⟨by omega, z.2.1, z.2.2⟩
    · exact Or.inr z
  · rw [ef]
    by_cases z : w = v
    · subst z
      rw [if_pos rfl]
      exact ⟨fun _ => sv, fun _ => u1⟩
    · rw [if_neg z, hsn w w0 w1]
      constructor
      · exact gw.sn
      · rintro ⟨i, a, c, d⟩
        rw [eq'] at d
        by_cases z2 : i = M' 40 10
        · rw [if_pos z2] at d; exact absurd d.symm z
        · rw [if_neg z2] at d; exact ⟨i, a, by omega, d⟩
/-- the ways near each place -/
def Nr (G : ax_M) (nr nc : Int → Int) (K : Int) : Prop := ∀ p, 0 ≤ p → p < G 61 0 → (0 ≤ nc p ∧ nc p ≤ K) ∧ (∀ i, 0 ≤ i → i < nc p → 0 ≤ nr (p * 24 + i) ∧ nr (p * 24 + i) < K ∧ G 69 (nr (p * 24 + i)) = 0 ∧ (G 62 (nr (p * 24 + i)) = p ∨ G 63 (nr (p * 24 + i)) = p)) ∧ ∀ k, 0 ≤ k → k < K → G 69 k = 0 → (G 62 k = p ∨ G 63 k = p) → ∃ i, 0 ≤ i ∧ i < nc p ∧ nr (p * 24 + i) = k
set_option maxHeartbeats 4000000 in
set_option maxRecDepth 100000 in
theorem S_X2_findNear {post : ax_M → Prop} {G M : ax_M} (hw : WX G) (o : Ofs [40, 41, 42, 43, 44, 45, 46, 47, 48] G M) (h : ∀ M', Ofs [44, 45] M M' → Nr G (M' 44) (M' 45) (G 61 3) → post M') : ax_Tv Y_X2_findNear [aR 40] SH M post := by
  have hb := hw.1.2.1
  have h12 : G 61 0 ≤ 12 := by have := hw.1.2.2; omega
  have L : ∀ (r : Nat) (k : Int) (M' : ax_M), k + r = G 61 3 → 0 ≤ k → Ofs [44, 45] M M' → Nr G (M' 44) (M' 45) k → ax_J Y_X2_findNear (ax_Kv Y_X2_findNear SH post) 0 0 10 [(0, aR 40), (1, aI k)] [] SH M' := by
    intro r
    induction r with
    | zero =>
      intro k M' hk hk0 o2 hn
      refine B_X2_findNear_10 ?_
      rw [o2 6 (by decide), o 6 (by decide), hw.2.2.1]
      refine ⟨fun _ => h M' o2 ?_, fun z => by omega⟩
      rw [show G 61 3 = k by omega]; exact hn
    | succ r ih =>
      intro k M' hk hk0 o2 hn
      have q := hw.2.2.2.2.2 k hk0 (by omega)
      have w := (hw.1.1 k hk0 (by omega)).1
      have nA := hn (G 62 k) (by omega) (by omega)
      have nB := hn (G 63 k) (by omega) (by omega)
      refine B_X2_findNear_10 ?_
      rw [o2 6 (by decide), o 6 (by decide), hw.2.2.1, o2 14 (by decide), o 14 (by decide), q.2.2.2.2, o2 7 (by decide), o 7 (by decide), q.1.1]
      refine ⟨fun z => by omega, fun _ => ⟨by omega, fun y => ⟨by omega, ih (k + 1) M' (by omega) (by omega) o2 (fun p p0 p1 => ?_)⟩, fun y => ⟨by omega, by omega, by omega, E_X2_addNear (fun _ => ⟨by omega, by omega, by omega, by omega, by omega, ?_⟩)⟩⟩⟩
      · have g := hn p p0 p1
        refine ⟨by omega, fun i i0 i1 => by have := g.2.1 i i0 i1; exact ⟨this.1, by omega, this.2.2⟩, fun k' a b c d => ?_⟩
        by_cases z : k' = k
        · subst z; exact absurd c y
        · exact g.2.2 k' a (by omega) c d
      · generalize hM1 : ax_up (ax_up M' 44 (G 62 k * 24 + M' 45 (G 62 k)) k) 45 (G 62 k) (M' 45 (G 62 k) + 1) = M1
        have o3 : Ofs [44, 45] M' M1 := by rw [← hM1]; exact (Ofs.up (by decide)).tr (Ofs.up (by decide))
        have f44 : ∀ x, M1 44 x = if x = G 62 k * 24 + M' 45 (G 62 k) then k else M' 44 x := by
          intro x; rw [← hM1, up_off _ _ _ (by decide), up_k]
        have f45 : ∀ x, M1 45 x = if x = G 62 k then M' 45 (G 62 k) + 1 else M' 45 x := by
          intro x; rw [← hM1, up_k, up_off _ _ _ (by decide)]
        have fB : M1 45 (G 63 k) = M' 45 (G 63 k) := by rw [f45, if_neg (by omega)]
        have e7 : M1 7 (k * 7 + 1) = G 63 k := by rw [o3 7 (by decide), o2 7 (by decide), o 7 (by decide)]; exact q.1.2.1
        rw [e7]
        refine ⟨by omega, by omega, E_X2_addNear (fun _ => ⟨by omega, by omega, by rw [fB]; omega, by rw [fB]; omega, by rw [fB]; omega, ?_⟩)⟩
        rw [fB]
        generalize hM2 : ax_up (ax_up M1 44 (G 63 k * 24 + M' 45 (G 63 k)) k) 45 (G 63 k) (M' 45 (G 63 k) + 1) = M2
        have o4 : Ofs [44, 45] M1 M2 := by rw [← hM2]; exact (Ofs.up (by decide)).tr (Ofs.up (by decide))
        have g44 : ∀ x, M2 44 x = if x = G 63 k * 24 + M' 45 (G 63 k) then k else if x = G 62 k * 24 + M' 45 (G 62 k) then k else M' 44 x := by
          intro x; rw [← hM2, up_off _ _ _ (by decide), up_k, f44]
        have g45 : ∀ x, M2 45 x = if x = G 63 k then M' 45 (G 63 k) + 1 else if x = G 62 k then M' 45 (G 62 k) + 1 else M' 45 x := by
          intro x; rw [← hM2, up_k, up_off _ _ _ (by decide), f45]
        refine ⟨by omega, ih (k + 1) M2 (by omega) (by omega) (o2.tr (o3.tr o4)) (fun p p0 p1 => ?_)⟩
        have g := hn p p0 p1
        by_cases zB : p = G 63 k
        · have e45 : M2 45 p = M' 45 p + 1 := by rw [g45, if_pos zB, zB]
          have old : ∀ i, 0 ≤ i → i < M' 45 p → M2 44 (p * 24 + i) = M' 44 (p * 24 + i) := by
            intro i i0 i1
            rw [g44, if_neg (by rw [← zB]; omega), if_neg (by omega)]
          have new : M2 44 (p * 24 + M' 45 p) = k := by rw [g44, if_pos (by rw [← zB])]
          rw [e45]
          refine ⟨by omega, fun i i0 i1 => ?_, fun k' a b c d => ?_⟩
          · by_cases z : i = M' 45 p
            · rw [z, new]; exact ⟨hk0, by omega, y, Or.inr zB.symm⟩
            · have := g.2.1 i i0 (by omega)
              rw [old i i0 (by omega)]; exact ⟨this.1, by omega, this.2.2⟩
          · by_cases z : k' = k
            · exact ⟨M' 45 p, by omega, by omega, by rw [new, z]⟩
            · obtain ⟨i, i0, i1, i2⟩ := g.2.2 k' a (by omega) c d
              exact ⟨i, i0, by omega, by rw [old i i0 i1]; exact i2⟩
        · by_cases zA : p = G 62 k
          · have e45 : M2 45 p = M' 45 p + 1 := by rw [g45, if_neg zB, if_pos zA, zA]
            have old : ∀ i, 0 ≤ i → i < M' 45 p → M2 44 (p * 24 + i) = M' 44 (p * 24 + i) := by
              intro i i0 i1
              rw [g44, if_neg (by omega), if_neg (by rw [← zA]; omega)]
            have new : M2 44 (p * 24 + M' 45 p) = k := by rw [g44, if_neg (by omega), if_pos (by rw [← zA])]
            rw [e45]
            refine ⟨by omega, fun i i0 i1 => ?_, fun k' a b c d => ?_⟩
            · by_cases z : i = M' 45 p
              · rw [z, new]; exact ⟨hk0, by omega, y, Or.inl zA.symm⟩
              · have := g.2.1 i i0 (by omega)
                rw [old i i0 (by omega)]; exact ⟨this.1, by omega, this.2.2⟩
            · by_cases z : k' = k
              · exact ⟨M' 45 p, by omega, by omega, by rw [new, z]⟩
              · obtain ⟨i, i0, i1, i2⟩ := g.2.2 k' a (by omega) c d
                exact ⟨i, i0, by omega, by rw [old i i0 i1]; exact i2⟩
          · have e45 : M2 45 p = M' 45 p := by rw [g45, if_neg zB, if_neg zA]
            have old : ∀ i, 0 ≤ i → i < M' 45 p → M2 44 (p * 24 + i) = M' 44 (p * 24 + i) := by
              intro i i0 i1
              rw [g44, if_neg (by omega), if_neg (by omega)]
            rw [e45]
            refine ⟨by omega, fun i i0 i1 => ?_, fun k' a b c d => ?_⟩
            · have := g.2.1 i i0 i1
              rw [old i i0 i1]; exact ⟨this.1, by omega, this.2.2⟩
            · by_cases z : k' = k
              · subst z; omega
              · obtain ⟨i, i0, i1, i2⟩ := g.2.2 k' a (by omega) c d
                exact ⟨i, i0, i1, by rw [old i i0 i1]; exact i2⟩
  refine E_X2_findNear (fun _ => S_fill_45 (L (G 61 3).toNat 0 _ (by omega) (Int.le_refl _) (fun a ha => fl_off (fun z => ha (by rw [z]; decide))) (fun p p0 p1 => ?_)))
  rw [fl_in ⟨p0, by omega⟩]
  exact ⟨by omega, fun i a b => by omega, fun k a b => by omega⟩
