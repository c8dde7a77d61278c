theorem set_eq6 {x y : Int} (hx : 0 ≤ x ∧ x < 64) (hy : 0 ≤ y ∧ y < 64) (h : ∀ i, 0 ≤ i → i < 6 → (tb x i = true ↔ tb y i = true)) : x = y := by
  refine set_eq (by omega) (by omega) (fun i i0 i1 => ?_)
  rcases Int.lt_or_le i 6 with q | q
  · have := h i i0 q
    cases h1 : tb x i <;> cases h2 : tb y i <;> simp [h1, h2] at this ⊢
  · rw [tb_hi6 hx.1 hx.2 q, tb_hi6 hy.1 hy.2 q]
/-- l goes on by asked stops that are not in S -/
def GlS (M : ax_M) (A S : Int) (l : List Int) : Prop := l.Nodup ∧ ∀ w ∈ l, ∃ s, 0 ≤ s ∧ s < M 51 4 ∧ M 52 s = w ∧ tb A s = true ∧ ¬ tb S s = true
/-- X is S with the stops of l -/
def UnS (M : ax_M) (S : Int) (l : List Int) (X : Int) : Prop := ∀ s, 0 ≤ s → s < 6 → (tb X s = true ↔ tb S s = true ∨ (s < M 51 4 ∧ M 52 s ∈ l))
def UpW (M : ax_M) (b : Nat) (A e sl S p t c : Int) (f : Nat) (M1 M2 : ax_M) : Prop := ∀ X, 0 ≤ X → X < 64 → M1 b X ≤ M2 b X ∧ (∀ l : List Int, l.length ≤ f → GlS M A S l → UnS M S l X → 0 ≤ rv M e sl l p t → c + rv M e sl l p t ≤ M2 b X) ∧ (M2 b X = M1 b X ∨ ∃ l, GlS M A S l ∧ UnS M S l X ∧ 0 ≤ rv M e sl l p t ∧ M2 b X = c + rv M e sl l p t)
def K59 (M M1 M2 : ax_M) : Prop := ∀ j, 0 ≤ j → j < 700 → M2 59 j = M1 59 j ∨ M2 59 j = M 51 12
theorem K59.tr {M M1 M2 M3 : ax_M} (h : K59 M M1 M2) (h2 : K59 M M2 M3) : K59 M M1 M3 := fun j a b => by
  rcases h2 j a b with q | q
  · rcases h j a b with q2 | q2
    · exact Or.inl (q.trans q2)
    · exact Or.inr (q.trans q2)
  · exact Or.inr q
theorem up_nil {M M' : ax_M} {b : Nat} {A e sl S p t c : Int} {f : Nat} (hS : 0 ≤ S ∧ S < 64) (hu : rv M e sl [] p t = 0) (hno : ∀ l : List Int, l.length ≤ f → GlS M A S l → l = []) : UpW M b A e sl S p t c f M' (ax_up M' b S (max (M' b S) c)) := by
  intro X X0 X1
  rw [up_k]
  by_cases q : X = S
  · subst q
    rw [if_pos rfl]
    refine ⟨by omega, fun l h1 h2 _ _ => ?_, ?_⟩
    · rw [hno l h1 h2, hu]; omega
    · by_cases z : c ≤ M' b X
      · exact Or.inl (by omega)
      · refine Or.inr ⟨[], ⟨List.nodup_nil, fun w hw => absurd hw (by simp)⟩, fun s _ _ => by simp, by rw [hu]; omega, by rw [hu]; omega⟩
  · rw [if_neg q]
    refine ⟨Int.le_refl _, fun l h1 h2 h3 _ => ?_, Or.inl rfl⟩
    exfalso
    rw [hno l h1 h2] at h3
    refine q (set_eq6 ⟨X0, X1⟩ hS (fun i i0 i1 => ?_))
    rw [h3 i i0 i1]
    simp
set_option maxHeartbeats 4000000 in
set_option maxRecDepth 100000 in
theorem S_X7_goOn56 {M : ax_M} {e sl A : Int} (hw : WX M) (hc : CrewEq M) (hP : Prep M (-1) (-1) e sl) (he : -1 ≤ e ∧ e ≤ 99) (h6 : 0 ≤ M 51 4 ∧ M 51 4 ≤ 6) (hst : ∀ s, 0 ≤ s → s ≤ M 51 4 → 0 ≤ M 52 s ∧ M 52 s < M 61 0) (hinc : ∀ s s', 0 ≤ s → s < s' → s' < M 51 4 → M 52 s < M 52 s') (h13 : M 51 13 = 56) (h14 : M 51 14 = A) (hA : 0 ≤ A ∧ A < 64) (h5 : ∀ v, 0 ≤ v ∧ v < M 61 0 → M 53 v = dk M v 0 ∧ M 54 v = dk M v 1 ∧ M 55 v = la M (-1) (-1) e sl v (M 61 1) 99) : ∀ (f r : Nat) (x t S c d : Int) (M' : ax_M) (post : ax_M → Prop), f ≤ r → 0 ≤ d → d + f = M 51 4 → (0 ≤ x ∧ x ≤ M 51 4) → (0 ≤ t ∧ t ≤ 99) → t ≤ M 55 (M 52 x) → (0 ≤ S ∧ S < 64) → (∀ s, 0 ≤ s → s < 6 → tb S s = true → tb A s = true) → (0 ≤ c ∧ c ≤ 8 * d) → Ofs [38, 56, 58, 59] M M' → RT M e sl M' → (∀ M2, Ofs [38, 56, 58, 59] M M2 → RT M e sl M2 → K59 M M' M2 → UpW M 56 A e sl S (M 52 x) t c f M' M2 → post M2) → ax_Tv (Y_X7_goOnFrom (r + 1)) [aR 51, aI x, aI t, aI S, aI c, aI d] SH M' post := by
  have h12 : M 61 0 ≤ 12 := by have := hw.1.2.2; omega
  have inj : ∀ s s', 0 ≤ s → 0 ≤ s' → s < M 51 4 → s' < M 51 4 → M 52 s = M 52 s' → s = s' := by
    intro s s' a b c d q
    rcases Int.lt_or_le s s' with z | z
    · have := hinc s s' a z d; omega
    · rcases Int.lt_or_le s' s with z2 | z2
      · have := hinc s' s b z2 c; omega
      · omega
  have hla : ∀ v t, 0 ≤ v ∧ v < M 61 0 → 0 ≤ t → t ≤ 99 → (t ≤ M 55 v ↔ 0 ≤ so M (-1) (-1) e sl v t (M 61 1)) := by
    intro v t hv t0 t9
    rw [(h5 v hv).2.2, la_iff hw.1 (by omega) t0]
    have := so_99 (p := v) (q := M 61 1) (t := t) hw.1 (ma := -1) (me := -1) (e := e) (s := sl) t0 t9
    omega
  intro f
  induction f with
  | zero =>
    intro r x t S c d M' post hr hd0 hd hx ht htu hS hSA hcc o hR K
    have hx1 := hst x hx.1 hx.2
    have hu : rv M e sl [] (M 52 x) t = 0 := by rw [rv.eq_1, if_pos ((hla _ t hx1 ht.1 ht.2).mp htu)]
    have base : post (ax_up M' 56 S (max (M' 56 S) c)) := by
      refine K _ (o.tr (Ofs.up (by decide))) (fun x' t' a1 a2 a3 a4 a5 s s0 s1 => ?_) (fun j _ _ => Or.inl (by rw [up_off _ _ _ (by decide)])) (up_nil hS hu (fun l h1 h2 => ?_))
      · rw [up_off _ _ _ (by decide)] at a5 ⊢
        exact hR x' t' a1 a2 a3 a4 a5 s s0 s1
      · cases l with
        | nil => rfl
        | cons a l => simp at h1
    refine E_X7_goOnFrom_56 (fun _ => ?_)
    rw [o 51 (by decide), h14]
    exact ⟨h13, hS, fun _ => base, fun _ => ⟨fun z => by omega, fun _ => base⟩⟩
  | succ f ihf =>
    intro r x t S c d M' post hr hd0 hd hx ht htu hS hSA hcc o hR K
    have hx1 := hst x hx.1 hx.2
    have hu : rv M e sl [] (M 52 x) t = 0 := by rw [rv.eq_1, if_pos ((hla _ t hx1 ht.1 ht.2).mp htu)]
    have oM1 : Ofs [38, 56, 58, 59] M (ax_up M' 56 S (max (M' 56 S) c)) := o.tr (Ofs.up (by decide))
    have rM1 : RT M e sl (ax_up M' 56 S (max (M' 56 S) c)) := by
      intro x' t' a1 a2 a3 a4 a5 s s0 s1
      rw [up_off _ _ _ (by decide)] at a5 ⊢
      exact hR x' t' a1 a2 a3 a4 a5 s s0 s1
    refine E_X7_goOnFrom_56 (fun _ => ?_)
    rw [o 51 (by decide), h14]
    refine ⟨h13, hS, fun q => ?_, fun q => ⟨fun _ => ?_, fun z => by omega⟩⟩
    · refine K _ oM1 rM1 (fun j _ _ => Or.inl (by rw [up_off _ _ _ (by decide)])) (up_nil hS hu (fun l h1 h2 => ?_))
      cases l with
      | nil => rfl
      | cons a l =>
        obtain ⟨s, s0, s1, s2, s3, s4⟩ := h2.2 a List.mem_cons_self
        rw [q] at s4
        exact absurd s3 s4
    · have hnil := up_nil (b := 56) (M := M) (M' := M') (A := A) (e := e) (sl := sl) (p := M 52 x) (t := t) (c := c) (f := 0) hS hu (fun l h1 h2 => by
        cases l with
        | nil => rfl
        | cons a l => simp at h1)
      generalize hM1 : ax_up M' 56 S (max (M' 56 S) c) = M1 at *
      refine S_X7_soonestRow hw hP he h6 hst (by decide) (by decide) oM1 rM1 hx ht (fun M2 o2 o2' r2 k2 hv2 h59 => ?_)
      have e56 : M2 56 = M1 56 := o2' 56 (by decide)
      have e59 : M1 59 = M' 59 := by rw [← hM1, up_off _ _ _ (by decide)]
      have L : ∀ (k : Nat) (v : Int) (M3 : ax_M), v + k = M 51 4 → 0 ≤ v → Ofs [38, 56, 58, 59] M M3 → RT M e sl M3 → K59 M M' M3 → M3 59 (x * 100 + t) = M 51 12 → (∀ X, 0 ≤ X → X < 64 → M' 56 X ≤ M3 56 X ∧ (∀ l : List Int, l.length ≤ f + 1 → GlS M A S l → UnS M S l X → 0 ≤ rv M e sl l (M 52 x) t → (l = [] ∨ ∃ s, 0 ≤ s ∧ s < v ∧ l.head? = some (M 52 s)) → c + rv M e sl l (M 52 x) t ≤ M3 56 X) ∧ (M3 56 X = M' 56 X ∨ ∃ l, GlS M A S l ∧ UnS M S l X ∧ 0 ≤ rv M e sl l (M 52 x) t ∧ M3 56 X = c + rv M e sl l (M 52 x) t)) → ax_J (Y_X7_goOnFrom (r + 1)) (ax_Kv (Y_X7_goOnFrom (r + 1)) SH post) 0 0 46 [(0, aR 51), (3, aI S), (4, aI c), (5, aI d), (6, aI ((x * 100 + t) * 6)), (7, aI v)] [] SH M3 := by
        intro k
        induction k with
        | zero =>
          intro v M3 hv hv0 o3 r3 k3 w3 li
          refine B_X7_goOnFrom_56_46 ?_
          rw [o3 51 (by decide)]
          refine ⟨fun _ => K M3 o3 r3 k3 (fun X X0 X1 => ⟨(li X X0 X1).1, fun l h1 h2 h3 h4 => (li X X0 X1).2.1 l h1 h2 h3 h4 ?_, (li X X0 X1).2.2⟩), fun z => by omega⟩
          cases l with
          | nil => exact Or.inl rfl
          | cons a l =>
            obtain ⟨s, s0, s1, s2, -⟩ := h2.2 a List.mem_cons_self
            exact Or.inr ⟨s, s0, by omega, by rw [s2]; rfl⟩
        | succ k ih =>
          intro v M3 hv hv0 o3 r3 k3 w3 li
          have hvs := hst v hv0 (by omega)
          have row := r3 x t hx.1 hx.2 ht.1 ht.2 w3 v hv0 (by omega)
          have a9 := so_99 (p := M 52 x) (q := M 52 v) (t := t) hw.1 (ma := -1) (me := -1) (e := e) (s := sl) ht.1 ht.2
          have an : so M (-1) (-1) e sl (M 52 x) t (M 52 v) = -1 ∨ 0 ≤ so M (-1) (-1) e sl (M 52 x) t (M 52 v) := ds_neg (gg_gd hw.1 (-1) (-1) e sl) ht.1 (M 52 v)
          -- nothing by this one
          have skip : (∀ l' : List Int, GlS M A S (M 52 v :: l') → 0 ≤ rv M e sl (M 52 v :: l') (M 52 x) t → False) → ax_J (Y_X7_goOnFrom (r + 1)) (ax_Kv (Y_X7_goOnFrom (r + 1)) SH post) 0 0 46 [(0, aR 51), (3, aI S), (4, aI c), (5, aI d), (6, aI ((x * 100 + t) * 6)), (7, aI (v + 1))] [] SH M3 := by
            intro hno
            refine ih (v + 1) M3 (by omega) (by omega) o3 r3 k3 w3 (fun X X0 X1 => ⟨(li X X0 X1).1, fun l h1 h2 h3 h4 h7 => ?_, (li X X0 X1).2.2⟩)
            rcases h7 with h7 | ⟨s, s0, s1, s2⟩
            · exact (li X X0 X1).2.1 l h1 h2 h3 h4 (Or.inl h7)
            · by_cases z : s = v
              · exfalso
                subst z
                cases l with
                | nil => simp at s2
                | cons a l =>
                  have ea : a = M 52 s := by simpa using s2
                  subst ea
                  exact hno l h2 h4
              · exact (li X X0 X1).2.1 l h1 h2 h3 h4 (Or.inr ⟨s, s0, by omega, s2⟩)
          have sr := shl_rg hv0 (show v < 12 by omega)
          have mr := or_rg (n := 6) (N := 64) (by decide) (by decide) hS ⟨sr.1, sr.2.2 (by omega)⟩
          have mb : ∀ i, 0 ≤ i → i < 6 → (tb (bo_or S (bo_shl 1 v)) i = true ↔ tb S i = true ∨ i = v) := by
            intro i i0 i1
            rw [tb_or, tb_shl hv0 (by omega) i0 (by omega), Bool.or_eq_true, decide_eq_true_iff]
          refine B_X7_goOnFrom_56_46 ?_
          rw [o3 51 (by decide), o3 52 (by decide), o3 55 (by decide), h14, row]
          refine ⟨fun z => by omega, fun _ => ⟨by omega, by omega, fun y => ⟨by omega, skip (fun l' g1 _ => ?_)⟩, fun y => ⟨fun y1 => ⟨by omega, skip (fun l' g1 _ => ?_)⟩, fun y1 => ⟨fun y2 => ⟨by omega, by omega, fun y3 => ⟨by omega, skip (fun l' g1 g2 => ?_)⟩, fun y3 => ?_⟩, fun y2 => ⟨by omega, skip (fun l' g1 g2 => ?_)⟩⟩⟩⟩⟩
          · obtain ⟨s, s0, s1, s2, s3, s4⟩ := g1.2 _ List.mem_cons_self
            have es := inj s v s0 hv0 s1 (by omega) s2
            subst es
            have := (mb s s0 (by omega)).mpr (Or.inr rfl)
            rw [y] at this
            exact s4 this
          · obtain ⟨s, s0, s1, s2, s3, s4⟩ := g1.2 _ List.mem_cons_self
            have es := inj s v s0 hv0 s1 (by omega) s2
            subst es
            refine y1 ((and0 (by omega)).mpr (fun i i0 i1 q => ?_))
            rw [tb_xor, tb_m1 (by omega)] at q
            rcases Int.lt_or_le i 6 with z | z
            · rcases (mb i i0 z).mp q.1 with z1 | z1
              · have := hSA i i0 z z1
                rw [this] at q; simp at q
              · rw [z1, s3] at q; simp at q
            · rw [tb_hi6 mr.1 mr.2 z] at q; simp at q
          · rw [rv.eq_2] at g2
            rcases an with z | z
            · rw [if_pos (by omega)] at g2; omega
            · rw [if_neg (by omega)] at g2
              split at g2
              · omega
              · have := (hla (M 52 v) _ hvs z a9).mpr (rv_up hw.1 e sl l' (M 52 v) _ z (by omega))
                omega
          · have a0 : 0 ≤ so M (-1) (-1) e sl (M 52 x) t (M 52 v) := by omega
            have nS : ¬ tb S v = true := by
              intro q
              refine y (set_eq6 mr hS (fun i i0 i1 => ?_))
              rw [mb i i0 i1]
              exact ⟨fun z => z.elim id (fun z1 => by rw [z1]; exact q), Or.inl⟩
            have tA' : tb A v = true := by
              have := (and0 (by omega)).mp y1 v hv0 (by omega)
              cases q : tb A v
              · exact absurd ⟨(mb v hv0 (by omega)).mpr (Or.inr rfl), by rw [tb_xor, tb_m1 (by omega), q]; rfl⟩ this
              · rfl
            have ru : SamU M M3 := (R51.ofs o3 (by decide)).u
            have h53 := h5 (M 52 v) hvs
            refine S_X7_upWhenTold ((R51.ofs o3 (by decide)).crew hc) (by omega) (by rw [o3 53 (by decide), dk_u ru]; exact h53.1) (by rw [o3 54 (by decide), dk_u ru]; exact h53.2.1) ?_
            rw [tA_u ru]
            have tr := tA_rg hc (M 52 v) (so M (-1) (-1) e sl (M 52 x) t (M 52 v))
            generalize ha : so M (-1) (-1) e sl (M 52 x) t (M 52 v) = a at *
            generalize htv : tA M (M 52 v) a = tv at *
            obtain ⟨r', rfl⟩ : ∃ r', r = r' + 1 := ⟨r - 1, by omega⟩
            refine ⟨by omega, by omega, ihf r' v a _ (c + tv) (d + 1) M3 _ (by omega) (by omega) (by omega) ⟨hv0, by omega⟩ ⟨a0, a9⟩ y3 mr (fun s s0 s1 q => ?_) (by omega) o3 r3 (fun M4 o4 r4 k4 up4 => ⟨by omega, ?_⟩)⟩
            · rcases (mb s s0 s1).mp q with z | z
              · exact hSA s s0 s1 z
              · rw [z]; exact tA'
            · -- rows by this one
              have rvc : ∀ l' : List Int, 0 ≤ rv M e sl l' (M 52 v) a → rv M e sl (M 52 v :: l') (M 52 x) t = tv + rv M e sl l' (M 52 v) a := by
                intro l' q
                rw [rv.eq_2, ha, if_neg (by omega), if_neg (by omega), htv]
              have cons : ∀ l', GlS M A (bo_or S (bo_shl 1 v)) l' → GlS M A S (M 52 v :: l') := by
                intro l' g
                refine ⟨List.nodup_cons.mpr ⟨fun z => ?_, g.1⟩, fun w hw' => ?_⟩
                · obtain ⟨s, s0, s1, s2, s3, s4⟩ := g.2 _ z
                  have es := inj s v s0 hv0 s1 (by omega) s2
                  exact s4 ((mb s s0 (by omega)).mpr (Or.inr es))
                · rcases List.mem_cons.mp hw' with z | z
                  · exact ⟨v, hv0, by omega, z.symm, tA', nS⟩
                  · obtain ⟨s, s0, s1, s2, s3, s4⟩ := g.2 _ z
                    exact ⟨s, s0, s1, s2, s3, fun q => s4 ((mb s s0 (by omega)).mpr (Or.inl q))⟩
              have uncons : ∀ l', GlS M A S (M 52 v :: l') → GlS M A (bo_or S (bo_shl 1 v)) l' := by
                intro l' g
                have nd := List.nodup_cons.mp g.1
                refine ⟨nd.2, fun w hw' => ?_⟩
                obtain ⟨s, s0, s1, s2, s3, s4⟩ := g.2 w (List.mem_cons_of_mem _ hw')
                refine ⟨s, s0, s1, s2, s3, fun q => ?_⟩
                rcases (mb s s0 (by omega)).mp q with z | z
                · exact s4 z
                · rw [z] at s2; exact nd.1 (by rw [s2]; exact hw')
              have uu : ∀ l' X, UnS M (bo_or S (bo_shl 1 v)) l' X ↔ UnS M S (M 52 v :: l') X := by
                intro l' X
                have e1 : ∀ s, 0 ≤ s → s < 6 → ((tb (bo_or S (bo_shl 1 v)) s = true ∨ (s < M 51 4 ∧ M 52 s ∈ l')) ↔ (tb S s = true ∨ (s < M 51 4 ∧ M 52 s ∈ M 52 v :: l'))) := by
                  intro s s0 s1
                  rw [mb s s0 s1, List.mem_cons]
                  constructor
                  · rintro ((z | z) | z)
                    · exact Or.inl z
                    · exact Or.inr ⟨by omega, Or.inl (by rw [z])⟩
                    · exact Or.inr ⟨z.1, Or.inr z.2⟩
                  · rintro (z | ⟨z1, z2 | z2⟩)
                    · exact Or.inl (Or.inl z)
                    · exact Or.inl (Or.inr (inj s v s0 hv0 z1 (by omega) z2))
                    · exact Or.inr ⟨z1, z2⟩
                constructor
                · intro g s s0 s1; rw [g s s0 s1, e1 s s0 s1]
                · intro g s s0 s1; rw [g s s0 s1, e1 s s0 s1]
              have w4 : M4 59 (x * 100 + t) = M 51 12 := by
                rcases k4 (x * 100 + t) (by omega) (by omega) with z | z
                · rw [z]; exact w3
                · exact z
              refine ih (v + 1) M4 (by omega) (by omega) o4 r4 (k3.tr k4) w4 (fun X X0 X1 => ?_)
              have u4 := up4 X X0 X1
              have l4 := li X X0 X1
              refine ⟨by omega, fun l h1 h2 h3 h4 h7 => ?_, ?_⟩
              · rcases h7 with h7 | ⟨s, s0, s1, s2⟩
                · have := l4.2.1 l h1 h2 h3 h4 (Or.inl h7); omega
                · by_cases z : s = v
                  · subst z
                    cases l with
                    | nil => simp at s2
                    | cons a' l =>
                      have ea : a' = M 52 s := by simpa using s2
                      subst ea
                      have h8 : 0 ≤ rv M e sl l (M 52 s) a := by
                        rw [rv.eq_2, ha, if_neg (by omega)] at h4
                        split at h4
                        · omega
                        · omega
                      have := u4.2.1 l (by rw [List.length_cons] at h1; omega) (uncons l h2) ((uu l X).mpr h3) h8
                      rw [rvc l h8]
                      omega
                  · have := l4.2.1 l h1 h2 h3 h4 (Or.inr ⟨s, s0, by omega, s2⟩); omega
              · rcases u4.2.2 with z | ⟨l', g1, g2, g3, g4⟩
                · rw [z]; exact l4.2.2
                · refine Or.inr ⟨M 52 v :: l', cons l' g1, (uu l' X).mp g2, by rw [rvc l' g3]; omega, ?_⟩
                  rw [rvc l' g3, g4]; omega
          · rw [rv.eq_2, if_pos (by omega)] at g2
            omega
      refine L (M 51 4).toNat 0 M2 (by omega) (Int.le_refl _) o2 r2 (fun j j0 j1 => by rw [← e59]; exact k2 j j0 j1) h59 (fun X X0 X1 => ?_)
      have q := hnil X X0 X1
      rw [e56]
      refine ⟨q.1, fun l h1 h2 h3 h4 h7 => ?_, q.2.2⟩
      rcases h7 with h7 | ⟨s, s0, s1, _⟩
      · subst h7; exact q.2.1 [] (by simp) h2 h3 h4
      · omega
set_option maxHeartbeats 4000000 in
set_option maxRecDepth 100000 in
theorem S_X7_goOn57 {M : ax_M} {e sl A : Int} (hw : WX M) (hc : CrewEq M) (hP : Prep M (-1) (-1) e sl) (he : -1 ≤ e ∧ e ≤ 99) (h6 : 0 ≤ M 51 4 ∧ M 51 4 ≤ 6) (hst : ∀ s, 0 ≤ s → s ≤ M 51 4 → 0 ≤ M 52 s ∧ M 52 s < M 61 0) (hinc : ∀ s s', 0 ≤ s → s < s' → s' < M 51 4 → M 52 s < M 52 s') (h13 : M 51 13 = 57) (h14 : M 51 14 = A) (hA : 0 ≤ A ∧ A < 64) (h5 : ∀ v, 0 ≤ v ∧ v < M 61 0 → M 53 v = dk M v 0 ∧ M 54 v = dk M v 1 ∧ M 55 v = la M (-1) (-1) e sl v (M 61 1) 99) : ∀ (f r : Nat) (x t S c d : Int) (M' : ax_M) (post : ax_M → Prop), f ≤ r → 0 ≤ d → d + f = M 51 4 → (0 ≤ x ∧ x ≤ M 51 4) → (0 ≤ t ∧ t ≤ 99) → t ≤ M 55 (M 52 x) → (0 ≤ S ∧ S < 64) → (∀ s, 0 ≤ s → s < 6 → tb S s = true → tb A s = true) → (0 ≤ c ∧ c ≤ 8 * d) → Ofs [38, 57, 58, 59] M M' → RT M e sl M' → (∀ M2, Ofs [38, 57, 58, 59] M M2 → RT M e sl M2 → K59 M M' M2 → UpW M 57 A e sl S (M 52 x) t c f M' M2 → post M2) → ax_Tv (Y_X7_goOnFrom (r + 1)) [aR 51, aI x, aI t, aI S, aI c, aI d] SH M' post := by
  have h12 : M 61 0 ≤ 12 := by have := hw.1.2.2; omega
  have inj : ∀ s s', 0 ≤ s → 0 ≤ s' → s < M 51 4 → s' < M 51 4 → M 52 s = M 52 s' → s = s' := by
    intro s s' a b c d q
    rcases Int.lt_or_le s s' with z | z
    · have := hinc s s' a z d; omega
    · rcases Int.lt_or_le s' s with z2 | z2
      · have := hinc s' s b z2 c; omega
      · omega
  have hla : ∀ v t, 0 ≤ v ∧ v < M 61 0 → 0 ≤ t → t ≤ 99 → (t ≤ M 55 v ↔ 0 ≤ so M (-1) (-1) e sl v t (M 61 1)) := by
    intro v t hv t0 t9
    rw [(h5 v hv).2.2, la_iff hw.1 (by omega) t0]
    have := so_99 (p := v) (q := M 61 1) (t := t) hw.1 (ma := -1) (me := -1) (e := e) (s := sl) t0 t9
    omega
  intro f
  induction f with
  | zero =>
    intro r x t S c d M' post hr hd0 hd hx ht htu hS hSA hcc o hR K
    have hx1 := hst x hx.1 hx.2
    have hu : rv M e sl [] (M 52 x) t = 0 := by rw [rv.eq_1, if_pos ((hla _ t hx1 ht.1 ht.2).mp htu)]
    have base : post (ax_up M' 57 S (max (M' 57 S) c)) := by
      refine K _ (o.tr (Ofs.up (by decide))) (fun x' t' a1 a2 a3 a4 a5 s s0 s1 => ?_) (fun j _ _ => Or.inl (by rw [up_off _ _ _ (by decide)])) (up_nil hS hu (fun l h1 h2 => ?_))
      · rw [up_off _ _ _ (by decide)] at a5 ⊢
        exact hR x' t' a1 a2 a3 a4 a5 s s0 s1
      · cases l with
        | nil => rfl
        | cons a l => simp at h1
    refine E_X7_goOnFrom_57 (fun _ => ?_)
    rw [o 51 (by decide), h14]
    exact ⟨h13, hS, fun _ => base, fun _ => ⟨fun z => by omega, fun _ => base⟩⟩
  | succ f ihf =>
    intro r x t S c d M' post hr hd0 hd hx ht htu hS hSA hcc o hR K
    have hx1 := hst x hx.1 hx.2
    have hu : rv M e sl [] (M 52 x) t = 0 := by rw [rv.eq_1, if_pos ((hla _ t hx1 ht.1 ht.2).mp htu)]
    have oM1 : Ofs [38, 57, 58, 59] M (ax_up M' 57 S (max (M' 57 S) c)) := o.tr (Ofs.up (by decide))
    have rM1 : RT M e sl (ax_up M' 57 S (max (M' 57 S) c)) := by
      intro x' t' a1 a2 a3 a4 a5 s s0 s1
      rw [up_off _ _ _ (by decide)] at a5 ⊢
      exact hR x' t' a1 a2 a3 a4 a5 s s0 s1
    refine E_X7_goOnFrom_57 (fun _ => ?_)
    rw [o 51 (by decide), h14]
    refine ⟨h13, hS, fun q => ?_, fun q => ⟨fun _ => ?_, fun z => by omega⟩⟩
    · refine K _ oM1 rM1 (fun j _ _ => Or.inl (by rw [up_off _ _ _ (by decide)])) (up_nil hS hu (fun l h1 h2 => ?_))
      cases l with
      | nil => rfl
      | cons a l =>
        obtain ⟨s, s0, s1, s2, s3, s4⟩ := h2.2 a List.mem_cons_self
        rw [q] at s4
        exact absurd s3 s4
    · have hnil := up_nil (b := 57) (M := M) (M' := M') (A := A) (e := e) (sl := sl) (p := M 52 x) (t := t) (c := c) (f := 0) hS hu (fun l h1 h2 => by
        cases l with
        | nil => rfl
        | cons a l => simp at h1)
      generalize hM1 : ax_up M' 57 S (max (M' 57 S) c) = M1 at *
      refine S_X7_soonestRow hw hP he h6 hst (by decide) (by decide) oM1 rM1 hx ht (fun M2 o2 o2' r2 k2 hv2 h59 => ?_)
      have e56 : M2 57 = M1 57 := o2' 57 (by decide)
      have e59 : M1 59 = M' 59 := by rw [← hM1, up_off _ _ _ (by decide)]
      have L : ∀ (k : Nat) (v : Int) (M3 : ax_M), v + k = M 51 4 → 0 ≤ v → Ofs [38, 57, 58, 59] M M3 → RT M e sl M3 → K59 M M' M3 → M3 59 (x * 100 + t) = M 51 12 → (∀ X, 0 ≤ X → X < 64 → M' 57 X ≤ M3 57 X ∧ (∀ l : List Int, l.length ≤ f + 1 → GlS M A S l → UnS M S l X → 0 ≤ rv M e sl l (M 52 x) t → (l = [] ∨ ∃ s, 0 ≤ s ∧ s < v ∧ l.head? = some (M 52 s)) → c + rv M e sl l (M 52 x) t ≤ M3 57 X) ∧ (M3 57 X = M' 57 X ∨ ∃ l, GlS M A S l ∧ UnS M S l X ∧ 0 ≤ rv M e sl l (M 52 x) t ∧ M3 57 X = c + rv M e sl l (M 52 x) t)) → ax_J (Y_X7_goOnFrom (r + 1)) (ax_Kv (Y_X7_goOnFrom (r + 1)) SH post) 0 0 46 [(0, aR 51), (3, aI S), (4, aI c), (5, aI d), (6, aI ((x * 100 + t) * 6)), (7, aI v)] [] SH M3 := by
        intro k
        induction k with
        | zero =>
          intro v M3 hv hv0 o3 r3 k3 w3 li
          refine B_X7_goOnFrom_57_46 ?_
          rw [o3 51 (by decide)]
          refine ⟨fun _ => K M3 o3 r3 k3 (fun X X0 X1 => ⟨(li X X0 X1).1, fun l h1 h2 h3 h4 => (li X X0 X1).2.1 l h1 h2 h3 h4 ?_, (li X X0 X1).2.2⟩), fun z => by omega⟩
          cases l with
          | nil => exact Or.inl rfl
          | cons a l =>
            obtain ⟨s, s0, s1, s2, -⟩ := h2.2 a List.mem_cons_self
            exact Or.inr ⟨s, s0, by omega, by rw [s2]; rfl⟩
        | succ k ih =>
          intro v M3 hv hv0 o3 r3 k3 w3 li
          have hvs := hst v hv0 (by omega)
          have row := r3 x t hx.1 hx.2 ht.1 ht.2 w3 v hv0 (by omega)
          have a9 := so_99 (p := M 52 x) (q := M 52 v) (t := t) hw.1 (ma := -1) (me := -1) (e := e) (s := sl) ht.1 ht.2
          have an : so M (-1) (-1) e sl (M 52 x) t (M 52 v) = -1 ∨ 0 ≤ so M (-1) (-1) e sl (M 52 x) t (M 52 v) := ds_neg (gg_gd hw.1 (-1) (-1) e sl) ht.1 (M 52 v)
          -- nothing by this one
          have skip : (∀ l' : List Int, GlS M A S (M 52 v :: l') → 0 ≤ rv M e sl (M 52 v :: l') (M 52 x) t → False) → ax_J (Y_X7_goOnFrom (r + 1)) (ax_Kv (Y_X7_goOnFrom (r + 1)) SH post) 0 0 46 [(0, aR 51), (3, aI S), (4, aI c), (5, aI d), (6, aI ((x * 100 + t) * 6)), (7, aI (v + 1))] [] SH M3 := by
            intro hno
            refine ih (v + 1) M3 (by omega) (by omega) o3 r3 k3 w3 (fun X X0 X1 => ⟨(li X X0 X1).1, fun l h1 h2 h3 h4 h7 => ?_, (li X X0 X1).2.2⟩)
            rcases h7 with h7 | ⟨s, s0, s1, s2⟩
            · exact (li X X0 X1).2.1 l h1 h2 h3 h4 (Or.inl h7)
            · by_cases z : s = v
              · exfalso
                subst z
                cases l with
                | nil => simp at s2
                | cons a l =>
                  have ea : a = M 52 s := by simpa using s2
                  subst ea
                  exact hno l h2 h4
              · exact (li X X0 X1).2.1 l h1 h2 h3 h4 (Or.inr ⟨s, s0, by omega, s2⟩)
          have sr := shl_rg hv0 (show v < 12 by omega)
          have mr := or_rg (n := 6) (N := 64) (by decide) (by decide) hS ⟨sr.1, sr.2.2 (by omega)⟩
          have mb : ∀ i, 0 ≤ i → i < 6 → (tb (bo_or S (bo_shl 1 v)) i = true ↔ tb S i = true ∨ i = v) := by
            intro i i0 i1
            rw [tb_or, tb_shl hv0 (by omega) i0 (by omega), Bool.or_eq_true, decide_eq_true_iff]
          refine B_X7_goOnFrom_57_46 ?_
          rw [o3 51 (by decide), o3 52 (by decide), o3 55 (by decide), h14, row]
          refine ⟨fun z => by omega, fun _ => ⟨by omega, by omega, fun y => ⟨by omega, skip (fun l' g1 _ => ?_)⟩, fun y => ⟨fun y1 => ⟨by omega, skip (fun l' g1 _ => ?_)⟩, fun y1 => ⟨fun y2 => ⟨by omega, by omega, fun y3 => ⟨by omega, skip (fun l' g1 g2 => ?_)⟩, fun y3 => ?_⟩, fun y2 => ⟨by omega, skip (fun l' g1 g2 => ?_)⟩⟩⟩⟩⟩
          · obtain ⟨s, s0, s1, s2, s3, s4⟩ := g1.2 _ List.mem_cons_self
            have es := inj s v s0 hv0 s1 (by omega) s2
            subst es
            have := (mb s s0 (by omega)).mpr (Or.inr rfl)
            rw [y] at this
            exact s4 this
          · obtain ⟨s, s0, s1, s2, s3, s4⟩ := g1.2 _ List.mem_cons_self
            have es := inj s v s0 hv0 s1 (by omega) s2
            subst es
            refine y1 ((and0 (by omega)).mpr (fun i i0 i1 q => ?_))
            rw [tb_xor, tb_m1 (by omega)] at q
            rcases Int.lt_or_le i 6 with z | z
            · rcases (mb i i0 z).mp q.1 with z1 | z1
              · have := hSA i i0 z z1
                rw [this] at q; simp at q
              · rw [z1, s3] at q; simp at q
            · rw [tb_hi6 mr.1 mr.2 z] at q; simp at q
          · rw [rv.eq_2] at g2
            rcases an with z | z
            · rw [if_pos (by omega)] at g2; omega
            · rw [if_neg (by omega)] at g2
              split at g2
              · omega
              · have := (hla (M 52 v) _ hvs z a9).mpr (rv_up hw.1 e sl l' (M 52 v) _ z (by omega))
                omega
          · have a0 : 0 ≤ so M (-1) (-1) e sl (M 52 x) t (M 52 v) := by omega
            have nS : ¬ tb S v = true := by
              intro q
              refine y (set_eq6 mr hS (fun i i0 i1 => ?_))
              rw [mb i i0 i1]
              exact ⟨fun z => z.elim id (fun z1 => by rw [z1]; exact q), Or.inl⟩
            have tA' : tb A v = true := by
              have := (and0 (by omega)).mp y1 v hv0 (by omega)
              cases q : tb A v
              · exact absurd ⟨(mb v hv0 (by omega)).mpr (Or.inr rfl), by rw [tb_xor, tb_m1 (by omega), q]; rfl⟩ this
              · rfl
            have ru : SamU M M3 := (R51.ofs o3 (by decide)).u
            have h53 := h5 (M 52 v) hvs
            refine S_X7_upWhenTold ((R51.ofs o3 (by decide)).crew hc) (by omega) (by rw [o3 53 (by decide), dk_u ru]; exact h53.1) (by rw [o3 54 (by decide), dk_u ru]; exact h53.2.1) ?_
            rw [tA_u ru]
            have tr := tA_rg hc (M 52 v) (so M (-1) (-1) e sl (M 52 x) t (M 52 v))
            generalize ha : so M (-1) (-1) e sl (M 52 x) t (M 52 v) = a at *
            generalize htv : tA M (M 52 v) a = tv at *
            obtain ⟨r', rfl⟩ : ∃ r', r = r' + 1 := ⟨r - 1, by omega⟩
            refine ⟨by omega, by omega, ihf r' v a _ (c + tv) (d + 1) M3 _ (by omega) (by omega) (by omega) ⟨hv0, by omega⟩ ⟨a0, a9⟩ y3 mr (fun s s0 s1 q => ?_) (by omega) o3 r3 (fun M4 o4 r4 k4 up4 => ⟨by omega, ?_⟩)⟩
            · rcases (mb s s0 s1).mp q with z | z
              · exact hSA s s0 s1 z
              · rw [z]; exact tA'
            · -- rows by this one
              have rvc : ∀ l' : List Int, 0 ≤ rv M e sl l' (M 52 v) a → rv M e sl (M 52 v :: l') (M 52 x) t = tv + rv M e sl l' (M 52 v) a := by
                intro l' q
                rw [rv.eq_2, ha, if_neg (by omega), if_neg (by omega), htv]
              have cons : ∀ l', GlS M A (bo_or S (bo_shl 1 v)) l' → GlS M A S (M 52 v :: l') := by
                intro l' g
                refine ⟨List.nodup_cons.mpr ⟨fun z => ?_, g.1⟩, fun w hw' => ?_⟩
                · obtain ⟨s, s0, s1, s2, s3, s4⟩ := g.2 _ z
                  have es := inj s v s0 hv0 s1 (by omega) s2
                  exact s4 ((mb s s0 (by omega)).mpr (Or.inr es))
                · rcases List.mem_cons.mp hw' with z | z
                  · exact ⟨v, hv0, by omega, z.symm, tA', nS⟩
                  · obtain ⟨s, s0, s1, s2, s3, s4⟩ := g.2 _ z
                    exact ⟨s, s0, s1, s2, s3, fun q => s4 ((mb s s0 (by omega)).mpr (Or.inl q))⟩
              have uncons : ∀ l', GlS M A S (M 52 v :: l') → GlS M A (bo_or S (bo_shl 1 v)) l' := by
                intro l' g
                have nd := List.nodup_cons.mp g.1
                refine ⟨nd.2, fun w hw' => ?_⟩
                obtain ⟨s, s0, s1, s2, s3, s4⟩ := g.2 w (List.mem_cons_of_mem _ hw')
                refine ⟨s, s0, s1, s2, s3, fun q => ?_⟩
                rcases (mb s s0 (by omega)).mp q with z | z
                · exact s4 z
                · rw [z] at s2; exact nd.1 (by rw [s2]; exact hw')
              have uu : ∀ l' X, UnS M (bo_or S (bo_shl 1 v)) l' X ↔ UnS M S (M 52 v :: l') X := by
                intro l' X
                have e1 : ∀ s, 0 ≤ s → s < 6 → ((tb (bo_or S (bo_shl 1 v)) s = true ∨ (s < M 51 4 ∧ M 52 s ∈ l')) ↔ (tb S s = true ∨ (s < M 51 4 ∧ M 52 s ∈ M 52 v :: l'))) := by
                  intro s s0 s1
                  rw [mb s s0 s1, List.mem_cons]
                  constructor
                  · rintro ((z | z) | z)
                    · exact Or.inl z
                    · exact Or.inr ⟨by omega, Or.inl (by rw [z])⟩
                    · exact Or.inr ⟨z.1, Or.inr z.2⟩
                  · rintro (z | ⟨z1, z2 | z2⟩)
                    · exact Or.inl (Or.inl z)
                    · exact Or.inl (Or.inr (inj s v s0 hv0 z1 (by omega) z2))
                    · exact Or.inr ⟨z1, z2⟩
                constructor
                · intro g s s0 s1; rw [g s s0 s1, e1 s s0 s1]
                · intro g s s0 s1; rw [g s s0 s1, e1 s s0 s1]
              have w4 : M4 59 (x * 100 + t) = M 51 12 := by
                rcases k4 (x * 100 + t) (by omega) (by omega) with z | z
                · rw [z]; exact w3
                · exact z
              refine ih (v + 1) M4 (by omega) (by omega) o4 r4 (k3.tr k4) w4 (fun X X0 X1 => ?_)
              have u4 := up4 X X0 X1
              have l4 := li X X0 X1
              refine ⟨by omega, fun l h1 h2 h3 h4 h7 => ?_, ?_⟩
              · rcases h7 with h7 | ⟨s, s0, s1, s2⟩
                · have := l4.2.1 l h1 h2 h3 h4 (Or.inl h7); omega
                · by_cases z : s = v
                  · subst z
                    cases l with
                    | nil => simp at s2
                    | cons a' l =>
                      have ea : a' = M 52 s := by simpa using s2
                      subst ea
                      have h8 : 0 ≤ rv M e sl l (M 52 s) a := by
                        rw [rv.eq_2, ha, if_neg (by omega)] at h4
                        split at h4
                        · omega
                        · omega
                      have := u4.2.1 l (by rw [List.length_cons] at h1; omega) (uncons l h2) ((uu l X).mpr h3) h8
                      rw [rvc l h8]
                      omega
                  · have := l4.2.1 l h1 h2 h3 h4 (Or.inr ⟨s, s0, by omega, s2⟩); omega
              · rcases u4.2.2 with z | ⟨l', g1, g2, g3, g4⟩
                · rw [z]; exact l4.2.2
                · refine Or.inr ⟨M 52 v :: l', cons l' g1, (uu l' X).mp g2, by rw [rvc l' g3]; omega, ?_⟩
                  rw [rvc l' g3, g4]; omega
          · rw [rv.eq_2, if_pos (by omega)] at g2
            omega
      refine L (M 51 4).toNat 0 M2 (by omega) (Int.le_refl _) o2 r2 (fun j j0 j1 => by rw [← e59]; exact k2 j j0 j1) h59 (fun X X0 X1 => ?_)
      have q := hnil X X0 X1
      rw [e56]
      refine ⟨q.1, fun l h1 h2 h3 h4 h7 => ?_, q.2.2⟩
      rcases h7 with h7 | ⟨s, s0, s1, _⟩
      · subst h7; exact q.2.1 [] (by simp) h2 h3 h4
      · omega
