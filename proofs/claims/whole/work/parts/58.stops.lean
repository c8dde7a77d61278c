/-- what the class's telling changes -/
def R51 (M M' : ax_M) : Prop := (∀ a, a ∉ [34, 35, 36, 37, 38, 39, 51, 52, 53, 54, 55, 56, 57, 58, 59] → M' a = M a)
theorem R51.rf {M : ax_M} : R51 M M := fun _ _ => rfl
theorem R51.tr {M M1 M2 : ax_M} (h : R51 M M1) (h2 : R51 M1 M2) : R51 M M2 := fun a ha => (h2 a ha).trans (h a ha)
theorem R51.ofs {l : List Nat} {M M' : ax_M} (h : Ofs l M M') (hl : ∀ a ∈ l, a ∈ [34, 35, 36, 37, 38, 39, 51, 52, 53, 54, 55, 56, 57, 58, 59]) : R51 M M' := fun a ha => h a (fun z => ha (hl a z))
theorem R51.u {M M' : ax_M} (h : R51 M M') : SamU M M' := ⟨fun a ha => h a (by revert a; decide), fun i _ => by rw [h 61 (by decide)]⟩
theorem R51.wx {M M' : ax_M} (h : R51 M M') (hw : WX M) : WX M' := wx_of (l := [34, 35, 36, 37, 38, 39, 51, 52, 53, 54, 55, 56, 57, 58, 59]) h (by decide) hw
theorem R51.crew {M M' : ax_M} (h : R51 M M') (hc : CrewEq M) : CrewEq M' := crew_ofs (l := [34, 35, 36, 37, 38, 39, 51, 52, 53, 54, 55, 56, 57, 58, 59]) h (by decide) hc
theorem R51.inv {n : Int} {M M' : ax_M} (h : R51 M M') (hI : Inv n M) (ht : TelEq (n + 1) M') : Inv (n + 1) M' := by
  have e61 : ∀ i, M' 61 i = M 61 i := fun i => by rw [h 61 (by decide)]
  obtain ⟨a, b, c, d, e, f, g⟩ := hI
  exact ⟨h.wx a, h.crew b, c_RowEq (h 31 (by decide)) (h 32 (by decide)) (h 91 (by decide)) (e61 0) (e61 50) c, c_TextEq (h 1 (by decide)) (h 2 (by decide)) (h 70 (by decide)) (e61 13) d, c_ImgEq (h 30 (by decide)) (h 98 (by decide)) (h 97 (by decide)) (h 16 (by decide)) (h 17 (by decide)) (h 18 (by decide)) (h 19 (by decide)) (h 20 (by decide)) (h 21 (by decide)) (h 22 (by decide)) (h 23 (by decide)) (h 24 (by decide)) (h 25 (by decide)) (h 26 (by decide)) (h 27 (by decide)) (h 28 (by decide)) (h 29 (by decide)) (e61 0) (e61 3) e, ht, c_Mis (h 0 (by decide)) (h 15 (by decide)) (e61 32) (e61 14) g⟩
theorem fU_51 {M M' : ax_M} (h : R51 M M') : fU M' = fU M := by
  unfold fU
  rw [h 61 (by decide)]
  have q : ∀ j, un M' j = un M j := by
    intro j
    induction j with
    | zero => rw [un.eq_1, un.eq_1]
    | succ j ih => rw [un.eq_2, un.eq_2, ih, h 72 (by decide), h 73 (by decide)]
  exact q _
/-- the stops, and the last minutes in the dark -/
def StOk (M M' : ax_M) : Prop := M' 51 4 = nb (fU M) 12 ∧ Srt (M' 52) (fU M) 12 ∧ (∀ v, 0 ≤ v ∧ v < M 61 0 → M' 53 v = dk M v 0 ∧ M' 54 v = dk M v 1)
set_option maxHeartbeats 4000000 in
set_option maxRecDepth 100000 in
theorem S_X7_findStops {post : ax_M → Prop} {M : ax_M} (hw : WX M) (hc : CrewEq M) (h6 : nb (fU M) 12 ≤ 6) (h : ∀ M', R51 M M' → StOk M M' → (∀ i, i ≠ 4 → M' 51 i = M 51 i) → M' 59 = M 59 → post M') : ax_Tv Y_X7_findStops [aR 51] SH M post := by
  have fin : ∀ M', Ofs [51, 52] M M' → (∀ i, i ≠ 4 → M' 51 i = M 51 i) → M' 51 4 = nb (fU M) 12 → Srt (M' 52) (fU M) 12 → ax_Tv Y_X7_findLast [aR 51, aI (-1), aI 0, aR 53] SH M' (fun u1 => ax_Tv Y_X7_findLast [aR 51, aI (-1), aI 1, aR 54] SH u1 (fun u2 => post u2)) := by
    intro M' o hi h4 hs
    have r0 : R51 M M' := R51.ofs o (by decide)
    refine S_X7_findLast53 (r0.wx hw) (by omega) (fun M1 o1 _ v1 => ?_)
    have r1 : R51 M M1 := r0.tr (R51.ofs o1 (by decide))
    refine S_X7_findLast54 (r1.wx hw) (by omega) (fun M2 o2 _ v2 => ?_)
    have r2 : R51 M M2 := r1.tr (R51.ofs o2 (by decide))
    have s51 : M2 51 = M' 51 := (o2 51 (by decide)).trans (o1 51 (by decide))
    refine h M2 r2 ⟨by rw [s51]; exact h4, by rw [o2 52 (by decide), o1 52 (by decide)]; exact hs, fun v hv => ⟨?_, ?_⟩⟩ (fun i q => by rw [s51]; exact hi i q) (by rw [o2 59 (by decide), o1 59 (by decide)]; exact o 59 (by decide))
    · rw [o2 53 (by decide), v1 v (by rw [r0 61 (by decide)]; exact hv), la_u r0.u, r0 61 (by decide)]
      rfl
    · rw [v2 v (by rw [r1 61 (by decide)]; exact hv), la_u r1.u, r1 61 (by decide)]
      rfl
  have L : ∀ (r j : Nat) (M' : ax_M), j + r = 12 → Ofs [51, 52] M M' → (∀ i, i ≠ 4 → M' 51 i = M 51 i) → M' 51 4 = nb (fU M) j → Srt (M' 52) (fU M) j → ax_J Y_X7_findStops (ax_Kv Y_X7_findStops SH post) 0 0 15 [(0, aR 51), (1, aI (fU M)), (2, aI j)] [] SH M' := by
    intro r
    induction r with
    | zero =>
      intro j M' hj o hi h4 hs
      have e : j = 12 := by omega
      subst e
      exact B_X7_findStops_15 ⟨fun _ => fin M' o hi h4 hs, fun z => by omega⟩
    | succ r ih =>
      intro j M' hj o hi h4 hs
      have nr := nb_rg (fU M) j
      have m1 := nb_mono (fU M) j (12 - j)
      rw [show j + (12 - j) = 12 by omega] at m1
      refine B_X7_findStops_15 ?_
      rw [h4, tb_shr (by omega) (by omega)]
      refine ⟨fun z => by omega, fun _ => ⟨fun y => fin M' o hi (by rw [h4]; omega) ?_, fun y => ⟨fun y1 => ⟨by omega, ?_⟩, fun y1 => ?_⟩⟩⟩
      · have full : ∀ w, (j : Int) ≤ w → w < 12 → tb (fU M) w = false := fun w a b => nb_full (by omega) (by omega) a b
        have e : nb (fU M) 12 = nb (fU M) j := by omega
        unfold Srt
        rw [e]
        refine ⟨fun s a b => ?_, hs.2.1, fun w a b c => ?_⟩
        · have := hs.1 s a b
          exact ⟨this.1, by omega, this.2.2⟩
        · rcases Int.lt_or_le w j with q | q
          · exact hs.2.2 w a q c
          · rw [full w q (by omega)] at c; exact absurd c (by decide)
      · have y' : tb (fU M) (j : Int) = false := by
          cases q : tb (fU M) (j : Int)
          · rfl
          · rw [q] at y1; simp at y1
        have q := srt_no hs y'
        exact ih (j + 1) M' (by omega) o hi (by rw [q.1]; exact h4) q.2
      · have y' : tb (fU M) (j : Int) = true := by
          cases q : tb (fU M) (j : Int)
          · rw [q] at y1; simp at y1
          · rfl
        have q := srt_yes (g := ax_up M' 52 (nb (fU M) j) j 52) hs y' (fun s => up_k _ _ _ _ _)
        have f4 : ax_up M' 52 (nb (fU M) j) j 51 = M' 51 := up_off _ _ _ (by decide)
        refine ⟨by omega, by omega, by omega, ih (j + 1) _ (by omega) ((o.tr (Ofs.up (by decide))).tr (Ofs.up (by decide))) (fun i hne => ?_) ?_ ?_⟩
        · rw [up_ne _ _ _ hne, f4]; exact hi i hne
        · rw [up_at, q.1]
        · rw [up_off _ _ _ (by decide)]; exact q.2
  refine E_X7_findStops (fun _ => S_X0_untoldPlaces hw.1 hc (L 12 0 _ (by omega) (Ofs.up (by decide)) (fun i hi => up_ne _ _ _ hi) ?_ ?_))
  · rw [up_at]; exact (nb.eq_1 _).symm
  · exact srt_0 _ _
/-- the set X of stops as a set of places Z -/
def Pz (st : Int → Int) (ns X Z : Int) : Prop := (0 ≤ Z ∧ Z < 4096) ∧ ∀ w, 0 ≤ w → w < 12 → (tb Z w = true ↔ ∃ s, 0 ≤ s ∧ s < ns ∧ st s = w ∧ tb X s = true)
theorem S_X7_placesOf {post : Int → ax_M → Prop} {M : ax_M} {X : Int} (h6 : 0 ≤ M 51 4 ∧ M 51 4 ≤ 6) (hst : ∀ s, 0 ≤ s → s < M 51 4 → 0 ≤ M 52 s ∧ M 52 s < 12) (h : ∀ Z, Pz (M 52) (M 51 4) X Z → post Z M) : ax_Ti Y_X7_placesOf [aR 51, aI X] SH M post := by
  have L : ∀ (r : Nat) (j Z : Int), j + r = M 51 4 → 0 ≤ j → Pz (M 52) j X Z → ax_J Y_X7_placesOf (ax_Ki Y_X7_placesOf SH post) 0 0 4 [(0, aR 51), (1, aI X), (2, aI Z), (3, aI j)] [] SH M := by
    intro r
    induction r with
    | zero =>
      intro j Z hj hj0 hz
      have e : M 51 4 = j := by omega
      refine B_X7_placesOf_4 ?_
      rw [e]
      refine ⟨fun _ => h Z ?_, fun z => by omega⟩
      rw [e]; exact hz
    | succ r ih =>
      intro j Z hj hj0 hz
      have hs := hst j hj0 (by omega)
      have sr := shl_rg hs.1 hs.2
      refine B_X7_placesOf_4 ?_
      rw [tb_shr (by omega) (by omega)]
      refine ⟨fun z => by omega, fun _ => ⟨by omega, by omega, ih (j + 1) _ (by omega) (by omega) ?_⟩⟩
      cases q : tb X j
      · rw [if_neg (by decide), shl0 hs.1 hs.2, bo_or_0 (by unfold i32; have := hz.1; omega)]
        refine ⟨hz.1, fun w w0 w1 => ?_⟩
        rw [hz.2 w w0 w1]
        constructor
        · rintro ⟨s, a, b, c, d⟩; exact ⟨s, a, by omega, c, d⟩
        · rintro ⟨s, a, b, c, d⟩
          refine ⟨s, a, ?_, c, d⟩
          rcases Int.lt_or_le s j with z | z
          · exact z
          · rw [show s = j by omega, q] at d; exact absurd d (by decide)
      · rw [if_pos rfl]
        refine ⟨or_rg (n := 12) (N := 4096) (by decide) (Nat.le_refl _) hz.1 ⟨sr.1, sr.2.1⟩, fun w w0 w1 => ?_⟩
        rw [tb_or, Bool.or_eq_true, hz.2 w w0 w1, tb_shl hs.1 hs.2 w0 w1, decide_eq_true_iff]
        constructor
        · rintro (⟨s, a, b, c, d⟩ | c)
          · exact ⟨s, a, by omega, c, d⟩
          · exact ⟨j, hj0, by omega, c.symm, q⟩
        · rintro ⟨s, a, b, c, d⟩
          rcases Int.lt_or_le s j with z | z
          · exact Or.inl ⟨s, a, z, c, d⟩
          · rw [show s = j by omega] at c; exact Or.inr c.symm
  refine E_X7_placesOf (fun _ => L (M 51 4).toNat 0 0 (by omega) (Int.le_refl _) ⟨by omega, fun w w0 w1 => ?_⟩)
  rw [tb_0]
  exact ⟨fun q => by simp at q, fun ⟨s, a, b, _⟩ => by omega⟩
/-- the set Y of places as a set of stops X -/
def Sz (st : Int → Int) (ns Y X : Int) : Prop := (0 ≤ X ∧ X < 64) ∧ ∀ s, 0 ≤ s → s < 6 → (tb X s = true ↔ s < ns ∧ tb Y (st s) = true)
theorem S_X7_stopsOf {post : Int → ax_M → Prop} {M : ax_M} {Y : Int} (h6 : 0 ≤ M 51 4 ∧ M 51 4 ≤ 6) (hst : ∀ s, 0 ≤ s → s < M 51 4 → 0 ≤ M 52 s ∧ M 52 s < 12) (h : ∀ X, Sz (M 52) (M 51 4) Y X → post X M) : ax_Ti Y_X7_stopsOf [aR 51, aI Y] SH M post := by
  have L : ∀ (r : Nat) (j X : Int), j + r = M 51 4 → 0 ≤ j → Sz (M 52) j Y X → ax_J Y_X7_stopsOf (ax_Ki Y_X7_stopsOf SH post) 0 0 4 [(0, aR 51), (1, aI Y), (2, aI X), (3, aI j)] [] SH M := by
    intro r
    induction r with
    | zero =>
      intro j X hj hj0 hz
      have e : M 51 4 = j := by omega
      refine B_X7_stopsOf_4 ?_
      rw [e]
      refine ⟨fun _ => h X ?_, fun z => by omega⟩
      rw [e]; exact hz
    | succ r ih =>
      intro j X hj hj0 hz
      have hs := hst j hj0 (by omega)
      have sr := shl_rg hj0 (show j < 12 by omega)
      refine B_X7_stopsOf_4 ?_
      rw [tb_shr hs.1 (by omega)]
      refine ⟨fun z => by omega, fun _ => ⟨by omega, by omega, ih (j + 1) _ (by omega) (by omega) ?_⟩⟩
      cases q : tb Y (M 52 j)
      · rw [if_neg (by decide), shl0 hj0 (by omega), bo_or_0 (by unfold i32; have := hz.1; omega)]
        refine ⟨hz.1, fun s s0 s1 => ?_⟩
        rw [hz.2 s s0 s1]
        constructor
        · rintro ⟨a, b⟩; exact ⟨by omega, b⟩
        · rintro ⟨a, b⟩
          refine ⟨?_, b⟩
          rcases Int.lt_or_le s j with z | z
          · exact z
          · rw [show s = j by omega, q] at b; exact absurd b (by decide)
      · rw [if_pos rfl]
        refine ⟨or_rg (n := 6) (N := 64) (by decide) (by decide) hz.1 ⟨sr.1, sr.2.2 (by omega)⟩, fun s s0 s1 => ?_⟩
        rw [tb_or, Bool.or_eq_true, hz.2 s s0 s1, tb_shl hj0 (by omega) s0 (by omega), decide_eq_true_iff]
        constructor
        · rintro (⟨a, b⟩ | c)
          · exact ⟨by omega, b⟩
          · rw [c]; exact ⟨by omega, q⟩
        · rintro ⟨a, b⟩
          rcases Int.lt_or_le s j with z | z
          · exact Or.inl ⟨z, b⟩
          · exact Or.inr (by omega)
  refine E_X7_stopsOf (fun _ => L (M 51 4).toNat 0 0 (by omega) (Int.le_refl _) ⟨by omega, fun s s0 s1 => ?_⟩)
  rw [tb_0]
  exact ⟨fun q => by simp at q, fun ⟨a, _⟩ => by omega⟩
/-- rows of soonest minutes that stand -/
def RT (M : ax_M) (e sl : Int) (M' : ax_M) : Prop := ∀ x t, 0 ≤ x → x ≤ M 51 4 → 0 ≤ t → t ≤ 99 → M' 59 (x * 100 + t) = M 51 12 → ∀ s, 0 ≤ s → s < M 51 4 → M' 58 ((x * 100 + t) * 6 + s) = so M (-1) (-1) e sl (M 52 x) t (M 52 s)
set_option maxHeartbeats 4000000 in
set_option maxRecDepth 100000 in
theorem S_X7_soonestRow {l : List Nat} {post : Int → ax_M → Prop} {M M' : ax_M} {e sl x t : Int} (hw : WX M) (hP : Prep M (-1) (-1) e sl) (he : -1 ≤ e ∧ e ≤ 99) (h6 : 0 ≤ M 51 4 ∧ M 51 4 ≤ 6) (hst : ∀ s, 0 ≤ s → s ≤ M 51 4 → 0 ≤ M 52 s ∧ M 52 s < M 61 0) (hl : [6, 7, 14, 34, 35, 36, 37, 51, 52, 61, 62, 63, 64, 65, 66, 67, 68, 69].all (fun a => !l.contains a) = true) (hl2 : ∀ a ∈ [38, 58, 59], a ∈ l) (o : Ofs l M M') (hR : RT M e sl M') (hx : 0 ≤ x ∧ x ≤ M 51 4) (ht : 0 ≤ t ∧ t ≤ 99) (h : ∀ M2, Ofs l M M2 → Ofs [38, 58, 59] M' M2 → RT M e sl M2 → (∀ j, 0 ≤ j → j < 700 → M2 59 j = M' 59 j ∨ M2 59 j = M 51 12) → (∀ s, 0 ≤ s → s < M 51 4 → M2 58 ((x * 100 + t) * 6 + s) = so M (-1) (-1) e sl (M 52 x) t (M 52 s)) → M2 59 (x * 100 + t) = M 51 12 → post ((x * 100 + t) * 6) M2) : ax_Ti Y_X7_soonestRow [aR 51, aI x, aI t] SH M' post := by
  have pe : ∀ a, a ∈ [6, 7, 14, 34, 35, 36, 37, 51, 52, 61, 62, 63, 64, 65, 66, 67, 68, 69] → ∀ {M2}, Ofs l M M2 → M2 a = M a := fun a ha M2 o2 => o2 a (fun z => by
    have h1 := List.all_eq_true.mp hl a ha
    simp at h1
    exact h1 z)
  have h12 : M 61 0 ≤ 12 := by have := hw.1.2.2; omega
  have p51 : M' 51 = M 51 := pe 51 (by decide) o
  have p52 : M' 52 = M 52 := pe 52 (by decide) o
  refine E_X7_soonestRow (fun _ => ?_)
  rw [p51, p52]
  refine ⟨by omega, by omega, by omega, fun y => ⟨by omega, h M' o Ofs.rf hR (fun j _ _ => Or.inl rfl) (hR x t hx.1 hx.2 ht.1 ht.2 y) y⟩, fun y => ⟨by omega, ?_⟩⟩
  generalize hM1 : ax_up M' 59 (x * 100 + t) (M 51 12) = M1
  have o1 : Ofs l M M1 := by rw [← hM1]; exact o.tr (Ofs.up (hl2 59 (by decide)))
  have o1' : Ofs [38, 58, 59] M' M1 := by rw [← hM1]; exact Ofs.up (by decide)
  have hw1 : WX M1 := by
    refine wx_of (l := l) o1 ?_ hw
    refine List.all_eq_true.mpr (fun a ha => List.all_eq_true.mp hl a ?_)
    revert a; decide
  have hP1 : Prep M1 (-1) (-1) e sl := by
    unfold Prep at hP ⊢
    rw [pe 34 (by decide) o1, pe 35 (by decide) o1, pe 36 (by decide) o1, pe 37 (by decide) o1, pe 61 (by decide) o1, pe 62 (by decide) o1, pe 63 (by decide) o1, pe 64 (by decide) o1, pe 65 (by decide) o1, pe 67 (by decide) o1, pe 69 (by decide) o1]
    exact hP
  have hso : so M1 = so M := by
    funext a b c d f g q
    unfold so gg
    rw [pe 61 (by decide) o1, pe 62 (by decide) o1, pe 63 (by decide) o1, pe 64 (by decide) o1, pe 65 (by decide) o1, pe 67 (by decide) o1, pe 69 (by decide) o1]
  have hx1 := hst x hx.1 hx.2
  refine S_X9_spread hw1 hP1 (by omega) he (by omega) ht (by rw [pe 61 (by decide) o1]; exact hx1) (fun M2 o2 hv => ?_)
  rw [hso, pe 61 (by decide) o1] at hv
  have L : ∀ (r : Nat) (j : Int) (M3 : ax_M), j + r = M 51 4 → 0 ≤ j → Of 58 M2 M3 → (∀ s, 0 ≤ s → s < j → M3 58 ((x * 100 + t) * 6 + s) = so M (-1) (-1) e sl (M 52 x) t (M 52 s)) → (∀ i, (i < (x * 100 + t) * 6 ∨ (x * 100 + t) * 6 + 6 ≤ i) → M3 58 i = M' 58 i) → ax_J Y_X7_soonestRow (ax_Ki Y_X7_soonestRow SH post) 0 0 47 [(0, aR 51), (3, aI (x * 100 + t)), (4, aI j)] [] SH M3 := by
    intro r
    induction r with
    | zero =>
      intro j M3 hj hj0 o3 hv3 hk3
      have s51 : M3 51 = M 51 := by rw [o3 51 (by decide), o2 51 (by decide)]; exact pe 51 (by decide) o1
      have oo : Ofs l M M3 := o1.tr ((o2.s (hl2 38 (by decide))).tr (o3.s (hl2 58 (by decide))))
      have oo' : Ofs [38, 58, 59] M' M3 := o1'.tr ((o2.s (by decide)).tr (o3.s (by decide)))
      have s59 : M3 59 = M1 59 := (o3 59 (by decide)).trans (o2 59 (by decide))
      have ej : j = M 51 4 := by omega
      rw [ej] at hv3
      refine B_X7_soonestRow_47 ?_
      rw [s51]
      refine ⟨fun _ => ⟨by omega, h M3 oo oo' (fun x' t' a1 a2 a3 a4 a5 s s0 s1 => ?_) (fun i i0 i1 => ?_) hv3 (by rw [s59, ← hM1, up_at])⟩, fun z => by omega⟩
      · by_cases q : x' * 100 + t' = x * 100 + t
        · have q1 : x' = x := by omega
          have q2 : t' = t := by omega
          subst q1; subst q2
          exact hv3 s s0 s1
        · rw [hk3 _ (by omega)]
          refine hR x' t' a1 a2 a3 a4 ?_ s s0 s1
          rw [s59, ← hM1, up_k, if_neg q] at a5
          exact a5
      · rw [s59, ← hM1, up_k]
        split
        · exact Or.inr rfl
        · exact Or.inl rfl
    | succ r ih =>
      intro j M3 hj hj0 o3 hv3 hk3
      have s51 : M3 51 = M 51 := by rw [o3 51 (by decide), o2 51 (by decide)]; exact pe 51 (by decide) o1
      have s52 : M3 52 = M 52 := by rw [o3 52 (by decide), o2 52 (by decide)]; exact pe 52 (by decide) o1
      have hs := hst j hj0 (by omega)
      refine B_X7_soonestRow_47 ?_
      rw [s51, s52, o3 38 (by decide), hv _ hs]
      refine ⟨fun z => by omega, fun _ => ⟨by omega, by omega, by omega, by omega, by omega, by omega, ih (j + 1) _ (by omega) (by omega) (o3.tr Of.up) (fun s s0 s1 => ?_) (fun i hi => ?_)⟩⟩
      · rw [up_k]
        by_cases q : s = j
        · rw [q, if_pos rfl]
        · rw [if_neg (by omega)]; exact hv3 s s0 (by omega)
      · rw [up_k, if_neg (by omega)]; exact hk3 i hi
  refine L (M 51 4).toNat 0 M2 (by omega) (Int.le_refl _) Of.rf (fun s a b => by omega) (fun i _ => ?_)
  rw [o2 58 (by decide), ← hM1, up_off _ _ _ (by decide)]
