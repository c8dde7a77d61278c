theorem pig {f : Int → Int} : ∀ (n : Nat) (l : List Int), l.Nodup → (∀ w ∈ l, ∃ s : Int, 0 ≤ s ∧ s < n ∧ f s = w) → l.length ≤ n
  | 0, l, _, h => by
    cases l with
    | nil => simp
    | cons a l =>
      obtain ⟨s, a, b, _⟩ := h a List.mem_cons_self
      omega
  | n + 1, l, hl, h => by
    have ih := pig n (l.erase (f n)) (hl.erase _) (fun w hw => by
      have q := hl.mem_erase_iff.mp hw
      obtain ⟨s, a, b, c⟩ := h w q.2
      refine ⟨s, a, ?_, c⟩
      rcases Int.lt_or_le s n with z | z
      · exact z
      · exact absurd (by rw [← c, show s = n by omega]) q.1)
    by_cases m : f n ∈ l
    · rw [List.length_erase_of_mem m] at ih
      omega
    · rw [List.erase_of_not_mem m] at ih
      omega
/-- before a weighing -/
def WgOk (M : ax_M) : Prop := StOk M M ∧ nb (fU M) 12 ≤ 6 ∧ (0 ≤ M 51 12 ∧ M 51 12 ≤ 2000000) ∧ ∀ j, 0 ≤ j → j < 700 → 0 ≤ M 59 j ∧ M 59 j ≤ M 51 12
/-- the places of the set X of stops -/
def Xp (M : ax_M) (X : Int) : Int → Prop := fun w => ∃ s, 0 ≤ s ∧ s < M 51 4 ∧ M 52 s = w ∧ tb X s = true
/-- the weighing of m is in b -/
def Wgd (M : ax_M) (b : Nat) (m e t A : Int) (M' : ax_M) : Prop := ∀ X, 0 ≤ X → X < 64 → (∀ s, 0 ≤ s → s < 6 → tb X s = true → tb A s = true) → Bst M e (M 74 m) (M 72 m) t (Xp M X) (M' b X)
set_option maxHeartbeats 4000000 in
set_option maxRecDepth 100000 in
theorem S_X7_weigh56 {post : ax_M → Prop} {M : ax_M} {m e t A : Int} (hw : WX M) (hc : CrewEq M) (hm : 0 ≤ m ∧ m < M 61 25) (he : -1 ≤ e ∧ e ≤ 99) (ht : 0 ≤ t ∧ t ≤ 99) (hA : 0 ≤ A ∧ A < 64) (hA2 : ∀ s, 0 ≤ s → s < 6 → tb A s = true → s < M 51 4) (hW : WgOk M) (h : ∀ M', R51 M M' → M' 51 4 = M 51 4 → (∀ s, s ≠ M 51 4 → M' 52 s = M 52 s) → M' 53 = M 53 → M' 54 = M 54 → M' 57 = M 57 → M' 51 12 = M 51 12 + 1 → (∀ j, 0 ≤ j → j < 700 → 0 ≤ M' 59 j ∧ M' 59 j ≤ M' 51 12) → Wgd M 56 m e t A M' → post M') : ax_Tv Y_X7_weigh [aR 51, aR 56, aI m, aI e, aI t, aI A] SH M post := by
  obtain ⟨⟨s4, srt, sdk⟩, n6, b12, b59⟩ := hW
  have nr := nb_rg (fU M) 12
  have gm := hc.2.1 m hm.1 hm.2
  have hb := hc.1
  have h12 : M 61 0 ≤ 12 := by have := hw.1.2.2; omega
  have stp0 : ∀ s, 0 ≤ s → s < M 51 4 → 0 ≤ M 52 s ∧ M 52 s < M 61 0 := by
    intro s a b
    have q := srt.1 s a (by omega)
    exact ⟨q.1, fU_tb hw.1 hc q.2.2 q.1⟩
  have inj : ∀ s s', 0 ≤ s → 0 ≤ s' → s < M 51 4 → s' < M 51 4 → M 52 s = M 52 s' → s = s' := by
    intro s s' a b c d q
    rcases Int.lt_or_le s s' with z | z
    · have := srt.2.1 s s' a z (by omega); omega
    · rcases Int.lt_or_le s' s with z2 | z2
      · have := srt.2.1 s' s b z2 (by omega); omega
      · omega
  refine E_X7_weigh_51_56 (fun _ => ⟨by omega, S_fill_56 ⟨by omega, ?_⟩⟩)
  generalize hMa : ax_up (ax_up (ax_up M 51 13 56) 51 14 A) 51 12 (M 51 12 + 1) = Ma
  have oa : Ofs [51] M Ma := by rw [← hMa]; exact ((Ofs.up (by decide)).tr (Ofs.up (by decide))).tr (Ofs.up (by decide))
  have a12 : Ma 51 12 = M 51 12 + 1 := by rw [← hMa]; exact up_at _ _ _ _
  have a14 : Ma 51 14 = A := by rw [← hMa, up_ne _ _ _ (by decide)]; exact up_at _ _ _ _
  have a13 : Ma 51 13 = 56 := by rw [← hMa, up_ne _ _ _ (by decide), up_ne _ _ _ (by decide)]; exact up_at _ _ _ _
  have a4 : Ma 51 4 = M 51 4 := by rw [← hMa, up_ne _ _ _ (by decide), up_ne _ _ _ (by decide), up_ne _ _ _ (by decide)]
  have ob : Ofs [51, 56] M (ax_fl Ma 56 64 (-1)) := by
    intro a ha
    rw [fl_off (fun z => ha (by rw [z]; decide))]
    exact oa a (fun z => ha (by rw [List.mem_singleton.mp z]; decide))
  have b51 : ax_fl Ma 56 64 (-1) 51 = Ma 51 := fl_off (by decide)
  have bfl : ∀ X, 0 ≤ X → X < 64 → ax_fl Ma 56 64 (-1) 56 X = -1 := fun X a b => fl_in ⟨a, b⟩
  generalize ax_fl Ma 56 64 (-1) = Mb at *
  have rb : R51 M Mb := R51.ofs ob (by decide)
  rw [ob 11 (by decide), gm.2.2.2.2.1]
  refine S_X7_findLast55 (rb.wx hw) he (fun Mc oc Pc vc => ?_)
  have rc : R51 M Mc := rb.tr (R51.ofs oc (by decide))
  have c51 : Mc 51 = Ma 51 := (oc 51 (by decide)).trans b51
  have c9 : Mc 9 m = M 72 m := by rw [rc 9 (by decide)]; exact gm.1
  rw [c51, a4, c9]
  refine ⟨by omega, by omega, ?_⟩
  generalize hMd : ax_up Mc 52 (M 51 4) (M 72 m) = Md
  have od : Ofs [52] Mc Md := by rw [← hMd]; exact Ofs.up (by decide)
  have rd : R51 M Md := rc.tr (R51.ofs od (by decide))
  have d51 : Md 51 = Ma 51 := (od 51 (by decide)).trans c51
  have c52 : Mc 52 = M 52 := (oc 52 (by decide)).trans (ob 52 (by decide))
  have dn : Md 52 (M 51 4) = M 72 m := by rw [← hMd]; exact up_at _ _ _ _
  have ds' : ∀ s, s ≠ M 51 4 → Md 52 s = M 52 s := by
    intro s q
    rw [← hMd, up_ne _ _ _ q, c52]
  have d59 : Md 59 = M 59 := (od 59 (by decide)).trans ((oc 59 (by decide)).trans (ob 59 (by decide)))
  have d55 : ∀ v, 0 ≤ v ∧ v < M 61 0 → Md 55 v = la M (-1) (-1) e (M 74 m) v (M 61 1) 99 := by
    intro v hv
    rw [od 55 (by decide), vc v (by rw [rb 61 (by decide)]; exact hv), la_u rb.u, rb 61 (by decide)]
  have d56 : ∀ X, 0 ≤ X → X < 64 → Md 56 X = -1 := by
    intro X a b
    rw [od 56 (by decide), oc 56 (by decide)]
    exact bfl X a b
  have d53 : Md 53 = M 53 := (od 53 (by decide)).trans ((oc 53 (by decide)).trans (ob 53 (by decide)))
  have d54 : Md 54 = M 54 := (od 54 (by decide)).trans ((oc 54 (by decide)).trans (ob 54 (by decide)))
  have dc : Md 57 = M 57 := (od 57 (by decide)).trans ((oc 57 (by decide)).trans (ob 57 (by decide)))
  have c55 : Mc 55 (M 72 m) = la M (-1) (-1) e (M 74 m) (M 72 m) (M 61 1) 99 := by rw [← d55 _ ⟨gm.2.1, gm.2.2.1⟩, od 55 (by decide)]
  have ru := rd.u
  refine ⟨fun y => h Md rd (by rw [d51, a4]) ds' d53 d54 dc (by rw [d51, a12]) (fun j j0 j1 => ?_) (fun X X0 X1 hXA => ?_), fun y => ?_⟩
  · rw [d59, d51, a12]
    have := b59 j j0 j1
    omega
  · rw [d56 X X0 X1]
    refine ⟨Int.le_refl _, fun l hl => ?_, Or.inl rfl⟩
    rcases (rv_rg hc e (M 74 m) l (M 72 m) t).1 with z | z
    · omega
    · exfalso
      have q := rv_up hw.1 e (M 74 m) l (M 72 m) t ht.1 z
      have q9 := so_99 (p := M 72 m) (q := M 61 1) (t := t) hw.1 (ma := -1) (me := -1) (e := e) (s := M 74 m) ht.1 ht.2
      have := (la_iff (p := M 72 m) (q := M 61 1) (b := 99) (ma := -1) (me := -1) (e := e) (s := M 74 m) hw.1 (by omega) ht.1).mpr ⟨q, q9⟩
      omega
  · have hst : ∀ s, 0 ≤ s → s ≤ Md 51 4 → 0 ≤ Md 52 s ∧ Md 52 s < Md 61 0 := by
      intro s a b
      rw [d51, a4] at b
      rw [rd 61 (by decide)]
      by_cases q : s = M 51 4
      · rw [q, dn]; exact ⟨gm.2.1, gm.2.2.1⟩
      · rw [ds' s q]; exact stp0 s a (by omega)
    have hinc : ∀ s s', 0 ≤ s → s < s' → s' < Md 51 4 → Md 52 s < Md 52 s' := by
      intro s s' a b c
      rw [d51, a4] at c
      rw [ds' s (by omega), ds' s' (by omega)]
      exact srt.2.1 s s' a b (by omega)
    have Pd : Prep Md (-1) (-1) e (M 74 m) := by
      unfold Prep at Pc ⊢
      rw [od 34 (by decide), od 35 (by decide), od 36 (by decide), od 37 (by decide), od 61 (by decide), od 62 (by decide), od 63 (by decide), od 64 (by decide), od 65 (by decide), od 67 (by decide), od 69 (by decide)]
      exact Pc
    refine S_X7_goOn56 (rd.wx hw) (rd.crew hc) Pd he (by rw [d51, a4]; omega) hst hinc (by rw [d51]; exact a13) (by rw [d51]; exact a14) hA (fun v hv => ?_) (M 51 4).toNat 11 (M 51 4) t 0 0 0 Md _ (by omega) (Int.le_refl _) (by rw [d51, a4]; omega) (by rw [d51, a4]; omega) ht (by rw [dn, d55 _ ⟨gm.2.1, gm.2.2.1⟩, ← c55]; exact y) (by omega) (fun s _ _ q => by rw [tb_0] at q; exact absurd q (by decide)) (by omega) Ofs.rf (fun x' t' a1 a2 a3 a4' a5 => ?_) (fun M2 o2 r2 k2 up2 => ?_)
    · rw [d53, d54, dk_u ru, la_u ru, rd 61 (by decide)]
      rw [rd 61 (by decide)] at hv
      exact ⟨(sdk v hv).1, (sdk v hv).2, d55 v hv⟩
    · exfalso
      rw [d51, a4] at a2
      rw [d59, d51, a12] at a5
      have := b59 (x' * 100 + t') (by omega) (by omega)
      omega
    · have p51 : M2 51 = Ma 51 := (o2 51 (by decide)).trans d51
      have p52 : M2 52 = Md 52 := o2 52 (by decide)
      refine h M2 (rd.tr (R51.ofs o2 (by decide))) (by rw [p51, a4]) (fun s q => by rw [p52]; exact ds' s q) ((o2 53 (by decide)).trans d53) ((o2 54 (by decide)).trans d54) ((o2 57 (by decide)).trans dc) (by rw [p51, a12]) (fun j j0 j1 => ?_) (fun X X0 X1 hXA => ?_)
      · rw [p51, a12]
        rcases k2 j j0 j1 with z | z
        · rw [z, d59]; have := b59 j j0 j1; omega
        · rw [z, d51, a12]; omega
      · have u := up2 X X0 X1
        rw [d56 X X0 X1] at u
        have erv : ∀ l, rv Md e (M 74 m) l (Md 52 (M 51 4)) t = rv M e (M 74 m) l (M 72 m) t := fun l => by rw [rv_u ru, dn]
        have e4 : Md 51 4 = M 51 4 := by rw [d51, a4]
        refine ⟨u.1, fun l hl => ?_, ?_⟩
        · rcases (rv_rg hc e (M 74 m) l (M 72 m) t).1 with z | z
          · omega
          · have len : l.length ≤ (M 51 4).toNat := pig (f := M 52) _ l hl.1 (fun w hw' => by
              obtain ⟨s, a, b, c, d⟩ := ((hl.2 w).mp hw').2.2
              exact ⟨s, a, by omega, c⟩)
            have q := u.2.1 l len ⟨hl.1, fun w hw' => ?_⟩ (fun s s0 s1 => ?_) (by rw [erv]; exact z)
            · rw [erv] at q; omega
            · obtain ⟨s, a, b, c, d⟩ := ((hl.2 w).mp hw').2.2
              exact ⟨s, a, by rw [e4]; exact b, by rw [ds' s (by omega)]; exact c, hXA s a (by omega) d, by rw [tb_0]; decide⟩
            · rw [tb_0, e4]
              constructor
              · intro q
                have sn := hA2 s s0 s1 (hXA s s0 s1 q)
                have g := stp0 s s0 sn
                refine Or.inr ⟨sn, ?_⟩
                rw [ds' s (by omega)]
                exact (hl.2 _).mpr ⟨g.1, g.2, s, s0, sn, rfl, q⟩
              · rintro (q | ⟨q1, q2⟩)
                · exact absurd q (by decide)
                · rw [ds' s (by omega)] at q2
                  obtain ⟨s', a, b, c, d⟩ := ((hl.2 _).mp q2).2.2
                  rw [← inj s' s a s0 b q1 c]; exact d
        · rcases u.2.2 with z | ⟨l, g1, g2, g3, g4⟩
          · exact Or.inl z
          · rw [erv] at g3 g4
            refine Or.inr ⟨l, ⟨g1.1, fun w => ?_⟩, by omega⟩
            constructor
            · intro hw'
              obtain ⟨s, a, b, c, d, _⟩ := g1.2 w hw'
              rw [e4] at b
              rw [ds' s (by omega)] at c
              have g := stp0 s a b
              refine ⟨by omega, by omega, s, a, b, c, (g2 s a (by omega)).mpr (Or.inr ⟨by rw [e4]; exact b, ?_⟩)⟩
              rw [ds' s (by omega), c]; exact hw'
            · rintro ⟨_, _, s, a, b, c, d⟩
              rcases (g2 s a (by omega)).mp d with q | q
              · rw [tb_0] at q; exact absurd q (by decide)
              · have := q.2
                rw [ds' s (by omega), c] at this
                exact this
set_option maxHeartbeats 4000000 in
set_option maxRecDepth 100000 in
theorem S_X7_weigh57 {post : ax_M → Prop} {M : ax_M} {m e t A : Int} (hw : WX M) (hc : CrewEq M) (hm : 0 ≤ m ∧ m < M 61 25) (he : -1 ≤ e ∧ e ≤ 99) (ht : 0 ≤ t ∧ t ≤ 99) (hA : 0 ≤ A ∧ A < 64) (hA2 : ∀ s, 0 ≤ s → s < 6 → tb A s = true → s < M 51 4) (hW : WgOk M) (h : ∀ M', R51 M M' → M' 51 4 = M 51 4 → (∀ s, s ≠ M 51 4 → M' 52 s = M 52 s) → M' 53 = M 53 → M' 54 = M 54 → M' 56 = M 56 → M' 51 12 = M 51 12 + 1 → (∀ j, 0 ≤ j → j < 700 → 0 ≤ M' 59 j ∧ M' 59 j ≤ M' 51 12) → Wgd M 57 m e t A M' → post M') : ax_Tv Y_X7_weigh [aR 51, aR 57, aI m, aI e, aI t, aI A] SH M post := by
  obtain ⟨⟨s4, srt, sdk⟩, n6, b12, b59⟩ := hW
  have nr := nb_rg (fU M) 12
  have gm := hc.2.1 m hm.1 hm.2
  have hb := hc.1
  have h12 : M 61 0 ≤ 12 := by have := hw.1.2.2; omega
  have stp0 : ∀ s, 0 ≤ s → s < M 51 4 → 0 ≤ M 52 s ∧ M 52 s < M 61 0 := by
    intro s a b
    have q := srt.1 s a (by omega)
    exact ⟨q.1, fU_tb hw.1 hc q.2.2 q.1⟩
  have inj : ∀ s s', 0 ≤ s → 0 ≤ s' → s < M 51 4 → s' < M 51 4 → M 52 s = M 52 s' → s = s' := by
    intro s s' a b c d q
    rcases Int.lt_or_le s s' with z | z
    · have := srt.2.1 s s' a z (by omega); omega
    · rcases Int.lt_or_le s' s with z2 | z2
      · have := srt.2.1 s' s b z2 (by omega); omega
      · omega
  refine E_X7_weigh_51_57 (fun _ => ⟨by omega, S_fill_57 ⟨by omega, ?_⟩⟩)
  generalize hMa : ax_up (ax_up (ax_up M 51 13 57) 51 14 A) 51 12 (M 51 12 + 1) = Ma
  have oa : Ofs [51] M Ma := by rw [← hMa]; exact ((Ofs.up (by decide)).tr (Ofs.up (by decide))).tr (Ofs.up (by decide))
  have a12 : Ma 51 12 = M 51 12 + 1 := by rw [← hMa]; exact up_at _ _ _ _
  have a14 : Ma 51 14 = A := by rw [← hMa, up_ne _ _ _ (by decide)]; exact up_at _ _ _ _
  have a13 : Ma 51 13 = 57 := by rw [← hMa, up_ne _ _ _ (by decide), up_ne _ _ _ (by decide)]; exact up_at _ _ _ _
  have a4 : Ma 51 4 = M 51 4 := by rw [← hMa, up_ne _ _ _ (by decide), up_ne _ _ _ (by decide), up_ne _ _ _ (by decide)]
  have ob : Ofs [51, 57] M (ax_fl Ma 57 64 (-1)) := by
    intro a ha
    rw [fl_off (fun z => ha (by rw [z]; decide))]
    exact oa a (fun z => ha (by rw [List.mem_singleton.mp z]; decide))
  have b51 : ax_fl Ma 57 64 (-1) 51 = Ma 51 := fl_off (by decide)
  have bfl : ∀ X, 0 ≤ X → X < 64 → ax_fl Ma 57 64 (-1) 57 X = -1 := fun X a b => fl_in ⟨a, b⟩
  generalize ax_fl Ma 57 64 (-1) = Mb at *
  have rb : R51 M Mb := R51.ofs ob (by decide)
  rw [ob 11 (by decide), gm.2.2.2.2.1]
  refine S_X7_findLast55 (rb.wx hw) he (fun Mc oc Pc vc => ?_)
  have rc : R51 M Mc := rb.tr (R51.ofs oc (by decide))
  have c51 : Mc 51 = Ma 51 := (oc 51 (by decide)).trans b51
  have c9 : Mc 9 m = M 72 m := by rw [rc 9 (by decide)]; exact gm.1
  rw [c51, a4, c9]
  refine ⟨by omega, by omega, ?_⟩
  generalize hMd : ax_up Mc 52 (M 51 4) (M 72 m) = Md
  have od : Ofs [52] Mc Md := by rw [← hMd]; exact Ofs.up (by decide)
  have rd : R51 M Md := rc.tr (R51.ofs od (by decide))
  have d51 : Md 51 = Ma 51 := (od 51 (by decide)).trans c51
  have c52 : Mc 52 = M 52 := (oc 52 (by decide)).trans (ob 52 (by decide))
  have dn : Md 52 (M 51 4) = M 72 m := by rw [← hMd]; exact up_at _ _ _ _
  have ds' : ∀ s, s ≠ M 51 4 → Md 52 s = M 52 s := by
    intro s q
    rw [← hMd, up_ne _ _ _ q, c52]
  have d59 : Md 59 = M 59 := (od 59 (by decide)).trans ((oc 59 (by decide)).trans (ob 59 (by decide)))
  have d55 : ∀ v, 0 ≤ v ∧ v < M 61 0 → Md 55 v = la M (-1) (-1) e (M 74 m) v (M 61 1) 99 := by
    intro v hv
    rw [od 55 (by decide), vc v (by rw [rb 61 (by decide)]; exact hv), la_u rb.u, rb 61 (by decide)]
  have d56 : ∀ X, 0 ≤ X → X < 64 → Md 57 X = -1 := by
    intro X a b
    rw [od 57 (by decide), oc 57 (by decide)]
    exact bfl X a b
  have d53 : Md 53 = M 53 := (od 53 (by decide)).trans ((oc 53 (by decide)).trans (ob 53 (by decide)))
  have d54 : Md 54 = M 54 := (od 54 (by decide)).trans ((oc 54 (by decide)).trans (ob 54 (by decide)))
  have dc : Md 56 = M 56 := (od 56 (by decide)).trans ((oc 56 (by decide)).trans (ob 56 (by decide)))
  have c55 : Mc 55 (M 72 m) = la M (-1) (-1) e (M 74 m) (M 72 m) (M 61 1) 99 := by rw [← d55 _ ⟨gm.2.1, gm.2.2.1⟩, od 55 (by decide)]
  have ru := rd.u
  refine ⟨fun y => h Md rd (by rw [d51, a4]) ds' d53 d54 dc (by rw [d51, a12]) (fun j j0 j1 => ?_) (fun X X0 X1 hXA => ?_), fun y => ?_⟩
  · rw [d59, d51, a12]
    have := b59 j j0 j1
    omega
  · rw [d56 X X0 X1]
    refine ⟨Int.le_refl _, fun l hl => ?_, Or.inl rfl⟩
    rcases (rv_rg hc e (M 74 m) l (M 72 m) t).1 with z | z
    · omega
    · exfalso
      have q := rv_up hw.1 e (M 74 m) l (M 72 m) t ht.1 z
      have q9 := so_99 (p := M 72 m) (q := M 61 1) (t := t) hw.1 (ma := -1) (me := -1) (e := e) (s := M 74 m) ht.1 ht.2
      have := (la_iff (p := M 72 m) (q := M 61 1) (b := 99) (ma := -1) (me := -1) (e := e) (s := M 74 m) hw.1 (by omega) ht.1).mpr ⟨q, q9⟩
      omega
  · have hst : ∀ s, 0 ≤ s → s ≤ Md 51 4 → 0 ≤ Md 52 s ∧ Md 52 s < Md 61 0 := by
      intro s a b
      rw [d51, a4] at b
      rw [rd 61 (by decide)]
      by_cases q : s = M 51 4
      · rw [q, dn]; exact ⟨gm.2.1, gm.2.2.1⟩
      · rw [ds' s q]; exact stp0 s a (by omega)
    have hinc : ∀ s s', 0 ≤ s → s < s' → s' < Md 51 4 → Md 52 s < Md 52 s' := by
      intro s s' a b c
      rw [d51, a4] at c
      rw [ds' s (by omega), ds' s' (by omega)]
      exact srt.2.1 s s' a b (by omega)
    have Pd : Prep Md (-1) (-1) e (M 74 m) := by
      unfold Prep at Pc ⊢
      rw [od 34 (by decide), od 35 (by decide), od 36 (by decide), od 37 (by decide), od 61 (by decide), od 62 (by decide), od 63 (by decide), od 64 (by decide), od 65 (by decide), od 67 (by decide), od 69 (by decide)]
      exact Pc
    refine S_X7_goOn57 (rd.wx hw) (rd.crew hc) Pd he (by rw [d51, a4]; omega) hst hinc (by rw [d51]; exact a13) (by rw [d51]; exact a14) hA (fun v hv => ?_) (M 51 4).toNat 11 (M 51 4) t 0 0 0 Md _ (by omega) (Int.le_refl _) (by rw [d51, a4]; omega) (by rw [d51, a4]; omega) ht (by rw [dn, d55 _ ⟨gm.2.1, gm.2.2.1⟩, ← c55]; exact y) (by omega) (fun s _ _ q => by rw [tb_0] at q; exact absurd q (by decide)) (by omega) Ofs.rf (fun x' t' a1 a2 a3 a4' a5 => ?_) (fun M2 o2 r2 k2 up2 => ?_)
    · rw [d53, d54, dk_u ru, la_u ru, rd 61 (by decide)]
      rw [rd 61 (by decide)] at hv
      exact ⟨(sdk v hv).1, (sdk v hv).2, d55 v hv⟩
    · exfalso
      rw [d51, a4] at a2
      rw [d59, d51, a12] at a5
      have := b59 (x' * 100 + t') (by omega) (by omega)
      omega
    · have p51 : M2 51 = Ma 51 := (o2 51 (by decide)).trans d51
      have p52 : M2 52 = Md 52 := o2 52 (by decide)
      refine h M2 (rd.tr (R51.ofs o2 (by decide))) (by rw [p51, a4]) (fun s q => by rw [p52]; exact ds' s q) ((o2 53 (by decide)).trans d53) ((o2 54 (by decide)).trans d54) ((o2 56 (by decide)).trans dc) (by rw [p51, a12]) (fun j j0 j1 => ?_) (fun X X0 X1 hXA => ?_)
      · rw [p51, a12]
        rcases k2 j j0 j1 with z | z
        · rw [z, d59]; have := b59 j j0 j1; omega
        · rw [z, d51, a12]; omega
      · have u := up2 X X0 X1
        rw [d56 X X0 X1] at u
        have erv : ∀ l, rv Md e (M 74 m) l (Md 52 (M 51 4)) t = rv M e (M 74 m) l (M 72 m) t := fun l => by rw [rv_u ru, dn]
        have e4 : Md 51 4 = M 51 4 := by rw [d51, a4]
        refine ⟨u.1, fun l hl => ?_, ?_⟩
        · rcases (rv_rg hc e (M 74 m) l (M 72 m) t).1 with z | z
          · omega
          · have len : l.length ≤ (M 51 4).toNat := pig (f := M 52) _ l hl.1 (fun w hw' => by
              obtain ⟨s, a, b, c, d⟩ := ((hl.2 w).mp hw').2.2
              exact ⟨s, a, by omega, c⟩)
            have q := u.2.1 l len ⟨hl.1, fun w hw' => ?_⟩ (fun s s0 s1 => ?_) (by rw [erv]; exact z)
            · rw [erv] at q; omega
            · obtain ⟨s, a, b, c, d⟩ := ((hl.2 w).mp hw').2.2
              exact ⟨s, a, by rw [e4]; exact b, by rw [ds' s (by omega)]; exact c, hXA s a (by omega) d, by rw [tb_0]; decide⟩
            · rw [tb_0, e4]
              constructor
              · intro q
                have sn := hA2 s s0 s1 (hXA s s0 s1 q)
                have g := stp0 s s0 sn
                refine Or.inr ⟨sn, ?_⟩
                rw [ds' s (by omega)]
                exact (hl.2 _).mpr ⟨g.1, g.2, s, s0, sn, rfl, q⟩
              · rintro (q | ⟨q1, q2⟩)
                · exact absurd q (by decide)
                · rw [ds' s (by omega)] at q2
                  obtain ⟨s', a, b, c, d⟩ := ((hl.2 _).mp q2).2.2
                  rw [← inj s' s a s0 b q1 c]; exact d
        · rcases u.2.2 with z | ⟨l, g1, g2, g3, g4⟩
          · exact Or.inl z
          · rw [erv] at g3 g4
            refine Or.inr ⟨l, ⟨g1.1, fun w => ?_⟩, by omega⟩
            constructor
            · intro hw'
              obtain ⟨s, a, b, c, d, _⟩ := g1.2 w hw'
              rw [e4] at b
              rw [ds' s (by omega)] at c
              have g := stp0 s a b
              refine ⟨by omega, by omega, s, a, b, c, (g2 s a (by omega)).mpr (Or.inr ⟨by rw [e4]; exact b, ?_⟩)⟩
              rw [ds' s (by omega), c]; exact hw'
            · rintro ⟨_, _, s, a, b, c, d⟩
              rcases (g2 s a (by omega)).mp d with q | q
              · rw [tb_0] at q; exact absurd q (by decide)
              · have := q.2
                rw [ds' s (by omega), c] at this
                exact this
