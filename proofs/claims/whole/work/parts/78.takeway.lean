theorem wm_c {X : Int → Int} {N i k : Int} (h : sk X N i = sk X N k) (w : Nat) : wm X N i w = wm X N k w := by
  unfold wm
  rw [h]
theorem sF_c {X : Int → Int} {N i k : Int} (h : sk X N i = sk X N k) : sF X N i = sF X N k ∧ sE X N i = sE X N k := by
  unfold sF sE isS'
  rw [h]
  exact ⟨rfl, rfl⟩
theorem sF_01 (X : Int → Int) (N i : Int) : sF X N i = 0 ∨ sF X N i = 1 := by
  unfold sF
  split <;> omega
section CLS
variable {X : Int → Int} {N P : Int} {M0 M' : ax_M}
set_option maxHeartbeats 4000000 in
set_option maxRecDepth 100000 in
theorem S_X11_takeOut {post : Int → ax_M → Prop} {st p0 sh li w : Int} {tb : Int → Int} (hT : TR X N M0) (hP : 0 ≤ P ∧ P ≤ 999) (hs : RSt N M0 M' P ((0, -1), st, sh, li, w, tb)) (hp : M' 61 17 = p0) (hpr : 0 ≤ p0 ∧ p0 ≤ N) (hsh : sh = -1 ∨ 0 ≤ sh) (h : ∀ M2 f, Oc N M0 M2 P (rOut X N P st p0 sh li w tb) f → post f M2) : ax_Ti Y_X11_takeOut [aR 61] SH M' post := by
  obtain ⟨hQ, e14, e15, e20, e21, e22, e23, e71⟩ := hs
  have e21' : M' 61 21 = sh := e21
  have e15' : M' 61 15 = st := e15
  have r1 := nE_rg (X := X) hpr.2
  have r2 := nE_rg (X := X) r1.2.2
  refine E_X11_takeOut (fun _ => ?_)
  rw [e21', e20, hp]
  refine ⟨fun y => ⟨by omega, ?_⟩, fun y => h _ 3 ?_⟩
  · have z : sh = -1 := by omega
    have ro : rOut X N P st p0 sh li w tb = (bl (bl (bl (0, -1) (nF X N p0 0 (P - 1)) (nP X N p0)) (nF X N (nE X N p0) 1 9) (nP X N (nE X N p0))) (sF X N (nE X N (nE X N p0))) (sk X N (nE X N (nE X N p0))), sE X N (nE X N (nE X N p0)), nV X N p0, nV X N (nE X N p0), w, tb) := by unfold rOut; rw [if_pos z]
    rw [ro] at h
    have Q1 := hQ.u (i := 15) (v := p0) (by omega)
    refine S_X11_takeNumber hT Q1 (up_at _ _ _ _) hpr (fun f M1 e1 g14 g15 g18 g19 => ⟨fun _ => ?_, fun q => by omega⟩) (fun f M1 e1 g14 => ?_)
    · have Q2 := E61.q Q1 e1 (by decide)
      rw [f, bl_z] at h
      refine S_X11_takeNumber hT Q2 g15 (by omega) (fun f2 M2 e2 k14 k15 k18 k19 => ⟨fun _ => ?_, fun q => by omega⟩) (fun f2 M2 e2 k14 => ?_)
      · rw [f2, bl_z] at h
        have Q3 := ((E61.q Q2 e2 (by decide)).u (i := 21) (v := M1 61 18) (by omega)).u (i := 22) (v := M2 61 18) (by omega)
        refine S_X11_takeStop (i := nE X N (nE X N p0)) hT Q3 (by rw [up_ne _ _ _ (by decide), up_ne _ _ _ (by decide)]; exact k15) (by omega) (fun f3 M3 e3 l14 l15 => h M3 0 ?_) (fun f3 M3 e3 l14 => h M3 1 ?_)
        · rw [f3, bl_z]
          refine ⟨rfl, fun q => absurd rfl q, fun _ => ⟨E61.q Q3 e3 (by decide), ?_, l15, ?_, ?_, fun _ => ?_, ?_, fun x x0 x1 => ?_⟩⟩
          · rw [l14, up_ne _ _ _ (by decide), up_ne _ _ _ (by decide), k14, g14, up_ne _ _ _ (by decide)]; exact e14
          · rw [e3.2 20 (by decide), up_ne _ _ _ (by decide), up_ne _ _ _ (by decide), e2.2 20 (by decide), e1.2 20 (by decide), up_ne _ _ _ (by decide)]; exact e20
          · rw [e3.2 21 (by decide), up_ne _ _ _ (by decide), up_at, g18]
          · rw [e3.2 22 (by decide), up_at, k18]
          · rw [e3.2 23 (by decide), up_ne _ _ _ (by decide), up_ne _ _ _ (by decide), e2.2 23 (by decide), e1.2 23 (by decide), up_ne _ _ _ (by decide)]; exact e23
          · rw [e3.1 71 (by decide), up_off _ _ _ (by decide), up_off _ _ _ (by decide), e2.1 71 (by decide), e1.1 71 (by decide), up_off _ _ _ (by decide)]; exact e71 x x0 x1
        · rw [f3, bl_g (by decide)]
          exact ⟨rfl, fun _ => ⟨E61.q Q3 e3 (by decide), l14⟩, fun q => absurd (show (1 : Int) = 0 from q) (by decide)⟩
      · have f12 := nF_012 X N (nE X N p0) 1 9
        have Q3 := ((E61.q Q2 e2 (by decide)).u (i := 21) (v := M1 61 18) (by omega)).u (i := 22) (v := M2 61 18) (by omega)
        refine ⟨fun q => by omega, fun _ => h _ _ ?_⟩
        rw [bl_g f2, bl_n (show ¬ nF X N (nE X N p0) 1 9 = 0 from f2)]
        exact ⟨rfl, fun _ => ⟨Q3, by rw [up_ne _ _ _ (by decide), up_ne _ _ _ (by decide)]; exact k14⟩, fun q => absurd q f2⟩
    · have f12 := nF_012 X N p0 0 (P - 1)
      have Q2 := ((E61.q Q1 e1 (by decide)).u (i := 21) (v := M1 61 18) (by omega)).u (i := 22) (v := M1 61 18) (by omega)
      refine ⟨fun q => by omega, fun _ => h _ _ ?_⟩
      rw [bl_g f, bl_n (a := (nF X N p0 0 (P - 1), nP X N p0)) f, bl_n (a := (nF X N p0 0 (P - 1), nP X N p0)) f]
      exact ⟨rfl, fun _ => ⟨Q2, by rw [up_ne _ _ _ (by decide), up_ne _ _ _ (by decide)]; exact g14⟩, fun q => absurd q f⟩
  · have z : ¬ sh = -1 := by omega
    unfold rOut
    rw [if_neg z]
    exact ⟨rfl, fun _ => ⟨hQ.u (by omega), by rw [up_at]; exact e15'⟩, fun q => absurd (show (3 : Int) = 0 from q) (by decide)⟩
theorem S_X11_wordOf {post : Int → ax_M → Prop} {M : ax_M} {i : Int} (hi : i ≤ N) (e16 : M 61 16 = sdv X (sk X N i) (lt X N (sk X N i) - sk X N i).toNat) (h3 : wm X N i 3 = true → post 3 M) (h4 : wm X N i 4 = true → post 4 M) (h5 : wm X N i 5 = true → post 5 M) (h6 : wm X N i 6 = true → post 6 M) (hn : wm X N i 3 = false → wm X N i 4 = false → wm X N i 5 = false → wm X N i 6 = false → post (-1) M) : ax_Ti Y_X11_wordOf [aR 61] SH M post := by
  have w3 : sdv X (sk X N i) (lt X N (sk X N i) - sk X N i).toNat = 79958 ↔ wm X N i 3 = true := by rw [← said_iff (w := 3) (by decide) hi]; rw [show wcd 3 (ax_len.getD 3 0) = 79958 from wcd_v.2.2.2.1]
  have w4 : sdv X (sk X N i) (lt X N (sk X N i) - sk X N i).toNat = 459383 ↔ wm X N i 4 = true := by rw [← said_iff (w := 4) (by decide) hi]; rw [show wcd 4 (ax_len.getD 4 0) = 459383 from wcd_v.2.2.2.2.1]
  have w5 : sdv X (sk X N i) (lt X N (sk X N i) - sk X N i).toNat = 3374884 ↔ wm X N i 5 = true := by rw [← said_iff (w := 5) (by decide) hi]; rw [show wcd 5 (ax_len.getD 5 0) = 3374884 from wcd_v.2.2.2.2.2.1]
  have w6 : sdv X (sk X N i) (lt X N (sk X N i) - sk X N i).toNat = 1489 ↔ wm X N i 6 = true := by rw [← said_iff (w := 6) (by decide) hi]; rw [show wcd 6 (ax_len.getD 6 0) = 1489 from wcd_v.2.2.2.2.2.2]
  have nf : ∀ {b : Bool}, ¬ b = true → b = false := fun {b} q => by cases b <;> simp at q ⊢
  refine E_X11_wordOf (fun _ => ?_)
  rw [e16, w3, w4, w5, w6]
  exact ⟨fun n3 => ⟨fun n4 => ⟨fun n5 => ⟨fun n6 => hn (nf n3) (nf n4) (nf n5) (nf n6), h6⟩, h5⟩, h4⟩, h3⟩
/-- the reference in a way's clause -/
def SW (X : Int → Int) (N : Int) (M0 M' : ax_M) (P p0 sh li w : Int) (tb : Int → Int) (d3 d4 d5 d6 : Int) : Prop := (Q61 M0 M' ∧ M' 61 14 = -1 ∧ M' 61 20 = P ∧ M' 61 21 = sh ∧ (¬ sh = -1 → M' 61 22 = li) ∧ M' 61 23 = w) ∧ (∀ x, 0 ≤ x → x < 7 * w → M' 71 x = tb x) ∧ (M' 71 (7 * w) = nV X N p0 ∧ M' 71 (7 * w + 1) = nV X N (y1 X N p0) ∧ M' 71 (7 * w + 2) = nV X N (y2 X N p0)) ∧ M' 71 (7 * w + 3) = d3 ∧ M' 71 (7 * w + 4) = d4 ∧ M' 71 (7 * w + 5) = d5 ∧ M' 71 (7 * w + 6) = d6
theorem SW.e {M1 : ax_M} {p0 sh li w d3 d4 d5 d6 : Int} {tb : Int → Int} {l : List Int} (h : SW X N M0 M' P p0 sh li w tb d3 d4 d5 d6) (e : E61 l M' M1) (e14 : M1 61 14 = -1) (hl : ∀ i ∈ l, 14 ≤ i ∧ i ≤ 19) : SW X N M0 M1 P p0 sh li w tb d3 d4 d5 d6 := by
  obtain ⟨⟨q, a, b, c, d, f⟩, g⟩ := h
  have no : ∀ i : Int, 20 ≤ i → i ∉ l := fun i hi z => by have := hl i z; omega
  refine ⟨⟨E61.q q e (fun i z => by have := hl i z; omega), e14, by rw [e.2 20 (no 20 (by omega))]; exact b, by rw [e.2 21 (no 21 (by omega))]; exact c, fun z => by rw [e.2 22 (no 22 (by omega))]; exact d z, by rw [e.2 23 (no 23 (by omega))]; exact f⟩, ?_⟩
  rw [e.1 71 (by decide)]
  exact g
set_option maxHeartbeats 4000000 in
set_option maxRecDepth 100000 in
theorem S_X11_takeWay {post : Int → ax_M → Prop} {st p0 sh li w : Int} {tb : Int → Int} (hT : TR X N M0) (hP : 0 ≤ P ∧ P ≤ 999) (hw : 0 ≤ w ∧ w ≤ 24) (hs : RSt N M0 M' P ((0, -1), st, sh, li, w, tb)) (hp : M' 61 17 = p0) (hpr : 0 ≤ p0 ∧ p0 ≤ N) (h : ∀ M2 f, Oc N M0 M2 P (rWay X N P st p0 sh li w tb) f → post f M2) : ax_Ti Y_X11_takeWay [aR 61] SH M' post := by
  obtain ⟨hQ, e14, e15, e20, e21, e22, e23, e71⟩ := hs
  have e23' : M' 61 23 = w := e23
  have e15' : M' 61 15 = st := e15
  have N4 := hT.2.2.1
  have r := y_rg (X := X) hpr.2
  refine E_X11_takeWay (fun _ => ?_)
  rw [e23', e20, hp]
  refine ⟨fun y => ⟨by omega, by omega, ?_⟩, fun y => h _ 4 ?_⟩
  · have w24 : w < 24 := by omega
    have ro : rWay X N P st p0 sh li w tb = (a9_ X N P p0, sE X N (y7 X N p0), sh, li, w + 1, wT X N p0 w tb) := by unfold rWay; rw [if_pos w24]
    rw [ro] at h
    -- a fault
    have J310 : ∀ (M1 : ax_M) (f q : Int), 0 < f → Q61 M0 M1 → M1 61 23 = w → M1 61 14 = q → a9_ X N P p0 = (f, q) → ax_J Y_X11_takeWay (ax_Ki Y_X11_takeWay SH post) 0 0 310 [(0, aR 61), (2, aI f)] [] SH M1 := by
      intro M1 f q hf Q1 k23 k14 e
      refine B_X11_takeWay_310 ?_
      rw [k23]
      refine ⟨by omega, fun z => by omega, fun _ => h _ f ?_⟩
      rw [e]
      exact ⟨rfl, fun _ => ⟨Q1.u (by omega), by rw [up_ne _ _ _ (by decide)]; exact k14⟩, fun z => absurd z (show ¬ f = 0 by omega)⟩
    have J185f : ∀ (M1 : ax_M) (f q x3 : Int), 0 < f → Q61 M0 M1 → M1 61 23 = w → M1 61 14 = q → a9_ X N P p0 = (f, q) → ax_J Y_X11_takeWay (ax_Ki Y_X11_takeWay SH post) 0 0 185 [(0, aR 61), (1, aI (7 * w)), (2, aI f), (3, aI x3)] [] SH M1 := by
      intro M1 f q x3 hf Q1 k23 k14 e
      exact B_X11_takeWay_185 ⟨fun _ => J310 M1 f q hf Q1 k23 k14 e, fun z => by omega⟩
    have J131f : ∀ (M1 : ax_M) (f q : Int), 0 < f → Q61 M0 M1 → M1 61 23 = w → M1 61 14 = q → a9_ X N P p0 = (f, q) → ax_J Y_X11_takeWay (ax_Ki Y_X11_takeWay SH post) 0 0 131 [(0, aR 61), (1, aI (7 * w))] [aI f] SH M1 := by
      intro M1 f q hf Q1 k23 k14 e
      refine B_X11_takeWay_131 ⟨by omega, by omega, by omega, by omega, by omega, by omega, by omega, by omega, by omega, by omega, J185f _ f q 2 hf Q1.t.t.t.t.t ?_ ?_ e⟩
      · rw [up_off _ _ _ (by decide), up_off _ _ _ (by decide), up_off _ _ _ (by decide), up_off _ _ _ (by decide), up_off _ _ _ (by decide)]; exact k23
      · rw [up_off _ _ _ (by decide), up_off _ _ _ (by decide), up_off _ _ _ (by decide), up_off _ _ _ (by decide), up_off _ _ _ (by decide)]; exact k14
    have J104f : ∀ (M1 : ax_M) (f q : Int), 0 < f → Q61 M0 M1 → M1 61 23 = w → M1 61 14 = q → a9_ X N P p0 = (f, q) → ax_J Y_X11_takeWay (ax_Ki Y_X11_takeWay SH post) 0 0 104 [(0, aR 61), (1, aI (7 * w)), (2, aI f)] [] SH M1 := by
      intro M1 f q hf Q1 k23 k14 e
      refine B_X11_takeWay_104 ⟨by omega, by omega, fun z => by omega, fun _ => J131f _ f q hf Q1.t ?_ ?_ e⟩
      · rw [up_off _ _ _ (by decide)]; exact k23
      · rw [up_off _ _ _ (by decide)]; exact k14
    have J76f : ∀ (M1 : ax_M) (f q : Int), 0 < f → Q61 M0 M1 → M1 61 23 = w → M1 61 14 = q → a9_ X N P p0 = (f, q) → ax_J Y_X11_takeWay (ax_Ki Y_X11_takeWay SH post) 0 0 76 [(0, aR 61), (1, aI (7 * w))] [aI f] SH M1 := by
      intro M1 f q hf Q1 k23 k14 e
      exact B_X11_takeWay_76 ⟨fun _ => J104f M1 f q hf Q1 k23 k14 e, fun z => by omega⟩
    -- the first fault stays
    have c8 : ∀ f q : Int, ¬ f = 0 → a8_ X N P p0 = (f, q) → a9_ X N P p0 = (f, q) := fun f q z e => by unfold a9_; rw [e, bl_n z]
    have c7 : ∀ f q : Int, ¬ f = 0 → a7_ X N P p0 = (f, q) → a9_ X N P p0 = (f, q) := fun f q z e => c8 f q z (by unfold a8_; rw [e, bl_n z])
    have c6 : ∀ f q : Int, ¬ f = 0 → a6_ X N P p0 = (f, q) → a9_ X N P p0 = (f, q) := fun f q z e => c7 f q z (by unfold a7_; rw [e, bl_n z])
    have c5 : ∀ f q : Int, ¬ f = 0 → a5_ X N P p0 = (f, q) → a9_ X N P p0 = (f, q) := fun f q z e => c6 f q z (by unfold a6_; rw [e, bl_n z])
    have c4 : ∀ f q : Int, ¬ f = 0 → a4_ X N P p0 = (f, q) → a9_ X N P p0 = (f, q) := fun f q z e => c5 f q z (by unfold a5_; rw [e, bl_n z])
    have c3 : ∀ f q : Int, ¬ f = 0 → a3_ X N P p0 = (f, q) → a9_ X N P p0 = (f, q) := fun f q z e => c4 f q z (by unfold a4_; rw [e, bl_n z])
    have c2 : ∀ f q : Int, ¬ f = 0 → a2_ X N P p0 = (f, q) → a9_ X N P p0 = (f, q) := fun f q z e => c3 f q z (by unfold a3_; rw [e, bl_n z])
    have c1 : ∀ f q : Int, ¬ f = 0 → a1_ X N P p0 = (f, q) → a9_ X N P p0 = (f, q) := fun f q z e => c2 f q z (by unfold a2_; rw [e, bl_n z])
    -- behind all words
    have K6 : ∀ (M1 : ax_M) (i last : Int), SW X N M0 M1 P p0 sh li w tb (oV X N (y3 X N p0) 3 (-1)) (oV X N (y4 X N p0) 4 9) (oV X N (y5 X N p0) 5 99) (oV X N (y6 X N p0) 6 0) → M1 61 15 = i → 0 ≤ i ∧ i ≤ N → sk X N i = sk X N (y7 X N p0) → 2 ≤ last ∧ last ≤ 6 → (last < 3 → wm X N i 3 = false) ∧ (last < 4 → wm X N i 4 = false) ∧ (last < 5 → wm X N i 5 = false) ∧ (last < 6 → wm X N i 6 = false) → a8_ X N P p0 = (0, -1) → ax_J Y_X11_takeWay (ax_Ki Y_X11_takeWay SH post) 0 0 185 [(0, aR 61), (1, aI (7 * w)), (2, aI 0), (3, aI last)] [] SH M1 := by
      intro M1 i last S1 k15 ir es hl hno ha
      have s1 := sk_ge X N i
      have s2 := sk_le (X := X) ir.2
      have e9 : a9_ X N P p0 = bl (0, -1) (sF X N (y7 X N p0)) (sk X N (y7 X N p0)) := by unfold a9_; rw [ha]
      have Q1 := S1.1.1
      refine B_X11_takeWay_185 ⟨fun z => absurd rfl z, fun _ => S_X11_here hT Q1 k15 ir ?_⟩
      have S2 := S1.e (E61.up (i := 15) (v := sk X N i) (l := [15]) (by decide)) (by rw [up_ne _ _ _ (by decide)]; exact S1.1.2.1) (by decide)
      refine ⟨fun z => ?_, fun z => ?_⟩
      · have is : isS' X N i := by
          by_cases q : sk X N i < N
          · rw [if_pos q] at z; exact ⟨q, z⟩
          · rw [if_neg q] at z; exact absurd z (by decide)
        refine B_X11_takeWay_310 ?_
        rw [up_ne _ _ _ (by decide), S1.1.2.2.2.2.2]
        refine ⟨by omega, fun _ => ?_, fun q => absurd q (by decide)⟩
        have Q3 := S2.1.1.u (i := 23) (v := w + 1) (by omega)
        refine S_X11_takeStop (i := sk X N i) hT Q3 (by rw [up_ne _ _ _ (by decide), up_at]) (by omega) (fun f3 M3 e3 l14 l15 => h M3 0 ?_) (fun f3 M3 e3 l14 => ?_)
        · have sc := sF_c (X := X) (N := N) (i := sk X N i) (k := y7 X N p0) (by rw [sk_sk]; exact es)
          rw [sc.1] at f3
          rw [e9, f3, bl_z]
          refine ⟨rfl, fun q => absurd rfl q, fun _ => ⟨E61.q Q3 e3 (by decide), ?_, by rw [l15, sc.2], ?_, ?_, fun z => ?_, ?_, fun x x0 x1 => ?_⟩⟩
          · rw [l14, up_ne _ _ _ (by decide)]; exact S2.1.2.1
          · rw [e3.2 20 (by decide), up_ne _ _ _ (by decide)]; exact S2.1.2.2.1
          · rw [e3.2 21 (by decide), up_ne _ _ _ (by decide)]; exact S2.1.2.2.2.1
          · rw [e3.2 22 (by decide), up_ne _ _ _ (by decide)]; exact S2.1.2.2.2.2.1 z
          · rw [e3.2 23 (by decide), up_at]
          · have x1' : x < 7 * (w + 1) := x1
            show M3 71 x = wT X N p0 w tb x
            rw [e3.1 71 (by decide), up_off _ _ _ (by decide)]
            rcases Int.lt_or_le x (7 * w) with q | q
            · rw [wT_lo (by omega)]; exact S2.2.1 x x0 q
            · have t := wT_at (X := X) (N := N) (p := p0) (w := w) (tb := tb)
              have cs : x = 7 * w ∨ x = 7 * w + 1 ∨ x = 7 * w + 2 ∨ x = 7 * w + 3 ∨ x = 7 * w + 4 ∨ x = 7 * w + 5 ∨ x = 7 * w + 6 := by omega
              rcases cs with e | e | e | e | e | e | e
              · rw [e, S2.2.2.1.1, ← t.1, show w * 7 + 0 = 7 * w by omega]
              · rw [e, S2.2.2.1.2.1, ← t.2.1, show w * 7 + 1 = 7 * w + 1 by omega]
              · rw [e, S2.2.2.1.2.2, ← t.2.2.1, show w * 7 + 2 = 7 * w + 2 by omega]
              · rw [e, S2.2.2.2.1, ← t.2.2.2.1, show w * 7 + 3 = 7 * w + 3 by omega]
              · rw [e, S2.2.2.2.2.1, ← t.2.2.2.2.1, show w * 7 + 4 = 7 * w + 4 by omega]
              · rw [e, S2.2.2.2.2.2.1, ← t.2.2.2.2.2.1, show w * 7 + 5 = 7 * w + 5 by omega]
              · rw [e, S2.2.2.2.2.2.2, ← t.2.2.2.2.2.2, show w * 7 + 6 = 7 * w + 6 by omega]
        · exfalso
          have sc := sF_c (X := X) (N := N) (i := sk X N i) (k := i) (by rw [sk_sk])
          rw [sc.1] at f3
          unfold sF at f3
          rw [if_pos is] at f3
          exact absurd f3 (by decide)
      · have ns : sF X N (y7 X N p0) = 1 := by
          have sc := sF_c (X := X) (N := N) (i := i) (k := y7 X N p0) es
          rw [← sc.1]
          unfold sF
          rw [if_neg]
          intro q
          rw [if_pos q.1] at z
          exact z q.2
        refine S_X11_readWord (i := sk X N i) hT S2.1.1 (up_at _ _ _ _) (by omega) (fun M3 e3 l15 l16 l17 => ?_)
        rw [sk_sk] at l15 l16 l17
        have S3 := S2.e e3 (by rw [e3.2 14 (by decide)]; exact S2.1.2.1) (by decide)
        have bad : post 1 (ax_up M3 61 14 (M3 61 15)) := by
          refine h _ 1 ?_
          rw [e9, ns, bl_g (by decide)]
          exact ⟨rfl, fun _ => ⟨S3.1.1.u (by omega), by rw [up_at, l15, es]⟩, fun q => absurd (show (1 : Int) = 0 from q) (by decide)⟩
        refine S_X11_wordOf (i := i) ir.2 l16 (fun q => ⟨fun u => ?_, fun _ => bad⟩) (fun q => ⟨fun u => ?_, fun _ => bad⟩) (fun q => ⟨fun u => ?_, fun _ => bad⟩) (fun q => ⟨fun u => ?_, fun _ => bad⟩) (fun _ _ _ _ => ⟨fun u => by omega, fun _ => bad⟩)
        · have := hno.1 u; rw [this] at q; exact absurd q (by decide)
        · have := hno.2.1 u; rw [this] at q; exact absurd q (by decide)
        · have := hno.2.2.1 u; rw [this] at q; exact absurd q (by decide)
        · have := hno.2.2.2 u; rw [this] at q; exact absurd q (by decide)
    have K5 : ∀ (M1 : ax_M) (i last : Int), SW X N M0 M1 P p0 sh li w tb (oV X N (y3 X N p0) 3 (-1)) (oV X N (y4 X N p0) 4 9) (oV X N (y5 X N p0) 5 99) 0 → M1 61 15 = i → 0 ≤ i ∧ i ≤ N → sk X N i = sk X N (y6 X N p0) → 2 ≤ last ∧ last ≤ 5 → (last < 3 → wm X N i 3 = false) ∧ (last < 4 → wm X N i 4 = false) ∧ (last < 5 → wm X N i 5 = false) → a7_ X N P p0 = (0, -1) → ax_J Y_X11_takeWay (ax_Ki Y_X11_takeWay SH post) 0 0 185 [(0, aR 61), (1, aI (7 * w)), (2, aI 0), (3, aI last)] [] SH M1 := by
      intro M1 i last S1 k15 ir es hl hno ha
      have s1 := sk_ge X N i
      have s2 := sk_le (X := X) ir.2
      have ew := wm_c (X := X) (N := N) es 6
      cases wy : wm X N i 6
      · -- not here
        have wn : wm X N i 6 = false := wy
        rw [ew] at wy
        have ev : oV X N (y6 X N p0) 6 0 = 0 := by unfold oV; rw [if_neg (by rw [wy]; decide)]
        refine K6 M1 i last (by rw [ev]; exact S1) k15 ir ?_ (by omega) ⟨hno.1, hno.2.1, hno.2.2, fun _ => wn⟩ ?_
        · have ey : y7 X N p0 = sk X N (y6 X N p0) := by unfold y7 oE; rw [if_neg (by rw [wy]; decide)]
          rw [ey, sk_sk]; exact es
        · unfold a8_ oF
          rw [if_neg (by rw [wy]; decide), bl_z]; exact ha
      · have wi := wm_iff.mp wy
        have wr := wl_rg (w := 6) (by decide)
        have wy' : wm X N (y6 X N p0) 6 = true := by rw [← ew]; exact wy
        have lt0 : sk X N i < N := by have := wi.1; omega
        have c0 := wi.2.1 0 (Int.le_refl _) (by omega)
        rw [Int.add_zero] at c0
        have cl0 := chr_l (w := 6) (by decide) (Int.le_refl 0) (by omega)
        refine B_X11_takeWay_185 ⟨fun z => absurd rfl z, fun _ => S_X11_here hT S1.1.1 k15 ir ?_⟩
        rw [if_pos lt0]
        have S2 := S1.e (E61.up (i := 15) (v := sk X N i) (l := [15]) (by decide)) (by rw [up_ne _ _ _ (by decide)]; exact S1.1.2.1) (by decide)
        refine ⟨fun z => by omega, fun _ => S_X11_readWord (i := sk X N i) hT S2.1.1 (up_at _ _ _ _) (by omega) (fun M3 e3 l15 l16 l17 => ?_)⟩
        rw [sk_sk] at l15 l16 l17
        rw [wm_end (by decide) ir.2 wy] at l17
        have S3 := S2.e e3 (by rw [e3.2 14 (by decide)]; exact S2.1.2.1) (by decide)
        have en : nF X N (sk X N i + wl 6) 0 999 = oF X N (y6 X N p0) 6 0 999 := by unfold oF; rw [if_pos wy', es]
        have ep : nP X N (sk X N i + wl 6) = oP X N (y6 X N p0) 6 := by unfold oP; rw [es]
        have eE : nE X N (sk X N i + wl 6) = y7 X N p0 := by unfold y7 oE; rw [if_pos wy', es]
        have pr : 0 ≤ sk X N i + wl 6 ∧ sk X N i + wl 6 ≤ N := ⟨by omega, wi.1⟩
        have rE' := nE_rg (X := X) pr.2
        have Q3 := S3.1.1.u (i := 15) (v := M3 61 17) (by omega)
        have fin : ax_Ti Y_X11_takeNumber [aR 61, aI 0, aI 999] SH (ax_up M3 61 15 (M3 61 17)) (fun z2 u1 => ax_J Y_X11_takeWay (ax_Ki Y_X11_takeWay SH post) 0 0 293 [(0, aR 61), (1, aI (7 * w)), (3, aI 6), (4, aI 6)] [aI z2] SH u1) := by
          refine S_X11_takeNumber (i := sk X N i + wl 6) hT Q3 (by rw [up_at, l17]) pr (fun f M4 e4 l14 m15 l18 l19 => ?_) (fun f M4 e4 l14 => ?_)
          · refine B_X11_takeWay_293 ⟨by omega, by omega, K6 _ (y7 X N p0) 6 ?_ ?_ (by omega) rfl (by omega) ⟨fun u => by omega, fun u => by omega, fun u => by omega, fun u => by omega⟩ ?_⟩
            · refine ⟨⟨(E61.q Q3 e4 (by decide)).t, ?_, ?_, ?_, fun z => ?_, ?_⟩, fun x x0 x1 => ?_, ⟨?_, ?_, ?_⟩, by rw [up_ne _ _ _ (by omega), e4.1 71 (by decide), up_off _ _ _ (by decide)]; exact S3.2.2.2.1, by rw [up_ne _ _ _ (by omega), e4.1 71 (by decide), up_off _ _ _ (by decide)]; exact S3.2.2.2.2.1, by rw [up_ne _ _ _ (by omega), e4.1 71 (by decide), up_off _ _ _ (by decide)]; exact S3.2.2.2.2.2.1, by rw [up_at, l18]; unfold oV; rw [if_pos wy', es]⟩
              · rw [up_off _ _ _ (by decide), l14, up_ne _ _ _ (by decide)]; exact S3.1.2.1
              · rw [up_off _ _ _ (by decide), e4.2 20 (by decide), up_ne _ _ _ (by decide)]; exact S3.1.2.2.1
              · rw [up_off _ _ _ (by decide), e4.2 21 (by decide), up_ne _ _ _ (by decide)]; exact S3.1.2.2.2.1
              · rw [up_off _ _ _ (by decide), e4.2 22 (by decide), up_ne _ _ _ (by decide)]; exact S3.1.2.2.2.2.1 z
              · rw [up_off _ _ _ (by decide), e4.2 23 (by decide), up_ne _ _ _ (by decide)]; exact S3.1.2.2.2.2.2
              · rw [up_ne _ _ _ (by omega), e4.1 71 (by decide), up_off _ _ _ (by decide)]; exact S3.2.1 x x0 x1
              · rw [up_ne _ _ _ (by omega), e4.1 71 (by decide), up_off _ _ _ (by decide)]; exact S3.2.2.1.1
              · rw [up_ne _ _ _ (by omega), e4.1 71 (by decide), up_off _ _ _ (by decide)]; exact S3.2.2.1.2.1
              · rw [up_ne _ _ _ (by omega), e4.1 71 (by decide), up_off _ _ _ (by decide)]; exact S3.2.2.1.2.2
            · rw [up_off _ _ _ (by decide), m15]; exact eE
            · rw [en] at f
              unfold a8_
              rw [ha, f, bl_z]
          · have f12 := nF_012 X N (sk X N i + wl 6) 0 999
            refine B_X11_takeWay_293 ⟨by omega, by omega, J185f _ _ (nP X N (sk X N i + wl 6)) 6 (by omega) (E61.q Q3 e4 (by decide)).t ?_ ?_ ?_⟩
            · rw [up_off _ _ _ (by decide), e4.2 23 (by decide), up_ne _ _ _ (by decide)]; exact S3.1.2.2.2.2.2
            · rw [up_off _ _ _ (by decide)]; exact l14
            · refine c8 _ _ f ?_
              unfold a8_
              rw [ha, ← en, ← ep, bl_g f]
        refine S_X11_wordOf (i := i) ir.2 l16 (fun q => absurd (wm_un (w := 6) (w' := 3) (by decide) (by decide) ir.2 (by decide +kernel) wy) (by rw [q]; decide)) (fun q => absurd (wm_un (w := 6) (w' := 4) (by decide) (by decide) ir.2 (by decide +kernel) wy) (by rw [q]; decide)) (fun q => absurd (wm_un (w := 6) (w' := 5) (by decide) (by decide) ir.2 (by decide +kernel) wy) (by rw [q]; decide)) (fun q => ⟨fun _ => ⟨fun _ => ⟨fun _ => ⟨fun _ => B_X11_takeWay_290 ?_, fun z => absurd z (by decide)⟩, fun z => absurd z (by decide)⟩, fun z => absurd z (by decide)⟩, fun u => by omega⟩) (fun n3 n4 n5 n6 => by rw [n6] at wy; exact absurd wy (by decide))
        exact fin
    have K4 : ∀ (M1 : ax_M) (i last : Int), SW X N M0 M1 P p0 sh li w tb (oV X N (y3 X N p0) 3 (-1)) (oV X N (y4 X N p0) 4 9) 99 0 → M1 61 15 = i → 0 ≤ i ∧ i ≤ N → sk X N i = sk X N (y5 X N p0) → 2 ≤ last ∧ last ≤ 4 → (last < 3 → wm X N i 3 = false) ∧ (last < 4 → wm X N i 4 = false) → a6_ X N P p0 = (0, -1) → ax_J Y_X11_takeWay (ax_Ki Y_X11_takeWay SH post) 0 0 185 [(0, aR 61), (1, aI (7 * w)), (2, aI 0), (3, aI last)] [] SH M1 := by
      intro M1 i last S1 k15 ir es hl hno ha
      have s1 := sk_ge X N i
      have s2 := sk_le (X := X) ir.2
      have ew := wm_c (X := X) (N := N) es 5
      cases wy : wm X N i 5
      · -- not here
        have wn : wm X N i 5 = false := wy
        rw [ew] at wy
        have ev : oV X N (y5 X N p0) 5 99 = 99 := by unfold oV; rw [if_neg (by rw [wy]; decide)]
        refine K5 M1 i last (by rw [ev]; exact S1) k15 ir ?_ (by omega) ⟨hno.1, hno.2, fun _ => wn⟩ ?_
        · have ey : y6 X N p0 = sk X N (y5 X N p0) := by unfold y6 oE; rw [if_neg (by rw [wy]; decide)]
          rw [ey, sk_sk]; exact es
        · unfold a7_ oF
          rw [if_neg (by rw [wy]; decide), bl_z]; exact ha
      · have wi := wm_iff.mp wy
        have wr := wl_rg (w := 5) (by decide)
        have wy' : wm X N (y5 X N p0) 5 = true := by rw [← ew]; exact wy
        have lt0 : sk X N i < N := by have := wi.1; omega
        have c0 := wi.2.1 0 (Int.le_refl _) (by omega)
        rw [Int.add_zero] at c0
        have cl0 := chr_l (w := 5) (by decide) (Int.le_refl 0) (by omega)
        refine B_X11_takeWay_185 ⟨fun z => absurd rfl z, fun _ => S_X11_here hT S1.1.1 k15 ir ?_⟩
        rw [if_pos lt0]
        have S2 := S1.e (E61.up (i := 15) (v := sk X N i) (l := [15]) (by decide)) (by rw [up_ne _ _ _ (by decide)]; exact S1.1.2.1) (by decide)
        refine ⟨fun z => by omega, fun _ => S_X11_readWord (i := sk X N i) hT S2.1.1 (up_at _ _ _ _) (by omega) (fun M3 e3 l15 l16 l17 => ?_)⟩
        rw [sk_sk] at l15 l16 l17
        rw [wm_end (by decide) ir.2 wy] at l17
        have S3 := S2.e e3 (by rw [e3.2 14 (by decide)]; exact S2.1.2.1) (by decide)
        have en : nF X N (sk X N i + wl 5) 0 99 = oF X N (y5 X N p0) 5 0 99 := by unfold oF; rw [if_pos wy', es]
        have ep : nP X N (sk X N i + wl 5) = oP X N (y5 X N p0) 5 := by unfold oP; rw [es]
        have eE : nE X N (sk X N i + wl 5) = y6 X N p0 := by unfold y6 oE; rw [if_pos wy', es]
        have pr : 0 ≤ sk X N i + wl 5 ∧ sk X N i + wl 5 ≤ N := ⟨by omega, wi.1⟩
        have rE' := nE_rg (X := X) pr.2
        have Q3 := S3.1.1.u (i := 15) (v := M3 61 17) (by omega)
        have fin : ax_Ti Y_X11_takeNumber [aR 61, aI 0, aI 99] SH (ax_up M3 61 15 (M3 61 17)) (fun z2 u1 => ax_J Y_X11_takeWay (ax_Ki Y_X11_takeWay SH post) 0 0 293 [(0, aR 61), (1, aI (7 * w)), (3, aI 5), (4, aI 5)] [aI z2] SH u1) := by
          refine S_X11_takeNumber (i := sk X N i + wl 5) hT Q3 (by rw [up_at, l17]) pr (fun f M4 e4 l14 m15 l18 l19 => ?_) (fun f M4 e4 l14 => ?_)
          · refine B_X11_takeWay_293 ⟨by omega, by omega, K5 _ (y6 X N p0) 5 ?_ ?_ (by omega) rfl (by omega) ⟨fun u => by omega, fun u => by omega, fun u => by omega⟩ ?_⟩
            · refine ⟨⟨(E61.q Q3 e4 (by decide)).t, ?_, ?_, ?_, fun z => ?_, ?_⟩, fun x x0 x1 => ?_, ⟨?_, ?_, ?_⟩, by rw [up_ne _ _ _ (by omega), e4.1 71 (by decide), up_off _ _ _ (by decide)]; exact S3.2.2.2.1, by rw [up_ne _ _ _ (by omega), e4.1 71 (by decide), up_off _ _ _ (by decide)]; exact S3.2.2.2.2.1, by rw [up_at, l18]; unfold oV; rw [if_pos wy', es], by rw [up_ne _ _ _ (by omega), e4.1 71 (by decide), up_off _ _ _ (by decide)]; exact S3.2.2.2.2.2.2⟩
              · rw [up_off _ _ _ (by decide), l14, up_ne _ _ _ (by decide)]; exact S3.1.2.1
              · rw [up_off _ _ _ (by decide), e4.2 20 (by decide), up_ne _ _ _ (by decide)]; exact S3.1.2.2.1
              · rw [up_off _ _ _ (by decide), e4.2 21 (by decide), up_ne _ _ _ (by decide)]; exact S3.1.2.2.2.1
              · rw [up_off _ _ _ (by decide), e4.2 22 (by decide), up_ne _ _ _ (by decide)]; exact S3.1.2.2.2.2.1 z
              · rw [up_off _ _ _ (by decide), e4.2 23 (by decide), up_ne _ _ _ (by decide)]; exact S3.1.2.2.2.2.2
              · rw [up_ne _ _ _ (by omega), e4.1 71 (by decide), up_off _ _ _ (by decide)]; exact S3.2.1 x x0 x1
              · rw [up_ne _ _ _ (by omega), e4.1 71 (by decide), up_off _ _ _ (by decide)]; exact S3.2.2.1.1
              · rw [up_ne _ _ _ (by omega), e4.1 71 (by decide), up_off _ _ _ (by decide)]; exact S3.2.2.1.2.1
              · rw [up_ne _ _ _ (by omega), e4.1 71 (by decide), up_off _ _ _ (by decide)]; exact S3.2.2.1.2.2
            · rw [up_off _ _ _ (by decide), m15]; exact eE
            · rw [en] at f
              unfold a7_
              rw [ha, f, bl_z]
          · have f12 := nF_012 X N (sk X N i + wl 5) 0 99
            refine B_X11_takeWay_293 ⟨by omega, by omega, J185f _ _ (nP X N (sk X N i + wl 5)) 5 (by omega) (E61.q Q3 e4 (by decide)).t ?_ ?_ ?_⟩
            · rw [up_off _ _ _ (by decide), e4.2 23 (by decide), up_ne _ _ _ (by decide)]; exact S3.1.2.2.2.2.2
            · rw [up_off _ _ _ (by decide)]; exact l14
            · refine c7 _ _ f ?_
              unfold a7_
              rw [ha, ← en, ← ep, bl_g f]
        refine S_X11_wordOf (i := i) ir.2 l16 (fun q => absurd (wm_un (w := 5) (w' := 3) (by decide) (by decide) ir.2 (by decide +kernel) wy) (by rw [q]; decide)) (fun q => absurd (wm_un (w := 5) (w' := 4) (by decide) (by decide) ir.2 (by decide +kernel) wy) (by rw [q]; decide)) (fun q => ⟨fun _ => ⟨fun _ => ⟨fun _ => ⟨fun z => absurd rfl z, fun _ => B_X11_takeWay_290 ?_⟩, fun z => absurd z (by decide)⟩, fun z => absurd z (by decide)⟩, fun u => by omega⟩) (fun q => absurd (wm_un (w := 5) (w' := 6) (by decide) (by decide) ir.2 (by decide +kernel) wy) (by rw [q]; decide)) (fun n3 n4 n5 n6 => by rw [n5] at wy; exact absurd wy (by decide))
        exact fin
    have K3 : ∀ (M1 : ax_M) (i last : Int), SW X N M0 M1 P p0 sh li w tb (oV X N (y3 X N p0) 3 (-1)) 9 99 0 → M1 61 15 = i → 0 ≤ i ∧ i ≤ N → sk X N i = sk X N (y4 X N p0) → 2 ≤ last ∧ last ≤ 3 → (last < 3 → wm X N i 3 = false) → a5_ X N P p0 = (0, -1) → ax_J Y_X11_takeWay (ax_Ki Y_X11_takeWay SH post) 0 0 185 [(0, aR 61), (1, aI (7 * w)), (2, aI 0), (3, aI last)] [] SH M1 := by
      intro M1 i last S1 k15 ir es hl hno ha
      have s1 := sk_ge X N i
      have s2 := sk_le (X := X) ir.2
      have ew := wm_c (X := X) (N := N) es 4
      cases wy : wm X N i 4
      · -- not here
        have wn : wm X N i 4 = false := wy
        rw [ew] at wy
        have ev : oV X N (y4 X N p0) 4 9 = 9 := by unfold oV; rw [if_neg (by rw [wy]; decide)]
        refine K4 M1 i last (by rw [ev]; exact S1) k15 ir ?_ (by omega) ⟨hno, fun _ => wn⟩ ?_
        · have ey : y5 X N p0 = sk X N (y4 X N p0) := by unfold y5 oE; rw [if_neg (by rw [wy]; decide)]
          rw [ey, sk_sk]; exact es
        · unfold a6_ oF
          rw [if_neg (by rw [wy]; decide), bl_z]; exact ha
      · have wi := wm_iff.mp wy
        have wr := wl_rg (w := 4) (by decide)
        have wy' : wm X N (y4 X N p0) 4 = true := by rw [← ew]; exact wy
        have lt0 : sk X N i < N := by have := wi.1; omega
        have c0 := wi.2.1 0 (Int.le_refl _) (by omega)
        rw [Int.add_zero] at c0
        have cl0 := chr_l (w := 4) (by decide) (Int.le_refl 0) (by omega)
        refine B_X11_takeWay_185 ⟨fun z => absurd rfl z, fun _ => S_X11_here hT S1.1.1 k15 ir ?_⟩
        rw [if_pos lt0]
        have S2 := S1.e (E61.up (i := 15) (v := sk X N i) (l := [15]) (by decide)) (by rw [up_ne _ _ _ (by decide)]; exact S1.1.2.1) (by decide)
        refine ⟨fun z => by omega, fun _ => S_X11_readWord (i := sk X N i) hT S2.1.1 (up_at _ _ _ _) (by omega) (fun M3 e3 l15 l16 l17 => ?_)⟩
        rw [sk_sk] at l15 l16 l17
        rw [wm_end (by decide) ir.2 wy] at l17
        have S3 := S2.e e3 (by rw [e3.2 14 (by decide)]; exact S2.1.2.1) (by decide)
        have en : nF X N (sk X N i + wl 4) 1 9 = oF X N (y4 X N p0) 4 1 9 := by unfold oF; rw [if_pos wy', es]
        have ep : nP X N (sk X N i + wl 4) = oP X N (y4 X N p0) 4 := by unfold oP; rw [es]
        have eE : nE X N (sk X N i + wl 4) = y5 X N p0 := by unfold y5 oE; rw [if_pos wy', es]
        have pr : 0 ≤ sk X N i + wl 4 ∧ sk X N i + wl 4 ≤ N := ⟨by omega, wi.1⟩
        have rE' := nE_rg (X := X) pr.2
        have Q3 := S3.1.1.u (i := 15) (v := M3 61 17) (by omega)
        have fin : ax_Ti Y_X11_takeNumber [aR 61, aI 1, aI 9] SH (ax_up M3 61 15 (M3 61 17)) (fun z2 u1 => ax_J Y_X11_takeWay (ax_Ki Y_X11_takeWay SH post) 0 0 293 [(0, aR 61), (1, aI (7 * w)), (3, aI 4), (4, aI 4)] [aI z2] SH u1) := by
          refine S_X11_takeNumber (i := sk X N i + wl 4) hT Q3 (by rw [up_at, l17]) pr (fun f M4 e4 l14 m15 l18 l19 => ?_) (fun f M4 e4 l14 => ?_)
          · refine B_X11_takeWay_293 ⟨by omega, by omega, K4 _ (y5 X N p0) 4 ?_ ?_ (by omega) rfl (by omega) ⟨fun u => by omega, fun u => by omega⟩ ?_⟩
            · refine ⟨⟨(E61.q Q3 e4 (by decide)).t, ?_, ?_, ?_, fun z => ?_, ?_⟩, fun x x0 x1 => ?_, ⟨?_, ?_, ?_⟩, by rw [up_ne _ _ _ (by omega), e4.1 71 (by decide), up_off _ _ _ (by decide)]; exact S3.2.2.2.1, by rw [up_at, l18]; unfold oV; rw [if_pos wy', es], by rw [up_ne _ _ _ (by omega), e4.1 71 (by decide), up_off _ _ _ (by decide)]; exact S3.2.2.2.2.2.1, by rw [up_ne _ _ _ (by omega), e4.1 71 (by decide), up_off _ _ _ (by decide)]; exact S3.2.2.2.2.2.2⟩
              · rw [up_off _ _ _ (by decide), l14, up_ne _ _ _ (by decide)]; exact S3.1.2.1
              · rw [up_off _ _ _ (by decide), e4.2 20 (by decide), up_ne _ _ _ (by decide)]; exact S3.1.2.2.1
              · rw [up_off _ _ _ (by decide), e4.2 21 (by decide), up_ne _ _ _ (by decide)]; exact S3.1.2.2.2.1
              · rw [up_off _ _ _ (by decide), e4.2 22 (by decide), up_ne _ _ _ (by decide)]; exact S3.1.2.2.2.2.1 z
              · rw [up_off _ _ _ (by decide), e4.2 23 (by decide), up_ne _ _ _ (by decide)]; exact S3.1.2.2.2.2.2
              · rw [up_ne _ _ _ (by omega), e4.1 71 (by decide), up_off _ _ _ (by decide)]; exact S3.2.1 x x0 x1
              · rw [up_ne _ _ _ (by omega), e4.1 71 (by decide), up_off _ _ _ (by decide)]; exact S3.2.2.1.1
              · rw [up_ne _ _ _ (by omega), e4.1 71 (by decide), up_off _ _ _ (by decide)]; exact S3.2.2.1.2.1
              · rw [up_ne _ _ _ (by omega), e4.1 71 (by decide), up_off _ _ _ (by decide)]; exact S3.2.2.1.2.2
            · rw [up_off _ _ _ (by decide), m15]; exact eE
            · rw [en] at f
              unfold a6_
              rw [ha, f, bl_z]
          · have f12 := nF_012 X N (sk X N i + wl 4) 1 9
            refine B_X11_takeWay_293 ⟨by omega, by omega, J185f _ _ (nP X N (sk X N i + wl 4)) 4 (by omega) (E61.q Q3 e4 (by decide)).t ?_ ?_ ?_⟩
            · rw [up_off _ _ _ (by decide), e4.2 23 (by decide), up_ne _ _ _ (by decide)]; exact S3.1.2.2.2.2.2
            · rw [up_off _ _ _ (by decide)]; exact l14
            · refine c6 _ _ f ?_
              unfold a6_
              rw [ha, ← en, ← ep, bl_g f]
        refine S_X11_wordOf (i := i) ir.2 l16 (fun q => absurd (wm_un (w := 4) (w' := 3) (by decide) (by decide) ir.2 (by decide +kernel) wy) (by rw [q]; decide)) (fun q => ⟨fun _ => ⟨fun _ => ⟨fun z => absurd rfl z, fun _ => ?_⟩, fun z => absurd z (by decide)⟩, fun u => by omega⟩) (fun q => absurd (wm_un (w := 4) (w' := 5) (by decide) (by decide) ir.2 (by decide +kernel) wy) (by rw [q]; decide)) (fun q => absurd (wm_un (w := 4) (w' := 6) (by decide) (by decide) ir.2 (by decide +kernel) wy) (by rw [q]; decide)) (fun n3 n4 n5 n6 => by rw [n4] at wy; exact absurd wy (by decide))
        exact fin
    have K2 : ∀ (M1 : ax_M) (i last : Int), SW X N M0 M1 P p0 sh li w tb (-1) 9 99 0 → M1 61 15 = i → 0 ≤ i ∧ i ≤ N → sk X N i = sk X N (y3 X N p0) → 2 ≤ last ∧ last ≤ 2 → True → a4_ X N P p0 = (0, -1) → ax_J Y_X11_takeWay (ax_Ki Y_X11_takeWay SH post) 0 0 185 [(0, aR 61), (1, aI (7 * w)), (2, aI 0), (3, aI last)] [] SH M1 := by
      intro M1 i last S1 k15 ir es hl hno ha
      have s1 := sk_ge X N i
      have s2 := sk_le (X := X) ir.2
      have ew := wm_c (X := X) (N := N) es 3
      cases wy : wm X N i 3
      · -- not here
        have wn : wm X N i 3 = false := wy
        rw [ew] at wy
        have ev : oV X N (y3 X N p0) 3 (-1) = (-1) := by unfold oV; rw [if_neg (by rw [wy]; decide)]
        refine K3 M1 i last (by rw [ev]; exact S1) k15 ir ?_ (by omega) (fun _ => wn) ?_
        · have ey : y4 X N p0 = sk X N (y3 X N p0) := by unfold y4 oE; rw [if_neg (by rw [wy]; decide)]
          rw [ey, sk_sk]; exact es
        · unfold a5_ oF
          rw [if_neg (by rw [wy]; decide), bl_z]; exact ha
      · have wi := wm_iff.mp wy
        have wr := wl_rg (w := 3) (by decide)
        have wy' : wm X N (y3 X N p0) 3 = true := by rw [← ew]; exact wy
        have lt0 : sk X N i < N := by have := wi.1; omega
        have c0 := wi.2.1 0 (Int.le_refl _) (by omega)
        rw [Int.add_zero] at c0
        have cl0 := chr_l (w := 3) (by decide) (Int.le_refl 0) (by omega)
        refine B_X11_takeWay_185 ⟨fun z => absurd rfl z, fun _ => S_X11_here hT S1.1.1 k15 ir ?_⟩
        rw [if_pos lt0]
        have S2 := S1.e (E61.up (i := 15) (v := sk X N i) (l := [15]) (by decide)) (by rw [up_ne _ _ _ (by decide)]; exact S1.1.2.1) (by decide)
        refine ⟨fun z => by omega, fun _ => S_X11_readWord (i := sk X N i) hT S2.1.1 (up_at _ _ _ _) (by omega) (fun M3 e3 l15 l16 l17 => ?_)⟩
        rw [sk_sk] at l15 l16 l17
        rw [wm_end (by decide) ir.2 wy] at l17
        have S3 := S2.e e3 (by rw [e3.2 14 (by decide)]; exact S2.1.2.1) (by decide)
        have en : nF X N (sk X N i + wl 3) (nV X N (y2 X N p0)) 60 = oF X N (y3 X N p0) 3 (nV X N (y2 X N p0)) 60 := by unfold oF; rw [if_pos wy', es]
        have ep : nP X N (sk X N i + wl 3) = oP X N (y3 X N p0) 3 := by unfold oP; rw [es]
        have eE : nE X N (sk X N i + wl 3) = y4 X N p0 := by unfold y4 oE; rw [if_pos wy', es]
        have pr : 0 ≤ sk X N i + wl 3 ∧ sk X N i + wl 3 ≤ N := ⟨by omega, wi.1⟩
        have rE' := nE_rg (X := X) pr.2
        have Q3 := S3.1.1.u (i := 15) (v := M3 61 17) (by omega)
        have fin : ax_Ti Y_X11_takeNumber [aR 61, aI (nV X N (y2 X N p0)), aI 60] SH (ax_up M3 61 15 (M3 61 17)) (fun z2 u1 => ax_J Y_X11_takeWay (ax_Ki Y_X11_takeWay SH post) 0 0 293 [(0, aR 61), (1, aI (7 * w)), (3, aI 3), (4, aI 3)] [aI z2] SH u1) := by
          refine S_X11_takeNumber (i := sk X N i + wl 3) hT Q3 (by rw [up_at, l17]) pr (fun f M4 e4 l14 m15 l18 l19 => ?_) (fun f M4 e4 l14 => ?_)
          · refine B_X11_takeWay_293 ⟨by omega, by omega, K3 _ (y4 X N p0) 3 ?_ ?_ (by omega) rfl (by omega) (fun u => by omega) ?_⟩
            · refine ⟨⟨(E61.q Q3 e4 (by decide)).t, ?_, ?_, ?_, fun z => ?_, ?_⟩, fun x x0 x1 => ?_, ⟨?_, ?_, ?_⟩, by rw [up_at, l18]; unfold oV; rw [if_pos wy', es], by rw [up_ne _ _ _ (by omega), e4.1 71 (by decide), up_off _ _ _ (by decide)]; exact S3.2.2.2.2.1, by rw [up_ne _ _ _ (by omega), e4.1 71 (by decide), up_off _ _ _ (by decide)]; exact S3.2.2.2.2.2.1, by rw [up_ne _ _ _ (by omega), e4.1 71 (by decide), up_off _ _ _ (by decide)]; exact S3.2.2.2.2.2.2⟩
              · rw [up_off _ _ _ (by decide), l14, up_ne _ _ _ (by decide)]; exact S3.1.2.1
              · rw [up_off _ _ _ (by decide), e4.2 20 (by decide), up_ne _ _ _ (by decide)]; exact S3.1.2.2.1
              · rw [up_off _ _ _ (by decide), e4.2 21 (by decide), up_ne _ _ _ (by decide)]; exact S3.1.2.2.2.1
              · rw [up_off _ _ _ (by decide), e4.2 22 (by decide), up_ne _ _ _ (by decide)]; exact S3.1.2.2.2.2.1 z
              · rw [up_off _ _ _ (by decide), e4.2 23 (by decide), up_ne _ _ _ (by decide)]; exact S3.1.2.2.2.2.2
              · rw [up_ne _ _ _ (by omega), e4.1 71 (by decide), up_off _ _ _ (by decide)]; exact S3.2.1 x x0 x1
              · rw [up_ne _ _ _ (by omega), e4.1 71 (by decide), up_off _ _ _ (by decide)]; exact S3.2.2.1.1
              · rw [up_ne _ _ _ (by omega), e4.1 71 (by decide), up_off _ _ _ (by decide)]; exact S3.2.2.1.2.1
              · rw [up_ne _ _ _ (by omega), e4.1 71 (by decide), up_off _ _ _ (by decide)]; exact S3.2.2.1.2.2
            · rw [up_off _ _ _ (by decide), m15]; exact eE
            · rw [en] at f
              unfold a5_
              rw [ha, f, bl_z]
          · have f12 := nF_012 X N (sk X N i + wl 3) (nV X N (y2 X N p0)) 60
            refine B_X11_takeWay_293 ⟨by omega, by omega, J185f _ _ (nP X N (sk X N i + wl 3)) 3 (by omega) (E61.q Q3 e4 (by decide)).t ?_ ?_ ?_⟩
            · rw [up_off _ _ _ (by decide), e4.2 23 (by decide), up_ne _ _ _ (by decide)]; exact S3.1.2.2.2.2.2
            · rw [up_off _ _ _ (by decide)]; exact l14
            · refine c5 _ _ f ?_
              unfold a5_
              rw [ha, ← en, ← ep, bl_g f]
        refine S_X11_wordOf (i := i) ir.2 l16 (fun q => ⟨fun _ => ⟨fun z => absurd rfl z, fun _ => ⟨by omega, by omega, ?_⟩⟩, fun u => by omega⟩) (fun q => absurd (wm_un (w := 3) (w' := 4) (by decide) (by decide) ir.2 (by decide +kernel) wy) (by rw [q]; decide)) (fun q => absurd (wm_un (w := 3) (w' := 5) (by decide) (by decide) ir.2 (by decide +kernel) wy) (by rw [q]; decide)) (fun q => absurd (wm_un (w := 3) (w' := 6) (by decide) (by decide) ir.2 (by decide +kernel) wy) (by rw [q]; decide)) (fun n3 n4 n5 n6 => by rw [n3] at wy; exact absurd wy (by decide))
        rw [S3.2.2.1.2.2]
        exact fin
    -- the numbers
    have Q1 := hQ.u (i := 15) (v := p0) (by omega)
    refine S_X11_takeNumber hT Q1 (up_at _ _ _ _) hpr (fun f M1 e1 g14 g15 g18 g19 => ⟨by omega, fun _ => ?_, fun q => by omega⟩) (fun f M1 e1 g14 => ⟨by omega, fun q => ?_, fun _ => ?_⟩)
    · have E1 : a1_ X N P p0 = (0, -1) := by unfold a1_; rw [f, bl_z]
      have Q2 := (E61.q Q1 e1 (by decide)).t (i := 7 * w) (v := M1 61 18)
      have k20 : M1 61 20 = P := by rw [e1.2 20 (by decide), up_ne _ _ _ (by decide)]; exact e20
      have k23 : M1 61 23 = w := by rw [e1.2 23 (by decide), up_ne _ _ _ (by decide)]; exact e23
      have k14 : M1 61 14 = -1 := by rw [g14, up_ne _ _ _ (by decide)]; exact e14
      rw [k20]
      refine ⟨by omega, ?_⟩
      refine S_X11_takeNumber (i := y1 X N p0) hT Q2 (by rw [up_off _ _ _ (by decide)]; exact g15) (by omega) (fun f2 M2 e2 l14 l15 l18 l19 => ?_) (fun f2 M2 e2 l14 => ?_)
      · have E2 : a2_ X N P p0 = (0, -1) := by unfold a2_; rw [E1, f2, bl_z]
        have Q3 := E61.q Q2 e2 (by decide)
        have m23 : M2 61 23 = w := by rw [e2.2 23 (by decide), up_off _ _ _ (by decide)]; exact k23
        have m14 : M2 61 14 = -1 := by rw [l14, up_off _ _ _ (by decide)]; exact k14
        have m71 : M2 71 (7 * w) = nV X N p0 := by rw [e2.1 71 (by decide), up_at, g18]
        refine B_X11_takeWay_76 ⟨fun z => absurd rfl z, fun _ => ⟨by omega, ?_⟩⟩
        rw [l18, m71]
        refine ⟨fun z => ?_, fun z => ?_⟩
        · have E3 : a3_ X N P p0 = (0, -1) := by unfold a3_; rw [E2, if_neg (fun u => z u.symm), bl_z]
          refine B_X11_takeWay_104 ?_
          rw [l18]
          refine ⟨by omega, by omega, fun _ => ?_, fun u => absurd u (by decide)⟩
          have Q4 := Q3.t (i := 7 * w + 1) (v := nV X N (y1 X N p0))
          refine S_X11_takeNumber (i := y2 X N p0) hT Q4 (by rw [up_off _ _ _ (by decide)]; exact l15) (by omega) (fun f3 M3 e3 n14 n15 n18 n19 => ?_) (fun f3 M3 e3 n14 => ?_)
          · have E4 : a4_ X N P p0 = (0, -1) := by unfold a4_; rw [E3, f3, bl_z]
            have Q5 := E61.q Q4 e3 (by decide)
            refine B_X11_takeWay_131 ?_
            rw [n18]
            refine ⟨by omega, by omega, by omega, by omega, by omega, by omega, by omega, by omega, by omega, by omega, K2 _ (y3 X N p0) 2 ?_ ?_ (by omega) rfl (by omega) trivial E4⟩
            · have o71 : ∀ (M5 : ax_M) (x a b c d e : Int), ax_up (ax_up (ax_up (ax_up (ax_up M5 71 (7 * w + 2) a) 71 (7 * w + 3) b) 71 (7 * w + 4) c) 71 (7 * w + 5) d) 71 (7 * w + 6) e 71 x = if x = 7 * w + 6 then e else if x = 7 * w + 5 then d else if x = 7 * w + 4 then c else if x = 7 * w + 3 then b else if x = 7 * w + 2 then a else M5 71 x := fun M5 x a b c d e => by rw [up_k, up_k, up_k, up_k, up_k]
              have o61 : ∀ (M5 : ax_M) (a b c d e : Int), ax_up (ax_up (ax_up (ax_up (ax_up M5 71 (7 * w + 2) a) 71 (7 * w + 3) b) 71 (7 * w + 4) c) 71 (7 * w + 5) d) 71 (7 * w + 6) e 61 = M5 61 := fun M5 a b c d e => by rw [up_off _ _ _ (by decide), up_off _ _ _ (by decide), up_off _ _ _ (by decide), up_off _ _ _ (by decide), up_off _ _ _ (by decide)]
              have v71 : ∀ x, x < 7 * w + 2 → M3 71 x = if x = 7 * w + 1 then nV X N (y1 X N p0) else if x = 7 * w then nV X N p0 else M' 71 x := by
                intro x hx
                rw [e3.1 71 (by decide), up_k, e2.1 71 (by decide), up_k, g18, e1.1 71 (by decide), up_off _ _ _ (by decide)]
              refine ⟨⟨Q5.t.t.t.t.t, ?_, ?_, ?_, fun u => ?_, ?_⟩, fun x x0 x1 => ?_, ⟨?_, ?_, ?_⟩, ?_, ?_, ?_, ?_⟩
              · rw [o61, n14, up_off _ _ _ (by decide)]; exact m14
              · rw [o61, e3.2 20 (by decide), up_off _ _ _ (by decide), e2.2 20 (by decide), up_off _ _ _ (by decide)]; exact k20
              · rw [o61, e3.2 21 (by decide), up_off _ _ _ (by decide), e2.2 21 (by decide), up_off _ _ _ (by decide), e1.2 21 (by decide), up_ne _ _ _ (by decide)]; exact e21
              · rw [o61, e3.2 22 (by decide), up_off _ _ _ (by decide), e2.2 22 (by decide), up_off _ _ _ (by decide), e1.2 22 (by decide), up_ne _ _ _ (by decide)]; exact e22 u
              · rw [o61, e3.2 23 (by decide), up_off _ _ _ (by decide)]; exact m23
              · rw [o71, if_neg (by omega), if_neg (by omega), if_neg (by omega), if_neg (by omega), if_neg (by omega), v71 x (by omega), if_neg (by omega), if_neg (by omega)]
                exact e71 x x0 x1
              · rw [o71, if_neg (by omega), if_neg (by omega), if_neg (by omega), if_neg (by omega), if_neg (by omega), v71 _ (by omega), if_neg (by omega), if_pos rfl]
              · rw [o71, if_neg (by omega), if_neg (by omega), if_neg (by omega), if_neg (by omega), if_neg (by omega), v71 _ (by omega), if_pos rfl]
              · rw [o71, if_neg (by omega), if_neg (by omega), if_neg (by omega), if_neg (by omega), if_pos rfl]
              · rw [o71, if_neg (by omega), if_neg (by omega), if_neg (by omega), if_pos rfl]
              · rw [o71, if_neg (by omega), if_neg (by omega), if_pos rfl]
              · rw [o71, if_neg (by omega), if_pos rfl]
              · rw [o71, if_pos rfl]
            · rw [up_off _ _ _ (by decide), up_off _ _ _ (by decide), up_off _ _ _ (by decide), up_off _ _ _ (by decide), up_off _ _ _ (by decide)]; exact n15
          · have f12 := nF_012 X N (y2 X N p0) 1 30
            refine J131f M3 _ (nP X N (y2 X N p0)) (by omega) (E61.q Q4 e3 (by decide)) ?_ n14 (c4 _ _ f3 (by unfold a4_; rw [E3, bl_g f3]))
            rw [e3.2 23 (by decide), up_off _ _ _ (by decide)]; exact m23
        · refine J104f _ 5 (nP X N (y1 X N p0)) (by decide) (Q3.u (by omega)) ?_ ?_ (c3 _ _ (by decide) (by unfold a3_; rw [E2, if_pos z.symm, bl_g (by decide)]))
          · rw [up_ne _ _ _ (by decide)]; exact m23
          · rw [up_at]; exact l19
      · have f12 := nF_012 X N (y1 X N p0) 0 (P - 1)
        refine J76f M2 _ (nP X N (y1 X N p0)) (by omega) (E61.q Q2 e2 (by decide)) ?_ l14 (c2 _ _ f2 (by unfold a2_; rw [E1, bl_g f2]))
        rw [e2.2 23 (by decide), up_off _ _ _ (by decide)]; exact k23
    · have f12 := nF_012 X N p0 0 (P - 1)
      omega
    · have f12 := nF_012 X N p0 0 (P - 1)
      refine J76f _ _ (nP X N p0) (by omega) (E61.q Q1 e1 (by decide)).t ?_ ?_ (c1 _ _ f (by unfold a1_; rw [bl_g f]))
      · rw [up_off _ _ _ (by decide), e1.2 23 (by decide), up_ne _ _ _ (by decide)]; exact e23
      · rw [up_off _ _ _ (by decide)]; exact g14
  · have z : ¬ w < 24 := by omega
    unfold rWay
    rw [if_neg z]
    exact ⟨rfl, fun _ => ⟨hQ.u (by omega), by rw [up_at]; exact e15'⟩, fun q => absurd (show (4 : Int) = 0 from q) (by decide)⟩
end CLS
