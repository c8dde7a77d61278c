def u1 (g : Int → Int) (i v : Int) : Int → Int := fun x => if x = i then v else g x
theorem up_u1 (M : ax_M) (k : Nat) (i v : Int) : ax_up M k i v k = u1 (M k) i v := by
  funext x
  exact up_k M k i v x
/-- a clause: the first fault, where, shaft, lifts, ways, their table -/
abbrev CR : Type := FP × Int × Int × Int × Int × (Int → Int)
def rOut (X : Int → Int) (N P st p0 sh li w : Int) (tb : Int → Int) : CR := if sh = -1 then (bl (bl (bl (0, -1) (nF X N p0 0 (P - 1)) (nP X N p0)) (nF X N (nE X N p0) 1 9) (nP X N (nE X N p0))) (sF X N (nE X N (nE X N p0))) (sk X N (nE X N (nE X N p0))), sE X N (nE X N (nE X N p0)), nV X N p0, nV X N (nE X N p0), w, tb) else ((3, st), p0, sh, li, w, tb)
def y1 (X : Int → Int) (N p : Int) : Int := nE X N p
def y2 (X : Int → Int) (N p : Int) : Int := nE X N (y1 X N p)
def y3 (X : Int → Int) (N p : Int) : Int := nE X N (y2 X N p)
def y4 (X : Int → Int) (N p : Int) : Int := oE X N (y3 X N p) 3
def y5 (X : Int → Int) (N p : Int) : Int := oE X N (y4 X N p) 4
def y6 (X : Int → Int) (N p : Int) : Int := oE X N (y5 X N p) 5
def y7 (X : Int → Int) (N p : Int) : Int := oE X N (y6 X N p) 6
def a1_ (X : Int → Int) (N P p : Int) : FP := bl (0, -1) (nF X N p 0 (P - 1)) (nP X N p)
def a2_ (X : Int → Int) (N P p : Int) : FP := bl (a1_ X N P p) (nF X N (y1 X N p) 0 (P - 1)) (nP X N (y1 X N p))
def a3_ (X : Int → Int) (N P p : Int) : FP := bl (a2_ X N P p) (if nV X N p = nV X N (y1 X N p) then 5 else 0) (nP X N (y1 X N p))
def a4_ (X : Int → Int) (N P p : Int) : FP := bl (a3_ X N P p) (nF X N (y2 X N p) 1 30) (nP X N (y2 X N p))
def a5_ (X : Int → Int) (N P p : Int) : FP := bl (a4_ X N P p) (oF X N (y3 X N p) 3 (nV X N (y2 X N p)) 60) (oP X N (y3 X N p) 3)
def a6_ (X : Int → Int) (N P p : Int) : FP := bl (a5_ X N P p) (oF X N (y4 X N p) 4 1 9) (oP X N (y4 X N p) 4)
def a7_ (X : Int → Int) (N P p : Int) : FP := bl (a6_ X N P p) (oF X N (y5 X N p) 5 0 99) (oP X N (y5 X N p) 5)
def a8_ (X : Int → Int) (N P p : Int) : FP := bl (a7_ X N P p) (oF X N (y6 X N p) 6 0 999) (oP X N (y6 X N p) 6)
def a9_ (X : Int → Int) (N P p : Int) : FP := bl (a8_ X N P p) (sF X N (y7 X N p)) (sk X N (y7 X N p))
def wT (X : Int → Int) (N p w : Int) (tb : Int → Int) : Int → Int := u1 (u1 (u1 (u1 (u1 (u1 (u1 tb (w * 7 + 0) (nV X N p)) (w * 7 + 1) (nV X N (y1 X N p))) (w * 7 + 2) (nV X N (y2 X N p))) (w * 7 + 3) (oV X N (y3 X N p) 3 (-1))) (w * 7 + 4) (oV X N (y4 X N p) 4 9)) (w * 7 + 5) (oV X N (y5 X N p) 5 99)) (w * 7 + 6) (oV X N (y6 X N p) 6 0)
def rWay (X : Int → Int) (N P st p0 sh li w : Int) (tb : Int → Int) : CR := if w < 24 then (a9_ X N P p0, sE X N (y7 X N p0), sh, li, w + 1, wT X N p0 w tb) else ((4, st), p0, sh, li, w, tb)
def rCl (X : Int → Int) (N P j sh li w : Int) (tb : Int → Int) : CR := if wm X N j 1 = true then rOut X N P j (sk X N j + wl 1) sh li w tb else if wm X N j 2 = true then rWay X N P j (sk X N j + wl 2) sh li w tb else ((1, j), sk X N j, sh, li, w, tb)
def rP (X : Int → Int) (N P : Int) : Nat → CR → CR
  | 0, c => c
  | r + 1, c => if ¬ c.1.1 = 0 then c else if N ≤ sk X N c.2.1 then (c.1, sk X N c.2.1, c.2.2) else rP X N P r (rCl X N P (sk X N c.2.1) c.2.2.1 c.2.2.2.1 c.2.2.2.2.1 c.2.2.2.2.2)
def pP (X : Int → Int) (N : Int) : Int := if wm X N 0 0 = true then nV X N (sk X N 0 + wl 0) else 0
def rPl (X : Int → Int) (N : Int) (tb : Int → Int) : CR := if wm X N 0 0 = true then (bl (bl (0, -1) (nF X N (sk X N 0 + wl 0) 2 12) (nP X N (sk X N 0 + wl 0))) (sF X N (nE X N (sk X N 0 + wl 0))) (sk X N (nE X N (sk X N 0 + wl 0))), sE X N (nE X N (sk X N 0 + wl 0)), -1, 0, 0, tb) else ((1, sk X N 0), sk X N 0, -1, 0, 0, tb)
def rE (c : CR) : FP := bl c.1 (if c.2.2.1 = -1 then 1 else 0) c.2.1
/-- the class with the found pit -/
def CSt (N : Int) (M0 M' : ax_M) (P : Int) (c : CR) : Prop := Rs N M0 M' c.2.1 c.1 ∧ M' 4 0 = P ∧ M' 4 1 = c.2.2.2.2.1 ∧ M' 4 2 = c.2.2.1 ∧ M' 4 3 = c.2.2.2.1 ∧ M' 5 = c.2.2.2.2.2
section CLAUSE
variable {X : Int → Int} {N P : Int} {M0 M' : ax_M}
set_option maxHeartbeats 4000000 in
set_option maxRecDepth 100000 in
theorem S_X5_readOut {post : ax_M → Prop} {st p0 sh li w : Int} {tb : Int → Int} (hT : TX X N M0) (hP : 0 ≤ P ∧ P ≤ 999) (hC : CSt N M0 M' P ((0, -1), p0, sh, li, w, tb)) (h : ∀ M2, CSt N M0 M2 P (rOut X N P st p0 sh li w tb) → post M2) : ax_Tv Y_X5_readOut [aR 3, aI st] SH M' post := by
  obtain ⟨hR, c0, c1, c2, c3, c5⟩ := hC
  refine E_X5_readOut (fun _ => ?_)
  rw [c2, c0]
  refine ⟨fun y => ⟨by omega, S_X5_number hT hR (fun M1 R1 q1 _ => ?_)⟩, fun y => ?_⟩
  · have y' : sh = -1 := y
    refine S_X5_number hT R1.m4 (fun M2 R2 q2 _ => S_X5_takeClauseEnd hT R2.m4 (fun M3 R3 q3 => h M3 ?_))
    unfold rOut
    rw [if_pos y']
    have e4 : M3 4 = u1 (u1 (M' 4) 2 (nV X N p0)) 3 (nV X N (nE X N p0)) := by
      rw [q3.1, up_u1, q2.1, up_u1, q1.1]
    have e5 : M3 5 = M' 5 := by
      rw [q3.2, up_off _ _ _ (by decide), q2.2, up_off _ _ _ (by decide), q1.2]
    refine ⟨R3, ?_, ?_, ?_, ?_, by rw [e5]; exact c5⟩
    · rw [e4]; exact c0
    · rw [e4]; exact c1
    · rw [e4]; rfl
    · rw [e4]; rfl
  · have y' : ¬ sh = -1 := y
    have f0 : M' 3 4 = 0 := hR.2.2.1
    refine ⟨fun z => absurd f0 z, fun _ => h _ ?_⟩
    unfold rOut
    rw [if_neg y']
    have R2 := hR.blm (g := 3) (q := st) (by decide) f0
    rw [bl_g (by decide)] at R2
    refine ⟨R2, ?_, ?_, ?_, ?_, ?_⟩
    · rw [up_off _ _ _ (by decide), up_off _ _ _ (by decide)]; exact c0
    · rw [up_off _ _ _ (by decide), up_off _ _ _ (by decide)]; exact c1
    · rw [up_off _ _ _ (by decide), up_off _ _ _ (by decide)]; exact c2
    · rw [up_off _ _ _ (by decide), up_off _ _ _ (by decide)]; exact c3
    · rw [up_off _ _ _ (by decide), up_off _ _ _ (by decide)]; exact c5
set_option maxHeartbeats 4000000 in
set_option maxRecDepth 100000 in
theorem S_X5_readWay {post : ax_M → Prop} {st p0 sh li w : Int} {tb : Int → Int} (hT : TX X N M0) (hP : 0 ≤ P ∧ P ≤ 999) (hw : 0 ≤ w) (hC : CSt N M0 M' P ((0, -1), p0, sh, li, w, tb)) (h : ∀ M2, CSt N M0 M2 P (rWay X N P st p0 sh li w tb) → post M2) : ax_Tv Y_X5_readWay [aR 3, aI st] SH M' post := by
  obtain ⟨hR, c0, c1, c2, c3, c5⟩ := hC
  have c1' : M' 4 1 = w := c1
  refine E_X5_readWay (fun _ => ?_)
  rw [c1', c0]
  refine ⟨fun y => ⟨by omega, S_X5_number hT hR (fun M1 R1 q1 _ => ?_)⟩, fun y => ?_⟩
  · have m40 : M1 4 0 = P := by rw [q1.1]; exact c0
    rw [m40]
    refine ⟨by omega, S_X5_number hT R1 (fun M2 R2 q2 n2 => ?_)⟩
    have R2' : Rs N M0 M2 (y2 X N p0) (a2_ X N P p0) := R2
    have q12 := q1.tr q2
    -- from the minutes on
    have J67 : ∀ M3, Rs N M0 M3 (y2 X N p0) (a3_ X N P p0) → R45 M' M3 → ax_J Y_X5_readWay (ax_Kv Y_X5_readWay SH post) 0 0 67 [(0, aR 3), (2, aI w), (3, aI (nV X N p0)), (4, aI (nV X N (y1 X N p0)))] [] SH M3 := by
      intro M3 R3 q3
      refine B_X5_readWay_67 (S_X5_number hT R3 (fun M4 R4 q4 _ => ⟨by omega, by omega, by omega, by omega, by omega, by omega, by omega, ?_⟩))
      have R4' : Rs N M0 M4 (y3 X N p0) (a4_ X N P p0) := R4
      have q34 := q3.tr q4
      -- bad
      have J195 : ∀ (M5 : ax_M) (v : Int), Rs N M0 M5 (y6 X N p0) (a7_ X N P p0) → M5 4 = M' 4 → M5 5 = u1 (u1 (u1 (u1 (u1 tb (w * 7 + 0) (nV X N p0)) (w * 7 + 1) (nV X N (y1 X N p0))) (w * 7 + 2) (nV X N (y2 X N p0))) (w * 7 + 3) (oV X N (y3 X N p0) 3 (-1))) (w * 7 + 4) (oV X N (y4 X N p0) 4 9) → v = oV X N (y5 X N p0) 5 99 → ax_J Y_X5_readWay (ax_Kv Y_X5_readWay SH post) 0 0 195 [(0, aR 3), (2, aI w)] [aI v, aI 5, aI w, aR 4] SH M5 := by
        intro M5 v R5 e54 e55 ev
        have J226 : ∀ (M6 : ax_M) (v' : Int), Rs N M0 M6 (y7 X N p0) (a8_ X N P p0) → M6 4 = M' 4 → M6 5 = u1 (u1 (u1 (u1 (u1 (u1 tb (w * 7 + 0) (nV X N p0)) (w * 7 + 1) (nV X N (y1 X N p0))) (w * 7 + 2) (nV X N (y2 X N p0))) (w * 7 + 3) (oV X N (y3 X N p0) 3 (-1))) (w * 7 + 4) (oV X N (y4 X N p0) 4 9)) (w * 7 + 5) v → v' = oV X N (y6 X N p0) 6 0 → ax_J Y_X5_readWay (ax_Kv Y_X5_readWay SH post) 0 0 226 [(0, aR 3), (2, aI w)] [aI v', aI 6, aI w, aR 4] SH M6 := by
          intro M6 v' R6 e64 e65 ev'
          refine B_X5_readWay_226 ⟨by omega, by omega, by omega, S_X5_takeClauseEnd hT R6.m5 (fun M7 R7 q7 => ⟨by omega, h _ ?_⟩)⟩
          unfold rWay
          rw [if_pos y]
          have f4 : ax_up M7 4 1 (w + 1) 4 = u1 (M' 4) 1 (w + 1) := by rw [up_u1, q7.1, up_off _ _ _ (by decide), e64]
          have f5 : ax_up M7 4 1 (w + 1) 5 = wT X N p0 w tb := by
            rw [up_off _ _ _ (by decide), q7.2, up_u1, e65, ev, ev']
            rfl
          refine ⟨R7.m4, ?_, ?_, ?_, ?_, f5⟩
          · rw [f4]; exact c0
          · rw [f4]; rfl
          · rw [f4]; exact c2
          · rw [f4]; exact c3
        refine B_X5_readWay_195 ⟨by omega, by omega, by omega, S_X5_takeWord6 hT R5.m5 (fun wy M6 R6 q6 => ⟨fun z => absurd z (by decide), fun _ => S_X5_number hT R6 (fun M7 R7 q7 _ => J226 M7 _ ?_ ?_ ?_ ?_)⟩) (fun wn M6 R6 q6 => ⟨fun _ => J226 M6 _ ?_ ?_ ?_ ?_, fun z => absurd rfl z⟩)⟩
        · have u : Rs N M0 M7 (nE X N (sk X N (y6 X N p0) + wl 6)) (bl (a7_ X N P p0) (nF X N (sk X N (y6 X N p0) + wl 6) 0 999) (nP X N (sk X N (y6 X N p0) + wl 6))) := R7
          unfold y7 oE a8_ oF oP
          rw [if_pos wy, if_pos wy]; exact u
        · rw [q7.1, q6.1, up_off _ _ _ (by decide)]; exact e54
        · rw [q7.2, q6.2, up_u1, e55]
        · unfold oV; rw [if_pos wy]
        · unfold y7 oE a8_ oF oP
          rw [if_neg (by rw [wn]; decide), if_neg (by rw [wn]; decide), bl_z]; exact R6
        · rw [q6.1, up_off _ _ _ (by decide)]; exact e54
        · rw [q6.2, up_u1, e55]
        · unfold oV; rw [if_neg (by rw [wn]; decide)]
      -- fills
      have J165 : ∀ (M5 : ax_M) (v : Int), Rs N M0 M5 (y5 X N p0) (a6_ X N P p0) → M5 4 = M' 4 → M5 5 = u1 (u1 (u1 (u1 tb (w * 7 + 0) (nV X N p0)) (w * 7 + 1) (nV X N (y1 X N p0))) (w * 7 + 2) (nV X N (y2 X N p0))) (w * 7 + 3) (oV X N (y3 X N p0) 3 (-1)) → v = oV X N (y4 X N p0) 4 9 → ax_J Y_X5_readWay (ax_Kv Y_X5_readWay SH post) 0 0 165 [(0, aR 3), (2, aI w)] [aI v, aI 4, aI w, aR 4] SH M5 := by
        intro M5 v R5 e54 e55 ev
        refine B_X5_readWay_165 ⟨by omega, by omega, by omega, S_X5_takeWord5 hT R5.m5 (fun wy M6 R6 q6 => ⟨fun z => absurd z (by decide), fun _ => S_X5_number hT R6 (fun M7 R7 q7 _ => J195 M7 _ ?_ ?_ ?_ ?_)⟩) (fun wn M6 R6 q6 => ⟨fun _ => J195 M6 _ ?_ ?_ ?_ ?_, fun z => absurd rfl z⟩)⟩
        · have u : Rs N M0 M7 (nE X N (sk X N (y5 X N p0) + wl 5)) (bl (a6_ X N P p0) (nF X N (sk X N (y5 X N p0) + wl 5) 0 99) (nP X N (sk X N (y5 X N p0) + wl 5))) := R7
          unfold y6 oE a7_ oF oP
          rw [if_pos wy, if_pos wy]; exact u
        · rw [q7.1, q6.1, up_off _ _ _ (by decide)]; exact e54
        · rw [q7.2, q6.2, up_u1, e55, ev]
        · unfold oV; rw [if_pos wy]
        · unfold y6 oE a7_ oF oP
          rw [if_neg (by rw [wn]; decide), if_neg (by rw [wn]; decide), bl_z]; exact R6
        · rw [q6.1, up_off _ _ _ (by decide)]; exact e54
        · rw [q6.2, up_u1, e55, ev]
        · unfold oV; rw [if_neg (by rw [wn]; decide)]
      -- wide
      have J135 : ∀ (M5 : ax_M) (v : Int), Rs N M0 M5 (y4 X N p0) (a5_ X N P p0) → M5 4 = M' 4 → M5 5 = u1 (u1 (u1 tb (w * 7 + 0) (nV X N p0)) (w * 7 + 1) (nV X N (y1 X N p0))) (w * 7 + 2) (nV X N (y2 X N p0)) → v = oV X N (y3 X N p0) 3 (-1) → ax_J Y_X5_readWay (ax_Kv Y_X5_readWay SH post) 0 0 135 [(0, aR 3), (2, aI w)] [aI v, aI 3, aI w, aR 4] SH M5 := by
        intro M5 v R5 e54 e55 ev
        refine B_X5_readWay_135 ⟨by omega, by omega, by omega, S_X5_takeWord4 hT R5.m5 (fun wy M6 R6 q6 => ⟨fun z => absurd z (by decide), fun _ => S_X5_number hT R6 (fun M7 R7 q7 _ => J165 M7 _ ?_ ?_ ?_ ?_)⟩) (fun wn M6 R6 q6 => ⟨fun _ => J165 M6 _ ?_ ?_ ?_ ?_, fun z => absurd rfl z⟩)⟩
        · have u : Rs N M0 M7 (nE X N (sk X N (y4 X N p0) + wl 4)) (bl (a5_ X N P p0) (nF X N (sk X N (y4 X N p0) + wl 4) 1 9) (nP X N (sk X N (y4 X N p0) + wl 4))) := R7
          unfold y5 oE a6_ oF oP
          rw [if_pos wy, if_pos wy]; exact u
        · rw [q7.1, q6.1, up_off _ _ _ (by decide)]; exact e54
        · rw [q7.2, q6.2, up_u1, e55, ev]
        · unfold oV; rw [if_pos wy]
        · unfold y5 oE a6_ oF oP
          rw [if_neg (by rw [wn]; decide), if_neg (by rw [wn]; decide), bl_z]; exact R6
        · rw [q6.1, up_off _ _ _ (by decide)]; exact e54
        · rw [q6.2, up_u1, e55, ev]
        · unfold oV; rw [if_neg (by rw [wn]; decide)]
      have f4 : ∀ a b c d e f, ax_up (ax_up (ax_up M4 5 a b) 5 c d) 5 e f 4 = M' 4 := fun a b c d e f => by
        rw [up_off _ _ _ (by decide), up_off _ _ _ (by decide), up_off _ _ _ (by decide)]; exact q34.1
      have f5 : ax_up (ax_up (ax_up M4 5 (w * 7 + 0) (nV X N p0)) 5 (w * 7 + 1) (nV X N (y1 X N p0))) 5 (w * 7 + 2) (nV X N (y2 X N p0)) 5 = u1 (u1 (u1 tb (w * 7 + 0) (nV X N p0)) (w * 7 + 1) (nV X N (y1 X N p0))) (w * 7 + 2) (nV X N (y2 X N p0)) := by
        rw [up_u1, up_u1, up_u1, q34.2]
        have : M' 5 = tb := c5
        rw [this]
      refine S_X5_takeWord3 hT R4'.m5.m5.m5 (fun wy M6 R6 q6 => ⟨fun z => absurd z (by decide), fun _ => S_X5_number hT R6 (fun M7 R7 q7 _ => J135 M7 _ ?_ ?_ ?_ ?_)⟩) (fun wn M6 R6 q6 => ⟨fun _ => J135 M6 _ ?_ ?_ ?_ ?_, fun z => absurd rfl z⟩)
      · have u : Rs N M0 M7 (nE X N (sk X N (y3 X N p0) + wl 3)) (bl (a4_ X N P p0) (nF X N (sk X N (y3 X N p0) + wl 3) (nV X N (y2 X N p0)) 60) (nP X N (sk X N (y3 X N p0) + wl 3))) := R7
        unfold y4 oE a5_ oF oP
        rw [if_pos wy, if_pos wy]; exact u
      · rw [q7.1, q6.1, f4]
      · rw [q7.2, q6.2, f5]
      · unfold oV; rw [if_pos wy]
      · unfold y4 oE a5_ oF oP
        rw [if_neg (by rw [wn]; decide), if_neg (by rw [wn]; decide), bl_z]; exact R6
      · rw [q6.1, f4]
      · rw [q6.2, f5]
      · unfold oV; rw [if_neg (by rw [wn]; decide)]
    refine ⟨fun y1' => J67 M2 ?_ q12, fun y1' => ⟨fun y2' => J67 M2 ?_ q12, fun y2' => J67 _ ?_ (q12.tr (R45.up.tr R45.up))⟩⟩
    · unfold a3_
      rw [if_neg (show ¬ nV X N p0 = nV X N (y1 X N p0) from y1'), bl_z]; exact R2'
    · exact R2'.no y2'
    · unfold a3_
      rw [if_pos (show nV X N p0 = nV X N (y1 X N p0) from y1'), n2]
      exact R2'.blm (by decide) y2'
  · have f0 : M' 3 4 = 0 := hR.2.2.1
    refine ⟨fun z => absurd f0 z, fun _ => h _ ?_⟩
    unfold rWay
    rw [if_neg (by omega)]
    have R2 := hR.blm (g := 4) (q := st) (by decide) f0
    rw [bl_g (by decide)] at R2
    refine ⟨R2, ?_, ?_, ?_, ?_, ?_⟩
    · rw [up_off _ _ _ (by decide), up_off _ _ _ (by decide)]; exact c0
    · rw [up_off _ _ _ (by decide), up_off _ _ _ (by decide)]; exact c1
    · rw [up_off _ _ _ (by decide), up_off _ _ _ (by decide)]; exact c2
    · rw [up_off _ _ _ (by decide), up_off _ _ _ (by decide)]; exact c3
    · rw [up_off _ _ _ (by decide), up_off _ _ _ (by decide)]; exact c5
theorem CSt.mv {sh li w i j : Int} {tb : Int → Int} {a : FP} {M1 : ax_M} (h : CSt N M0 M' P (a, i, sh, li, w, tb)) (R1 : Rs N M0 M1 j a) (q : R45 M' M1) : CSt N M0 M1 P (a, j, sh, li, w, tb) :=
  ⟨R1, by rw [q.1]; exact h.2.1, by rw [q.1]; exact h.2.2.1, by rw [q.1]; exact h.2.2.2.1, by rw [q.1]; exact h.2.2.2.2.1, by rw [q.2]; exact h.2.2.2.2.2⟩
theorem S_X5_readClause {post : ax_M → Prop} {j sh li w : Int} {tb : Int → Int} (hT : TX X N M0) (hP : 0 ≤ P ∧ P ≤ 999) (hw : 0 ≤ w) (hC : CSt N M0 M' P ((0, -1), j, sh, li, w, tb)) (h : ∀ M2, CSt N M0 M2 P (rCl X N P j sh li w tb) → post M2) : ax_Tv Y_X5_readClause [aR 3] SH M' post := by
  refine E_X5_readClause (fun _ => S_X5_takeWord1 hT hC.1 (fun wy M1 R1 q1 => ⟨fun z => absurd z (by decide), fun _ => ?_⟩) (fun wn M1 R1 q1 => ⟨fun _ => S_X5_takeWord2 hT R1 (fun wy M2 R2 q2 => ⟨fun z => absurd z (by decide), fun _ => ?_⟩) (fun wn2 M2 R2 q2 => ⟨fun _ => ?_, fun z => absurd rfl z⟩), fun z => absurd rfl z⟩))
  · have e : M' 3 2 = j := hC.1.2.1
    rw [e]
    refine S_X5_readOut (st := j) hT hP (hC.mv R1 q1) (fun M2 c2 => h M2 ?_)
    unfold rCl
    rw [if_pos wy]; exact c2
  · have e : M' 3 2 = j := hC.1.2.1
    rw [e]
    rw [sk_sk] at R2
    rw [wm_sk] at wy
    refine S_X5_readWay (st := j) hT hP hw (hC.mv R2 (q1.tr q2)) (fun M3 c3 => h M3 ?_)
    unfold rCl
    rw [if_neg (by rw [wn]; decide), if_pos wy]; exact c3
  · have e : M' 3 2 = j := hC.1.2.1
    rw [e]
    rw [sk_sk] at R2
    rw [wm_sk] at wn2
    have f0 : M2 3 4 = 0 := R2.2.2.1
    have c2 := hC.mv R2 (q1.tr q2)
    refine ⟨fun z => absurd f0 z, fun _ => h _ ?_⟩
    unfold rCl
    rw [if_neg (by rw [wn]; decide), if_neg (by rw [wn2]; decide)]
    have R3 := R2.blm (g := 1) (q := j) (by decide) f0
    rw [bl_g (by decide)] at R3
    refine ⟨R3, ?_, ?_, ?_, ?_, ?_⟩
    · rw [up_off _ _ _ (by decide), up_off _ _ _ (by decide)]; exact c2.2.1
    · rw [up_off _ _ _ (by decide), up_off _ _ _ (by decide)]; exact c2.2.2.1
    · rw [up_off _ _ _ (by decide), up_off _ _ _ (by decide)]; exact c2.2.2.2.1
    · rw [up_off _ _ _ (by decide), up_off _ _ _ (by decide)]; exact c2.2.2.2.2.1
    · rw [up_off _ _ _ (by decide), up_off _ _ _ (by decide)]; exact c2.2.2.2.2.2
end CLAUSE
