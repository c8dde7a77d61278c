theorem bl_rg {a : FP} {g q : Int} (h : 0 ≤ a.1 ∧ a.1 ≤ 5) (hg : 0 ≤ g ∧ g ≤ 5) : 0 ≤ (bl a g q).1 ∧ (bl a g q).1 ≤ 5 := by
  show 0 ≤ bf_ a.1 g ∧ bf_ a.1 g ≤ 5
  unfold bf_
  split <;> omega
section PITP
variable {X : Int → Int} {N P : Int}
theorem nF_5 (i lo hi : Int) : 0 ≤ nF X N i lo hi ∧ nF X N i lo hi ≤ 5 := by have := nF_012 X N i lo hi; omega
theorem sF_5 (i : Int) : 0 ≤ sF X N i ∧ sF X N i ≤ 5 := by have := sF_01 X N i; omega
theorem oF_5 (i : Int) (w : Nat) (lo hi : Int) : 0 ≤ oF X N i w lo hi ∧ oF X N i w lo hi ≤ 5 := by
  unfold oF
  split
  · exact nF_5 _ _ _
  · omega
theorem rCl_5 (j sh li w : Int) (tb : Int → Int) : 0 ≤ (rCl X N P j sh li w tb).1.1 ∧ (rCl X N P j sh li w tb).1.1 ≤ 5 := by
  have z : 0 ≤ ((0, -1) : FP).1 ∧ ((0, -1) : FP).1 ≤ 5 := ⟨Int.le_refl 0, by decide⟩
  have five : ∀ a b : Int, 0 ≤ (if a = b then (5 : Int) else 0) ∧ (if a = b then (5 : Int) else 0) ≤ 5 := fun a b => by split <;> omega
  unfold rCl rOut rWay
  split
  · split
    · exact bl_rg (bl_rg (bl_rg z (nF_5 _ _ _)) (nF_5 _ _ _)) (sF_5 _)
    · exact ⟨show (0 : Int) ≤ 3 by decide, show (3 : Int) ≤ 5 by decide⟩
  · split
    · split
      · exact bl_rg (bl_rg (bl_rg (bl_rg (bl_rg (bl_rg (bl_rg (bl_rg (bl_rg z (nF_5 _ _ _)) (nF_5 _ _ _)) (five _ _)) (nF_5 _ _ _)) (oF_5 _ _ _ _)) (oF_5 _ _ _ _)) (oF_5 _ _ _ _)) (oF_5 _ _ _ _)) (sF_5 _)
      · exact ⟨show (0 : Int) ≤ 4 by decide, show (4 : Int) ≤ 5 by decide⟩
    · exact ⟨show (0 : Int) ≤ 1 by decide, show (1 : Int) ≤ 5 by decide⟩
theorem rPl_5 (tb : Int → Int) : 0 ≤ (rPl X N tb).1.1 ∧ (rPl X N tb).1.1 ≤ 5 := by
  have z : 0 ≤ ((0, -1) : FP).1 ∧ ((0, -1) : FP).1 ≤ 5 := ⟨Int.le_refl 0, by decide⟩
  unfold rPl
  split
  · exact bl_rg (bl_rg z (nF_5 _ _ _)) (sF_5 _)
  · exact ⟨show (0 : Int) ≤ 1 by decide, show (1 : Int) ≤ 5 by decide⟩
theorem rP_5 : ∀ (r : Nat) (c : CR), 0 ≤ c.1.1 ∧ c.1.1 ≤ 5 → 0 ≤ (rP X N P r c).1.1 ∧ (rP X N P r c).1.1 ≤ 5
  | 0, c, h => by rw [rP.eq_1]; exact h
  | r + 1, c, h => by
    rw [rP.eq_2]
    split
    · exact h
    · split
      · exact h
      · exact rP_5 r _ (rCl_5 _ _ _ _ _)
theorem rE_5 {c : CR} (h : 0 ≤ c.1.1 ∧ c.1.1 ≤ 5) : 0 ≤ (rE c).1 ∧ (rE c).1 ≤ 5 := by
  unfold rE
  refine bl_rg h ?_
  split <;> omega
variable {M0 M' : ax_M}
theorem RSt.e {M1 : ax_M} {sh li w i j : Int} {tb : Int → Int} {a : FP} {l : List Int} (h : RSt N M0 M' P (a, i, sh, li, w, tb)) (e : E61 l M' M1) (e14 : M1 61 14 = -1) (e15 : M1 61 15 = j) (hl : ∀ i ∈ l, 14 ≤ i ∧ i ≤ 19) : RSt N M0 M1 P (a, j, sh, li, w, tb) := by
  obtain ⟨q, g14, g15, b, c, d, f, g⟩ := h
  have no : ∀ i : Int, 20 ≤ i → i ∉ l := fun i hi z => by have := hl i z; omega
  refine ⟨E61.q q e (fun i z => by have := hl i z; omega), e14, e15, by rw [e.2 20 (no 20 (by omega))]; exact b, by rw [e.2 21 (no 21 (by omega))]; exact c, fun z => by rw [e.2 22 (no 22 (by omega))]; exact d z, by rw [e.2 23 (no 23 (by omega))]; exact f, ?_⟩
  rw [e.1 71 (by decide)]
  exact g
theorem S_X11_takeClause {post : Int → ax_M → Prop} {j sh li w : Int} {tb : Int → Int} (hT : TR X N M0) (hP : 0 ≤ P ∧ P ≤ 999) (hw : 0 ≤ w ∧ w ≤ 24) (hs : RSt N M0 M' P ((0, -1), j, sh, li, w, tb)) (hj : 0 ≤ j ∧ j ≤ N) (hjs : sk X N j = j) (hsh : sh = -1 ∨ 0 ≤ sh) (h : ∀ M2 f, Oc N M0 M2 P (rCl X N P j sh li w tb) f → post f M2) : ax_Ti Y_X11_takeClause [aR 61] SH M' post := by
  have w1 : sdv X (sk X N j) (lt X N (sk X N j) - sk X N j).toNat = 11522 ↔ wm X N j 1 = true := by rw [← said_iff (w := 1) (by decide) hj.2]; rw [show wcd 1 (ax_len.getD 1 0) = 11522 from wcd_v.2.1]
  have w2 : sdv X (sk X N j) (lt X N (sk X N j) - sk X N j).toNat = 16819 ↔ wm X N j 2 = true := by rw [← said_iff (w := 2) (by decide) hj.2]; rw [show wcd 2 (ax_len.getD 2 0) = 16819 from wcd_v.2.2.1]
  refine E_X11_takeClause (fun _ => S_X11_readWord hT hs.1 hs.2.2.1 hj (fun M1 e1 l15 l16 l17 => ?_))
  rw [l16, w1, w2]
  rw [hjs] at l15
  have S1 := hs.e e1 (by rw [e1.2 14 (by decide)]; exact hs.2.1) l15 (by decide)
  refine ⟨fun n1 => ⟨fun n2 => h _ 1 ?_, fun y2 => ?_⟩, fun y1 => ?_⟩
  · unfold rCl
    rw [if_neg n1, if_neg n2]
    exact ⟨rfl, fun _ => ⟨S1.1.u (by omega), by rw [up_at]; exact l15⟩, fun q => absurd (show (1 : Int) = 0 from q) (by decide)⟩
  · have pr := (wm_iff.mp y2).1
    have w3 : wl 2 = 3 := by unfold wl; decide
    rw [wm_end (by decide) hj.2 y2] at l17
    refine S_X11_takeWay (st := j) hT hP hw S1 l17 (by omega) (fun M2 f o => h M2 f ?_)
    unfold rCl
    rw [if_neg n1, if_pos y2]; exact o
  · have pr := (wm_iff.mp y1).1
    have w3 : wl 1 = 3 := by unfold wl; decide
    rw [wm_end (by decide) hj.2 y1] at l17
    refine S_X11_takeOut (st := j) hT hP S1 l17 (by omega) hsh (fun M2 f o => h M2 f ?_)
    unfold rCl
    rw [if_pos y1]; exact o
theorem S_X11_takePlaces {post : Int → ax_M → Prop} {tb : Int → Int} (hT : TR X N M0) (hQ : Q61 M0 M') (e14 : M' 61 14 = -1) (e15 : M' 61 15 = 0) (e20 : M' 61 20 = 0) (e21 : M' 61 21 = -1) (e23 : M' 61 23 = 0) (h : ∀ M2 f, Oc N M0 M2 (pP X N) (rPl X N tb) f → post f M2) : ax_Ti Y_X11_takePlaces [aR 61] SH M' post := by
  have N4 := hT.2.2.1
  have w0 : sdv X (sk X N 0) (lt X N (sk X N 0) - sk X N 0).toNat = 235981828 ↔ wm X N 0 0 = true := by rw [← said_iff (w := 0) (by decide) N4.1]; rw [show wcd 0 (ax_len.getD 0 0) = 235981828 from wcd_v.1]
  refine E_X11_takePlaces (fun _ => S_X11_readWord hT hQ e15 (by omega) (fun M1 e1 l15 l16 l17 => ?_))
  rw [l16, w0, l15, l17]
  have Q1 := E61.q hQ e1 (by decide)
  refine ⟨fun y => ?_, fun n => h _ 1 ?_⟩
  · have pr := (wm_iff.mp y).1
    have w3 : wl 0 = 6 := by unfold wl; decide
    have s1 := sk_ge X N 0
    have en := wm_end (by decide) N4.1 y
    rw [en]
    have r1 := nE_rg (X := X) pr
    have eP : pP X N = nV X N (sk X N 0 + wl 0) := by unfold pP; rw [if_pos y]
    have eR : rPl X N tb = (bl (bl (0, -1) (nF X N (sk X N 0 + wl 0) 2 12) (nP X N (sk X N 0 + wl 0))) (sF X N (nE X N (sk X N 0 + wl 0))) (sk X N (nE X N (sk X N 0 + wl 0))), sE X N (nE X N (sk X N 0 + wl 0)), -1, 0, 0, tb) := by unfold rPl; rw [if_pos y]
    rw [eP, eR] at h
    have Q2 := Q1.u (i := 15) (v := sk X N 0 + wl 0) (by omega)
    refine S_X11_takeNumber hT Q2 (up_at _ _ _ _) (by omega) (fun f M2 e2 g14 g15 g18 g19 => ⟨fun _ => ?_, fun q => by omega⟩) (fun f M2 e2 g14 => ?_)
    · rw [f, bl_z] at h
      have Q3 := (E61.q Q2 e2 (by decide)).u (i := 20) (v := M2 61 18) (by omega)
      refine S_X11_takeStop (i := nE X N (sk X N 0 + wl 0)) hT Q3 (by rw [up_ne _ _ _ (by decide)]; exact g15) (by omega) (fun f3 M3 e3 l14 l15' => h M3 0 ?_) (fun f3 M3 e3 l14 => h M3 1 ?_)
      · rw [f3, bl_z]
        refine ⟨rfl, fun q => absurd rfl q, fun _ => ⟨E61.q Q3 e3 (by decide), ?_, l15', ?_, ?_, fun z => absurd rfl z, ?_, fun x x0 x1 => by have x1' : x < 7 * 0 := x1; omega⟩⟩
        · rw [l14, up_ne _ _ _ (by decide), g14, up_ne _ _ _ (by decide), e1.2 14 (by decide)]; exact e14
        · rw [e3.2 20 (by decide), up_at, g18]
        · rw [e3.2 21 (by decide), up_ne _ _ _ (by decide), e2.2 21 (by decide), up_ne _ _ _ (by decide), e1.2 21 (by decide)]; exact e21
        · rw [e3.2 23 (by decide), up_ne _ _ _ (by decide), e2.2 23 (by decide), up_ne _ _ _ (by decide), e1.2 23 (by decide)]; exact e23
      · rw [f3, bl_g (by decide)]
        exact ⟨rfl, fun _ => ⟨E61.q Q3 e3 (by decide), l14⟩, fun q => absurd (show (1 : Int) = 0 from q) (by decide)⟩
    · have f12 := nF_012 X N (sk X N 0 + wl 0) 2 12
      have Q3 := (E61.q Q2 e2 (by decide)).u (i := 20) (v := M2 61 18) (by omega)
      refine ⟨fun q => by omega, fun _ => h _ _ ?_⟩
      rw [bl_g f, bl_n (a := (nF X N (sk X N 0 + wl 0) 2 12, nP X N (sk X N 0 + wl 0))) f]
      exact ⟨rfl, fun _ => ⟨Q3, by rw [up_ne _ _ _ (by decide)]; exact g14⟩, fun q => absurd q f⟩
  · have eR : rPl X N tb = ((1, sk X N 0), sk X N 0, -1, 0, 0, tb) := by unfold rPl; rw [if_neg n]
    rw [eR]
    exact ⟨rfl, fun _ => ⟨Q1.u (by omega), up_at _ _ _ _⟩, fun q => absurd (show (1 : Int) = 0 from q) (by decide)⟩
/-- the reference with the new pit -/
def NewP (M0 M2 : ax_M) (P sh li w : Int) (tb : Int → Int) : Prop := (∀ a, a ∉ [61, 62, 63, 64, 65, 66, 67, 68, 69, 71, 98] → M2 a = M0 a) ∧ (∀ i, (3 < i ∧ i < 13) ∨ (23 < i ∧ i ≠ 25 ∧ i ≠ 29 ∧ i ≠ 50) → M2 61 i = M0 61 i) ∧ (M2 61 0 = P ∧ M2 61 1 = sh ∧ M2 61 2 = li ∧ M2 61 3 = w ∧ M2 61 13 = 0 ∧ M2 61 14 = -1 ∧ M2 61 25 = 0 ∧ M2 61 29 = 0 ∧ M2 61 50 = 0 ∧ M2 98 0 = 0 ∧ M2 98 1 = 0) ∧ ∀ k, 0 ≤ k → k < w → (M2 62 k = tb (k * 7 + 0) ∧ M2 63 k = tb (k * 7 + 1) ∧ M2 64 k = tb (k * 7 + 2) ∧ M2 65 k = tb (k * 7 + 3) ∧ M2 66 k = tb (k * 7 + 4) ∧ M2 67 k = tb (k * 7 + 5) ∧ M2 68 k = tb (k * 7 + 6) ∧ M2 69 k = 0)
set_option maxHeartbeats 4000000 in
set_option maxRecDepth 100000 in
theorem S_X11_keepPit {post : ax_M → Prop} {M1 : ax_M} {i sh li w : Int} {tb : Int → Int} {a : FP} (hs : RSt N M0 M1 P (a, i, sh, li, w, tb)) (hsh : ¬ sh = -1) (hw : 0 ≤ w ∧ w ≤ 24) (h : ∀ M2, NewP M0 M2 P sh li w tb → post M2) : ax_Tv Y_X11_keepPit [aR 61] SH (ax_up M1 61 13 0) post := by
  obtain ⟨hQ, e14, e15, e20, e21, e22, e23, e71⟩ := hs
  have e22' : M1 61 22 = li := e22 hsh
  generalize hMa : ax_up (ax_up (ax_up (ax_up (ax_up M1 61 13 0) 61 0 P) 61 1 sh) 61 2 li) 61 3 w = Ma
  have oa : Ofs [61] M1 Ma := by rw [← hMa]; exact ((((Ofs.up (by decide)).tr (Ofs.up (by decide))).tr (Ofs.up (by decide))).tr (Ofs.up (by decide))).tr (Ofs.up (by decide))
  have a61 : ∀ k, Ma 61 k = if k = 3 then w else if k = 2 then li else if k = 1 then sh else if k = 0 then P else if k = 13 then 0 else M1 61 k := by
    intro k
    rw [← hMa, up_k, up_k, up_k, up_k, up_k]
  have L : ∀ (r : Nat) (k : Int) (M2 : ax_M), k + r = w → 0 ≤ k → Ofs [62, 63, 64, 65, 66, 67, 68, 69] Ma M2 → (∀ x, 0 ≤ x → x < k → (M2 62 x = tb (x * 7 + 0) ∧ M2 63 x = tb (x * 7 + 1) ∧ M2 64 x = tb (x * 7 + 2) ∧ M2 65 x = tb (x * 7 + 3) ∧ M2 66 x = tb (x * 7 + 4) ∧ M2 67 x = tb (x * 7 + 5) ∧ M2 68 x = tb (x * 7 + 6) ∧ M2 69 x = 0)) → ax_J Y_X11_keepPit (ax_Kv Y_X11_keepPit SH post) 0 0 34 [(0, aR 61), (1, aI k)] [] SH M2 := by
    intro r
    induction r with
    | zero =>
      intro k M2 hk hk0 o2 hv
      have e3 : M2 61 3 = w := by rw [o2 61 (by decide), a61, if_pos rfl]
      refine B_X11_keepPit_34 ?_
      rw [e3]
      refine ⟨fun _ => h _ ?_, fun z => by omega⟩
      have b61 : ∀ x, ax_up (ax_up (ax_up (ax_up (ax_up M2 61 25 0) 61 29 0) 61 50 0) 98 0 0) 98 1 0 61 x = if x = 50 then 0 else if x = 29 then 0 else if x = 25 then 0 else Ma 61 x := by
        intro x
        rw [up_off _ _ _ (by decide), up_off _ _ _ (by decide), up_k, up_k, up_k, o2 61 (by decide)]
      have bo : ∀ b, b ≠ 61 → b ≠ 98 → ax_up (ax_up (ax_up (ax_up (ax_up M2 61 25 0) 61 29 0) 61 50 0) 98 0 0) 98 1 0 b = M2 b := by
        intro b h1 h2
        rw [up_off _ _ _ h2, up_off _ _ _ h2, up_off _ _ _ h1, up_off _ _ _ h1, up_off _ _ _ h1]
      refine ⟨fun b hb => ?_, fun x hx => ?_, ⟨?_, ?_, ?_, ?_, ?_, ?_, ?_, ?_, ?_, ?_, ?_⟩, fun x x0 x1 => ?_⟩
      · have n61 : b ≠ 61 := fun z => hb (by rw [z]; decide)
        have n71 : b ≠ 71 := fun z => hb (by rw [z]; decide)
        have n98 : b ≠ 98 := fun z => hb (by rw [z]; decide)
        have sub : ∀ q ∈ [62, 63, 64, 65, 66, 67, 68, 69], q ∈ [61, 62, 63, 64, 65, 66, 67, 68, 69, 71, 98] := by decide
        rw [bo b n61 n98, o2 b (fun z => hb (sub b z)), oa b (fun z => n61 (List.mem_singleton.mp z))]
        exact hQ.1 b n61 n71
      · rw [b61, if_neg (by omega), if_neg (by omega), if_neg (by omega), a61, if_neg (by omega), if_neg (by omega), if_neg (by omega), if_neg (by omega), if_neg (by omega)]
        exact hQ.2 x (by omega)
      · rw [b61, a61]; rfl
      · rw [b61, a61]; rfl
      · rw [b61, a61]; rfl
      · rw [b61, a61]; rfl
      · rw [b61, a61]; rfl
      · rw [b61, a61]; exact e14
      · rw [b61]; rfl
      · rw [b61]; rfl
      · rw [b61]; rfl
      · rw [up_ne _ _ _ (by decide), up_at]
      · rw [up_at]
      · rw [bo 62 (by decide) (by decide), bo 63 (by decide) (by decide), bo 64 (by decide) (by decide), bo 65 (by decide) (by decide), bo 66 (by decide) (by decide), bo 67 (by decide) (by decide), bo 68 (by decide) (by decide), bo 69 (by decide) (by decide)]
        exact hv x x0 (by omega)
    | succ r ih =>
      intro k M2 hk hk0 o2 hv
      have e3 : M2 61 3 = w := by rw [o2 61 (by decide), a61, if_pos rfl]
      have t71 : ∀ x, 0 ≤ x → x < 7 * w → M2 71 x = tb x := fun x x0 x1 => by rw [o2 71 (by decide), oa 71 (by decide)]; exact e71 x x0 x1
      refine B_X11_keepPit_34 ?_
      rw [e3, t71 (7 * k) (by omega) (by omega), t71 (7 * k + 1) (by omega) (by omega), t71 (7 * k + 2) (by omega) (by omega), t71 (7 * k + 3) (by omega) (by omega), t71 (7 * k + 4) (by omega) (by omega), t71 (7 * k + 5) (by omega) (by omega), t71 (7 * k + 6) (by omega) (by omega)]
      refine ⟨fun z => by omega, fun _ => ⟨by omega, by omega, by omega, by omega, by omega, by omega, by omega, by omega, by omega, by omega, by omega, by omega, by omega, by omega, by omega, by omega, ih (k + 1) _ (by omega) (by omega) (o2.tr ((((((((Ofs.up (by decide)).tr (Ofs.up (by decide))).tr (Ofs.up (by decide))).tr (Ofs.up (by decide))).tr (Ofs.up (by decide))).tr (Ofs.up (by decide))).tr (Ofs.up (by decide))).tr (Ofs.up (by decide)))) (fun x x0 x1 => ?_)⟩⟩
      generalize hM3 : ax_up (ax_up (ax_up (ax_up (ax_up (ax_up (ax_up (ax_up M2 62 k (tb (7 * k))) 63 k (tb (7 * k + 1))) 64 k (tb (7 * k + 2))) 65 k (tb (7 * k + 3))) 66 k (tb (7 * k + 4))) 67 k (tb (7 * k + 5))) 68 k (tb (7 * k + 6))) 69 k 0 = M3
      have f2 : M3 62 x = if x = k then tb (7 * k) else M2 62 x := by rw [← hM3, up_off _ _ _ (by decide), up_off _ _ _ (by decide), up_off _ _ _ (by decide), up_off _ _ _ (by decide), up_off _ _ _ (by decide), up_off _ _ _ (by decide), up_off _ _ _ (by decide), up_k]
      have f3 : M3 63 x = if x = k then tb (7 * k + 1) else M2 63 x := by rw [← hM3, up_off _ _ _ (by decide), up_off _ _ _ (by decide), up_off _ _ _ (by decide), up_off _ _ _ (by decide), up_off _ _ _ (by decide), up_off _ _ _ (by decide), up_k, up_off _ _ _ (by decide)]
      have f4 : M3 64 x = if x = k then tb (7 * k + 2) else M2 64 x := by rw [← hM3, up_off _ _ _ (by decide), up_off _ _ _ (by decide), up_off _ _ _ (by decide), up_off _ _ _ (by decide), up_off _ _ _ (by decide), up_k, up_off _ _ _ (by decide), up_off _ _ _ (by decide)]
      have f5 : M3 65 x = if x = k then tb (7 * k + 3) else M2 65 x := by rw [← hM3, up_off _ _ _ (by decide), up_off _ _ _ (by decide), up_off _ _ _ (by decide), up_off _ _ _ (by decide), up_k, up_off _ _ _ (by decide), up_off _ _ _ (by decide), up_off _ _ _ (by decide)]
      have f6 : M3 66 x = if x = k then tb (7 * k + 4) else M2 66 x := by rw [← hM3, up_off _ _ _ (by decide), up_off _ _ _ (by decide), up_off _ _ _ (by decide), up_k, up_off _ _ _ (by decide), up_off _ _ _ (by decide), up_off _ _ _ (by decide), up_off _ _ _ (by decide)]
      have f7 : M3 67 x = if x = k then tb (7 * k + 5) else M2 67 x := by rw [← hM3, up_off _ _ _ (by decide), up_off _ _ _ (by decide), up_k, up_off _ _ _ (by decide), up_off _ _ _ (by decide), up_off _ _ _ (by decide), up_off _ _ _ (by decide), up_off _ _ _ (by decide)]
      have f8 : M3 68 x = if x = k then tb (7 * k + 6) else M2 68 x := by rw [← hM3, up_off _ _ _ (by decide), up_k, up_off _ _ _ (by decide), up_off _ _ _ (by decide), up_off _ _ _ (by decide), up_off _ _ _ (by decide), up_off _ _ _ (by decide), up_off _ _ _ (by decide)]
      have f9 : M3 69 x = if x = k then 0 else M2 69 x := by rw [← hM3, up_k, up_off _ _ _ (by decide), up_off _ _ _ (by decide), up_off _ _ _ (by decide), up_off _ _ _ (by decide), up_off _ _ _ (by decide), up_off _ _ _ (by decide), up_off _ _ _ (by decide)]
      rw [f2, f3, f4, f5, f6, f7, f8, f9]
      by_cases e : x = k
      · rw [if_pos e, if_pos e, if_pos e, if_pos e, if_pos e, if_pos e, if_pos e, if_pos e, e, show k * 7 + 0 = 7 * k by omega, show k * 7 = 7 * k by omega]
        exact ⟨rfl, rfl, rfl, rfl, rfl, rfl, rfl, rfl⟩
      · rw [if_neg e, if_neg e, if_neg e, if_neg e, if_neg e, if_neg e, if_neg e, if_neg e]
        exact hv x x0 (by omega)
  refine E_X11_keepPit (fun _ => ?_)
  have s20 : ax_up M1 61 13 0 61 20 = P := by rw [up_ne _ _ _ (by decide)]; exact e20
  have s21 : ax_up M1 61 13 0 61 21 = sh := by rw [up_ne _ _ _ (by decide)]; exact e21
  have s22 : ax_up M1 61 13 0 61 22 = li := by rw [up_ne _ _ _ (by decide)]; exact e22'
  have s23 : ax_up M1 61 13 0 61 23 = w := by rw [up_ne _ _ _ (by decide)]; exact e23
  rw [s20, s21, s22, s23, hMa]
  exact L w.toNat 0 Ma (by omega) (Int.le_refl _) Ofs.rf (fun x x0 x1 => by omega)
set_option maxHeartbeats 4000000 in
set_option maxRecDepth 100000 in
theorem S_X11_pit {post : Int → ax_M → Prop} {M : ax_M} {tb : Int → Int} {R : CR} (hT : TR X N M) (hR : rP X N (pP X N) 400 (rPl X N tb) = R) (hf : ¬ (rE R).1 = 0 → ∀ M2, Q61 M M2 → M2 61 14 = (rE R).2 → post (-10 - (rE R).1) (ax_up M2 61 13 0)) (hg : (rE R).1 = 0 → ∀ M2, NewP M M2 (pP X N) R.2.2.1 R.2.2.2.1 R.2.2.2.2.1 R.2.2.2.2.2 → post R.2.2.2.2.1 M2) : ax_Ti Y_X11_pit [aR 61] SH M post := by
  have N4 := hT.2.2.1
  have gp := gd_pl (X := X) (N := N) N4.1 tb
  generalize hP : pP X N = P at *
  have stay : ∀ (r : Nat) (c : CR), ¬ c.1.1 = 0 → rP X N P r c = c := by
    intro r c f
    cases r with
    | zero => rw [rP.eq_1]
    | succ r => rw [rP.eq_2, if_pos f]
  -- the end
  have fin : ∀ (M1 : ax_M) (i sh li w : Int) (tb' : Int → Int), RSt N M M1 P ((0, -1), i, sh, li, w, tb') → GdC N P ((0, -1), i, sh, li, w, tb') → i = N → R = ((0, -1), i, sh, li, w, tb') → (((0 ≤ M1 61 21) → ((((0 : Int) ≤ 0) → ax_Tv Y_X11_keepPit [aR 61] SH (ax_up M1 61 13 0) (fun u4 => post (u4 61 3) u4)) ∧ (((0 : Int) < 0) → (-2147483648 ≤ (-10) - (0 : Int) ∧ (-10) - (0 : Int) ≤ 2147483647) ∧ post ((-10) - 0) (ax_up M1 61 13 0)))) ∧ ((M1 61 21 < 0) → post (-11) (ax_up (ax_up M1 61 14 (M1 61 13)) 61 13 0))) := by
    intro M1 i sh li w tb' S1 g hi hR'
    have e21 : M1 61 21 = sh := S1.2.2.2.2.1
    have gs := (g.2.2 rfl).2.1
    have gs' : sh = -1 ∨ (0 ≤ sh ∧ sh < P ∧ 1 ≤ li ∧ li ≤ 9) := gs
    rw [e21]
    refine ⟨fun y => ⟨fun _ => ?_, fun z => absurd z (by decide)⟩, fun y => ?_⟩
    · have ne : ¬ sh = -1 := by omega
      have er : (rE R).1 = 0 := by
        rw [hR']
        unfold rE
        rw [if_neg (show ¬ sh = -1 from ne), bl_z]
      refine S_X11_keepPit S1 ne g.2.1 (fun M2 np => ?_)
      have K := hg er M2 (by rw [hR']; exact np)
      rw [hR'] at K
      rw [np.2.2.1.2.2.2.1]
      exact K
    · have e1 : sh = -1 := by omega
      have er : rE R = (1, i) := by
        rw [hR']
        unfold rE
        rw [if_pos (show sh = -1 from e1)]
        exact bl_g (by decide)
      have tq := tr_13 hT S1.1
      have K := hf (by rw [er]; exact (by decide : ¬ (1 : Int) = 0)) (ax_up M1 61 14 (M1 61 13)) (S1.1.u (by omega)) (by rw [up_at, er, tq.1]; exact hi.symm)
      rw [er] at K
      exact K
  have L : ∀ (r : Nat) (f : Int) (M1 : ax_M) (c : CR), N - c.2.1 ≤ r → Oc N M M1 P c f → GdC N P c → (0 ≤ c.1.1 ∧ c.1.1 ≤ 5) → rP X N P r c = R → ax_J Y_X11_pit (ax_Ki Y_X11_pit SH post) 0 0 30 [(0, aR 61), (1, aI f)] [] SH M1 := by
    intro r
    have bad : ∀ (f : Int) (M1 : ax_M) (c : CR), Oc N M M1 P c f → (0 ≤ c.1.1 ∧ c.1.1 ≤ 5) → ¬ c.1.1 = 0 → c = R → ax_J Y_X11_pit (ax_Ki Y_X11_pit SH post) 0 0 30 [(0, aR 61), (1, aI f)] [] SH M1 := by
      intro f M1 c o c5 z e
      obtain ⟨ef, ob, _⟩ := o
      have er : rE R = c.1 := by rw [← e]; unfold rE; rw [bl_n z]
      have K := hf (by rw [er]; exact z) M1 (ob z).1 (by rw [er]; exact (ob z).2)
      rw [er, ← ef] at K
      exact B_X11_pit_30 ⟨fun y => ⟨fun y1 => by omega, fun _ => ⟨by omega, K⟩⟩, fun y => absurd (ef.symm.trans y) z⟩
    induction r with
    | zero =>
      intro f M1 c hr o g c5 e
      rw [rP.eq_1] at e
      by_cases z : c.1.1 = 0
      · obtain ⟨a, i, sh, li, w, tb'⟩ := c
        have ea : a = (0, -1) := (g.2.2 z).1
        subst ea
        have S1 := o.2.2 rfl
        have ef : f = 0 := o.1
        subst ef
        have ir : 0 ≤ i ∧ i ≤ N := g.1
        have hr' : N - i ≤ ((0 : Nat) : Int) := hr
        have s1 := sk_ge X N i
        have s2 := sk_le (X := X) ir.2
        refine B_X11_pit_30 ⟨fun y => absurd rfl y, fun _ => S_X11_here (i := i) hT S1.1 S1.2.2.1 ir ?_⟩
        rw [if_neg (by omega)]
        have S2 := S1.e (E61.up (i := 15) (v := sk X N i) (l := [15]) (by decide)) (by rw [up_ne _ _ _ (by decide)]; exact S1.2.1) (up_at _ _ _ _) (by decide)
        have F := fin _ _ _ _ _ _ S2 ⟨⟨by show 0 ≤ sk X N i; omega, s2⟩, g.2⟩ (by omega) (by rw [← e, show sk X N i = i by omega])
        exact ⟨fun _ => F, fun y => absurd y (by decide)⟩
      · exact bad f M1 c o c5 z e
    | succ r ih =>
      intro f M1 c hr o g c5 e
      by_cases z : c.1.1 = 0
      · obtain ⟨a, i, sh, li, w, tb'⟩ := c
        have ea : a = (0, -1) := (g.2.2 z).1
        subst ea
        have S1 := o.2.2 rfl
        have ef : f = 0 := o.1
        subst ef
        have ir : 0 ≤ i ∧ i ≤ N := g.1
        have hr' : N - i ≤ ((r + 1 : Nat) : Int) := hr
        have s1 := sk_ge X N i
        have s2 := sk_le (X := X) ir.2
        have gs : sh = -1 ∨ (0 ≤ sh ∧ sh < P ∧ 1 ≤ li ∧ li ≤ 9) := (g.2.2 rfl).2.1
        rw [rP.eq_2, if_neg (fun z => z rfl)] at e
        refine B_X11_pit_30 ⟨fun y => absurd rfl y, fun _ => S_X11_here (i := i) hT S1.1 S1.2.2.1 ir ?_⟩
        have S2 := S1.e (E61.up (i := 15) (v := sk X N i) (l := [15]) (by decide)) (by rw [up_ne _ _ _ (by decide)]; exact S1.2.1) (up_at _ _ _ _) (by decide)
        have g2 : GdC N P ((0, -1), sk X N i, sh, li, w, tb') := ⟨⟨by show 0 ≤ sk X N i; omega, s2⟩, g.2⟩
        by_cases q : N ≤ sk X N i
        · rw [if_neg (by omega)]
          rw [if_pos (show N ≤ sk X N i from q)] at e
          have F := fin _ _ _ _ _ _ S2 g2 (by omega) e.symm
          exact ⟨fun _ => F, fun y => absurd y (by decide)⟩
        · have lt0 : sk X N i < N := by omega
          rw [if_pos lt0]
          rw [if_neg (show ¬ N ≤ sk X N i from q)] at e
          have xb := hT.2.2.2 (sk X N i) (by omega) lt0
          have gc := gd_cl (X := X) (P := P) (j := sk X N i) (by omega) s2 g2
          refine ⟨fun y => by omega, fun _ => S_X11_takeClause hT gp.2.1 g.2.1 S2 (by omega) (sk_sk _ _ _) (by omega) (fun M3 f3 o3 => ?_)⟩
          by_cases fz : (rCl X N P (sk X N i) sh li w tb').1.1 = 0
          · have := gc.2 fz
            exact ih f3 M3 (rCl X N P (sk X N i) sh li w tb') (by omega) o3 gc.1 (rCl_5 _ _ _ _ _) e
          · refine bad f3 M3 _ o3 (rCl_5 _ _ _ _ _) fz ?_
            rw [← e]; exact (stay _ _ fz).symm
      · rw [stay _ _ z] at e
        exact bad f M1 c o c5 z e
  refine E_X11_pit (fun _ => ?_)
  generalize hMa : ax_up (ax_up (ax_up (ax_up (ax_up M 61 14 (-1)) 61 15 0) 61 20 0) 61 21 (-1)) 61 23 0 = Ma
  have a61 : ∀ k, Ma 61 k = if k = 23 then 0 else if k = 21 then -1 else if k = 20 then 0 else if k = 15 then 0 else if k = 14 then -1 else M 61 k := by
    intro k
    rw [← hMa, up_k, up_k, up_k, up_k, up_k]
  have Qa : Q61 M Ma := by
    refine ⟨fun b h1 _ => ?_, fun k hk => ?_⟩
    · rw [← hMa, up_off _ _ _ h1, up_off _ _ _ h1, up_off _ _ _ h1, up_off _ _ _ h1, up_off _ _ _ h1]
    · rw [a61, if_neg (by omega), if_neg (by omega), if_neg (by omega), if_neg (by omega), if_neg (by omega)]
  have K := S_X11_takePlaces (X := X) (N := N) (tb := tb) (M' := Ma) (post := fun z2 u1 => ax_J Y_X11_pit (ax_Ki Y_X11_pit SH post) 0 0 30 [(0, aR 61), (1, aI z2)] [] SH u1) hT Qa (by rw [a61]; rfl) (by rw [a61]; rfl) (by rw [a61]; rfl) (by rw [a61]; rfl) (by rw [a61]; rfl) (fun M2 f o => ?_)
  · exact K
  · rw [hP] at o
    exact L 400 f M2 (rPl X N tb) (by have := gp.1.1; omega) o gp.1 (rPl_5 _) hR
end PITP
