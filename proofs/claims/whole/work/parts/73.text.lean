/-! a text: blanks, figures, words -/
def skp (X : Int → Int) (N : Int) : Nat → Int → Int
  | 0, i => i
  | r + 1, i => if i < N ∧ X i = 32 then skp X N r (i + 1) else i
def sk (X : Int → Int) (N i : Int) : Int := skp X N (N - i).toNat i
theorem sk_1 {X : Int → Int} {N i : Int} (h : i < N ∧ X i = 32) : sk X N i = sk X N (i + 1) := by
  unfold sk
  rw [show (N - i).toNat = (N - (i + 1)).toNat + 1 by omega, skp.eq_2, if_pos h]
theorem sk_2 {X : Int → Int} {N i : Int} (h : ¬ (i < N ∧ X i = 32)) : sk X N i = i := by
  unfold sk
  cases hr : (N - i).toNat with
  | zero => rw [skp.eq_1]
  | succ r => rw [skp.eq_2, if_neg h]
theorem sk_rg {X : Int → Int} {N : Int} : ∀ (r : Nat) (i : Int), (N - i).toNat = r → i ≤ sk X N i ∧ (i ≤ N → sk X N i ≤ N) ∧ ¬ (sk X N i < N ∧ X (sk X N i) = 32)
  | 0, i, h => by
    rw [sk_2 (by omega)]
    exact ⟨Int.le_refl _, id, fun z => by omega⟩
  | r + 1, i, h => by
    by_cases q : i < N ∧ X i = 32
    · rw [sk_1 q]
      have ih := sk_rg (X := X) (N := N) r (i + 1) (by omega)
      exact ⟨by omega, fun _ => ih.2.1 (by omega), ih.2.2⟩
    · rw [sk_2 q]
      exact ⟨Int.le_refl _, id, q⟩
theorem sk_ge (X : Int → Int) (N i : Int) : i ≤ sk X N i := (sk_rg _ i rfl).1
theorem sk_le {X : Int → Int} {N i : Int} (h : i ≤ N) : sk X N i ≤ N := (sk_rg _ i rfl).2.1 h
theorem sk_no (X : Int → Int) (N i : Int) : ¬ (sk X N i < N ∧ X (sk X N i) = 32) := (sk_rg _ i rfl).2.2
theorem sk_sk (X : Int → Int) (N i : Int) : sk X N (sk X N i) = sk X N i := sk_2 (sk_no X N i)
abbrev Dg (x : Int) : Prop := 48 ≤ x ∧ x ≤ 57
abbrev Lt (x : Int) : Prop := 97 ≤ x ∧ x ≤ 122
def dgp (X : Int → Int) (N : Int) : Nat → Int → Int
  | 0, i => i
  | r + 1, i => if i < N ∧ Dg (X i) then dgp X N r (i + 1) else i
def dg (X : Int → Int) (N i : Int) : Int := dgp X N (N - i).toNat i
theorem dg_1 {X : Int → Int} {N i : Int} (h : i < N ∧ Dg (X i)) : dg X N i = dg X N (i + 1) := by
  unfold dg
  rw [show (N - i).toNat = (N - (i + 1)).toNat + 1 by omega, dgp.eq_2, if_pos h]
theorem dg_2 {X : Int → Int} {N i : Int} (h : ¬ (i < N ∧ Dg (X i))) : dg X N i = i := by
  unfold dg
  cases hr : (N - i).toNat with
  | zero => rw [dgp.eq_1]
  | succ r => rw [dgp.eq_2, if_neg h]
theorem dg_rg {X : Int → Int} {N : Int} : ∀ (r : Nat) (i : Int), (N - i).toNat = r → i ≤ dg X N i ∧ (i ≤ N → dg X N i ≤ N) ∧ ¬ (dg X N i < N ∧ Dg (X (dg X N i))) ∧ ∀ k, i ≤ k → k < dg X N i → Dg (X k)
  | 0, i, h => by
    rw [dg_2 (by omega)]
    exact ⟨Int.le_refl _, id, fun z => by omega, fun k a b => by omega⟩
  | r + 1, i, h => by
    by_cases q : i < N ∧ Dg (X i)
    · rw [dg_1 q]
      have ih := dg_rg (X := X) (N := N) r (i + 1) (by omega)
      refine ⟨by omega, fun _ => ih.2.1 (by omega), ih.2.2.1, fun k a b => ?_⟩
      by_cases z : k = i
      · rw [z]; exact q.2
      · exact ih.2.2.2 k (by omega) b
    · rw [dg_2 q]
      exact ⟨Int.le_refl _, id, q, fun k a b => by omega⟩
def ltp (X : Int → Int) (N : Int) : Nat → Int → Int
  | 0, i => i
  | r + 1, i => if i < N ∧ Lt (X i) then ltp X N r (i + 1) else i
def lt (X : Int → Int) (N i : Int) : Int := ltp X N (N - i).toNat i
theorem lt_1 {X : Int → Int} {N i : Int} (h : i < N ∧ Lt (X i)) : lt X N i = lt X N (i + 1) := by
  unfold lt
  rw [show (N - i).toNat = (N - (i + 1)).toNat + 1 by omega, ltp.eq_2, if_pos h]
theorem lt_2 {X : Int → Int} {N i : Int} (h : ¬ (i < N ∧ Lt (X i))) : lt X N i = i := by
  unfold lt
  cases hr : (N - i).toNat with
  | zero => rw [ltp.eq_1]
  | succ r => rw [ltp.eq_2, if_neg h]
theorem lt_rg {X : Int → Int} {N : Int} : ∀ (r : Nat) (i : Int), (N - i).toNat = r → i ≤ lt X N i ∧ (i ≤ N → lt X N i ≤ N) ∧ ¬ (lt X N i < N ∧ Lt (X (lt X N i))) ∧ ∀ k, i ≤ k → k < lt X N i → Lt (X k)
  | 0, i, h => by
    rw [lt_2 (by omega)]
    exact ⟨Int.le_refl _, id, fun z => by omega, fun k a b => by omega⟩
  | r + 1, i, h => by
    by_cases q : i < N ∧ Lt (X i)
    · rw [lt_1 q]
      have ih := lt_rg (X := X) (N := N) r (i + 1) (by omega)
      refine ⟨by omega, fun _ => ih.2.1 (by omega), ih.2.2.1, fun k a b => ?_⟩
      by_cases z : k = i
      · rw [z]; exact q.2
      · exact ih.2.2.2 k (by omega) b
    · rw [lt_2 q]
      exact ⟨Int.le_refl _, id, q, fun k a b => by omega⟩
/-- the number of n figures from j -/
def nvv (X : Int → Int) (j : Int) : Nat → Int
  | 0 => 0
  | n + 1 => nvv X j n * 10 + X (j + (n : Int)) - 48
def nP (X : Int → Int) (N i : Int) : Int := sk X N i
def nE (X : Int → Int) (N i : Int) : Int := dg X N (sk X N i)
def nV (X : Int → Int) (N i : Int) : Int := nvv X (nP X N i) (min 3 (nE X N i - nP X N i)).toNat
def nF (X : Int → Int) (N i lo hi : Int) : Int := if nE X N i = nP X N i then 1 else if 3 < nE X N i - nP X N i ∨ nV X N i < lo ∨ hi < nV X N i then 2 else 0
theorem nE_rg {X : Int → Int} {N i : Int} (h : i ≤ N) : i ≤ nP X N i ∧ nP X N i ≤ nE X N i ∧ nE X N i ≤ N := by
  have a := sk_ge X N i
  have b := sk_le (X := X) h
  have c := dg_rg (X := X) (N := N) _ (sk X N i) rfl
  unfold nP nE
  exact ⟨a, c.1, c.2.1 b⟩
theorem nvv_rg {X : Int → Int} {j : Int} : ∀ n : Nat, (∀ k : Int, j ≤ k → k < j + n → Dg (X k)) → 0 ≤ nvv X j n ∧ (n = 0 → nvv X j n ≤ 0) ∧ (n = 1 → nvv X j n ≤ 9) ∧ (n = 2 → nvv X j n ≤ 99) ∧ (n = 3 → nvv X j n ≤ 999)
  | 0, _ => by rw [nvv.eq_1]; omega
  | n + 1, h => by
    have ih := nvv_rg n (fun k a b => h k a (by omega))
    have hn := h (j + n) (by omega) (by omega)
    rw [nvv.eq_2]
    generalize nvv X j n = v at *
    generalize X (j + (n : Int)) = x at *
    omega
theorem nV_rg {X : Int → Int} {N i : Int} (h : i ≤ N) : 0 ≤ nV X N i ∧ nV X N i ≤ 999 := by
  have r := nE_rg (X := X) h
  have c := dg_rg (X := X) (N := N) _ (sk X N i) rfl
  have q := nvv_rg (X := X) (j := nP X N i) (min 3 (nE X N i - nP X N i)).toNat (fun k a b => c.2.2.2 k a (by unfold nE nP at *; omega))
  unfold nV
  omega
theorem nF_0 {X : Int → Int} {N i lo hi : Int} (h : nF X N i lo hi = 0) : nP X N i < nE X N i ∧ nE X N i - nP X N i ≤ 3 ∧ lo ≤ nV X N i ∧ nV X N i ≤ hi := by
  unfold nF at h
  by_cases q : nE X N i = nP X N i
  · rw [if_pos q] at h; omega
  · rw [if_neg q] at h
    by_cases q2 : 3 < nE X N i - nP X N i ∨ nV X N i < lo ∨ hi < nV X N i
    · rw [if_pos q2] at h; omega
    · have := dg_rg (X := X) (N := N) _ (sk X N i) rfl
      unfold nE nP at *
      omega
theorem nF_012 (X : Int → Int) (N i lo hi : Int) : nF X N i lo hi = 0 ∨ nF X N i lo hi = 1 ∨ nF X N i lo hi = 2 := by
  unfold nF
  split
  · omega
  · split <;> omega
/-- the letters of word w -/
def mtc (X : Int → Int) (j : Int) (w : Nat) : Nat → Bool
  | 0 => true
  | n + 1 => mtc X j w n && decide (X (j + (n : Int)) = ax_chr w (n : Int))
def wl (w : Nat) : Int := ((ax_len.getD w 0 : Nat) : Int)
def wm (X : Int → Int) (N i : Int) (w : Nat) : Bool := decide (sk X N i + wl w ≤ N) && mtc X (sk X N i) w (ax_len.getD w 0) && !(decide (sk X N i + wl w < N ∧ Lt (X (sk X N i + wl w))))
theorem mtc_iff {X : Int → Int} {j : Int} {w : Nat} : ∀ n : Nat, mtc X j w n = true ↔ ∀ k : Int, 0 ≤ k → k < n → X (j + k) = ax_chr w k
  | 0 => by rw [mtc.eq_1]; exact ⟨fun _ k a b => by omega, fun _ => rfl⟩
  | n + 1 => by
    rw [mtc.eq_2, Bool.and_eq_true, mtc_iff n, decide_eq_true_iff]
    constructor
    · rintro ⟨a, b⟩ k k0 k1
      by_cases z : k = n
      · rw [z]; exact b
      · exact a k k0 (by omega)
    · intro h
      exact ⟨fun k a b => h k a (by omega), h n (by omega) (by omega)⟩
theorem wm_iff {X : Int → Int} {N i : Int} {w : Nat} : wm X N i w = true ↔ sk X N i + wl w ≤ N ∧ (∀ k : Int, 0 ≤ k → k < wl w → X (sk X N i + k) = ax_chr w k) ∧ ¬ (sk X N i + wl w < N ∧ Lt (X (sk X N i + wl w))) := by
  unfold wm
  rw [Bool.and_eq_true, Bool.and_eq_true, decide_eq_true_iff, mtc_iff, Bool.not_eq_true', decide_eq_false_iff_not]
  unfold wl
  exact and_assoc
theorem wm_sk {X : Int → Int} {N i : Int} (w : Nat) : wm X N (sk X N i) w = wm X N i w := by
  unfold wm
  rw [sk_sk]
theorem chr_lt : ∀ w : Fin 7, ∀ k : Fin 6, k.val < ax_len.getD w.val 0 → 97 ≤ ax_chr w.val (k.val : Int) ∧ ax_chr w.val (k.val : Int) ≤ 122 := by decide +kernel
theorem len_rg : ∀ w : Fin 7, 3 ≤ ax_len.getD w.val 0 ∧ ax_len.getD w.val 0 ≤ 6 := by decide +kernel
theorem wl_rg {w : Nat} (h : w < 7) : 3 ≤ wl w ∧ wl w ≤ 6 := by
  have := len_rg ⟨w, h⟩
  unfold wl
  simp only at this
  omega
theorem chr_l {w : Nat} (h : w < 7) {k : Int} (k0 : 0 ≤ k) (k1 : k < wl w) : 97 ≤ ax_chr w k ∧ ax_chr w k ≤ 122 := by
  have l := wl_rg h
  have := chr_lt ⟨w, h⟩ ⟨k.toNat, by omega⟩ (by unfold wl at k1; simp only; omega)
  simp only at this
  rw [show ((k.toNat : Nat) : Int) = k by omega] at this
  exact this
/-- what the letters say, as a number -/
def sdv (X : Int → Int) (j : Int) : Nat → Int
  | 0 => 0
  | n + 1 => if 1000000000000 < sdv X j n then 2000000000000 else 27 * sdv X j n + X (j + (n : Int)) - 96
def wcd (w : Nat) : Nat → Int
  | 0 => 0
  | n + 1 => 27 * wcd w n + ax_chr w (n : Int) - 96
theorem sdv_rg {X : Int → Int} {j : Int} : ∀ n : Nat, (∀ k : Int, j ≤ k → k < j + n → Lt (X k)) → (0 ≤ sdv X j n ∧ sdv X j n ≤ 27000000000026) ∧ (1 ≤ n → 1 ≤ sdv X j n)
  | 0, _ => by rw [sdv.eq_1]; omega
  | n + 1, h => by
    have ih := sdv_rg n (fun k a b => h k a (by omega))
    have hn := h (j + n) (by omega) (by omega)
    rw [sdv.eq_2]
    split <;> omega
theorem sdv_inj {X : Int → Int} {j : Int} {w : Nat} (hw : w < 7) : ∀ (L n : Nat), (L : Int) ≤ wl w → (∀ k : Int, j ≤ k → k < j + n → Lt (X k)) → (∀ k : Nat, k ≤ L → wcd w k < 1000000000000) → sdv X j n = wcd w L → n = L ∧ ∀ k : Int, 0 ≤ k → k < L → X (j + k) = ax_chr w k
  | 0, n, _, h, _, e => by
    rw [wcd.eq_1] at e
    have := sdv_rg n h
    exact ⟨by omega, fun k a b => by omega⟩
  | L + 1, n, hL, h, hb, e => by
    have hc := chr_l hw (k := (L : Int)) (by omega) (by omega)
    have b1 := hb (L + 1) (Nat.le_refl _)
    rw [wcd.eq_2] at e b1
    have wn : ∀ k : Nat, k ≤ L → 0 ≤ wcd w k := by
      intro k
      induction k with
      | zero => intro _; rw [wcd.eq_1]; omega
      | succ k ih =>
        intro hk
        have a := ih (by omega)
        have c := chr_l hw (k := (k : Int)) (by omega) (by omega)
        rw [wcd.eq_2]; omega
    have w0 := wn L (Nat.le_refl _)
    cases n with
    | zero => rw [sdv.eq_1] at e; omega
    | succ m =>
      have hm := h (j + m) (by omega) (by omega)
      rw [sdv.eq_2] at e
      split at e
      · omega
      · have e1 : sdv X j m = wcd w L := by omega
        have ih := sdv_inj hw L m (by omega) (fun k a b => h k a (by omega)) (fun k hk => hb k (by omega)) e1
        refine ⟨by omega, fun k k0 k1 => ?_⟩
        by_cases z : k = L
        · rw [z]
          have em : (m : Int) = L := by omega
          rw [em] at e
          omega
        · exact ih.2 k k0 (by omega)
theorem sdv_of {X : Int → Int} {j : Int} {w : Nat} : ∀ (L : Nat), (∀ k : Nat, k ≤ L → wcd w k < 1000000000000) → (∀ k : Int, 0 ≤ k → k < L → X (j + k) = ax_chr w k) → sdv X j L = wcd w L
  | 0, _, _ => by rw [sdv.eq_1, wcd.eq_1]
  | L + 1, hb, h => by
    have ih := sdv_of L (fun k hk => hb k (by omega)) (fun k a b => h k a (by omega))
    have := hb L (by omega)
    rw [sdv.eq_2, wcd.eq_2, ih, if_neg (by omega), h L (by omega) (by omega)]
theorem wcd_b : ∀ w : Fin 7, ∀ k : Fin 7, k.val ≤ ax_len.getD w.val 0 → wcd w.val k.val < 1000000000000 := by decide +kernel
theorem wcd_v : wcd 0 6 = 235981828 ∧ wcd 1 3 = 11522 ∧ wcd 2 3 = 16819 ∧ wcd 3 4 = 79958 ∧ wcd 4 4 = 459383 ∧ wcd 5 5 = 3374884 ∧ wcd 6 3 = 1489 := by decide +kernel
/-- the run of letters from j says w just where the word stands there -/
theorem said_iff {X : Int → Int} {N i : Int} {w : Nat} (hw : w < 7) (hi : i ≤ N) : sdv X (sk X N i) (lt X N (sk X N i) - sk X N i).toNat = wcd w (ax_len.getD w 0) ↔ wm X N i w = true := by
  have l := lt_rg (X := X) (N := N) _ (sk X N i) rfl
  have wr := wl_rg hw
  have s := sk_le (X := X) hi
  have l2 := l.2.1 s
  have hb : ∀ k : Nat, k ≤ ax_len.getD w 0 → wcd w k < 1000000000000 := by
    intro k hk
    have lr := len_rg ⟨w, hw⟩
    exact wcd_b ⟨w, hw⟩ ⟨k, by simp only at lr; omega⟩ hk
  rw [wm_iff]
  constructor
  · intro e
    have q := sdv_inj hw _ _ (Int.le_refl _) (fun k a b => l.2.2.2 k a (by omega)) hb e
    have en : lt X N (sk X N i) = sk X N i + wl w := by unfold wl; omega
    refine ⟨by omega, fun k a b => q.2 k a b, ?_⟩
    rw [← en]; exact l.2.2.1
  · rintro ⟨a, b, c⟩
    have en : lt X N (sk X N i) = sk X N i + wl w := by
      have run : ∀ (r : Nat) (k : Int), k + r = wl w → 0 ≤ k → lt X N (sk X N i + k) = sk X N i + wl w := by
        intro r
        induction r with
        | zero =>
          intro k hk _
          rw [show k = wl w by omega]
          exact lt_2 c
        | succ r ih =>
          intro k hk k0
          have ch := chr_l hw k0 (by omega)
          rw [lt_1 ⟨by omega, by rw [b k k0 (by omega)]; exact ch⟩, show sk X N i + k + 1 = sk X N i + (k + 1) by omega]
          exact ih (k + 1) (by omega) (by omega)
      have := run (wl w).toNat 0 (by omega) (Int.le_refl _)
      rw [Int.add_zero] at this
      exact this
    rw [en, show (sk X N i + wl w - sk X N i).toNat = ax_len.getD w 0 by unfold wl; omega]
    exact sdv_of _ hb (fun k k0 k1 => b k k0 k1)
theorem wm_end {X : Int → Int} {N i : Int} {w : Nat} (hw : w < 7) (hi : i ≤ N) (h : wm X N i w = true) : lt X N (sk X N i) = sk X N i + wl w := by
  have e := (said_iff hw hi).mpr h
  have l := lt_rg (X := X) (N := N) _ (sk X N i) rfl
  have hb : ∀ k : Nat, k ≤ ax_len.getD w 0 → wcd w k < 1000000000000 := by
    intro k hk
    have lr := len_rg ⟨w, hw⟩
    exact wcd_b ⟨w, hw⟩ ⟨k, by simp only at lr; omega⟩ hk
  have q := sdv_inj hw _ _ (Int.le_refl _) (fun k a b => l.2.2.2 k a (by omega)) hb e
  unfold wl
  omega
/-- two words do not stand at one place -/
theorem wm_un {X : Int → Int} {N i : Int} {w w' : Nat} (hw : w < 7) (hw' : w' < 7) (hi : i ≤ N) (hne : ¬ wcd w (ax_len.getD w 0) = wcd w' (ax_len.getD w' 0)) (h : wm X N i w = true) : wm X N i w' = false := by
  cases q : wm X N i w'
  · rfl
  · have a := (said_iff hw hi).mpr h
    have b := (said_iff hw' hi).mpr q
    exact absurd (a.symm.trans b) hne
/-! the first fault -/
def bf_ (f g : Int) : Int := if f = 0 then g else f
def bp_ (f p g q : Int) : Int := if f = 0 then (if g = 0 then p else q) else p
/-- a stop at i -/
def isS (X : Int → Int) (N i : Int) : Prop := sk X N i < N ∧ X (sk X N i) = 59
abbrev isS' (X : Int → Int) (N i : Int) : Prop := sk X N i < N ∧ X (sk X N i) = 59
def sF (X : Int → Int) (N i : Int) : Int := if isS' X N i then 0 else 1
def sE (X : Int → Int) (N i : Int) : Int := if isS' X N i then sk X N i + 1 else sk X N i
/-- a word that may stand: its fault, value, end -/
def oF (X : Int → Int) (N i : Int) (w : Nat) (lo hi : Int) : Int := if wm X N i w = true then nF X N (sk X N i + wl w) lo hi else 0
def oP (X : Int → Int) (N i : Int) (w : Nat) : Int := nP X N (sk X N i + wl w)
def oV (X : Int → Int) (N i : Int) (w : Nat) (d : Int) : Int := if wm X N i w = true then nV X N (sk X N i + wl w) else d
def oE (X : Int → Int) (N i : Int) (w : Nat) : Int := if wm X N i w = true then nE X N (sk X N i + wl w) else sk X N i
