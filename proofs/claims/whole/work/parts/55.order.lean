/-! rows in all orders -/
def ga (a : List Nat) (i : Nat) : Nat := a.getD i 0
def dsc (n : Nat) (a : List Nat) (k : Nat) : Bool := (List.range n).all (fun i => !(decide (k < i ∧ i + 1 < n)) || decide (ga a (i + 1) < ga a i))
def lowT (n : Nat) (a : List Nat) (j k : Nat) : Bool := (List.range n).all (fun i => !(decide (j < i)) || decide (ga a i < ga a k))
def nxl (n : Nat) (a : List Nat) (k j : Nat) : List Nat := (List.range n).map (fun x => if x < k then ga a x else if x = k then ga a j else if n + k - x = j then ga a k else ga a (n + k - x))
def stp (n : Nat) (a b : List Nat) : Bool := (List.range n).any (fun k => decide (k + 1 < n ∧ ga a k ≤ ga a (k + 1))) && (List.range n).all (fun k => (List.range n).all (fun j => !(decide (k + 1 < n ∧ ga a k ≤ ga a (k + 1) ∧ k < j ∧ ga a k ≤ ga a j) && dsc n a k && lowT n a j k) || decide (nxl n a k j = b)))
def lsO (n : Nat) (a : List Nat) : Bool := (List.range n).all (fun k => !(decide (k + 1 < n)) || decide (ga a (k + 1) < ga a k))
def okL (n : Nat) (a : List Nat) : Bool := decide (a.length = n) && a.all (fun x => decide (x < n))
def chn (n : Nat) : List (List Nat) → Bool
  | [] => false
  | [a] => okL n a && lsO n a
  | a :: b :: r => okL n a && stp n a b && chn n (b :: r)
def prm : Nat → List Nat → List (List Nat)
  | 0, _ => [[]]
  | f + 1, S => S.flatMap (fun a => (prm f (S.erase a)).map (fun l => a :: l))
set_option maxRecDepth 100000 in
theorem chn_all : ∀ n : Fin 7, chn n.val (prm n.val (List.range n.val)) = true := by decide +kernel
set_option maxRecDepth 100000 in
theorem prm_hd : ∀ n : Fin 7, (prm n.val (List.range n.val)).head? = some (List.range n.val) := by decide +kernel
theorem prm_in : ∀ (f : Nat) (S l : List Nat), S.length = f → S.Nodup → l.Nodup → (∀ x, x ∈ l ↔ x ∈ S) → l ∈ prm f S
  | 0, S, l, h0, _, _, hm => by
    have e : S = [] := List.length_eq_zero_iff.mp h0
    subst e
    cases l with
    | nil => rw [prm.eq_1]; exact List.mem_singleton.mpr rfl
    | cons a l => exact absurd ((hm a).mp List.mem_cons_self) (by simp)
  | f + 1, S, l, h0, hS, hl, hm => by
    cases l with
    | nil =>
      cases S with
      | nil => simp at h0
      | cons a S => exact absurd ((hm a).mpr List.mem_cons_self) (by simp)
    | cons a l =>
      have ha : a ∈ S := (hm a).mp List.mem_cons_self
      have hn := List.nodup_cons.mp hl
      rw [prm.eq_2, List.mem_flatMap]
      refine ⟨a, ha, List.mem_map.mpr ⟨l, prm_in f (S.erase a) l ?_ (hS.erase a) hn.2 (fun x => ?_), rfl⟩⟩
      · rw [List.length_erase_of_mem ha]; omega
      · rw [hS.mem_erase_iff]
        constructor
        · intro hx
          exact ⟨fun z => hn.1 (by rw [← z]; exact hx), (hm x).mp (List.mem_cons_of_mem _ hx)⟩
        · rintro ⟨h1, h2⟩
          rcases List.mem_cons.mp ((hm x).mpr h2) with h3 | h3
          · exact absurd h3 h1
          · exact h3
theorem prm_ok : ∀ (f : Nat) (S l : List Nat), S.length = f → S.Nodup → l ∈ prm f S → l.Nodup ∧ ∀ x, x ∈ l ↔ x ∈ S
  | 0, S, l, h0, _, hl => by
    have e : S = [] := List.length_eq_zero_iff.mp h0
    subst e
    rw [prm.eq_1] at hl
    rw [List.mem_singleton.mp hl]
    exact ⟨List.nodup_nil, fun x => Iff.rfl⟩
  | f + 1, S, l, h0, hS, hl => by
    rw [prm.eq_2, List.mem_flatMap] at hl
    obtain ⟨a, ha, hl⟩ := hl
    obtain ⟨l', h1, rfl⟩ := List.mem_map.mp hl
    have ih := prm_ok f (S.erase a) l' (by rw [List.length_erase_of_mem ha]; omega) (hS.erase a) h1
    refine ⟨List.nodup_cons.mpr ⟨fun z => ?_, ih.1⟩, fun x => ?_⟩
    · have := hS.mem_erase_iff.mp ((ih.2 a).mp z)
      exact this.1 rfl
    · rw [List.mem_cons, ih.2 x, hS.mem_erase_iff]
      constructor
      · rintro (z | z)
        · rw [z]; exact ha
        · exact z.2
      · intro z
        by_cases q : x = a
        · exact Or.inl q
        · exact Or.inr ⟨q, z⟩
set_option maxHeartbeats 4000000 in
set_option maxRecDepth 100000 in
theorem S_X11_nextOrder {post : Int → ax_M → Prop} {M : ax_M} {n : Int} (hn : M 61 47 = n) (hb : 0 ≤ n ∧ n ≤ 6) (h0 : (∀ i, 0 ≤ i → i + 1 < n → M 88 (i + 1) < M 88 i) → post 0 M) (h1 : ∀ k j M', 0 ≤ k → k + 1 < n → M 88 k ≤ M 88 (k + 1) → (∀ i, k < i → i + 1 < n → M 88 (i + 1) < M 88 i) → k < j → j < n → M 88 k ≤ M 88 j → (∀ i, j < i → i < n → M 88 i < M 88 k) → Of 88 M M' → (∀ x, 0 ≤ x → x < n → M' 88 x = if x < k then M 88 x else if x = k then M 88 j else if n + k - x = j then M 88 k else M 88 (n + k - x)) → post 1 M') : ax_Ti Y_X11_nextOrder [aR 61] SH M post := by
  -- turned round
  have L107 : ∀ (φ : Int → Int) (k : Int), 0 ≤ k → (∀ M', Of 88 M M' → (∀ x, 0 ≤ x → x < n → M' 88 x = if x ≤ k then φ x else φ (n + k - x)) → post 1 M') → ∀ (r : Nat) (lo hi : Int) (M2 : ax_M), hi + 1 ≤ lo + r → lo + hi = n + k → k + 1 ≤ lo → lo ≤ hi + 1 → Of 88 M M2 → (∀ x, 0 ≤ x → x < n → M2 88 x = if x ≤ k then φ x else if x < lo ∨ hi < x then φ (n + k - x) else φ x) → ax_J Y_X11_nextOrder (ax_Ki Y_X11_nextOrder SH post) 0 0 107 [(0, aR 61), (4, aI lo), (5, aI hi)] [] SH M2 := by
    intro φ k hk hend r
    induction r with
    | zero =>
      intro lo hi M2 hr hs hlo hlh o hv
      refine B_X11_nextOrder_107 ⟨fun _ => hend M2 o (fun x x0 x1 => ?_), fun z => by omega⟩
      rw [hv x x0 x1]
      by_cases q : x ≤ k
      · rw [if_pos q, if_pos q]
      · rw [if_neg q, if_neg q, if_pos (by omega)]
    | succ r ih =>
      intro lo hi M2 hr hs hlo hlh o hv
      refine B_X11_nextOrder_107 ⟨fun z => hend M2 o (fun x x0 x1 => ?_), fun z => ⟨by omega, by omega, by omega, by omega, ?_⟩⟩
      · rw [hv x x0 x1]
        by_cases q : x ≤ k
        · rw [if_pos q, if_pos q]
        · rw [if_neg q, if_neg q]
          by_cases q2 : x < lo ∨ hi < x
          · rw [if_pos q2]
          · rw [if_neg q2, show n + k - x = x by omega]
      · have v1 := hv lo (by omega) (by omega)
        rw [if_neg (by omega), if_neg (by omega)] at v1
        have v2 := hv hi (by omega) (by omega)
        rw [if_neg (by omega), if_neg (by omega)] at v2
        rw [v1, v2]
        by_cases hlast : hi + -1 < lo + 1 - 1
        · omega
        · refine ih (lo + 1) (hi + -1) _ (by omega) (by omega) (by omega) (by omega) ((o.tr Of.up).tr Of.up) (fun x x0 x1 => ?_)
          rw [up_k, up_k]
          by_cases q : x = hi
          · subst q
            rw [if_pos rfl, if_neg (by omega), if_pos (by omega), show n + k - x = lo by omega]
          · rw [if_neg q]
            by_cases q1 : x = lo
            · subst q1
              rw [if_pos rfl, if_neg (by omega), if_pos (by omega), show n + k - x = hi by omega]
            · rw [if_neg q1, hv x x0 x1]
              by_cases q2 : x ≤ k
              · rw [if_pos q2, if_pos q2]
              · rw [if_neg q2, if_neg q2]
                by_cases q3 : x < lo ∨ hi < x
                · rw [if_pos q3, if_pos (by omega)]
                · rw [if_neg q3, if_neg (by omega)]
  -- the last that is not less
  have L47 : ∀ (k : Int), 0 ≤ k → k + 1 < n → M 88 k ≤ M 88 (k + 1) → (∀ i, k < i → i + 1 < n → M 88 (i + 1) < M 88 i) → ∀ (r : Nat) (j : Int), j = k + 1 + r → j < n → (∀ i, j < i → i < n → M 88 i < M 88 k) → ax_J Y_X11_nextOrder (ax_Ki Y_X11_nextOrder SH post) 0 0 47 [(0, aR 61), (1, aI k), (2, aI j)] [] SH M := by
    intro k hk hk1 hle hds r
    have stop : ∀ j, k < j → j < n → M 88 k ≤ M 88 j → (∀ i, j < i → i < n → M 88 i < M 88 k) → ax_J Y_X11_nextOrder (ax_Ki Y_X11_nextOrder SH post) 0 0 107 [(0, aR 61), (4, aI (k + 1)), (5, aI (n - 1))] [] SH (ax_up (ax_up M 88 k (M 88 j)) 88 j (M 88 k)) := by
      intro j hkj hjn hj1 hj2
      refine L107 (fun x => if x = j then M 88 k else if x = k then M 88 j else M 88 x) k hk (fun M' o hv => h1 k j M' hk hk1 hle hds hkj hjn hj1 hj2 o (fun x x0 x1 => ?_)) (n - 1 - k).toNat (k + 1) (n - 1) _ (by omega) (by omega) (by omega) (by omega) (Of.up.tr Of.up) (fun x x0 x1 => ?_)
      · rw [hv x x0 x1]
        by_cases q : x ≤ k
        · rw [if_pos q]
          by_cases q1 : x = k
          · subst q1
            show (if x = j then M 88 x else if x = x then M 88 j else M 88 x) = _
            rw [if_neg (by omega), if_pos rfl, if_neg (by omega), if_pos rfl]
          · show (if x = j then M 88 k else if x = k then M 88 j else M 88 x) = _
            rw [if_neg (by omega), if_neg q1, if_pos (by omega)]
        · rw [if_neg q]
          show (if n + k - x = j then M 88 k else if n + k - x = k then M 88 j else M 88 (n + k - x)) = _
          rw [if_neg (show ¬ x < k by omega), if_neg (show ¬ x = k by omega)]
          by_cases q1 : n + k - x = j
          · rw [if_pos q1, if_pos q1]
          · rw [if_neg q1, if_neg q1, if_neg (by omega)]
      · rw [up_k, up_k]
        by_cases q : x ≤ k
        · rw [if_pos q]
        · rw [if_neg q, if_neg (show ¬ (x < k + 1 ∨ n - 1 < x) by omega)]
    induction r with
    | zero =>
      intro j hj hjn hj2
      refine B_X11_nextOrder_47 ?_
      rw [hn]
      refine ⟨by omega, by omega, fun y => ⟨by omega, by omega, stop j (by omega) hjn y hj2⟩, fun y => ?_⟩
      rw [show j = k + 1 by omega] at y
      omega
    | succ r ih =>
      intro j hj hjn hj2
      refine B_X11_nextOrder_47 ?_
      rw [hn]
      refine ⟨by omega, by omega, fun y => ⟨by omega, by omega, stop j (by omega) hjn y hj2⟩, fun y => ⟨by omega, ih (j + -1) (by omega) (by omega) (fun i i0 i1 => ?_)⟩⟩
      by_cases q : i = j
      · rw [q]; exact y
      · exact hj2 i (by omega) i1
  have L7 : ∀ (r : Nat) (k : Int), k + 1 = r → k + 1 < n ∨ k < 0 → (∀ i, k < i → 0 ≤ i → i + 1 < n → M 88 (i + 1) < M 88 i) → ax_J Y_X11_nextOrder (ax_Ki Y_X11_nextOrder SH post) 0 0 7 [(0, aR 61), (1, aI k)] [] SH M := by
    intro r
    induction r with
    | zero =>
      intro k hk hkn hd
      exact B_X11_nextOrder_7 ⟨fun _ => h0 (fun i a b => hd i (by omega) a b), fun z => by omega⟩
    | succ r ih =>
      intro k hk hkn hd
      refine B_X11_nextOrder_7 ?_
      rw [hn]
      refine ⟨fun z => by omega, fun z => ⟨by omega, by omega, by omega, fun y => ⟨by omega, L47 k z (by omega) y (fun i a b => hd i a (by omega) b) (n - 1 - (k + 1)).toNat (n - 1) (by omega) (by omega) (fun i a b => by omega)⟩, fun y => ⟨by omega, ih (k + -1) (by omega) (by omega) (fun i a b c => ?_)⟩⟩⟩
      by_cases q : i = k
      · rw [q]; exact y
      · exact hd i (by omega) b c
  refine E_X11_nextOrder (fun _ => ?_)
  rw [hn]
  refine ⟨by omega, ?_⟩
  by_cases q : n - 2 < 0
  · exact B_X11_nextOrder_7 ⟨fun _ => h0 (fun i a b => by omega), fun z => by omega⟩
  · exact L7 (n - 1).toNat (n - 2) (by omega) (by omega) (fun i a b c => by omega)
