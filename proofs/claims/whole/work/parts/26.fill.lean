/-- memories that are the same but for some places -/
def Ofs (l : List Nat) (M M' : ax_M) : Prop := ∀ a, a ∉ l → M' a = M a
theorem Ofs.rf {l : List Nat} {M : ax_M} : Ofs l M M := fun _ _ => rfl
theorem Ofs.tr {l : List Nat} {M M1 M2 : ax_M} (h : Ofs l M M1) (h2 : Ofs l M1 M2) : Ofs l M M2 := fun a ha => (h2 a ha).trans (h a ha)
theorem Ofs.up {l : List Nat} {M : ax_M} {q : Nat} {i v : Int} (hq : q ∈ l) : Ofs l M (ax_up M q i v) := fun a ha => up_off M i v (fun z => ha (by rw [z]; exact hq))
theorem Ofs.mono {l l' : List Nat} {M M' : ax_M} (h : Ofs l M M') (hl : ∀ a ∈ l, a ∈ l') : Ofs l' M M' := fun a ha => h a (fun z => ha (hl a z))
theorem Of.s {q : Nat} {l : List Nat} {M M' : ax_M} (h : Of q M M') (hq : q ∈ l) : Ofs l M M' := fun a ha => h a (fun z => ha (by rw [z]; exact hq))
theorem up_get {M : ax_M} {k a : Nat} {i v : Int} (j : Int) : ax_up M k i v a j = if a = k ∧ j = i then v else M a j := rfl
/-- a row filled with one number -/
def ax_fl (M : ax_M) (b : Nat) (n v : Int) : ax_M := fun a j => if a = b ∧ 0 ≤ j ∧ j < n then v else M a j
theorem fl_0 (M : ax_M) (b : Nat) (v : Int) : ax_fl M b 0 v = M := by
  funext a j
  unfold ax_fl
  rw [if_neg (by omega)]
theorem fl_s (M : ax_M) (b : Nat) {n v : Int} (h : 0 ≤ n) : ax_up (ax_fl M b n v) b n v = ax_fl M b (n + 1) v := by
  funext a j
  unfold ax_up ax_fl
  by_cases h1 : a = b
  · by_cases h2 : j = n
    · rw [if_pos ⟨h1, h2⟩, if_pos (by omega)]
    · rw [if_neg (by omega)]
      by_cases h3 : 0 ≤ j ∧ j < n
      · rw [if_pos ⟨h1, h3⟩, if_pos (by omega)]
      · rw [if_neg (by omega), if_neg (by omega)]
  · rw [if_neg (by omega), if_neg (by omega), if_neg (by omega)]
theorem fl_in {M : ax_M} {b : Nat} {n v j : Int} (h : 0 ≤ j ∧ j < n) : ax_fl M b n v b j = v := if_pos ⟨rfl, h⟩
theorem fl_out {M : ax_M} {b : Nat} {n v j : Int} (h : ¬ (0 ≤ j ∧ j < n)) : ax_fl M b n v b j = M b j := if_neg (fun z => h z.2)
theorem fl_off {M : ax_M} {a b : Nat} {n v : Int} (h : a ≠ b) : ax_fl M b n v a = M a := by
  funext j
  exact if_neg (fun z => h z.1)
theorem S_fill_38 {post : ax_M → Prop} {M : ax_M} {v : Int} (h : post (ax_fl M 38 12 v)) : ax_Tv Y_J7_fill_53178 [aR 38, aI v] SH M post := by
  have key : ∀ (j : Nat) (i : Int), 0 ≤ i → i + (j : Int) = 12 → ax_J Y_J7_fill_53178 (ax_Kv Y_J7_fill_53178 SH post) 0 0 5 [(0, aR 38), (1, aI v), (2, aI i), (3, aI 12)] [] SH (ax_fl M 38 i v) := by
    intro j
    induction j with
    | zero =>
      intro i h0 hi
      have hn : i = 12 := by omega
      subst hn
      exact B_J7_fill_53178_38_5 ⟨fun _ => h, fun c => by omega⟩
    | succ j ih =>
      intro i h0 hi
      refine B_J7_fill_53178_38_5 ⟨fun c => by omega, fun c => ⟨by omega, by omega, ?_⟩⟩
      rw [fl_s M 38 h0]
      exact ih (i + 1) (by omega) (by omega)
  refine E_J7_fill_53178_38 (fun _ => ?_)
  have h1 := key 12 0 (Int.le_refl _) (by omega)
  rw [fl_0] at h1
  exact h1
theorem S_fill_39 {post : ax_M → Prop} {M : ax_M} {v : Int} (h : post (ax_fl M 39 12 v)) : ax_Tv Y_J7_fill_53178 [aR 39, aI v] SH M post := by
  have key : ∀ (j : Nat) (i : Int), 0 ≤ i → i + (j : Int) = 12 → ax_J Y_J7_fill_53178 (ax_Kv Y_J7_fill_53178 SH post) 0 0 5 [(0, aR 39), (1, aI v), (2, aI i), (3, aI 12)] [] SH (ax_fl M 39 i v) := by
    intro j
    induction j with
    | zero =>
      intro i h0 hi
      have hn : i = 12 := by omega
      subst hn
      exact B_J7_fill_53178_39_5 ⟨fun _ => h, fun c => by omega⟩
    | succ j ih =>
      intro i h0 hi
      refine B_J7_fill_53178_39_5 ⟨fun c => by omega, fun c => ⟨by omega, by omega, ?_⟩⟩
      rw [fl_s M 39 h0]
      exact ih (i + 1) (by omega) (by omega)
  refine E_J7_fill_53178_39 (fun _ => ?_)
  have h1 := key 12 0 (Int.le_refl _) (by omega)
  rw [fl_0] at h1
  exact h1
theorem S_fill_41 {post : ax_M → Prop} {M : ax_M} {v : Int} (h : post (ax_fl M 41 3660 v)) : ax_Tv Y_J7_fill_53178 [aR 41, aI v] SH M post := by
  have key : ∀ (j : Nat) (i : Int), 0 ≤ i → i + (j : Int) = 3660 → ax_J Y_J7_fill_53178 (ax_Kv Y_J7_fill_53178 SH post) 0 0 5 [(0, aR 41), (1, aI v), (2, aI i), (3, aI 3660)] [] SH (ax_fl M 41 i v) := by
    intro j
    induction j with
    | zero =>
      intro i h0 hi
      have hn : i = 3660 := by omega
      subst hn
      exact B_J7_fill_53178_41_5 ⟨fun _ => h, fun c => by omega⟩
    | succ j ih =>
      intro i h0 hi
      refine B_J7_fill_53178_41_5 ⟨fun c => by omega, fun c => ⟨by omega, by omega, ?_⟩⟩
      rw [fl_s M 41 h0]
      exact ih (i + 1) (by omega) (by omega)
  refine E_J7_fill_53178_41 (fun _ => ?_)
  have h1 := key 3660 0 (Int.le_refl _) (by omega)
  rw [fl_0] at h1
  exact h1
theorem S_fill_42 {post : ax_M → Prop} {M : ax_M} {v : Int} (h : post (ax_fl M 42 61 v)) : ax_Tv Y_J7_fill_53178 [aR 42, aI v] SH M post := by
  have key : ∀ (j : Nat) (i : Int), 0 ≤ i → i + (j : Int) = 61 → ax_J Y_J7_fill_53178 (ax_Kv Y_J7_fill_53178 SH post) 0 0 5 [(0, aR 42), (1, aI v), (2, aI i), (3, aI 61)] [] SH (ax_fl M 42 i v) := by
    intro j
    induction j with
    | zero =>
      intro i h0 hi
      have hn : i = 61 := by omega
      subst hn
      exact B_J7_fill_53178_42_5 ⟨fun _ => h, fun c => by omega⟩
    | succ j ih =>
      intro i h0 hi
      refine B_J7_fill_53178_42_5 ⟨fun c => by omega, fun c => ⟨by omega, by omega, ?_⟩⟩
      rw [fl_s M 42 h0]
      exact ih (i + 1) (by omega) (by omega)
  refine E_J7_fill_53178_42 (fun _ => ?_)
  have h1 := key 61 0 (Int.le_refl _) (by omega)
  rw [fl_0] at h1
  exact h1
theorem S_fill_43 {post : ax_M → Prop} {M : ax_M} {v : Int} (h : post (ax_fl M 43 12 v)) : ax_Tv Y_J7_fill_53178 [aR 43, aI v] SH M post := by
  have key : ∀ (j : Nat) (i : Int), 0 ≤ i → i + (j : Int) = 12 → ax_J Y_J7_fill_53178 (ax_Kv Y_J7_fill_53178 SH post) 0 0 5 [(0, aR 43), (1, aI v), (2, aI i), (3, aI 12)] [] SH (ax_fl M 43 i v) := by
    intro j
    induction j with
    | zero =>
      intro i h0 hi
      have hn : i = 12 := by omega
      subst hn
      exact B_J7_fill_53178_43_5 ⟨fun _ => h, fun c => by omega⟩
    | succ j ih =>
      intro i h0 hi
      refine B_J7_fill_53178_43_5 ⟨fun c => by omega, fun c => ⟨by omega, by omega, ?_⟩⟩
      rw [fl_s M 43 h0]
      exact ih (i + 1) (by omega) (by omega)
  refine E_J7_fill_53178_43 (fun _ => ?_)
  have h1 := key 12 0 (Int.le_refl _) (by omega)
  rw [fl_0] at h1
  exact h1
theorem S_fill_45 {post : ax_M → Prop} {M : ax_M} {v : Int} (h : post (ax_fl M 45 12 v)) : ax_Tv Y_J7_fill_53178 [aR 45, aI v] SH M post := by
  have key : ∀ (j : Nat) (i : Int), 0 ≤ i → i + (j : Int) = 12 → ax_J Y_J7_fill_53178 (ax_Kv Y_J7_fill_53178 SH post) 0 0 5 [(0, aR 45), (1, aI v), (2, aI i), (3, aI 12)] [] SH (ax_fl M 45 i v) := by
    intro j
    induction j with
    | zero =>
      intro i h0 hi
      have hn : i = 12 := by omega
      subst hn
      exact B_J7_fill_53178_45_5 ⟨fun _ => h, fun c => by omega⟩
    | succ j ih =>
      intro i h0 hi
      refine B_J7_fill_53178_45_5 ⟨fun c => by omega, fun c => ⟨by omega, by omega, ?_⟩⟩
      rw [fl_s M 45 h0]
      exact ih (i + 1) (by omega) (by omega)
  refine E_J7_fill_53178_45 (fun _ => ?_)
  have h1 := key 12 0 (Int.le_refl _) (by omega)
  rw [fl_0] at h1
  exact h1
theorem S_fill_46 {post : ax_M → Prop} {M : ax_M} {v : Int} (h : post (ax_fl M 46 732 v)) : ax_Tv Y_J7_fill_53178 [aR 46, aI v] SH M post := by
  have key : ∀ (j : Nat) (i : Int), 0 ≤ i → i + (j : Int) = 732 → ax_J Y_J7_fill_53178 (ax_Kv Y_J7_fill_53178 SH post) 0 0 5 [(0, aR 46), (1, aI v), (2, aI i), (3, aI 732)] [] SH (ax_fl M 46 i v) := by
    intro j
    induction j with
    | zero =>
      intro i h0 hi
      have hn : i = 732 := by omega
      subst hn
      exact B_J7_fill_53178_46_5 ⟨fun _ => h, fun c => by omega⟩
    | succ j ih =>
      intro i h0 hi
      refine B_J7_fill_53178_46_5 ⟨fun c => by omega, fun c => ⟨by omega, by omega, ?_⟩⟩
      rw [fl_s M 46 h0]
      exact ih (i + 1) (by omega) (by omega)
  refine E_J7_fill_53178_46 (fun _ => ?_)
  have h1 := key 732 0 (Int.le_refl _) (by omega)
  rw [fl_0] at h1
  exact h1
theorem S_fill_56 {post : ax_M → Prop} {M : ax_M} {v : Int} (h : post (ax_fl M 56 64 v)) : ax_Tv Y_J7_fill_53178 [aR 56, aI v] SH M post := by
  have key : ∀ (j : Nat) (i : Int), 0 ≤ i → i + (j : Int) = 64 → ax_J Y_J7_fill_53178 (ax_Kv Y_J7_fill_53178 SH post) 0 0 5 [(0, aR 56), (1, aI v), (2, aI i), (3, aI 64)] [] SH (ax_fl M 56 i v) := by
    intro j
    induction j with
    | zero =>
      intro i h0 hi
      have hn : i = 64 := by omega
      subst hn
      exact B_J7_fill_53178_56_5 ⟨fun _ => h, fun c => by omega⟩
    | succ j ih =>
      intro i h0 hi
      refine B_J7_fill_53178_56_5 ⟨fun c => by omega, fun c => ⟨by omega, by omega, ?_⟩⟩
      rw [fl_s M 56 h0]
      exact ih (i + 1) (by omega) (by omega)
  refine E_J7_fill_53178_56 (fun _ => ?_)
  have h1 := key 64 0 (Int.le_refl _) (by omega)
  rw [fl_0] at h1
  exact h1
theorem S_fill_57 {post : ax_M → Prop} {M : ax_M} {v : Int} (h : post (ax_fl M 57 64 v)) : ax_Tv Y_J7_fill_53178 [aR 57, aI v] SH M post := by
  have key : ∀ (j : Nat) (i : Int), 0 ≤ i → i + (j : Int) = 64 → ax_J Y_J7_fill_53178 (ax_Kv Y_J7_fill_53178 SH post) 0 0 5 [(0, aR 57), (1, aI v), (2, aI i), (3, aI 64)] [] SH (ax_fl M 57 i v) := by
    intro j
    induction j with
    | zero =>
      intro i h0 hi
      have hn : i = 64 := by omega
      subst hn
      exact B_J7_fill_53178_57_5 ⟨fun _ => h, fun c => by omega⟩
    | succ j ih =>
      intro i h0 hi
      refine B_J7_fill_53178_57_5 ⟨fun c => by omega, fun c => ⟨by omega, by omega, ?_⟩⟩
      rw [fl_s M 57 h0]
      exact ih (i + 1) (by omega) (by omega)
  refine E_J7_fill_53178_57 (fun _ => ?_)
  have h1 := key 64 0 (Int.le_refl _) (by omega)
  rw [fl_0] at h1
  exact h1
