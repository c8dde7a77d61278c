theorem shl_pd : ∀ k : Fin 7, bo_shl 1 (k : Nat) = ((2 ^ k.val : Nat) : Int) := by decide
theorem le_bits {k V s : Int} (k0 : 0 ≤ k) (k6 : k ≤ 6) (h0 : 0 ≤ V) (h1 : V ≤ bo_shl 1 k - 1) (s0 : 0 ≤ s) (h : tb V s = true) : s < k := by
  rcases Int.lt_or_le s k with z | z
  · exact z
  · exfalso
    have e := shl_pd ⟨k.toNat, by omega⟩
    have e1 : ((k.toNat : Nat) : Int) = k := by omega
    simp only [e1] at e
    have al := (all_st k0 k6).1
    obtain ⟨a, rfl⟩ : ∃ a : Nat, V = a := ⟨V.toNat, by omega⟩
    obtain ⟨j, rfl⟩ : ∃ j : Nat, s = j := ⟨s.toNat, by omega⟩
    rw [tb_n a (by omega) j] at h
    have p : a < 2 ^ j := Nat.lt_of_lt_of_le (show a < 2 ^ k.toNat by omega) (Nat.pow_le_pow_right (by decide) (by omega))
    rw [Nat.testBit_lt_two_pow p] at h
    exact absurd h (by decide)
/-- the first of the best, of those below x -/
def Pr1 (good : Int → Prop) (S : Int → Int) (x f m : Int) : Prop := (f = -1 ∧ m = -1 ∧ ∀ a, 0 ≤ a → a < x → ¬ good a) ∨ ((0 ≤ f ∧ f < x ∧ good f) ∧ m = S f ∧ 0 ≤ m ∧ ∀ a, 0 ≤ a → a < x → good a → S a ≤ m ∧ (a < f → S a < m))
section PR1
variable {good : Int → Prop} {S : Int → Int} {x f m : Int}
theorem pr1_0 : Pr1 good S 0 (-1) (-1) := Or.inl ⟨rfl, rfl, fun a b c => by omega⟩
theorem pr1_no (h : Pr1 good S x f m) (hn : ¬ good x) : Pr1 good S (x + 1) f m := by
  rcases h with ⟨a, b, c⟩ | ⟨a, b, c, d⟩
  · refine Or.inl ⟨a, b, fun y y0 y1 q => ?_⟩
    by_cases z : y = x
    · subst z; exact hn q
    · exact c y y0 (by omega) q
  · refine Or.inr ⟨⟨a.1, by omega, a.2.2⟩, b, c, fun y y0 y1 q => ?_⟩
    by_cases z : y = x
    · subst z; exact absurd q hn
    · exact d y y0 (by omega) q
theorem pr1_le (h : Pr1 good S x f m) (hg : good x) (h0 : 0 ≤ S x) (hl : S x ≤ m) : Pr1 good S (x + 1) f m := by
  rcases h with ⟨a, b, c⟩ | ⟨a, b, c, d⟩
  · omega
  · refine Or.inr ⟨⟨a.1, by omega, a.2.2⟩, b, c, fun y y0 y1 q => ?_⟩
    by_cases z : y = x
    · subst z; exact ⟨hl, fun q2 => by omega⟩
    · exact d y y0 (by omega) q
theorem pr1_gt (h : Pr1 good S x f m) (hx : 0 ≤ x) (hg : good x) (h0 : 0 ≤ S x) (hl : m < S x) : Pr1 good S (x + 1) x (S x) := by
  refine Or.inr ⟨⟨hx, by omega, hg⟩, rfl, h0, fun y y0 y1 q => ?_⟩
  by_cases z : y = x
  · subst z; exact ⟨Int.le_refl _, fun q2 => by omega⟩
  · rcases h with ⟨a, b, c⟩ | ⟨a, b, c, d⟩
    · exact absurd q (c y y0 (by omega))
    · have := d y y0 (by omega) q
      exact ⟨by omega, fun _ => by omega⟩
theorem pr1_un {f' m' : Int} (h : Pr1 good S x f m) (h' : Pr1 good S x f' m') : f = f' ∧ m = m' := by
  rcases h with ⟨a, b, c⟩ | ⟨a, b, c, d⟩
  · rcases h' with ⟨a', b', c'⟩ | ⟨a', b', c', d'⟩
    · omega
    · exact absurd a'.2.2 (c f' a'.1 a'.2.1)
  · rcases h' with ⟨a', b', c'⟩ | ⟨a', b', c', d'⟩
    · exact absurd a.2.2 (c' f a.1 a.2.1)
    · have q1 := d f' a'.1 a'.2.1 a'.2.2
      have q2 := d' f a.1 a.2.1 a.2.2
      have e : f = f' := by
        rcases Int.lt_or_le f f' with z | z
        · have := q2.2 z; omega
        · rcases Int.lt_or_le f' f with z2 | z2
          · have := q1.2 z2; omega
          · omega
      exact ⟨e, by rw [b, b', e]⟩
theorem pr1_c {good' : Int → Prop} {S' : Int → Int} (hg : ∀ a, 0 ≤ a → a < x → (good a ↔ good' a)) (hS : ∀ a, 0 ≤ a → a < x → good a → S a = S' a) (h : Pr1 good S x f m) : Pr1 good' S' x f m := by
  rcases h with ⟨a, b, c⟩ | ⟨a, b, c, d⟩
  · exact Or.inl ⟨a, b, fun y y0 y1 q => c y y0 y1 ((hg y y0 y1).mpr q)⟩
  · refine Or.inr ⟨⟨a.1, a.2.1, (hg f a.1 a.2.1).mp a.2.2⟩, by rw [b]; exact hS f a.1 a.2.1 a.2.2, c, fun y y0 y1 q => ?_⟩
    have q' := (hg y y0 y1).mpr q
    rw [← hS y y0 y1 q']
    exact d y y0 y1 q'
end PR1
/-- the first of the best pairs, of those before (x, y) -/
def Vis (N x y a b : Int) : Prop := 0 ≤ a ∧ 0 ≤ b ∧ b < N ∧ (a < x ∨ (a = x ∧ b < y))
def Pr2 (good : Int → Int → Prop) (S : Int → Int → Int) (N x y f s m : Int) : Prop := (f = -1 ∧ s = -1 ∧ m = -1 ∧ ∀ a b, Vis N x y a b → ¬ good a b) ∨ ((Vis N x y f s ∧ good f s) ∧ m = S f s ∧ 0 ≤ m ∧ ∀ a b, Vis N x y a b → good a b → S a b ≤ m ∧ ((a < f ∨ (a = f ∧ b < s)) → S a b < m))
section PR2
variable {good : Int → Int → Prop} {S : Int → Int → Int} {N x y f s m : Int}
theorem vis_s {a b : Int} (h : Vis N x (y + 1) a b) : Vis N x y a b ∨ (a = x ∧ b = y) := by
  unfold Vis at *
  omega
theorem vis_m {a b : Int} (h : Vis N x y a b) : Vis N x (y + 1) a b := by
  unfold Vis at *
  omega
theorem pr2_0 : Pr2 good S N 0 0 (-1) (-1) (-1) := Or.inl ⟨rfl, rfl, rfl, fun a b c => by unfold Vis at c; omega⟩
theorem pr2_no (h : Pr2 good S N x y f s m) (hn : ¬ good x y) : Pr2 good S N x (y + 1) f s m := by
  rcases h with ⟨a, b, b2, c⟩ | ⟨a, b, c, d⟩
  · refine Or.inl ⟨a, b, b2, fun u v hv q => ?_⟩
    rcases vis_s hv with z | z
    · exact c u v z q
    · rw [z.1, z.2] at q; exact hn q
  · refine Or.inr ⟨⟨vis_m a.1, a.2⟩, b, c, fun u v hv q => ?_⟩
    rcases vis_s hv with z | z
    · exact d u v z q
    · rw [z.1, z.2] at q; exact absurd q hn
theorem pr2_le (h : Pr2 good S N x y f s m) (h0 : 0 ≤ S x y) (hl : S x y ≤ m) : Pr2 good S N x (y + 1) f s m := by
  rcases h with ⟨a, b, b2, c⟩ | ⟨a, b, c, d⟩
  · omega
  · refine Or.inr ⟨⟨vis_m a.1, a.2⟩, b, c, fun u v hv q => ?_⟩
    rcases vis_s hv with z | z
    · exact d u v z q
    · rw [z.1, z.2]
      refine ⟨hl, fun q2 => ?_⟩
      have := a.1
      unfold Vis at this
      omega
theorem pr2_gt (h : Pr2 good S N x y f s m) (hx : 0 ≤ x) (hy : 0 ≤ y) (hyN : y < N) (hg : good x y) (h0 : 0 ≤ S x y) (hl : m < S x y) : Pr2 good S N x (y + 1) x y (S x y) := by
  refine Or.inr ⟨⟨⟨hx, hy, hyN, by omega⟩, hg⟩, rfl, h0, fun u v hv q => ?_⟩
  rcases vis_s hv with z | z
  · rcases h with ⟨a, b, b2, c⟩ | ⟨a, b, c, d⟩
    · exact absurd q (c u v z)
    · have := d u v z q
      exact ⟨by omega, fun _ => by omega⟩
  · rw [z.1, z.2]
    exact ⟨Int.le_refl _, fun q2 => by omega⟩
theorem pr2_row (h : Pr2 good S N x N f s m) : Pr2 good S N (x + 1) 0 f s m := by
  have v : ∀ a b, Vis N (x + 1) 0 a b ↔ Vis N x N a b := fun a b => by unfold Vis; omega
  unfold Pr2 at *
  simp only [v]
  exact h
/-- a row with none at all -/
theorem pr2_skip (h : Pr2 good S N x y f s m) (hn : ∀ b, 0 ≤ b → b < N → ¬ good x b) : Pr2 good S N (x + 1) 0 f s m := by
  have v : ∀ a b, Vis N (x + 1) 0 a b → Vis N x y a b ∨ a = x := fun a b => by unfold Vis; omega
  have v2 : ∀ a b, Vis N x y a b → Vis N (x + 1) 0 a b := fun a b => by unfold Vis; omega
  rcases h with ⟨a, b, b2, c⟩ | ⟨a, b, c, d⟩
  · refine Or.inl ⟨a, b, b2, fun u w hv q => ?_⟩
    rcases v u w hv with z | z
    · exact c u w z q
    · rw [z] at q; exact hn w hv.2.1 hv.2.2.1 q
  · refine Or.inr ⟨⟨v2 f s a.1, a.2⟩, b, c, fun u w hv q => ?_⟩
    rcases v u w hv with z | z
    · exact d u w z q
    · rw [z] at q; exact absurd q (hn w hv.2.1 hv.2.2.1)
theorem pr2_un {f' s' m' : Int} (h : Pr2 good S N x y f s m) (h' : Pr2 good S N x y f' s' m') : f = f' ∧ s = s' ∧ m = m' := by
  rcases h with ⟨a, b, b2, c⟩ | ⟨a, b, c, d⟩
  · rcases h' with ⟨a', b', b2', c'⟩ | ⟨a', b', c', d'⟩
    · omega
    · exact absurd a'.2 (c f' s' a'.1)
  · rcases h' with ⟨a', b', b2', c'⟩ | ⟨a', b', c', d'⟩
    · exact absurd a.2 (c' f s a.1)
    · have q1 := d f' s' a'.1 a'.2
      have q2 := d' f s a.1 a.2
      have e : f = f' ∧ s = s' := by omega
      exact ⟨e.1, e.2, by rw [b, b', e.1, e.2]⟩
end PR2
theorem bst_nn {M : ax_M} {e s q t R : Int} {X : Int → Prop} (h : Bst M e s q t X R) : R = -1 ∨ 0 ≤ R := by have := h.1; omega
set_option maxHeartbeats 4000000 in
set_option maxRecDepth 100000 in
theorem S_X7_bestOfOne {post : Int → ax_M → Prop} {M : ax_M} (h6 : 0 ≤ M 51 4 ∧ M 51 4 ≤ 6) (hF : ∀ X, 0 ≤ X → X ≤ bo_shl 1 (M 51 4) - 1 → -1 ≤ M 56 X) (h : ∀ f m, Pr1 (fun X => ¬ M 56 X = -1) (M 56) (bo_shl 1 (M 51 4) - 1 + 1) f m → post f M) : ax_Ti Y_X7_bestOfOne [aR 51] SH M post := by
  have al := (all_st h6.1 h6.2).1
  have L : ∀ (r : Nat) (x f m : Int), x + r = bo_shl 1 (M 51 4) - 1 + 1 → 0 ≤ x → Pr1 (fun X => ¬ M 56 X = -1) (M 56) x f m → ax_J Y_X7_bestOfOne (ax_Ki Y_X7_bestOfOne SH post) 0 0 4 [(0, aR 51), (1, aI f), (2, aI x)] [] SH M := by
    intro r
    induction r with
    | zero =>
      intro x f m hx hx0 hp
      refine B_X7_bestOfOne_4 ⟨by omega, fun _ => h f m ?_, fun z => by omega⟩
      rw [← hx, show x + ((0 : Nat) : Int) = x by omega]; exact hp
    | succ r ih =>
      intro x f m hx hx0 hp
      have g := hF x hx0 (by omega)
      refine B_X7_bestOfOne_4 ⟨by omega, fun z => by omega, fun _ => ⟨by omega, fun y => ⟨by omega, ih (x + 1) f m (by omega) (by omega) (pr1_no hp (fun q => q y))⟩, fun y => ⟨fun y1 => ⟨by omega, ih (x + 1) x _ (by omega) (by omega) (pr1_gt hp hx0 y (by omega) ?_)⟩, fun y1 => ?_⟩⟩⟩
      · rcases hp with ⟨a, b, c⟩ | ⟨a, b, c, d⟩
        · omega
        · omega
      · have hp' := hp
        rcases hp with ⟨a, b, c⟩ | ⟨a, b, c, d⟩
        · exact absurd a y1
        · refine ⟨by omega, fun y2 => ⟨by omega, ih (x + 1) f m (by omega) (by omega) (pr1_le hp' y (by omega) (by omega))⟩, fun y2 => ⟨by omega, ih (x + 1) x _ (by omega) (by omega) (pr1_gt hp' hx0 y (by omega) (by omega))⟩⟩
  exact E_X7_bestOfOne (fun _ => L (bo_shl 1 (M 51 4) - 1 + 1).toNat 0 (-1) (-1) (by omega) (Int.le_refl _) pr1_0)
set_option maxHeartbeats 4000000 in
set_option maxRecDepth 100000 in
theorem S_X7_bestOfTwo {post : Int → ax_M → Prop} {M : ax_M} {x1 : Int} (h6 : 0 ≤ M 51 4 ∧ M 51 4 ≤ 6) (hst : ∀ s, 0 ≤ s → s < M 51 4 → 0 ≤ M 52 s ∧ M 52 s < 12) (hF : ∀ X, 0 ≤ X → X ≤ bo_shl 1 (M 51 4) - 1 → (-1 ≤ M 56 X ∧ M 56 X ≤ 1000) ∧ (-1 ≤ M 57 X ∧ M 57 X ≤ 1000)) (h : ∀ f s m z, Pr2 (fun X X' => bo_and X X' = 0 ∧ ¬ M 56 X = -1 ∧ ¬ M 57 X' = -1) (fun X X' => M 56 X + M 57 X') (bo_shl 1 (M 51 4) - 1 + 1) (bo_shl 1 (M 51 4) - 1 + 1) 0 f s m → (m = -1 → z = -1) → (¬ m = -1 → x1 = 2 → z = m) → (¬ m = -1 → x1 = 0 → Pz (M 52) (M 51 4) f z) → (¬ m = -1 → ¬ x1 = 2 → ¬ x1 = 0 → Pz (M 52) (M 51 4) s z) → post z M) : ax_Ti Y_X7_bestOfTwo [aR 51, aI x1] SH M post := by
  have al := (all_st h6.1 h6.2).1
  have L : ∀ (r : Nat) (x f s m : Int), x + r = bo_shl 1 (M 51 4) - 1 + 1 → 0 ≤ x → Pr2 (fun X X' => bo_and X X' = 0 ∧ ¬ M 56 X = -1 ∧ ¬ M 57 X' = -1) (fun X X' => M 56 X + M 57 X') (bo_shl 1 (M 51 4) - 1 + 1) x 0 f s m → ax_J Y_X7_bestOfTwo (ax_Ki Y_X7_bestOfTwo SH post) 0 0 10 [(0, aR 51), (1, aI x1), (2, aI f), (3, aI s), (4, aI m), (5, aI x)] [] SH M := by
    intro r
    induction r with
    | zero =>
      intro x f s m hx hx0 hp
      have ex : x = bo_shl 1 (M 51 4) - 1 + 1 := by omega
      rw [ex] at hp
      refine B_X7_bestOfTwo_10 ⟨by omega, fun _ => ⟨fun y => h f s m m hp (fun _ => y) (fun z => absurd y z) (fun z => absurd y z) (fun z => absurd y z), fun y => ⟨fun y1 => ⟨fun y2 => S_X7_placesOf h6 hst (fun Z hZ => h f s m Z hp (fun z => absurd z y) (fun _ z => absurd z y1) (fun _ z => absurd z y2) (fun _ _ _ => hZ)), fun y2 => S_X7_placesOf h6 hst (fun Z hZ => h f s m Z hp (fun z => absurd z y) (fun _ z => absurd z y1) (fun _ _ => hZ) (fun _ _ z => absurd y2 z))⟩, fun y1 => h f s m m hp (fun z => absurd z y) (fun _ _ => rfl) (fun _ z => by omega) (fun _ z => absurd y1 z)⟩⟩, fun z => by omega⟩
    | succ r ih =>
      intro x f s m hx hx0 hp
      have g := hF x hx0 (by omega)
      have L22 : ∀ (k : Nat) (y f s m : Int), y + k = bo_shl 1 (M 51 4) - 1 + 1 → 0 ≤ y → Pr2 (fun X X' => bo_and X X' = 0 ∧ ¬ M 56 X = -1 ∧ ¬ M 57 X' = -1) (fun X X' => M 56 X + M 57 X') (bo_shl 1 (M 51 4) - 1 + 1) x y f s m → ax_J Y_X7_bestOfTwo (ax_Ki Y_X7_bestOfTwo SH post) 0 0 22 [(0, aR 51), (1, aI x1), (2, aI f), (3, aI s), (4, aI m), (5, aI x), (6, aI y)] [] SH M := by
        intro k
        induction k with
        | zero =>
          intro y f s m hy hy0 hp
          have ey : y = bo_shl 1 (M 51 4) - 1 + 1 := by omega
          rw [ey] at hp
          exact B_X7_bestOfTwo_22 ⟨by omega, fun _ => ⟨by omega, ih (x + 1) f s m (by omega) (by omega) (pr2_row hp)⟩, fun z => by omega⟩
        | succ k ihk =>
          intro y f s m hy hy0 hp
          have g2 := hF y hy0 (by omega)
          refine B_X7_bestOfTwo_22 ⟨by omega, fun z => by omega, fun _ => ⟨fun z => ⟨by omega, ihk (y + 1) f s m (by omega) (by omega) (pr2_no hp (fun q => z q.1))⟩, fun z => ⟨by omega, fun z1 => ⟨by omega, ihk (y + 1) f s m (by omega) (by omega) (pr2_no hp (fun q => q.2.1 z1))⟩, fun z1 => ⟨by omega, fun z2 => ⟨by omega, fun z3 => ⟨by omega, ihk (y + 1) f s m (by omega) (by omega) (pr2_le hp (show 0 ≤ M 56 x + M 57 y by omega) z3)⟩, fun z3 => ⟨by omega, ihk (y + 1) x y _ (by omega) (by omega) (pr2_gt hp hx0 hy0 (by omega) ⟨z, z1, z2⟩ (show 0 ≤ M 56 x + M 57 y by omega) z3)⟩⟩, fun z2 => ⟨by omega, ihk (y + 1) f s m (by omega) (by omega) (pr2_no hp (fun q => q.2.2 z2))⟩⟩⟩⟩⟩
      exact B_X7_bestOfTwo_10 ⟨by omega, fun z => by omega, fun _ => L22 (bo_shl 1 (M 51 4) - 1 + 1).toNat 0 f s m (by omega) (Int.le_refl _) hp⟩
  exact E_X7_bestOfTwo (fun _ => L (bo_shl 1 (M 51 4) - 1 + 1).toNat 0 (-1) (-1) (-1) (by omega) (Int.le_refl _) pr2_0)
