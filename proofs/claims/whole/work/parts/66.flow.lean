/-! men who go minute by minute: a flow -/
def Sm (f : Int → Int) : Nat → Int
  | 0 => 0
  | n + 1 => Sm f n + f (n : Int)
theorem sm_c {f g : Int → Int} : ∀ n : Nat, (∀ k : Int, 0 ≤ k → k < n → f k = g k) → Sm f n = Sm g n
  | 0, _ => by rw [Sm.eq_1, Sm.eq_1]
  | n + 1, h => by rw [Sm.eq_2, Sm.eq_2, sm_c n (fun k a b => h k a (by omega)), h n (by omega) (by omega)]
theorem sm_add (f g : Int → Int) : ∀ n : Nat, Sm (fun x => f x + g x) n = Sm f n + Sm g n
  | 0 => by rw [Sm.eq_1, Sm.eq_1, Sm.eq_1]; rfl
  | n + 1 => by rw [Sm.eq_2, Sm.eq_2, Sm.eq_2, sm_add f g n]; omega
theorem sm_sub (f g : Int → Int) : ∀ n : Nat, Sm (fun x => f x - g x) n = Sm f n - Sm g n
  | 0 => by rw [Sm.eq_1, Sm.eq_1, Sm.eq_1]; rfl
  | n + 1 => by rw [Sm.eq_2, Sm.eq_2, Sm.eq_2, sm_sub f g n]; omega
theorem sm_nn {f : Int → Int} : ∀ n : Nat, (∀ k : Int, 0 ≤ k → k < n → 0 ≤ f k) → 0 ≤ Sm f n ∧ (Sm f n = 0 → ∀ k : Int, 0 ≤ k → k < n → f k = 0)
  | 0, _ => by rw [Sm.eq_1]; exact ⟨Int.le_refl _, fun _ k a b => by omega⟩
  | n + 1, h => by
    have ih := sm_nn n (fun k a b => h k a (by omega))
    have hn := h n (by omega) (by omega)
    rw [Sm.eq_2]
    refine ⟨by omega, fun z k a b => ?_⟩
    by_cases q : k = n
    · subst q; omega
    · exact ih.2 (by omega) k a (by omega)
theorem sm_upd {f g : Int → Int} {i : Int} (hi : 0 ≤ i) : ∀ n : Nat, i < n → (∀ k : Int, 0 ≤ k → k < n → k ≠ i → g k = f k) → Sm g n = Sm f n + (g i - f i)
  | 0, h, _ => by omega
  | n + 1, h, hk => by
    rw [Sm.eq_2, Sm.eq_2]
    by_cases q : i = n
    · rw [sm_c (f := g) (g := f) n (fun k a b => hk k a (by omega) (by omega)), q]; omega
    · rw [sm_upd hi n (by omega) (fun k a b c => hk k a (by omega) c), hk n (by omega) (by omega) (by omega)]; omega
/-- how many men are at p, of the first j -/
def mn (M : ax_M) (p : Int) : Nat → Int
  | 0 => 0
  | j + 1 => mn M p j + (if M 72 (j : Int) = p then 1 else 0)
theorem mn_rg (M : ax_M) (p : Int) : ∀ j : Nat, 0 ≤ mn M p j ∧ mn M p j ≤ j
  | 0 => by rw [mn.eq_1]; omega
  | j + 1 => by
    have h := mn_rg M p j
    rw [mn.eq_2]
    split <;> omega
def mA (M : ax_M) (p : Int) : Int := mn M p (M 61 25).toNat
theorem mn_sum {M : ax_M} : ∀ j : Nat, (∀ k : Int, 0 ≤ k → k < j → 0 ≤ M 72 k ∧ M 72 k < 12) → Sm (fun p => mn M p j) 12 = j
  | 0, _ => by
    have : Sm (fun p => mn M p 0) 12 = Sm (fun _ => 0) 12 := sm_c 12 (fun k _ _ => mn.eq_1 M k)
    rw [this]; decide
  | j + 1, h => by
    have ih := mn_sum j (fun k a b => h k a (by omega))
    have hj := h j (by omega) (by omega)
    have := sm_upd (f := fun p => mn M p j) (g := fun p => mn M p (j + 1)) hj.1 12 (by omega) (fun k a b c => by
      show mn M k (j + 1) = mn M k j
      rw [mn.eq_2, if_neg (fun z => c z.symm)]; omega)
    rw [this, ih]
    show (j : Int) + (mn M (M 72 j) (j + 1) - mn M (M 72 j) j) = _
    rw [mn.eq_2, if_pos rfl]
    omega
def eN (M : ax_M) (k s : Int) : Int := if s = 0 then M 62 k else M 63 k
/-- arcs: ways by sides and minutes, then the waits -/
def tlA (M : ax_M) (a : Int) : Int := if a < 2928 then 61 * eN M (a / 122) (a / 61 % 2) + a % 61 else a - 2928
def hdA (M : ax_M) (a : Int) : Int := if a < 2928 then 61 * eN M (a / 122) (1 - a / 61 % 2) + (a % 61 + M 64 (a / 122)) else a - 2928 + 1
def Rl (M : ax_M) (T a : Int) : Prop := (0 ≤ a ∧ a < 3660) ∧ ((a < 2928 ∧ a / 122 < M 61 3 ∧ M 69 (a / 122) = 0 ∧ a % 61 + M 64 (a / 122) ≤ T ∧ a % 61 + M 64 (a / 122) ≤ M 67 (a / 122)) ∨ (2928 ≤ a ∧ a - 2928 < 61 * M 61 0 ∧ (a - 2928) % 61 < T))
def Nd (M : ax_M) (T v : Int) : Prop := 0 ≤ v ∧ v < 61 * M 61 0 ∧ v % 61 ≤ T
theorem eN_rg {M : ax_M} (hp : PitOk M) {k : Int} (s : Int) (h0 : 0 ≤ k) (h1 : k < M 61 3) : 0 ≤ eN M k s ∧ eN M k s < M 61 0 := by
  have := (hp.1 k h0 h1).1
  unfold eN
  split <;> omega
theorem rl_nd {M : ax_M} (hp : PitOk M) {T a : Int} (hT : T ≤ 60) (h : Rl M T a) : Nd M T (tlA M a) ∧ Nd M T (hdA M a) := by
  have h12 := hp.2.2
  unfold Nd tlA hdA
  obtain ⟨h0, h | h⟩ := h
  · have k0 : 0 ≤ a / 122 := by omega
    have e1 := eN_rg hp (a / 61 % 2) k0 h.2.1
    have e2 := eN_rg hp (1 - a / 61 % 2) k0 h.2.1
    have L := (hp.1 _ k0 h.2.1).2.1
    rw [if_pos h.1, if_pos h.1]
    generalize eN M (a / 122) (a / 61 % 2) = x at *
    generalize eN M (a / 122) (1 - a / 61 % 2) = y at *
    generalize M 64 (a / 122) = z at *
    omega
  · rw [if_neg (by omega), if_neg (by omega)]
    omega
/-- one more can be sent from u to v by step s (back: -1 - s) -/
def Res (M : ax_M) (T : Int) (φ : Int → Int) (u v s : Int) : Prop := (0 ≤ s ∧ Rl M T s ∧ tlA M s = u ∧ hdA M s = v ∧ (s < 2928 → φ s < M 66 (s / 122))) ∨ (s < 0 ∧ Rl M T (-1 - s) ∧ hdA M (-1 - s) = u ∧ tlA M (-1 - s) = v ∧ 0 < φ (-1 - s))
theorem res_nd {M : ax_M} (hp : PitOk M) {T u v s : Int} {φ : Int → Int} (hT : T ≤ 60) (h : Res M T φ u v s) : Nd M T u ∧ Nd M T v := by
  rcases h with h | h
  · have := rl_nd hp hT h.2.1
    rw [h.2.2.1, h.2.2.2.1] at this
    exact this
  · have := rl_nd hp hT h.2.1
    rw [h.2.2.1, h.2.2.2.1] at this
    exact ⟨this.2, this.1⟩
/-- a flow: arcs, begun, lifted; n are up -/
def FV (M : ax_M) (T : Int) (φ b l : Int → Int) (n : Int) : Prop := (∀ a, 0 ≤ a → a < 3660 → 0 ≤ φ a ∧ φ a ≤ n ∧ (¬ Rl M T a → φ a = 0) ∧ (a < 2928 → Rl M T a → φ a ≤ M 66 (a / 122))) ∧ (∀ p, 0 ≤ p → p < 12 → 0 ≤ b p ∧ b p ≤ mA M p) ∧ (∀ t, 0 ≤ t → t < 61 → 0 ≤ l t ∧ l t ≤ M 61 2) ∧ (∀ ψ : Int → Int, Sm (fun a => φ a * (ψ (hdA M a) - ψ (tlA M a))) 3660 + Sm (fun p => b p * ψ (61 * p)) 12 - Sm (fun t => l t * ψ (61 * M 61 1 + t)) 61 = 0) ∧ Sm b 12 = n
theorem fv_0 {M : ax_M} (hp : PitOk M) (hs : ¬ M 61 0 = 0) {T : Int} {φ b l : Int → Int} (h1 : ∀ a, 0 ≤ a → a < 3660 → φ a = 0) (h2 : ∀ p, 0 ≤ p → p < 12 → b p = 0) (h3 : ∀ t, 0 ≤ t → t < 61 → l t = 0) : FV M T φ b l 0 := by
  have h12 := hp.2.2
  refine ⟨fun a a0 a1 => ?_, fun p p0 p1 => ?_, fun t t0 t1 => ?_, fun ψ => ?_, ?_⟩
  · rw [h1 a a0 a1]
    refine ⟨by omega, by omega, fun _ => rfl, fun q r => ?_⟩
    rcases r.2 with z | z
    · have := (hp.1 (a / 122) (by omega) z.2.1).2.2; omega
    · omega
  · rw [h2 p p0 p1]
    have := mn_rg M p (M 61 25).toNat
    unfold mA
    omega
  · rw [h3 t t0 t1]; omega
  · have z : ∀ n : Nat, Sm (fun _ => 0) n = 0 := by
      intro n
      induction n with
      | zero => exact Sm.eq_1 _
      | succ n ih => rw [Sm.eq_2, ih]; rfl
    rw [sm_c (g := fun _ => 0) 3660 (fun k a b => by rw [h1 k a b, Int.zero_mul]), sm_c (g := fun _ => 0) 12 (fun k a b => by rw [h2 k a b, Int.zero_mul]), sm_c (g := fun _ => 0) 61 (fun k a b => by rw [h3 k a b, Int.zero_mul]), z, z, z]
    rfl
  · rw [sm_c (g := fun _ => 0) 12 (fun k a b => h2 k a b)]; decide
/-- nothing more goes out of S -/
def Cl (M : ax_M) (T : Int) (φ b l : Int → Int) (S : Int → Prop) : Prop := (∀ v, S v → Nd M T v) ∧ (∀ p, 0 ≤ p → p < M 61 0 → b p < mA M p → S (61 * p)) ∧ (∀ u v s, S u → Res M T φ u v s → S v) ∧ (∀ t, 0 ≤ t → t < 61 → S (61 * M 61 1 + t) → M 61 2 ≤ l t)
noncomputable def ch (S : Int → Prop) (v : Int) : Int := @ite Int (S v) (Classical.propDecidable _) 1 0
theorem ch_1 {S : Int → Prop} {v : Int} (h : S v) : ch S v = 1 := by unfold ch; rw [if_pos h]
theorem ch_0 {S : Int → Prop} {v : Int} (h : ¬ S v) : ch S v = 0 := by unfold ch; rw [if_neg h]
theorem mA_hi {M : ax_M} (hc : CrewEq M) {p : Int} (h : M 61 0 ≤ p) : mA M p = 0 := by
  have q : ∀ j : Nat, j ≤ (M 61 25).toNat → mn M p j = 0 := by
    intro j
    induction j with
    | zero => intro _; exact mn.eq_1 M p
    | succ j ih =>
      intro hj
      have := hc.2.1 j (by omega) (by omega)
      rw [mn.eq_2, ih (by omega), if_neg (by omega)]; rfl
  exact q _ (Nat.le_refl _)
set_option maxHeartbeats 4000000 in
set_option maxRecDepth 100000 in
theorem flow_cmp {M : ax_M} (hp : PitOk M) (hc : CrewEq M) {T : Int} {φ b l φ' b' l' : Int → Int} {n n' : Int} {S : Int → Prop} (h : FV M T φ b l n) (h' : FV M T φ' b' l' n') (hS : Cl M T φ b l S) : n' ≤ n ∧ (n' = n → (∀ p, 0 ≤ p → p < M 61 0 → ¬ S (61 * p) → b' p = mA M p) ∧ (∀ t, 0 ≤ t → t < 61 → S (61 * M 61 1 + t) → M 61 2 ≤ l' t) ∧ ∀ u v s, S u → Res M T φ' u v s → S v) := by
  have h12 := hp.2.2
  have pA : ∀ p : Int, 0 ≤ p → p < ((12 : Nat) : Int) → 0 ≤ (b p - b' p) * (1 - ch S (61 * p)) ∧ ((b p - b' p) * (1 - ch S (61 * p)) = 0 → p < M 61 0 → ¬ S (61 * p) → b' p = mA M p) := by
    intro p p0 p1
    have q := h.2.1 p p0 (by omega)
    have q' := h'.2.1 p p0 (by omega)
    by_cases z : S (61 * p)
    · rw [ch_1 z]; exact ⟨by omega, fun _ _ w => absurd z w⟩
    · rw [ch_0 z, Int.sub_zero, Int.mul_one]
      rcases Int.lt_or_le p (M 61 0) with w | w
      · have : ¬ b p < mA M p := fun w2 => z (hS.2.1 p p0 w w2)
        exact ⟨by omega, fun _ _ _ => by omega⟩
      · have := mA_hi hc w
        exact ⟨by omega, fun _ _ _ => by omega⟩
  have pB : ∀ t : Int, 0 ≤ t → t < ((61 : Nat) : Int) → 0 ≤ (l t - l' t) * ch S (61 * M 61 1 + t) ∧ ((l t - l' t) * ch S (61 * M 61 1 + t) = 0 → S (61 * M 61 1 + t) → M 61 2 ≤ l' t) := by
    intro t t0 t1
    have q := h.2.2.1 t t0 (by omega)
    have q' := h'.2.2.1 t t0 (by omega)
    by_cases z : S (61 * M 61 1 + t)
    · have := hS.2.2.2 t t0 (by omega) z
      rw [ch_1 z, Int.mul_one]
      exact ⟨by omega, fun _ _ => by omega⟩
    · rw [ch_0 z, Int.mul_zero]
      exact ⟨Int.le_refl _, fun _ w => absurd w z⟩
  have pC : ∀ a : Int, 0 ≤ a → a < ((3660 : Nat) : Int) → 0 ≤ (φ' a - φ a) * (ch S (hdA M a) - ch S (tlA M a)) ∧ ((φ' a - φ a) * (ch S (hdA M a) - ch S (tlA M a)) = 0 → Rl M T a → (S (tlA M a) → (a < 2928 → φ' a < M 66 (a / 122)) → S (hdA M a)) ∧ (S (hdA M a) → 0 < φ' a → S (tlA M a))) := by
    intro a a0 a1
    have q := h.1 a a0 (by omega)
    have q' := h'.1 a a0 (by omega)
    by_cases r : Rl M T a
    · by_cases z1 : S (hdA M a)
      · by_cases z2 : S (tlA M a)
        · rw [ch_1 z1, ch_1 z2]; exact ⟨by omega, fun _ _ => ⟨fun _ _ => z1, fun _ _ => z2⟩⟩
        · rw [ch_1 z1, ch_0 z2, Int.sub_zero, Int.mul_one]
          have : ¬ 0 < φ a := fun w => z2 (hS.2.2.1 _ _ (-1 - a) z1 (Or.inr ⟨by omega, by rw [show -1 - (-1 - a) = a by omega]; exact r, by rw [show -1 - (-1 - a) = a by omega], by rw [show -1 - (-1 - a) = a by omega], by rw [show -1 - (-1 - a) = a by omega]; exact w⟩))
          exact ⟨by omega, fun _ _ => ⟨fun _ _ => z1, fun _ w => by omega⟩⟩
      · by_cases z2 : S (tlA M a)
        · rw [ch_0 z1, ch_1 z2]
          have : ¬ (a < 2928 → φ a < M 66 (a / 122)) := fun w => z1 (hS.2.2.1 _ _ a z2 (Or.inl ⟨a0, r, rfl, rfl, w⟩))
          have w1 : a < 2928 := by
            rcases Int.lt_or_le a 2928 with w | w
            · exact w
            · exact absurd (fun z => by omega) this
          have w2 : M 66 (a / 122) ≤ φ a := by
            rcases Int.lt_or_le (φ a) (M 66 (a / 122)) with w | w
            · exact absurd (fun _ => w) this
            · exact w
          have c1 := q'.2.2.2 w1 r
          exact ⟨by omega, fun _ _ => ⟨fun _ w => by have := w w1; omega, fun w _ => absurd w z1⟩⟩
        · rw [ch_0 z1, ch_0 z2]; exact ⟨by omega, fun _ _ => ⟨fun w _ => absurd w z2, fun w _ => absurd w z1⟩⟩
    · rw [q.2.2.1 r, q'.2.2.1 r]
      exact ⟨by omega, fun _ w => absurd w r⟩
  have sA := sm_nn (f := fun p => (b p - b' p) * (1 - ch S (61 * p))) 12 (fun k a c => (pA k a c).1)
  have sB := sm_nn (f := fun t => (l t - l' t) * ch S (61 * M 61 1 + t)) 61 (fun k a c => (pB k a c).1)
  have sC := sm_nn (f := fun a => (φ' a - φ a) * (ch S (hdA M a) - ch S (tlA M a))) 3660 (fun k a c => (pC k a c).1)
  have e1 := h.2.2.2.1 (ch S)
  have e2 := h'.2.2.2.1 (ch S)
  have m1 := h.2.2.2.2
  have m2 := h'.2.2.2.2
  have tA : Sm (fun p => (b p - b' p) * (1 - ch S (61 * p))) 12 = (Sm b 12 - Sm b' 12) - (Sm (fun p => b p * ch S (61 * p)) 12 - Sm (fun p => b' p * ch S (61 * p)) 12) := by
    rw [← sm_sub, ← sm_sub, ← sm_sub]
    refine sm_c 12 (fun k _ _ => ?_)
    rw [Int.mul_sub, Int.mul_one, Int.sub_mul]
  have tB : Sm (fun t => (l t - l' t) * ch S (61 * M 61 1 + t)) 61 = Sm (fun t => l t * ch S (61 * M 61 1 + t)) 61 - Sm (fun t => l' t * ch S (61 * M 61 1 + t)) 61 := by
    rw [← sm_sub]
    refine sm_c 61 (fun k _ _ => ?_)
    rw [Int.sub_mul]
  have tC : Sm (fun a => (φ' a - φ a) * (ch S (hdA M a) - ch S (tlA M a))) 3660 = Sm (fun a => φ' a * (ch S (hdA M a) - ch S (tlA M a))) 3660 - Sm (fun a => φ a * (ch S (hdA M a) - ch S (tlA M a))) 3660 := by
    rw [← sm_sub]
    refine sm_c 3660 (fun k _ _ => ?_)
    rw [Int.sub_mul]
  refine ⟨by omega, fun en => ?_⟩
  have zA := sA.2 (by omega)
  have zB := sB.2 (by omega)
  have zC := sC.2 (by omega)
  refine ⟨fun p p0 p1 w => (pA p p0 (by omega)).2 (zA p p0 (by omega)) p1 w, fun t t0 t1 w => (pB t t0 (by omega)).2 (zB t t0 (by omega)) w, fun u v s hu hr => ?_⟩
  rcases hr with ⟨s0, r, r1, r2, r3⟩ | ⟨s0, r, r1, r2, r3⟩
  · have g := (pC s s0 (by have := r.1; omega)).2 (zC s s0 (by have := r.1; omega)) r
    rw [r1, r2] at g
    exact g.1 hu r3
  · have r0 := r.1
    have g := (pC (-1 - s) (by omega) (by omega)).2 (zC (-1 - s) (by omega) (by omega)) r
    rw [r1, r2] at g
    exact g.2 hu r3
/-- what is seen: q in order, from where, by which step -/
def Sn (n : Int) (q : Int → Int) (v : Int) : Prop := ∃ i, 0 ≤ i ∧ i < n ∧ q i = v
def Bf (M : ax_M) (T : Int) (φ b : Int → Int) (n : Int) (q fr sc : Int → Int) : Prop := 0 ≤ n ∧ (∀ i, 0 ≤ i → i < n → Nd M T (q i) ∧ ((fr (q i) < 0 ∧ q i % 61 = 0 ∧ b (q i / 61) < mA M (q i / 61)) ∨ ∃ j, 0 ≤ j ∧ j < i ∧ fr (q i) = q j ∧ Res M T φ (q j) (q i) (sc (q i)))) ∧ ∀ i j, 0 ≤ i → i < n → 0 ≤ j → j < n → q i = q j → i = j
theorem lst_mem {q : Int → Int} {w : Int} : ∀ (r : Nat) (a : Int), w ∈ lst q a r ↔ ∃ i, a ≤ i ∧ i < a + r ∧ q i = w
  | 0, a => by
    rw [lst.eq_1]
    exact ⟨fun z => absurd z (by simp), fun ⟨i, b, c, _⟩ => by omega⟩
  | r + 1, a => by
    rw [lst.eq_2, List.mem_cons, lst_mem r (a + 1)]
    constructor
    · rintro (z | ⟨i, b, c, d⟩)
      · exact ⟨a, Int.le_refl _, by omega, z.symm⟩
      · exact ⟨i, by omega, by omega, d⟩
    · rintro ⟨i, b, c, d⟩
      by_cases z : i = a
      · subst z; exact Or.inl d.symm
      · exact Or.inr ⟨i, by omega, by omega, d⟩
theorem lst_nd {q : Int → Int} : ∀ (r : Nat) (a : Int), (∀ i j, a ≤ i → i < a + r → a ≤ j → j < a + r → q i = q j → i = j) → (lst q a r).Nodup
  | 0, a, _ => by rw [lst.eq_1]; exact List.nodup_nil
  | r + 1, a, h => by
    rw [lst.eq_2, List.nodup_cons]
    refine ⟨fun z => ?_, lst_nd r (a + 1) (fun i j b c d e => h i j (by omega) (by omega) (by omega) (by omega))⟩
    obtain ⟨i, b, c, d⟩ := (lst_mem r (a + 1)).mp z
    have := h i a (by omega) (by omega) (by omega) (by omega) d
    omega
theorem lst_len {q : Int → Int} : ∀ (r : Nat) (a : Int), (lst q a r).length = r
  | 0, a => by rw [lst.eq_1]; rfl
  | r + 1, a => by rw [lst.eq_2, List.length_cons, lst_len r]
theorem bf_lt {M : ax_M} (h12 : M 61 0 ≤ 12) {T n v : Int} {φ b q fr sc : Int → Int} (h : Bf M T φ b n q fr sc) (hv : Nd M T v) (hn : ¬ Sn n q v) : n < 732 := by
  have nd : (v :: lst q 0 n.toNat).Nodup := by
    rw [List.nodup_cons]
    refine ⟨fun z => hn ?_, lst_nd _ _ (fun i j a b c d e => h.2.2 i j a (by omega) c (by omega) e)⟩
    obtain ⟨i, a, b, c⟩ := (lst_mem _ _).mp z
    exact ⟨i, a, by omega, c⟩
  have len := pig (f := fun x => x) 732 _ nd (fun w hw => by
    rcases List.mem_cons.mp hw with z | z
    · subst z; exact ⟨w, hv.1, by have := hv.2.1; omega, rfl⟩
    · obtain ⟨i, a, b, c⟩ := (lst_mem _ _).mp z
      have := (h.2.1 i a (by omega)).1
      rw [c] at this
      exact ⟨w, this.1, by have := this.2.1; omega, rfl⟩)
  rw [List.length_cons, lst_len] at len
  have := h.1
  omega
theorem bf_le {M : ax_M} (h12 : M 61 0 ≤ 12) {T n : Int} {φ b q fr sc : Int → Int} (h : Bf M T φ b n q fr sc) : n ≤ 732 := by
  have nd : (lst q 0 n.toNat).Nodup := lst_nd _ _ (fun i j a b c d e => h.2.2 i j a (by omega) c (by omega) e)
  have len := pig (f := fun x => x) 732 _ nd (fun w hw => by
    obtain ⟨i, a, b, c⟩ := (lst_mem _ _).mp hw
    have := (h.2.1 i a (by omega)).1
    rw [c] at this
    exact ⟨w, this.1, by have := this.2.1; omega, rfl⟩)
  rw [lst_len] at len
  omega
theorem bf_add {M : ax_M} {T n v u s : Int} {φ b q fr sc q' fr' sc' : Int → Int} (h : Bf M T φ b n q fr sc) (hv : Nd M T v) (hn : ¬ Sn n q v) (hr : (u < 0 ∧ v % 61 = 0 ∧ b (v / 61) < mA M (v / 61)) ∨ (Sn n q u ∧ Res M T φ u v s)) (eq' : ∀ i, q' i = if i = n then v else q i) (ef : ∀ w, fr' w = if w = v then u else fr w) (es : ∀ w, sc' w = if w = v then s else sc w) : Bf M T φ b (n + 1) q' fr' sc' := by
  have n0 := h.1
  have old : ∀ i, 0 ≤ i → i < n → q' i = q i := fun i a c => by rw [eq', if_neg (by omega)]
  have ne : ∀ i, 0 ≤ i → i < n → ¬ q i = v := fun i a c z => hn ⟨i, a, c, z⟩
  refine ⟨by omega, fun i i0 i1 => ?_, fun i j i0 i1 j0 j1 e => ?_⟩
  · by_cases z : i = n
    · subst z
      have e : q' i = v := by rw [eq', if_pos rfl]
      rw [e, ef, if_pos rfl, es, if_pos rfl]
      refine ⟨hv, ?_⟩
      rcases hr with hr | ⟨⟨j, j0, j1, j2⟩, hr⟩
      · exact Or.inl hr
      · exact Or.inr ⟨j, j0, j1, by rw [old j j0 j1, j2], by rw [old j j0 j1, j2]; exact hr⟩
    · have g := h.2.1 i i0 (by omega)
      rw [old i i0 (by omega), ef, if_neg (ne i i0 (by omega)), es, if_neg (ne i i0 (by omega))]
      refine ⟨g.1, g.2.imp id (fun ⟨j, a, c, d, e⟩ => ⟨j, a, c, by rw [old j a (by omega)]; exact d, by rw [old j a (by omega)]; exact e⟩)⟩
  · rw [eq', eq'] at e
    by_cases z : i = n
    · rw [if_pos z] at e
      by_cases z2 : j = n
      · omega
      · rw [if_neg z2] at e; exact absurd e.symm (ne j j0 (by omega))
    · rw [if_neg z] at e
      by_cases z2 : j = n
      · rw [if_pos z2] at e; exact absurd e (ne i i0 (by omega))
      · rw [if_neg z2] at e; exact h.2.2 i j i0 (by omega) j0 (by omega) e
