/-! what a row of places tells -/
noncomputable def rv (M : ax_M) (e s : Int) : List Int → Int → Int → Int
  | [], p, t => if 0 ≤ so M (-1) (-1) e s p t (M 61 1) then 0 else -1
  | q :: l, p, t => if so M (-1) (-1) e s p t q < 0 then -1 else if rv M e s l q (so M (-1) (-1) e s p t q) < 0 then -1 else tA M q (so M (-1) (-1) e s p t q) + rv M e s l q (so M (-1) (-1) e s p t q)
theorem rv_u {M M' : ax_M} (h : SamU M M') (e s : Int) : ∀ (l : List Int) (p t : Int), rv M' e s l p t = rv M e s l p t
  | [], p, t => by rw [rv.eq_1, rv.eq_1, so_u h, h.2 1 (by decide)]
  | q :: l, p, t => by rw [rv.eq_2, rv.eq_2, so_u h, tA_u h, rv_u h e s l q]
theorem rv_rg {M : ax_M} (hc : CrewEq M) (e s : Int) : ∀ (l : List Int) (p t : Int), (rv M e s l p t = -1 ∨ 0 ≤ rv M e s l p t) ∧ rv M e s l p t ≤ 8 * l.length
  | [], p, t => by
    rw [rv.eq_1]
    split
    · simp
    · simp
  | q :: l, p, t => by
    have ih := rv_rg hc e s l q (so M (-1) (-1) e s p t q)
    have g := tA_rg hc q (so M (-1) (-1) e s p t q)
    rw [rv.eq_2, List.length_cons]
    split
    · omega
    · split <;> omega
theorem rv_up {M : ax_M} (hp : PitOk M) (e s : Int) : ∀ (l : List Int) (p t : Int), 0 ≤ t → 0 ≤ rv M e s l p t → 0 ≤ so M (-1) (-1) e s p t (M 61 1)
  | [], p, t, _, h => by
    rw [rv.eq_1] at h
    split at h
    · assumption
    · omega
  | q :: l, p, t, ht, h => by
    rw [rv.eq_2] at h
    split at h
    · omega
    · split at h
      · omega
      · have h1 : 0 ≤ so M (-1) (-1) e s p t q := by omega
        have h2 : 0 ≤ rv M e s l q (so M (-1) (-1) e s p t q) := by omega
        exact (ds_tri (gg_gd hp (-1) (-1) e s) ht h1 (rv_up hp e s l q _ h1 h2)).1
def lst (f : Int → Int) : Int → Nat → List Int
  | _, 0 => []
  | i, r + 1 => f i :: lst f (i + 1) r
theorem lst_map {f g : Int → Int} : ∀ (a : List Nat) (i : Int), (∀ x : Nat, x < a.length → f (i + x) = g (ga a x)) → lst f i a.length = a.map (fun x : Nat => g (x : Int))
  | [], i, _ => by rw [List.length_nil, lst.eq_1]; rfl
  | b :: a, i, h => by
    rw [List.length_cons, lst.eq_2, List.map_cons]
    have h0 := h 0 (by simp)
    have e0 : ga (b :: a) 0 = b := List.getD_cons_zero
    rw [e0] at h0
    rw [show i + ((0 : Nat) : Int) = i by omega] at h0
    rw [h0, lst_map a (i + 1) (fun x hx => ?_)]
    have h1 := h (x + 1) (by rw [List.length_cons]; omega)
    have e1 : ga (b :: a) (x + 1) = ga a x := List.getD_cons_succ
    rw [e1] at h1
    rw [← h1]
    congr 1
    omega
set_option maxHeartbeats 4000000 in
set_option maxRecDepth 100000 in
theorem S_X11_tellRow {post : Int → ax_M → Prop} {M : ax_M} {m e t : Int} {n : Nat} (hp : PitOk M) (hc : CrewEq M) (h32 : M 61 32 = -1) (hm : 0 ≤ m ∧ m < M 61 25) (ht : 0 ≤ t ∧ t ≤ 99) (hn : M 61 47 = n) (hn6 : n ≤ 6) (hord : ∀ x : Int, 0 ≤ x → x < n → 0 ≤ M 88 x ∧ M 88 x < M 61 0) (hd : DkOk M (M 61 0) M) (h : ∀ M', Of 77 M M' → post (rv M e (M 74 m) (lst (M 88) 0 n) (M 72 m) t) M') : ax_Ti Y_X11_tellRow [aR 61, aI m, aI e, aI t] SH M post := by
  have hb := hc.1
  have gm := hc.2.1 m hm.1 hm.2
  have h12 := hp.2.2
  have hsh : 0 ≤ M 61 1 ∧ M 61 1 < M 61 0 := by omega
  have L : ∀ (r : Nat) (i p now acc : Int) (M' : ax_M), i + r = n → 0 ≤ i → Of 77 M M' → (0 ≤ p ∧ p < M 61 0) → (0 ≤ now ∧ now ≤ 99) → (0 ≤ acc ∧ acc ≤ 8 * i) → (∀ z M'', Of 77 M M'' → z = (if rv M e (M 74 m) (lst (M 88) i r) p now < 0 then -1 else acc + rv M e (M 74 m) (lst (M 88) i r) p now) → post z M'') → ax_J Y_X11_tellRow (ax_Ki Y_X11_tellRow SH post) 0 0 17 [(0, aR 61), (1, aI m), (2, aI e), (4, aI p), (5, aI now), (6, aI acc), (7, aI i)] [] SH M' := by
    intro r
    induction r with
    | zero =>
      intro i p now acc M' hi hi0 o hpp hnow hacc K
      have o61 : M' 61 = M 61 := o 61 (by decide)
      refine B_X11_tellRow_17 ?_
      rw [o61, hn, o 74 (by decide)]
      refine ⟨fun _ => ⟨fun z => by omega, fun _ => ⟨by omega, S_X11_comes (pit_of o (by decide) hp) hnow (by rw [o61]; exact hpp) (by rw [o61]; exact hsh) (fun M2 o2 => ?_)⟩⟩, fun z => by omega⟩
      rw [so_of o (by decide), o61, h32, so_nomark]
      rw [lst.eq_1, rv.eq_1] at K
      refine ⟨fun y => K _ M2 (o.tr o2) ?_, fun y => K _ M2 (o.tr o2) ?_⟩
      · rw [if_neg (show ¬ 0 ≤ so M (-1) (-1) e (M 74 m) p now (M 61 1) by omega), if_pos (by omega)]
      · rw [if_pos y, if_neg (by omega)]; omega
    | succ r ih =>
      intro i p now acc M' hi hi0 o hpp hnow hacc K
      have o61 : M' 61 = M 61 := o 61 (by decide)
      have ho := hord i hi0 (by omega)
      refine B_X11_tellRow_17 ?_
      rw [o61, hn, o 74 (by decide), o 88 (by decide)]
      refine ⟨fun z => by omega, fun _ => ⟨fun z => by omega, fun _ => ⟨by omega, by omega, S_X11_comes (pit_of o (by decide) hp) hnow (by rw [o61]; exact hpp) (by rw [o61]; exact ho) (fun M2 o2 => ?_)⟩⟩⟩
      rw [so_of o (by decide), o61, h32, so_nomark, (o.tr o2) 88 (by decide)]
      rw [lst.eq_2, rv.eq_2] at K
      have h99 := so_99 (p := p) (q := M 88 i) (t := now) hp (ma := -1) (me := -1) (e := e) (s := M 74 m) hnow.1 hnow.2
      have o2' := o.tr o2
      have ru : R61 M M2 := R61.ofs (o2'.s (l := [77]) (by decide)) (by decide)
      generalize so M (-1) (-1) e (M 74 m) p now (M 88 i) = nw at *
      refine ⟨fun y => S_X11_toldAt (ru.crew hc) (by omega) ?_ ?_ ?_, fun y => ⟨by omega, by omega, ?_⟩⟩
      · rw [o2' 87 (by decide), dk_u ru.u]; exact (hd (M 88 i) ho.1 ho.2).1
      · rw [o2' 87 (by decide), dk_u ru.u]; exact (hd (M 88 i) ho.1 ho.2).2
      · rw [tA_u ru.u]
        have g := tA_rg hc (M 88 i) nw
        refine ⟨by omega, by omega, ih (i + 1) (M 88 i) nw (acc + tA M (M 88 i) nw) M2 (by omega) (by omega) o2' ho ⟨y, h99⟩ (by omega) (fun z M3 o3 hz => K z M3 o3 ?_)⟩
        rw [hz, if_neg (show ¬ nw < 0 by omega)]
        by_cases q : rv M e (M 74 m) (lst (M 88) (i + 1) r) (M 88 i) nw < 0
        · rw [if_pos q, if_pos q, if_pos (by omega)]
        · rw [if_neg q, if_neg q, if_neg (by omega)]; omega
      · have bad : post (-1) M2 := K (-1) M2 o2' (by rw [if_pos y, if_pos (by omega)])
        refine B_X11_tellRow_17 ⟨fun _ => ⟨fun _ => bad, fun z => by omega⟩, fun _ => ⟨fun _ => bad, fun z => by omega⟩⟩
  refine E_X11_tellRow (fun _ => ⟨by omega, L n 0 (M 72 m) t 0 M (by omega) (Int.le_refl _) Of.rf ⟨gm.2.1, gm.2.2.1⟩ ht (by omega) (fun z M2 o2 hz => ?_)⟩)
  have r := (rv_rg hc e (M 74 m) (lst (M 88) 0 n) (M 72 m) t).1
  rw [hz]
  have K := h M2 o2
  split
  · rw [show rv M e (M 74 m) (lst (M 88) 0 n) (M 72 m) t = -1 by omega] at K; exact K
  · rw [Int.zero_add]; exact K
/-- the places of a set, in order -/
def Srt (f : Int → Int) (U : Int) (N : Nat) : Prop := (∀ s : Int, 0 ≤ s → s < nb U N → 0 ≤ f s ∧ f s < N ∧ tb U (f s) = true) ∧ (∀ s s', 0 ≤ s → s < s' → s' < nb U N → f s < f s') ∧ ∀ w : Int, 0 ≤ w → w < N → tb U w = true → ∃ s, 0 ≤ s ∧ s < nb U N ∧ f s = w
theorem srt_0 (f : Int → Int) (U : Int) : Srt f U 0 := by
  have e : nb U 0 = 0 := nb.eq_1 U
  exact ⟨fun s a b => by omega, fun s s' a b c => by omega, fun w a b => by omega⟩
theorem srt_no {f : Int → Int} {U : Int} {N : Nat} (h : Srt f U N) (q : tb U (N : Int) = false) : nb U (N + 1) = nb U N ∧ Srt f U (N + 1) := by
  have e : nb U (N + 1) = nb U N := by rw [nb.eq_2, q]; simp
  unfold Srt
  rw [e]
  refine ⟨rfl, fun s a b => ?_, h.2.1, fun w a b c => ?_⟩
  · have := h.1 s a b
    exact ⟨this.1, by omega, this.2.2⟩
  · by_cases z : w = N
    · rw [z, q] at c; exact absurd c (by decide)
    · exact h.2.2 w a (by omega) c
theorem srt_yes {f g : Int → Int} {U : Int} {N : Nat} (h : Srt f U N) (q : tb U (N : Int) = true) (hg : ∀ s, g s = if s = nb U N then (N : Int) else f s) : nb U (N + 1) = nb U N + 1 ∧ Srt g U (N + 1) := by
  have e : nb U (N + 1) = nb U N + 1 := by rw [nb.eq_2, q]; simp
  have r := nb_rg U N
  unfold Srt
  rw [e]
  refine ⟨rfl, fun s a b => ?_, fun s s' a b c => ?_, fun w a b c => ?_⟩
  · rw [hg s]
    by_cases z : s = nb U N
    · rw [if_pos z]; exact ⟨by omega, by omega, q⟩
    · rw [if_neg z]
      have := h.1 s a (by omega)
      exact ⟨this.1, by omega, this.2.2⟩
  · rw [hg s, hg s', if_neg (by omega)]
    have h1 := h.1 s a (by omega)
    by_cases z : s' = nb U N
    · rw [if_pos z]; omega
    · rw [if_neg z]; exact h.2.1 s s' a b (by omega)
  · by_cases z : w = N
    · exact ⟨nb U N, r.1, by omega, by rw [hg, if_pos rfl, z]⟩
    · obtain ⟨s, s0, s1, s2⟩ := h.2.2 w a (by omega) c
      exact ⟨s, s0, by omega, by rw [hg, if_neg (by omega)]; exact s2⟩
/-- l goes once to each place of X -/
def Pl (M : ax_M) (X : Int → Prop) (l : List Int) : Prop := l.Nodup ∧ ∀ w, w ∈ l ↔ (0 ≤ w ∧ w < M 61 0 ∧ X w)
/-- R is the most of all rows through X -/
def Bst (M : ax_M) (e s q t : Int) (X : Int → Prop) (R : Int) : Prop := -1 ≤ R ∧ (∀ l, Pl M X l → rv M e s l q t ≤ R) ∧ (R = -1 ∨ ∃ l, Pl M X l ∧ rv M e s l q t = R)
theorem bst_un {M : ax_M} {e s q t R R' : Int} {X X' : Int → Prop} (hX : ∀ w, 0 ≤ w → w < M 61 0 → (X w ↔ X' w)) (h : Bst M e s q t X R) (h' : Bst M e s q t X' R') : R = R' := by
  have pl : ∀ l, Pl M X l ↔ Pl M X' l := by
    intro l
    unfold Pl
    constructor
    · rintro ⟨a, b⟩
      refine ⟨a, fun w => ?_⟩
      rw [b w]
      exact ⟨fun z => ⟨z.1, z.2.1, (hX w z.1 z.2.1).mp z.2.2⟩, fun z => ⟨z.1, z.2.1, (hX w z.1 z.2.1).mpr z.2.2⟩⟩
    · rintro ⟨a, b⟩
      refine ⟨a, fun w => ?_⟩
      rw [b w]
      exact ⟨fun z => ⟨z.1, z.2.1, (hX w z.1 z.2.1).mpr z.2.2⟩, fun z => ⟨z.1, z.2.1, (hX w z.1 z.2.1).mp z.2.2⟩⟩
  have a : R ≤ R' := by
    rcases h.2.2 with z | ⟨l, z1, z2⟩
    · rw [z]; exact h'.1
    · rw [← z2]; exact h'.2.1 l ((pl l).mp z1)
  have b : R' ≤ R := by
    rcases h'.2.2 with z | ⟨l, z1, z2⟩
    · rw [z]; exact h.1
    · rw [← z2]; exact h.2.1 l ((pl l).mpr z1)
  omega
theorem list_pre {f : Int → Int} {n : Nat} : ∀ l : List Int, (∀ x ∈ l, ∃ k : Nat, k < n ∧ f k = x) → ∃ a : List Nat, l = a.map (fun x : Nat => f (x : Int)) ∧ ∀ k ∈ a, k < n
  | [], _ => ⟨[], rfl, fun k hk => absurd hk (by simp)⟩
  | x :: l, h => by
    obtain ⟨k, k1, k2⟩ := h x List.mem_cons_self
    obtain ⟨a, a1, a2⟩ := list_pre l (fun y hy => h y (List.mem_cons_of_mem _ hy))
    refine ⟨k :: a, by rw [List.map_cons, ← a1, k2], fun j hj => ?_⟩
    rcases List.mem_cons.mp hj with z | z
    · rw [z]; exact k1
    · exact a2 j z
/-- the rows of a set are the orders of its places -/
theorem srt_pl {M : ax_M} {f : Int → Int} {U : Int} {N n : Nat} (hN : (N : Int) = M 61 0) (hn : nb U N = n) (h : Srt f U N) (l : List Int) : Pl M (fun w => tb U w = true) l ↔ ∃ a ∈ prm n (List.range n), l = a.map (fun x : Nat => f (x : Int)) := by
  have inj : ∀ x y : Nat, x < n → y < n → f x = f y → x = y := by
    intro x y hx hy e
    by_cases q : x < y
    · have := h.2.1 x y (by omega) (by omega) (by omega); omega
    · by_cases q2 : y < x
      · have := h.2.1 y x (by omega) (by omega) (by omega); omega
      · omega
  constructor
  · rintro ⟨h1, h2⟩
    have pre : ∀ x ∈ l, ∃ k : Nat, k < n ∧ f k = x := by
      intro x hx
      have hx' := (h2 x).mp hx
      obtain ⟨s, s0, s1, s2⟩ := h.2.2 x hx'.1 (by omega) hx'.2.2
      exact ⟨s.toNat, by omega, by rw [show ((s.toNat : Nat) : Int) = s by omega]; exact s2⟩
    obtain ⟨a, a1, a2⟩ := list_pre l pre
    refine ⟨a, prm_in n (List.range n) a List.length_range List.nodup_range ?_ (fun x => ?_), a1⟩
    · rw [a1] at h1
      have := List.pairwise_map.mp h1
      exact this.imp (fun {x y} z (e : x = y) => z (by rw [e]))
    · rw [List.mem_range]
      constructor
      · exact a2 x
      · intro hx
        have hs := h.1 (x : Int) (by omega) (by omega)
        have hm := (h2 (f x)).mpr ⟨hs.1, by omega, hs.2.2⟩
        rw [a1] at hm
        obtain ⟨y, y1, y2⟩ := List.mem_map.mp hm
        have := inj y x (a2 y y1) hx y2
        rw [← this]; exact y1
  · rintro ⟨a, ha, rfl⟩
    have ok := prm_ok n (List.range n) a List.length_range List.nodup_range ha
    have lt : ∀ x ∈ a, x < n := fun x hx => List.mem_range.mp ((ok.2 x).mp hx)
    refine ⟨List.pairwise_map.mpr (ok.1.imp_of_mem (fun {x y} hx hy hne e => hne (inj x y (lt x hx) (lt y hy) e))), fun w => ?_⟩
    rw [List.mem_map]
    constructor
    · rintro ⟨x, hx, rfl⟩
      have hs := h.1 (x : Int) (by omega) (by have := lt x hx; omega)
      exact ⟨hs.1, by omega, hs.2.2⟩
    · rintro ⟨w0, w1, w2⟩
      obtain ⟨s, s0, s1, s2⟩ := h.2.2 w w0 (by omega) w2
      exact ⟨s.toNat, (ok.2 _).mpr (List.mem_range.mpr (by omega)), by rw [show ((s.toNat : Nat) : Int) = s by omega]; exact s2⟩
theorem ga_map {n : Nat} {φ : Nat → Nat} {x : Nat} (hx : x < n) : ga ((List.range n).map φ) x = φ x := by
  unfold ga
  rw [List.getD_eq_getElem?_getD, List.getElem?_map, List.getElem?_range hx]
  rfl
