def Bl (x : Int) : Prop := x = 0 ∨ x = 1
def CrewEq (M : ax_M) : Prop := (M 8 0 = M 61 25 ∧ 0 ≤ M 61 25 ∧ M 61 25 ≤ 8 ∧ M 8 1 = M 61 29 ∧ 0 ≤ M 61 29 ∧ M 61 29 ≤ 4) ∧ (∀ k, 0 ≤ k → k < M 61 25 → M 9 k = M 72 k ∧ 0 ≤ M 72 k ∧ M 72 k < M 61 0 ∧ M 10 k = M 73 k ∧ M 11 k = M 74 k ∧ Bl (M 73 k) ∧ Bl (M 74 k)) ∧ (∀ k, 0 ≤ k → k < M 61 29 → M 12 k = M 75 k ∧ 0 ≤ M 75 k ∧ M 75 k < M 61 0 ∧ M 13 k = M 76 k ∧ 0 ≤ M 76 k ∧ M 76 k ≤ 99) ∧ ∀ k, 0 ≤ k → k < M 61 3 → Bl (M 69 k)
def RowEq (M : ax_M) : Prop := M 31 1 = M 61 50 ∧ 0 ≤ M 61 50 ∧ M 61 50 ≤ 12 ∧ ∀ k, 0 ≤ k → k < M 61 50 → M 32 k = M 91 k ∧ 0 ≤ M 91 k ∧ M 91 k < M 61 0
def TextEq (M : ax_M) : Prop := M 1 1 = M 61 13 ∧ 0 ≤ M 61 13 ∧ M 61 13 ≤ 400 ∧ ∀ k, 0 ≤ k → k < M 61 13 → 0 ≤ M 70 k ∧ M 70 k ≤ 255 ∧ M 2 k = (if M 70 k < 128 then M 70 k else M 70 k - 256)
def ImgR (M : ax_M) (i : Int) (c a1 a2 a3 a4 a5 a6 : Nat) : Prop := (M c 0 = M 97 (60 * i) ∧ 0 ≤ M 97 (60 * i) ∧ M 97 (60 * i) ≤ 8 ∧ M c 1 = M 97 (60 * i + 1) ∧ 0 ≤ M 97 (60 * i + 1) ∧ M 97 (60 * i + 1) ≤ 4) ∧ (∀ k, 0 ≤ k → k < M 97 (60 * i) → M a1 k = M 97 (60 * i + 2 + k) ∧ 0 ≤ M a1 k ∧ M a1 k < M 61 0 ∧ Bl (M a2 k) ∧ Bl (M a3 k) ∧ M 97 (60 * i + 10 + k) = M a2 k + 2 * M a3 k) ∧ (∀ k, 0 ≤ k → k < M 97 (60 * i + 1) → M a4 k = M 97 (60 * i + 18 + k) ∧ 0 ≤ M a4 k ∧ M a4 k < M 61 0 ∧ M a5 k = M 97 (60 * i + 22 + k) ∧ 0 ≤ M a5 k ∧ M a5 k ≤ 99) ∧ ∀ k, 0 ≤ k → k < M 61 3 → M a6 k = M 97 (60 * i + 26 + k) ∧ Bl (M a6 k)
def ImgEq (M : ax_M) : Prop := (M 30 0 = M 98 0 ∧ Bl (M 98 0) ∧ (M 98 0 = 1 → ImgR M 0 16 17 18 19 20 21 22)) ∧ (M 30 1 = M 98 1 ∧ Bl (M 98 1) ∧ (M 98 1 = 1 → ImgR M 1 23 24 25 26 27 28 29)) ∧ ∀ k, 0 ≤ k → k < 8 → 0 ≤ M 97 (10 + k) ∧ 0 ≤ M 97 (70 + k)
def TelEq (n : Int) (M : ax_M) : Prop := 0 ≤ M 51 12 ∧ M 51 12 ≤ 2 * n ∧ ∀ j, 0 ≤ j → j < 700 → 0 ≤ M 59 j ∧ M 59 j ≤ M 51 12
def Mis (M : ax_M) : Prop := M 61 32 = -1 ∧ M 0 12 = M 61 14 ∧ M 15 0 = 16 ∧ M 15 1 = 23
/-- between two calls, n calls behind: class and reference are in the same state -/
def Inv (n : Int) (M : ax_M) : Prop := WX M ∧ CrewEq M ∧ RowEq M ∧ TextEq M ∧ ImgEq M ∧ TelEq n M ∧ Mis M
def SamP : List Nat := [0, 1, 2, 6, 7, 8, 9, 10, 11, 12, 13, 14, 15, 16, 17, 18, 19, 20, 21, 22, 23, 24, 25, 26, 27, 28, 29, 30, 31, 32, 51, 59, 62, 63, 64, 65, 66, 67, 68, 69, 70, 72, 73, 74, 75, 76, 91, 97, 98]
def Sam (M M' : ax_M) : Prop := (∀ a ∈ SamP, M' a = M a) ∧ ∀ i ∈ ([0, 1, 2, 3, 13, 14, 25, 29, 32, 50] : List Int), M' 61 i = M 61 i
theorem inv_sam {n : Int} {M M' : ax_M} (h : Sam M M') (hi : Inv n M) : Inv n M' := by
  have p0 : M' 0 = M 0 := h.1 0 (by decide)
  have p1 : M' 1 = M 1 := h.1 1 (by decide)
  have p2 : M' 2 = M 2 := h.1 2 (by decide)
  have p6 : M' 6 = M 6 := h.1 6 (by decide)
  have p7 : M' 7 = M 7 := h.1 7 (by decide)
  have p8 : M' 8 = M 8 := h.1 8 (by decide)
  have p9 : M' 9 = M 9 := h.1 9 (by decide)
  have p10 : M' 10 = M 10 := h.1 10 (by decide)
  have p11 : M' 11 = M 11 := h.1 11 (by decide)
  have p12 : M' 12 = M 12 := h.1 12 (by decide)
  have p13 : M' 13 = M 13 := h.1 13 (by decide)
  have p14 : M' 14 = M 14 := h.1 14 (by decide)
  have p15 : M' 15 = M 15 := h.1 15 (by decide)
  have p16 : M' 16 = M 16 := h.1 16 (by decide)
  have p17 : M' 17 = M 17 := h.1 17 (by decide)
  have p18 : M' 18 = M 18 := h.1 18 (by decide)
  have p19 : M' 19 = M 19 := h.1 19 (by decide)
  have p20 : M' 20 = M 20 := h.1 20 (by decide)
  have p21 : M' 21 = M 21 := h.1 21 (by decide)
  have p22 : M' 22 = M 22 := h.1 22 (by decide)
  have p23 : M' 23 = M 23 := h.1 23 (by decide)
  have p24 : M' 24 = M 24 := h.1 24 (by decide)
  have p25 : M' 25 = M 25 := h.1 25 (by decide)
  have p26 : M' 26 = M 26 := h.1 26 (by decide)
  have p27 : M' 27 = M 27 := h.1 27 (by decide)
  have p28 : M' 28 = M 28 := h.1 28 (by decide)
  have p29 : M' 29 = M 29 := h.1 29 (by decide)
  have p30 : M' 30 = M 30 := h.1 30 (by decide)
  have p31 : M' 31 = M 31 := h.1 31 (by decide)
  have p32 : M' 32 = M 32 := h.1 32 (by decide)
  have p51 : M' 51 = M 51 := h.1 51 (by decide)
  have p59 : M' 59 = M 59 := h.1 59 (by decide)
  have p62 : M' 62 = M 62 := h.1 62 (by decide)
  have p63 : M' 63 = M 63 := h.1 63 (by decide)
  have p64 : M' 64 = M 64 := h.1 64 (by decide)
  have p65 : M' 65 = M 65 := h.1 65 (by decide)
  have p66 : M' 66 = M 66 := h.1 66 (by decide)
  have p67 : M' 67 = M 67 := h.1 67 (by decide)
  have p68 : M' 68 = M 68 := h.1 68 (by decide)
  have p69 : M' 69 = M 69 := h.1 69 (by decide)
  have p70 : M' 70 = M 70 := h.1 70 (by decide)
  have p72 : M' 72 = M 72 := h.1 72 (by decide)
  have p73 : M' 73 = M 73 := h.1 73 (by decide)
  have p74 : M' 74 = M 74 := h.1 74 (by decide)
  have p75 : M' 75 = M 75 := h.1 75 (by decide)
  have p76 : M' 76 = M 76 := h.1 76 (by decide)
  have p91 : M' 91 = M 91 := h.1 91 (by decide)
  have p97 : M' 97 = M 97 := h.1 97 (by decide)
  have p98 : M' 98 = M 98 := h.1 98 (by decide)
  have q0 : M' 61 0 = M 61 0 := h.2 0 (by decide)
  have q1 : M' 61 1 = M 61 1 := h.2 1 (by decide)
  have q2 : M' 61 2 = M 61 2 := h.2 2 (by decide)
  have q3 : M' 61 3 = M 61 3 := h.2 3 (by decide)
  have q13 : M' 61 13 = M 61 13 := h.2 13 (by decide)
  have q14 : M' 61 14 = M 61 14 := h.2 14 (by decide)
  have q25 : M' 61 25 = M 61 25 := h.2 25 (by decide)
  have q29 : M' 61 29 = M 61 29 := h.2 29 (by decide)
  have q32 : M' 61 32 = M 61 32 := h.2 32 (by decide)
  have q50 : M' 61 50 = M 61 50 := h.2 50 (by decide)
  unfold Inv WX PitOk WayOk PitEq CrewEq RowEq TextEq ImgEq ImgR TelEq Mis at *
  simp only [p0, p1, p2, p6, p7, p8, p9, p10, p11, p12, p13, p14, p15, p16, p17, p18, p19, p20, p21, p22, p23, p24, p25, p26, p27, p28, p29, p30, p31, p32, p51, p59, p62, p63, p64, p65, p66, p67, p68, p69, p70, p72, p73, p74, p75, p76, p91, p97, p98, q0, q1, q2, q3, q13, q14, q25, q29, q32, q50]
  exact hi
theorem sam_ofs {l : List Nat} {M M' : ax_M} (h : Ofs l M M') (hl : (61 :: SamP).all (fun a => !l.contains a) = true) : Sam M M' := by
  have e : ∀ a, a ∈ 61 :: SamP → M' a = M a := fun a ha => h a (fun z => by
    have h1 := List.all_eq_true.mp hl a ha
    simp at h1
    exact h1 z)
  exact ⟨fun a ha => e a (List.mem_cons_of_mem _ ha), fun i _ => by rw [e 61 List.mem_cons_self]⟩
theorem Sam.rf {M : ax_M} : Sam M M := ⟨fun _ _ => rfl, fun _ _ => rfl⟩
theorem Sam.tr {M M1 M2 : ax_M} (h : Sam M M1) (h2 : Sam M1 M2) : Sam M M2 := ⟨fun a ha => (h2.1 a ha).trans (h.1 a ha), fun i hi => (h2.2 i hi).trans (h.2 i hi)⟩
theorem inv_up {n : Int} {M : ax_M} (h : Inv n M) : Inv (n + 1) M := by
  obtain ⟨a, b, c, d, e, f, g⟩ := h
  exact ⟨a, b, c, d, e, ⟨f.1, by have := f.2.1; omega, f.2.2⟩, g⟩
theorem inv_np {n : Int} {M : ax_M} (h : Inv n M) : M 61 0 = 0 ∨ (2 ≤ M 61 0 ∧ M 61 0 ≤ 12) := by have := h.1.1.2.2; omega
