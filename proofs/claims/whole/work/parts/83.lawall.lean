def M00 : ax_M := (ax_up (ax_add (ax_add (ax_add (ax_add (ax_add (ax_add (ax_add (ax_add (ax_add (ax_add (ax_add (ax_add (ax_add (ax_add (ax_add (ax_add (ax_add (ax_add (ax_add (ax_add (ax_add (ax_add (ax_up (ax_add (ax_add (ax_add (ax_add (ax_add (ax_add (ax_up (ax_add (ax_add (ax_add (ax_add (ax_add (ax_add (ax_add (ax_add (ax_add (ax_up (ax_add (ax_up (ax_add (ax_up (ax_add (ax_add (ax_add (ax_add (ax_add (ax_add (ax_add (ax_add (ax_add (ax_up (ax_up (ax_up (ax_add (ax_add (ax_add (ax_add (ax_add (ax_add (ax_add (ax_add (ax_add (ax_add (ax_add (ax_add (ax_add (ax_add (ax_add (ax_add (ax_add (ax_add (ax_add (ax_add (ax_add (ax_up (ax_add (ax_add (ax_add (ax_add (ax_add (ax_add (ax_add (ax_up (ax_add (ax_add (ax_add (ax_add (ax_add (ax_add (ax_add (ax_add (ax_add (ax_add (ax_add (ax_add (ax_add (ax_add (ax_add (ax_add (ax_up (ax_add (ax_up (ax_add (ax_up (ax_add (ax_add (ax_add (ax_add (ax_add (fun _ _ => 0) 0 (ax_nw [2, 2, 2, 2, 2, 2, 2, 2, 2, 2, 2, 2, 0])) 1 (ax_nw [2, 0])) 2 (fun _ => 0)) 3 (ax_nw [2, 2, 0, 0, 0, 0])) 4 (ax_nw [0, 0, 0, 0, 2])) 4 2 (-1)) 5 (fun _ => 0)) 3 5 (-1)) 6 (ax_nw [0, 0, 0, 0, 2])) 6 2 (-1)) 7 (fun _ => 0)) 8 (ax_nw [0, 0, 2, 2, 2, 2, 2, 2])) 9 (fun _ => 0)) 10 (fun _ => 0)) 11 (fun _ => 0)) 12 (fun _ => 0)) 13 (fun _ => 0)) 14 (fun _ => 0)) 15 (fun _ => -1)) 16 (ax_nw [0, 0, 2, 2, 2, 2, 2, 2])) 17 (fun _ => 0)) 18 (fun _ => 0)) 19 (fun _ => 0)) 20 (fun _ => 0)) 21 (fun _ => 0)) 22 (fun _ => 0)) 15 0 16) 23 (ax_nw [0, 0, 2, 2, 2, 2, 2, 2])) 24 (fun _ => 0)) 25 (fun _ => 0)) 26 (fun _ => 0)) 27 (fun _ => 0)) 28 (fun _ => 0)) 29 (fun _ => 0)) 15 1 23) 30 (fun _ => 0)) 31 (ax_nw [2, 0])) 32 (fun _ => 0)) 33 (ax_nw [2, 2, 2, 2, 2, 2, 2, 2])) 34 (fun _ => 0)) 35 (fun _ => 0)) 36 (fun _ => 0)) 37 (fun _ => 0)) 38 (fun _ => 0)) 39 (fun _ => 0)) 40 (ax_nw [2, 2, 2, 2, 2, 2, 2, 2, 2, 2, 0, 0])) 41 (fun _ => 0)) 42 (fun _ => 0)) 43 (fun _ => 0)) 44 (fun _ => 0)) 45 (fun _ => 0)) 46 (fun _ => 0)) 47 (fun _ => 0)) 48 (fun _ => 0)) 49 (ax_nw [2, 2, 2, 2, 0, 0, 0, 0])) 50 (fun _ => 0)) 49 5 (-1)) 49 6 (-1)) 49 7 (-1)) 51 (ax_nw [2, 2, 2, 2, 0, 2, 2, 2, 2, 2, 2, 2, 0, 2, 0])) 52 (fun _ => 0)) 53 (fun _ => 0)) 54 (fun _ => 0)) 55 (fun _ => 0)) 56 (fun _ => 0)) 57 (fun _ => 0)) 58 (fun _ => 0)) 59 (fun _ => 0)) 51 13 56) 60 (ax_nw [2, 2, 2, 0, 0, 0, 0])) 0 12 (-1)) 61 (ax_nw [0, 0, 0, 0, 2, 2, 2, 2, 2, 2, 2, 2, 2, 0, 0, 0, 1, 0, 0, 0, 0, 0, 0, 0, 2, 0, 2, 2, 2, 0, 2, 2, 0, 0, 2, 2, 2, 2, 2, 2, 2, 2, 2, 0, 2, 2, 2, 0, 2, 2, 0, 2, 0, 1, 2, 2, 2, 2, 2, 2, 2])) 61 1 (-1)) 62 (fun _ => 0)) 63 (fun _ => 0)) 64 (fun _ => 0)) 65 (fun _ => 0)) 66 (fun _ => 0)) 67 (fun _ => 0)) 68 (fun _ => 0)) 69 (fun _ => 0)) 70 (fun _ => 0)) 61 14 (-1)) 71 (fun _ => 0)) 72 (fun _ => 0)) 73 (fun _ => 0)) 74 (fun _ => 0)) 75 (fun _ => 0)) 76 (fun _ => 0)) 61 32 (-1)) 77 (fun _ => 0)) 78 (fun _ => 0)) 79 (fun _ => 0)) 80 (fun _ => 0)) 81 (fun _ => 0)) 82 (fun _ => 0)) 83 (fun _ => 0)) 84 (fun _ => 0)) 85 (fun _ => 0)) 86 (fun _ => 0)) 87 (fun _ => 0)) 88 (fun _ => 0)) 89 (fun _ => 0)) 90 (fun _ => 0)) 91 (fun _ => 0)) 92 (fun _ => 0)) 93 (fun _ => 0)) 94 (fun _ => 0)) 95 (fun _ => 0)) 96 (fun _ => 0)) 97 (fun _ => 0)) 98 (fun _ => 0)) 61 0 0)
set_option maxRecDepth 100000 in
theorem inv_0 : Inv 0 M00 := by
  have a0 : M00 61 0 = 0 := rfl
  have a1 : M00 61 1 = -1 := rfl
  have a2 : M00 61 2 = 0 := rfl
  have a3 : M00 61 3 = 0 := rfl
  have a13 : M00 61 13 = 0 := rfl
  have a14 : M00 61 14 = -1 := rfl
  have a25 : M00 61 25 = 0 := rfl
  have a29 : M00 61 29 = 0 := rfl
  have a32 : M00 61 32 = -1 := rfl
  have a50 : M00 61 50 = 0 := rfl
  have b60 : M00 6 0 = 0 := rfl
  have b61 : M00 6 1 = 0 := rfl
  have b62 : M00 6 2 = -1 := rfl
  have b63 : M00 6 3 = 0 := rfl
  have c80 : M00 8 0 = 0 := rfl
  have c81 : M00 8 1 = 0 := rfl
  have c31 : M00 31 1 = 0 := rfl
  have c11 : M00 1 1 = 0 := rfl
  have d300 : M00 30 0 = 0 := rfl
  have d301 : M00 30 1 = 0 := rfl
  have d980 : M00 98 0 = 0 := rfl
  have d981 : M00 98 1 = 0 := rfl
  have d97 : ∀ k, M00 97 k = 0 := fun _ => rfl
  have d59 : ∀ k, M00 59 k = 0 := fun _ => rfl
  have d51 : M00 51 12 = 0 := rfl
  have e0 : M00 0 12 = -1 := rfl
  have e150 : M00 15 0 = 16 := rfl
  have e151 : M00 15 1 = 23 := rfl
  refine ⟨⟨⟨fun k k0 k1 => ?_, ?_, ?_⟩, ?_, ?_, ?_, ?_, fun k k0 k1 => ?_⟩, ⟨⟨?_, ?_, ?_, ?_, ?_, ?_⟩, fun k k0 k1 => ?_, fun k k0 k1 => ?_, fun k k0 k1 => ?_⟩, ⟨?_, ?_, ?_, fun k k0 k1 => ?_⟩, ⟨?_, ?_, ?_, fun k k0 k1 => ?_⟩, ⟨⟨?_, ?_, fun w => ?_⟩, ⟨?_, ?_, fun w => ?_⟩, fun k k0 k1 => ?_⟩, ⟨?_, ?_, fun j j0 j1 => ?_⟩, ⟨?_, ?_, ?_, ?_⟩⟩
  · omega
  · omega
  · exact Or.inl ⟨a0, a1, a2, a3⟩
  · omega
  · omega
  · omega
  · omega
  · omega
  · omega
  · omega
  · omega
  · omega
  · omega
  · omega
  · omega
  · omega
  · omega
  · omega
  · omega
  · omega
  · omega
  · omega
  · omega
  · omega
  · omega
  · omega
  · exact Or.inl d980
  · omega
  · omega
  · exact Or.inl d981
  · omega
  · rw [d97, d97]; omega
  · omega
  · omega
  · rw [d59]; omega
  · omega
  · omega
  · omega
  · omega
theorem law_all {b L : Nat} {xs : Nat → Int32} (hL : L ≤ 3584) : ax_J Y_L_law (ax_KL b L xs) 0 0 0 [(0, aR 2000)] [] [] (fun _ _ => 0) :=
  B_law_0 hL (law_loop hL 512 0 0 M00 (by omega) (Int.le_refl _) (by omega) inv_0)
