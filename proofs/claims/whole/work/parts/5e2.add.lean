/-! PURE PART: a statement comes to a house -/
def addR (h : Gr) (a b : Nat) : Gr := fun g k => if g = 0 ∧ k = 0 then hR h + 1 else if g = 1 ∧ k = hR h + 1 then a else if g = 2 ∧ k = hR h + 1 then b else h g k
def addD (h : Gr) (a b : Nat) : Gr := fun g k => if g = 0 ∧ k = 1 then hD h + 1 else if g = 5 ∧ k = 2 * hD h then a else if g = 5 ∧ k = 2 * hD h + 1 then b else if g = 3 ∧ k = a then hB h a ||| 2 ^ b else if g = 3 ∧ k = b then hB h b ||| 2 ^ a else h g k
def addN (h : Gr) (a b c d : Nat) : Gr := fun g k => if g = 0 ∧ k = 2 then hN h + 1 else if g = 4 ∧ k = 4 * hN h then a else if g = 4 ∧ k = 4 * hN h + 1 then b else if g = 4 ∧ k = 4 * hN h + 2 then c else if g = 4 ∧ k = 4 * hN h + 3 then d else h g k
theorem addR_R {h : Gr} {a b : Nat} : hR (addR h a b) = hR h + 1 := by simp [addR, hR]
theorem addR_D {h : Gr} {a b : Nat} : hD (addR h a b) = hD h := by simp [addR, hD]
theorem addR_N {h : Gr} {a b : Nat} : hN (addR h a b) = hN h := by simp [addR, hN]
theorem addR_W {h : Gr} {a b r : Nat} : hW (addR h a b) r = if r = hR h + 1 then a else hW h r := by simp [addR, hW]
theorem addR_C {h : Gr} {a b r : Nat} : hC (addR h a b) r = if r = hR h + 1 then b else hC h r := by simp [addR, hC]
theorem addR_B {h : Gr} {a b r : Nat} : hB (addR h a b) r = hB h r := by simp [addR, hB]
theorem addR_P {h : Gr} {a b r : Nat} : hP (addR h a b) r = hP h r := by simp [addR, hP]
theorem addR_L {h : Gr} {a b r : Nat} : hL (addR h a b) r = hL h r := by simp [addR, hL]
theorem addD_R {h : Gr} {a b : Nat} : hR (addD h a b) = hR h := by simp [addD, hR]
theorem addD_D {h : Gr} {a b : Nat} : hD (addD h a b) = hD h + 1 := by simp [addD, hD]
theorem addD_N {h : Gr} {a b : Nat} : hN (addD h a b) = hN h := by simp [addD, hN]
theorem addD_W {h : Gr} {a b r : Nat} : hW (addD h a b) r = hW h r := by simp [addD, hW]
theorem addD_C {h : Gr} {a b r : Nat} : hC (addD h a b) r = hC h r := by simp [addD, hC]
theorem addD_B {h : Gr} {a b r : Nat} : hB (addD h a b) r = if r = a then hB h a ||| 2 ^ b else if r = b then hB h b ||| 2 ^ a else hB h r := by simp [addD, hB]
theorem addD_P {h : Gr} {a b r : Nat} : hP (addD h a b) r = hP h r := by simp [addD, hP]
theorem addD_L {h : Gr} {a b r : Nat} : hL (addD h a b) r = if r = 2 * hD h then a else if r = 2 * hD h + 1 then b else hL h r := by simp [addD, hL]
theorem addN_R {h : Gr} {a b c d : Nat} : hR (addN h a b c d) = hR h := by simp [addN, hR]
theorem addN_D {h : Gr} {a b c d : Nat} : hD (addN h a b c d) = hD h := by simp [addN, hD]
theorem addN_N {h : Gr} {a b c d : Nat} : hN (addN h a b c d) = hN h + 1 := by simp [addN, hN]
theorem addN_W {h : Gr} {a b c d r : Nat} : hW (addN h a b c d) r = hW h r := by simp [addN, hW]
theorem addN_C {h : Gr} {a b c d r : Nat} : hC (addN h a b c d) r = hC h r := by simp [addN, hC]
theorem addN_B {h : Gr} {a b c d r : Nat} : hB (addN h a b c d) r = hB h r := by simp [addN, hB]
theorem addN_P {h : Gr} {a b c d r : Nat} : hP (addN h a b c d) r = if r = 4 * hN h then a else if r = 4 * hN h + 1 then b else if r = 4 * hN h + 2 then c else if r = 4 * hN h + 3 then d else hP h r := by simp [addN, hP]
theorem addN_L {h : Gr} {a b c d r : Nat} : hL (addN h a b c d) r = hL h r := by simp [addN, hL]
theorem addR_ok {h : Gr} {a b : Nat} (ho : okH h) (h1 : 1 ≤ a) (h2 : a ≤ 9) (h3 : 1 ≤ b) (h4 : b ≤ 2) (h5 : hR h < 5) : okH (addR h a b) := by
  obtain ⟨⟨o1, o2, o3⟩, o4, o5, o6, o7⟩ := ho
  refine ⟨⟨by rw [addR_R]; omega, by rw [addR_D]; omega, by rw [addR_N]; omega⟩, fun r x y => ?_, fun k x => ?_, fun r x k => ?_, fun i x => ?_⟩
  · rw [addR_R] at y
    rw [addR_W, addR_C]
    by_cases e : r = hR h + 1
    · rw [if_pos e, if_pos e]; omega
    · rw [if_neg e, if_neg e]; exact o4 r x (by omega)
  · rw [addR_D] at x
    rw [addR_L, addR_L, addR_R]
    have := o5 k x
    omega
  · rw [addR_B, addR_D]
    simp only [addR_L]
    exact o6 r x k
  · rw [addR_N] at x
    rw [addR_P, addR_P, addR_P, addR_P, addR_R]
    have := o7 i x
    omega
theorem addN_ok {h : Gr} {a b c d : Nat} (ho : okH h) (h1 : a ≤ hR h) (h2 : b ≤ hR h) (h3 : a ≠ b) (h4 : c ≤ d) (h5 : d ≤ 99) (h6 : hN h < 8) : okH (addN h a b c d) := by
  obtain ⟨⟨o1, o2, o3⟩, o4, o5, o6, o7⟩ := ho
  refine ⟨⟨by rw [addN_R]; omega, by rw [addN_D]; omega, by rw [addN_N]; omega⟩, fun r x y => ?_, fun k x => ?_, fun r x k => ?_, fun i x => ?_⟩
  · rw [addN_R] at y
    rw [addN_W, addN_C]
    exact o4 r x y
  · rw [addN_D] at x
    rw [addN_L, addN_L, addN_R]
    exact o5 k x
  · rw [addN_B, addN_D]
    simp only [addN_L]
    exact o6 r x k
  · rw [addN_N] at x
    rw [addN_P, addN_P, addN_P, addN_P, addN_R]
    by_cases e : i = hN h
    · subst e
      rw [if_pos rfl, if_neg (by omega), if_pos rfl, if_neg (by omega), if_neg (by omega), if_pos rfl, if_neg (by omega), if_neg (by omega), if_neg (by omega), if_pos rfl]
      omega
    · rw [if_neg (by omega), if_neg (by omega), if_neg (by omega), if_neg (by omega), if_neg (by omega), if_neg (by omega), if_neg (by omega), if_neg (by omega), if_neg (by omega), if_neg (by omega), if_neg (by omega), if_neg (by omega), if_neg (by omega), if_neg (by omega), if_neg (by omega), if_neg (by omega)]
      exact o7 i (by omega)
theorem addD_ok {h : Gr} {a b : Nat} (ho : okH h) (h1 : a ≤ hR h) (h2 : b ≤ hR h) (h3 : a ≠ b) (h4 : hD h < 12) : okH (addD h a b) := by
  obtain ⟨⟨o1, o2, o3⟩, o4, o5, o6, o7⟩ := ho
  have old : ∀ k, k < hD h → hL (addD h a b) (2 * k) = hL h (2 * k) ∧ hL (addD h a b) (2 * k + 1) = hL h (2 * k + 1) := by
    intro k hk
    rw [addD_L, addD_L, if_neg (by omega), if_neg (by omega), if_neg (by omega), if_neg (by omega)]
    exact ⟨rfl, rfl⟩
  have new1 : hL (addD h a b) (2 * hD h) = a := by rw [addD_L, if_pos rfl]
  have new2 : hL (addD h a b) (2 * hD h + 1) = b := by rw [addD_L, if_neg (by omega), if_pos rfl]
  refine ⟨⟨by rw [addD_R]; omega, by rw [addD_D]; omega, by rw [addD_N]; omega⟩, fun r x y => ?_, fun k x => ?_, fun r x k => ?_, fun i x => ?_⟩
  · rw [addD_R] at y
    rw [addD_W, addD_C]
    exact o4 r x y
  · rw [addD_D] at x
    rw [addD_R]
    by_cases e : k = hD h
    · subst e
      rw [new1, new2]
      omega
    · rw [(old k (by omega)).1, (old k (by omega)).2]
      exact o5 k (by omega)
  · have split : (∃ j, j < hD (addD h a b) ∧ ((hL (addD h a b) (2 * j) = r ∧ hL (addD h a b) (2 * j + 1) = k) ∨ (hL (addD h a b) (2 * j) = k ∧ hL (addD h a b) (2 * j + 1) = r))) ↔ (hB h r).testBit k = true ∨ ((a = r ∧ b = k) ∨ (a = k ∧ b = r)) := by
      rw [o6 r x k, addD_D]
      constructor
      · rintro ⟨j, hj, q⟩
        by_cases e : j = hD h
        · subst e
          rw [new1, new2] at q
          exact Or.inr q
        · rw [(old j (by omega)).1, (old j (by omega)).2] at q
          exact Or.inl ⟨j, by omega, q⟩
      · rintro (⟨j, hj, q⟩ | q)
        · refine ⟨j, by omega, ?_⟩
          rw [(old j hj).1, (old j hj).2]
          exact q
        · refine ⟨hD h, by omega, ?_⟩
          rw [new1, new2]
          exact q
    rw [split, addD_B]
    by_cases e1 : r = a
    · subst e1
      rw [if_pos rfl, tb_or, Bool.or_eq_true, tb_pow, decide_eq_true_iff]
      constructor
      · rintro (q | q)
        · exact Or.inl q
        · exact Or.inr (Or.inl ⟨rfl, q⟩)
      · rintro (q | ⟨-, q⟩ | ⟨q1, q2⟩)
        · exact Or.inl q
        · exact Or.inr q
        · exact absurd q2.symm h3
    · rw [if_neg e1]
      by_cases e2 : r = b
      · subst e2
        rw [if_pos rfl, tb_or, Bool.or_eq_true, tb_pow, decide_eq_true_iff]
        constructor
        · rintro (q | q)
          · exact Or.inl q
          · exact Or.inr (Or.inr ⟨q, rfl⟩)
        · rintro (q | ⟨q1, q2⟩ | ⟨q, -⟩)
          · exact Or.inl q
          · exact absurd q1 h3
          · exact Or.inr q
      · rw [if_neg e2]
        constructor
        · exact Or.inl
        · rintro (q | ⟨q1, q2⟩ | ⟨q1, q2⟩)
          · exact q
          · exact absurd q1.symm e1
          · exact absurd q2.symm e2
  · rw [addD_N] at x
    rw [addD_P, addD_P, addD_P, addD_P, addD_R]
    exact o7 i x
/-- what a statement makes of a house -/
def hAdd (h : Gr) (l : Int32) (v : IA) : Option Gr :=
  if l = (114 : Int32) then (if 1 ≤ (v 0).toNatClampNeg ∧ 1 ≤ (v 1).toNatClampNeg ∧ (v 1).toNatClampNeg ≤ 2 ∧ hR h < 5 then some (addR h (v 0).toNatClampNeg (v 1).toNatClampNeg) else none)
  else if l = (100 : Int32) then (if (v 0).toNatClampNeg ≤ hR h ∧ (v 1).toNatClampNeg ≤ hR h ∧ (v 0).toNatClampNeg ≠ (v 1).toNatClampNeg ∧ (hB h (v 0).toNatClampNeg).testBit (v 1).toNatClampNeg = false ∧ hD h < 12 then some (addD h (v 0).toNatClampNeg (v 1).toNatClampNeg) else none)
  else (if (v 0).toNatClampNeg ≤ hR h ∧ (v 1).toNatClampNeg ≤ hR h ∧ (v 0).toNatClampNeg ≠ (v 1).toNatClampNeg ∧ (v 2).toNatClampNeg ≤ (v 3).toNatClampNeg ∧ hN h < 8 then some (addN h (v 0).toNatClampNeg (v 1).toNatClampNeg (v 2).toNatClampNeg (v 3).toNatClampNeg) else none)
theorem two_sp {R a b : Nat} (hR5 : R ≤ 5) (ha : a ≤ 9) (hb : b ≤ 9) {K : Int32 → Prop} (h1 : a ≤ R → b ≤ R → a ≠ b → K 1) (h0 : ¬ (a ≤ R ∧ b ≤ R ∧ a ≠ b) → K 0) : wp_X1_areTwoPlaces (nI a) (nI b) (nI R) K := by
  refine ⟨fun q => absurd q (nI_pos (by omega)), fun _ => ⟨fun q => ?_, fun q => ?_⟩⟩
  · rw [nI_ltI (by omega) (by omega)] at q
    exact ⟨fun _ => h0 (fun x => by omega), fun q => absurd rfl q⟩
  · rw [nI_ltI (by omega) (by omega)] at q
    refine ⟨fun q => absurd q px_01, fun _ => ⟨fun q => absurd q (nI_pos (by omega)), fun _ => ⟨fun q2 => ?_, fun q2 => ?_⟩⟩⟩
    · rw [nI_ltI (by omega) (by omega)] at q2
      exact ⟨fun _ => h0 (fun x => by omega), fun q => absurd rfl q⟩
    · rw [nI_ltI (by omega) (by omega)] at q2
      refine ⟨fun q => absurd q px_01, fun _ => ⟨fun q3 => ?_, fun q3 => ?_⟩⟩
      · rw [nI_eq (by omega) (by omega)] at q3
        exact h0 (fun x => x.2.2 q3)
      · rw [nI_eq (by omega) (by omega)] at q3
        exact h1 (by omega) (by omega) q3
