/-! PURE PART: when a step can begin, in the class's words -/
theorem whP_cg {h : Gr} {b : Nat → Nat} {k : Nat} {p q : Gr} : ∀ n, agP n p q → whP h b k p n = whP h b k q n
  | 0, _ => rfl
  | n + 1, ha => by
    rw [whP, whP, outP_cg ha (by omega), (ha n (by omega)).1]
theorem fq_ex {h : Gr} {b : Nat → Nat} {p : Gr} {r t : Nat} : fq h b (ex p r t) (pN p) (pN p) ↔ ∃ j, j < pN p ∧ pR p j = r ∧ pH p j ≤ t ∧ t < pH p j + (tk h b r + b 0 + b 1) := by
  unfold fq fre
  rw [ex_Rn, ex_Hn]
  constructor
  · rintro ⟨j, hj, h1, h2, h3⟩
    rw [ex_R (by omega)] at h1
    rw [ex_H (by omega)] at h2 h3
    exact ⟨j, hj, h1, h2, h3⟩
  · rintro ⟨j, hj, h1, h2, h3⟩
    refine ⟨j, hj, ?_, ?_, ?_⟩
    · rw [ex_R (by omega)]; exact h1
    · rw [ex_H (by omega)]; exact h2
    · rw [ex_H (by omega)]; exact h3
theorem w5_ex {h : Gr} {b : Nat → Nat} {p : Gr} {r t : Nat} : w5 h b (ex p r t) (pN p) ↔ ∃ j, las p r (pN p) = some j ∧ en h b p j + b 2 < t := by
  unfold w5
  rw [ex_Rn, ex_Hn, las_cg _ agP_ex]
  constructor
  · rintro ⟨j, h1, h2⟩
    have := las_b _ h1
    rw [en_cg agP_ex this.1] at h2
    exact ⟨j, h1, h2⟩
  · rintro ⟨j, h1, h2⟩
    have := las_b _ h1
    refine ⟨j, h1, ?_⟩
    rw [en_cg agP_ex this.1]
    exact h2
theorem w1_ex {h : Gr} {b : Nat → Nat} {k : Nat} {p : Gr} {r t : Nat} : w1 h b k (ex p r t) (pN p) ↔ rc h (opn h b k p t (pN p)) (whP h b k p (pN p)) r = false := by
  unfold w1 opn
  rw [ex_Rn, ex_Hn, whP_cg _ agP_ex, shS_cg _ agP_ex]
