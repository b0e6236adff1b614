/-! PURE PART: when a step can begin, in the class's words -/
theorem whP_cg {h : Gr} {b : Nat → Nat} {k : Nat} {p q : Gr} : ∀ n, agP n p q → whP h b k p n = whP h b k q n
  | 0, _ => rfl
  | n + 1, ha => by
    rw [whP, whP, outP_cg ha (by omega), (ha n (by omega)).1]
theorem fq_ex {h : Gr} {b : Nat → Nat} {p : Gr} {r t : Nat} : fq h b (ex p r t) (pN p) (pN p) ↔ ∃ j, j < pN p ∧ pR p j = r ∧ pH p j ≤ t ∧ t < pH p j + (tk h b r + b 0 + b 1) := by
  unfold fq fre
  rw [ex_Rn, ex_Hn]
  constructor
  · rintro ⟨j, hj, h1, h2, h3⟩
    rw [ex_R (by omega)] at h1
    rw [ex_H (by omega)] at h2 h3
    exact ⟨j, hj, h1, h2, h3⟩
  · rintro ⟨j, hj, h1, h2, h3⟩
    refine ⟨j, hj, ?_, ?_, ?_⟩
    · rw [ex_R (by omega)]; exact h1
    · rw [ex_H (by omega)]; exact h2
    · rw [ex_H (by omega)]; exact h3
theorem w5_ex {h : Gr} {b : Nat → Nat} {p : Gr} {r t : Nat} : w5 h b (ex p r t) (pN p) ↔ ∃ j, las p r (pN p) = some j ∧ en h b p j + b 2 < t := by
  unfold w5
  rw [ex_Rn, ex_Hn, las_cg _ agP_ex]
  constructor
  · rintro ⟨j, h1, h2⟩
    have := las_b _ h1
    rw [en_cg agP_ex this.1] at h2
    exact ⟨j, h1, h2⟩
  · rintro ⟨j, h1, h2⟩
    have := las_b _ h1
    refine ⟨j, h1, ?_⟩
    rw [en_cg agP_ex this.1]
    exact h2
theorem w1_ex {h : Gr} {b : Nat → Nat} {k : Nat} {p : Gr} {r t : Nat} : w1 h b k (ex p r t) (pN p) ↔ rc h (opn h b k p t (pN p)) (whP h b k p (pN p)) r = false := by
  unfold w1 opn
  rw [ex_Rn, ex_Hn, whP_cg _ agP_ex, shS_cg _ agP_ex]
def outB (h : Gr) (b : Nat → Nat) (k : Nat) (p : Gr) (r t : Nat) : Option Nat := lbF (nd (hB h r) (shS h b k p (t + tk h b r) (pN p))) (hR h + 1) 0
theorem outP_ex {h : Gr} (ho : okH h) {b : Nat → Nat} {k : Nat} {p : Gr} {r t : Nat} (hr : r < 6) : outP h b k (ex p r t) (pN p) = outB h b k p r t := by
  have hB6 := ho.Bs hr
  have e : en h b (ex p r t) (pN p) = t + tk h b r := by unfold en; rw [ex_Rn, ex_Hn]
  unfold outP outB
  rw [e, ex_Rn, shS_ex]
  apply lbF_congr
  intro j _ _
  rw [nd_tb (by omega), nd_tb (by omega), tb_or]
  by_cases ej : j = r
  · subst ej
    rw [noself ho hr]; rfl
  · split
    · rw [tb_pow, decide_eq_false (by omega), Bool.or_false]
    · simp
theorem fl_ex {h : Gr} {b : Nat → Nat} {k u : Nat} {p : Gr} {r t : Nat} (hn : ¬ (t ≤ u ∧ u < t + sh h b k r)) : fl h b k (ex p r t) u (pN p + 1) = fl h b k p u (pN p) := by
  unfold fl opn
  rw [shS_ex, if_neg hn, Nat.or_zero]
/-- what the class looks at -/
def fc (h : Gr) (b : Nat → Nat) (k : Nat) (p : Gr) (r t : Nat) : Prop := (∀ u, t ≤ u → u < t + sh h b k r → u ≤ 99 → fl h b k (ex p r t) u (pN p + 1) = 0) ∧ rc h (opn h b k p t (pN p)) (whP h b k p (pN p)) r = true ∧ outB h b k p r t ≠ none
theorem fe_iff {h : Gr} {b : Nat → Nat} {k : Nat} {p : Gr} {r t : Nat} (ho : okH h) (hr : r < 6) (hz : ∀ u, u ≤ 99 → fl h b k p u (pN p) = 0) (hord : ∀ j, j < pN p → pH p j ≤ t) (hlas : ∀ j j', las p r (pN p) = some j → j' < pN p → pR p j' = r → pH p j' ≤ pH p j) (hlas0 : las p r (pN p) = none → ∀ j, j < pN p → pR p j ≠ r) : fe h b k p r t ↔ (∀ j, las p r (pN p) = some j → pH p j + (tk h b r + b 0 + b 1) ≤ t ∧ t ≤ pH p j + tk h b r + b 2) ∧ fc h b k p r t := by
  unfold fe fc w2
  rw [fq_ex, w5_ex, w1_ex, outP_ex ho hr]
  constructor
  · rintro ⟨g1, g2, g3, g4, g5⟩
    refine ⟨fun j hj => ?_, fun u u1 u2 u3 => ?_, ?_, g4⟩
    · obtain ⟨l1, l2⟩ := las_b _ hj
      constructor
      · apply Nat.le_of_not_lt
        intro hlt
        exact g1 ⟨j, l1, l2, hord j l1, hlt⟩
      · apply Nat.le_of_not_lt
        intro hlt
        refine g2 ⟨j, hj, ?_⟩
        unfold en
        rw [l2]
        omega
    · refine g5 u ?_ u3 ?_
      · split <;> omega
      · split
        · exact u3
        · unfold en sh at *
          rw [ex_Rn, ex_Hn]
          split at u2 <;> omega
    · cases e : rc h (opn h b k p t (pN p)) (whP h b k p (pN p)) r
      · exact absurd e g3
      · rfl
  · rintro ⟨g1, g2, g3, g4⟩
    refine ⟨?_, ?_, ?_, g4, fun u u1 u2 u3 => ?_⟩
    · rintro ⟨j, h1, h2, h3, h4⟩
      cases e : las p r (pN p) with
      | none => exact hlas0 e j h1 h2
      | some j' =>
        have a1 := (g1 j' e).1
        have a2 := hlas j' j e h1 h2
        omega
    · rintro ⟨j, h1, h2⟩
      have a1 := (g1 j h1).2
      unfold en at h2
      rw [(las_b _ h1).2] at h2
      omega
    · rw [g3]; decide
    · by_cases q : t ≤ u ∧ u < t + sh h b k r
      · exact g2 u q.1 q.2 u2
      · rw [fl_ex q]; exact hz u u2
