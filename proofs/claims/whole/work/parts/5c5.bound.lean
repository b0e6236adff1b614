/-! PURE PART: no order below is done sooner than its hours in a row -/
def rsF (h : Gr) (b : Nat → Nat) (p : Gr) : Nat → Nat
  | 0 => 0
  | r + 1 => rsF h b p r + (hC h (r + 1) - cO p (r + 1) (pN p)) * tk h b (r + 1)
def rst (h : Gr) (b : Nat → Nat) (p : Gr) : Nat := rsF h b p (hR h)
def leC (h p : Gr) : Prop := ∀ r, 1 ≤ r → r ≤ hR h → cO p r (pN p) ≤ hC h r
theorem rsF_ex {h : Gr} {b : Nat → Nat} {p : Gr} {r t : Nat} (hr1 : 1 ≤ r) (hc : cO p r (pN p) < hC h r) : ∀ m, rsF h b (ex p r t) m + (if r ≤ m then tk h b r else 0) = rsF h b p m
  | 0 => by rw [if_neg (by omega)]; rfl
  | m + 1 => by
    have ih := rsF_ex (b := b) (t := t) hr1 hc m
    rw [rsF, rsF, ex_N, cO_ex]
    by_cases e : r = m + 1
    · subst e
      rw [if_neg (by omega)] at ih
      rw [if_pos rfl, if_pos (Nat.le_refl _), ← ih]
      have e2 : hC h (m + 1) - cO p (m + 1) (pN p) = (hC h (m + 1) - (cO p (m + 1) (pN p) + 1)) + 1 := by omega
      rw [e2, Nat.add_mul]
      omega
    · rw [if_neg e]
      by_cases e2 : r ≤ m
      · rw [if_pos e2] at ih
        rw [if_pos (by omega), ← ih]
        simp only [Nat.add_zero]
        omega
      · rw [if_neg e2] at ih
        rw [if_neg (by omega), ← ih]
        simp only [Nat.add_zero]
theorem rst_ex {h : Gr} {b : Nat → Nat} {p : Gr} {r t : Nat} (hr1 : 1 ≤ r) (hr2 : r ≤ hR h) (hc : cO p r (pN p) < hC h r) : rst h b (ex p r t) + tk h b r = rst h b p := by
  have := rsF_ex (b := b) (t := t) hr1 hc (hR h)
  rw [if_pos hr2] at this
  exact this
theorem fhF_s {h : Gr} {b : Nat → Nat} {k : Nat} {p : Gr} {r t' : Nat} : ∀ d t, fhF h b k p r d t = some t' → t ≤ t' ∧ t' < t + d ∧ fe h b k p r t' ∧ ∀ u, t ≤ u → u < t' → ¬ fe h b k p r u
  | 0, t, e => by cases e
  | d + 1, t, e => by
    by_cases q : fe h b k p r t
    · rw [fhF_y q] at e
      cases e
      exact ⟨Nat.le_refl _, by omega, q, fun u h1 h2 => by omega⟩
    · rw [fhF_n q] at e
      obtain ⟨g1, g2, g3, g4⟩ := fhF_s d (t + 1) e
      refine ⟨by omega, by omega, g3, fun u h1 h2 => ?_⟩
      by_cases eu : u = t
      · subst eu; exact q
      · exact g4 u (by omega) h2
theorem fhF_none {h : Gr} {b : Nat → Nat} {k : Nat} {p : Gr} {r : Nat} : ∀ d t, fhF h b k p r d t = none → ∀ u, t ≤ u → u < t + d → ¬ fe h b k p r u
  | 0, t, _ => fun u h1 h2 => by omega
  | d + 1, t, e => by
    intro u h1 h2
    by_cases q : fe h b k p r t
    · rw [fhF_y q] at e
      cases e
    · rw [fhF_n q] at e
      by_cases eu : u = t
      · subst eu; exact q
      · exact fhF_none d (t + 1) e u (by omega) (by omega)
theorem leC_ex {h p : Gr} {r t : Nat} (hl : leC h p) (hc : cO p r (pN p) < hC h r) : leC h (ex p r t) := by
  intro r' h1 h2
  rw [ex_N, cO_ex]
  by_cases e : r = r'
  · subst e; rw [if_pos rfl]; omega
  · rw [if_neg e]; exact hl r' h1 h2
