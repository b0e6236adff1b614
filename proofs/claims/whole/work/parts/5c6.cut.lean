/-! PURE PART: branches that can't beat the bound leave it alone -/
def cSm (p : Gr) (n : Nat) : Nat → Nat
  | 0 => 0
  | r + 1 => cSm p n r + cO p (r + 1) n
theorem cSm_s {p : Gr} {n : Nat} : ∀ m, cSm p (n + 1) m = cSm p n m + if 1 ≤ pR p n ∧ pR p n ≤ m then 1 else 0
  | 0 => by rw [if_neg (by omega)]; rfl
  | m + 1 => by
    rw [cSm, cSm, cSm_s m, cO]
    by_cases e : pR p n = m + 1
    · rw [if_pos e, if_neg (by omega), if_pos (by omega)]; omega
    · rw [if_neg e]
      by_cases e2 : 1 ≤ pR p n ∧ pR p n ≤ m
      · rw [if_pos e2, if_pos (by omega)]; omega
      · rw [if_neg e2, if_neg (by omega)]; omega
theorem cSm_n {p : Gr} {R : Nat} : ∀ n, (∀ i, i < n → 1 ≤ pR p i ∧ pR p i ≤ R) → cSm p n R = n
  | 0, _ => by
    have z : ∀ m, cSm p 0 m = 0 := by
      intro m
      induction m with
      | zero => rfl
      | succ m ih => rw [cSm, ih]; rfl
    exact z R
  | n + 1, h => by rw [cSm_s, cSm_n n (fun i hi => h i (by omega)), if_pos (h n (by omega))]
theorem rsF_0 {h : Gr} {b : Nat → Nat} {p : Gr} : ∀ m, (∀ r, 1 ≤ r → r ≤ m → cO p r (pN p) ≤ hC h r) → cSm p (pN p) m ≤ cS h m ∧ (cSm p (pN p) m = cS h m → rsF h b p m = 0)
  | 0, _ => ⟨Nat.le_refl _, fun _ => rfl⟩
  | m + 1, hl => by
    obtain ⟨i1, i2⟩ := rsF_0 (b := b) m (fun r h1 h2 => hl r h1 (by omega))
    have := hl (m + 1) (by omega) (by omega)
    rw [cSm, cS]
    refine ⟨by omega, fun e => ?_⟩
    rw [rsF, i2 (by omega), show hC h (m + 1) - cO p (m + 1) (pN p) = 0 by omega, Nat.zero_mul]
theorem rst_0 {h : Gr} {b : Nat → Nat} {p : Gr} (hl : leC h p) (hpl : plOK h p) (e : pN p = cS h (hR h)) : rst h b p = 0 := (rsF_0 (hR h) hl).2 (by rw [cSm_n (pN p) (fun i hi => (hpl i hi).1)]; exact e)
theorem plOK_ex {h p : Gr} {r t : Nat} (hpl : plOK h p) (hr1 : 1 ≤ r) (hr2 : r ≤ hR h) (ht : t ≤ 60) : plOK h (ex p r t) := by
  intro i hi
  rw [ex_N] at hi
  by_cases ei : i = pN p
  · subst ei
    rw [ex_Rn, ex_Hn]
    exact ⟨⟨hr1, hr2⟩, ht⟩
  · rw [ex_R ei, ex_H ei]
    exact hpl i (by omega)
theorem dfs_cut {h : Gr} {b : Nat → Nat} {k : Nat} {a : Nat × Gr} : ∀ (d : Nat) (p : Gr), leC h p → plOK h p → a.1 ≤ stH h b p + rst h b p → dfs h b k (cS h (hR h)) d p (some a) = some a
  | 0, _, _, _, _ => rfl
  | d + 1, p, hl, hpl, hle => by
    rw [dfs]
    split
    · rename_i e
      rw [rst_0 hl hpl e] at hle
      exact if_neg (by omega)
    · have loop : ∀ c r, r + c = hR h + 1 → 1 ≤ r → rmF h b k (dfs h b k (cS h (hR h)) d) p c r (some a) = some a := by
        intro c
        induction c with
        | zero => intro r _ _; rfl
        | succ c ih =>
          intro r hr hr1
          have step : (if cO p r (pN p) = hC h r then some a else match fh h b k p r with
    | none => some a
    | some t => dfs h b k (cS h (hR h)) d (ex p r t) (some a)) = some a := by
            split
            · rfl
            · rename_i q
              cases ef : fh h b k p r with
              | none => rfl
              | some t =>
                obtain ⟨g1, g2, -, -⟩ := fhF_s _ _ ef
                have hlt : cO p r (pN p) < hC h r := Nat.lt_of_le_of_ne (hl r hr1 (by omega)) q
                have re := rst_ex (b := b) (t := t) hr1 (by omega) hlt
                exact dfs_cut d (ex p r t) (leC_ex hl hlt) (plOK_ex hpl hr1 (by omega) (by omega)) (by rw [stH_ex]; omega)
          exact (congrArg (fun z => rmF h b k (dfs h b k (cS h (hR h)) d) p c (r + 1) z) step).trans (ih (r + 1) (by omega) (by omega))
      exact loop (hR h) 1 (by omega) (by omega)
