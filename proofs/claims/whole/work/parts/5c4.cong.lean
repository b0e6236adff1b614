/-! PURE PART: what depends only on the first steps; the shut rooms with one step more -/
def agP (n : Nat) (p q : Gr) : Prop := ∀ i, i < n → pR p i = pR q i ∧ pH p i = pH q i
theorem agP_ex {p : Gr} {r t : Nat} : agP (pN p) (ex p r t) p := fun i hi => ⟨ex_R (by omega), ex_H (by omega)⟩
theorem shS_cg {h : Gr} {b : Nat → Nat} {k t : Nat} {p q : Gr} : ∀ n, agP n p q → shS h b k p t n = shS h b k q t n
  | 0, _ => rfl
  | n + 1, ha => by
    rw [shS, shS, shS_cg n (fun i hi => ha i (by omega)), (ha n (by omega)).1, (ha n (by omega)).2]
theorem en_cg {h : Gr} {b : Nat → Nat} {p q : Gr} {n i : Nat} (ha : agP n p q) (hi : i < n) : en h b p i = en h b q i := by
  unfold en
  rw [(ha i hi).1, (ha i hi).2]
theorem outP_cg {h : Gr} {b : Nat → Nat} {k : Nat} {p q : Gr} {n i : Nat} (ha : agP n p q) (hi : i < n) : outP h b k p i = outP h b k q i := by
  unfold outP
  rw [(ha i hi).1, en_cg ha hi, shS_cg (i + 1) (fun j hj => ha j (by omega))]
theorem las_cg {p q : Gr} {r : Nat} : ∀ n, agP n p q → las p r n = las q r n
  | 0, _ => rfl
  | n + 1, ha => by
    rw [las, las, las_cg n (fun i hi => ha i (by omega)), (ha n (by omega)).1]
theorem cO_cg {p q : Gr} {r : Nat} : ∀ n, agP n p q → cO p r n = cO q r n
  | 0, _ => rfl
  | n + 1, ha => by
    rw [cO, cO, cO_cg n (fun i hi => ha i (by omega)), (ha n (by omega)).1]
theorem cO_ex {p : Gr} {r r' t : Nat} : cO (ex p r t) r' (pN p + 1) = cO p r' (pN p) + if r = r' then 1 else 0 := by
  rw [cO, cO_cg _ agP_ex, ex_Rn]
theorem las_ex {p : Gr} {r r' t : Nat} : las (ex p r t) r' (pN p + 1) = if r = r' then some (pN p) else las p r' (pN p) := by
  rw [las, las_cg _ agP_ex, ex_Rn]
theorem shS_ex {h : Gr} {b : Nat → Nat} {k u : Nat} {p : Gr} {r t : Nat} : shS h b k (ex p r t) u (pN p + 1) = shS h b k p u (pN p) ||| if t ≤ u ∧ u < t + sh h b k r then 2 ^ r else 0 := by
  rw [shS, shS_cg _ agP_ex, ex_Rn, ex_Hn]
theorem stH_ex {h : Gr} {b : Nat → Nat} {p : Gr} {r t : Nat} : stH h b (ex p r t) = t + tk h b r := by
  unfold stH en
  rw [ex_N, if_neg (by omega), Nat.add_sub_cancel, ex_Rn, ex_Hn]
