/-! PURE PART: the class's search: a step begins, is taken back -/
def sV (h : Gr) (b : Nat → Nat) (k : Nat) (p : Gr) (ts : Int32) (tr th cl lb sa : IA) : Prop := ts = nI (pN p) ∧ (∀ i, i < pN p → tr i = nI (pR p i) ∧ th i = nI (pH p i)) ∧ (∀ r, 1 ≤ r → r ≤ hR h → cl r = nI (hC h r - cO p r (pN p)) ∧ lb r = lbV p r) ∧ ∀ u, u ≤ 99 → sa u = nI (shS h b k p u (pN p))
theorem lbV_ex {p : Gr} {r r' t : Nat} (hr : r' ≠ r) : lbV (ex p r t) r' = lbV p r' := by
  unfold lbV
  rw [ex_N, las_ex, if_neg (fun z => hr z.symm)]
  cases e : las p r' (pN p) with
  | none => rfl
  | some j =>
    have := (las_b _ e).1
    show nI (pH (ex p r t) j) = nI (pH p j)
    rw [ex_H (by omega)]
theorem lbV_exs {p : Gr} {r t : Nat} : lbV (ex p r t) r = nI t := by
  unfold lbV
  rw [ex_N, las_ex, if_pos rfl]
  show nI (pH (ex p r t) (pN p)) = nI t
  rw [ex_Hn]
theorem begin_lp {h p : Gr} {b : Nat → Nat} {k r t : Nat} (ho : okH h) (hb : okB b) (hr1 : 1 ≤ r) (hr2 : r ≤ hR h) (ht : t ≤ 60) {ts : Int32} {tr th shuts cl lb : IA} (hsh : shuts r = nI (sh h b k r)) {K : Int32 → IA → IA → IA → IA → IA → Prop} (hK : ∀ v : IA, (∀ u, u ≤ 99 → v u = nI (shS h b k (ex p r t) u (pN p + 1))) → K ts tr th cl lb v) : ∀ (d u : Nat) (v : IA), u + d = (if t + sh h b k r ≤ 100 then t + sh h b k r else 100) → (∀ j, j ≤ 99 → v j = nI (shS h b k p j (pN p) ||| if t ≤ j ∧ j < u then 2 ^ r else 0)) → t ≤ u → wp_X7_begin_28 (nI r) (nI t) ts tr th shuts cl lb K (d + 1) (nI u) v := by
  have h5 := ho.1.1
  have hs := sh_b ho hb k hr1 hr2
  have e : nI t + shuts (nI r).toNatClampNeg = nI (t + sh h b k r) := by rw [px_cl (by omega), hsh, nI_add]
  intro d
  induction d with
  | zero =>
    intro u v hu hv htu
    have fin : K ts tr th cl lb v := by
      refine hK v (fun j hj => ?_)
      rw [hv j hj, shS_ex]
      by_cases c : t ≤ j ∧ j < t + sh h b k r
      · rw [if_pos c, if_pos (by split at hu <;> omega)]
      · rw [if_neg c, if_neg (by split at hu <;> omega)]
    refine ⟨px_in (by omega) (by decide), fun _ => fin, fun q => ⟨fun _ => fin, fun q2 => ?_⟩⟩
    rw [e, nI_leI (by omega) (by split at hu <;> omega)] at q
    rw [px_lit, nI_ltI (by omega) (by split at hu <;> omega)] at q2
    split at hu <;> omega
  | succ d ih =>
    intro u v hu hv htu
    have hu2 : u < t + sh h b k r ∧ u ≤ 99 := by split at hu <;> omega
    refine ⟨px_in (by omega) (by decide), fun q => ?_, fun q => ⟨fun q2 => ?_, fun q2 => ⟨px_in (by omega) (by decide), ?_⟩⟩⟩
    · rw [e, nI_leI (by omega) (by omega)] at q
      omega
    · rw [px_lit, nI_ltI (by omega) (by omega)] at q2
      omega
    · rw [px_cl (by omega), hv u hu2.2, if_neg (by omega), Nat.or_zero, px_shl1 r (by omega), px_or, nI_1]
      refine ih (u + 1) _ (by omega) (fun j hj => ?_) (by omega)
      by_cases ej : j = u
      · subst ej
        rw [up_s, if_pos (by omega)]
      · rw [up_n ej, hv j hj]
        by_cases c : t ≤ j ∧ j < u
        · rw [if_pos c, if_pos (by omega)]
        · rw [if_neg c, if_neg (by omega)]
theorem begin_sp {h p : Gr} {b : Nat → Nat} {k r t : Nat} (ho : okH h) (hb : okB b) (hn : pN p < 8) (hr1 : 1 ≤ r) (hr2 : r ≤ hR h) (ht : t ≤ 60) (hc : cO p r (pN p) < hC h r) {ts : Int32} {tr th shuts cl lb sa : IA} (hsh : shuts r = nI (sh h b k r)) (hv : sV h b k p ts tr th cl lb sa) {K : Int32 → IA → IA → IA → IA → IA → Prop} (hK : ∀ ts' tr' th' cl' lb' sa', sV h b k (ex p r t) ts' tr' th' cl' lb' sa' → K ts' tr' th' cl' lb' sa') : wp_X7_begin (nI r) (nI t) ts tr th shuts cl lb sa K := by
  have h5 := ho.1.1
  have hs := sh_b ho hb k hr1 hr2
  obtain ⟨rfl, v2, v3, v4⟩ := hv
  refine ⟨fun q => ?_, fun _ => ⟨px_in hn (by decide), px_in (by omega) (by decide), ?_⟩⟩
  · rw [px_lit, nI_leI (by omega) (by omega)] at q
    omega
  · rw [px_cl (by omega), px_cl (by omega), nI_1, (v3 r hr1 hr2).1, show nI (hC h r - cO p r (pN p)) - (1 : Int32) = nI (hC h r - cO p r (pN p) - 1) by rw [px_lit, pk_sub (by omega)]]
    refine ⟨(if t + sh h b k r ≤ 100 then t + sh h b k r else 100) - t + 1, begin_lp ho hb hr1 hr2 ht hsh (fun v hvv => hK _ _ _ _ _ _ ⟨by rw [ex_N], fun i hi => ?_, fun r' q1 q2 => ?_, by rw [ex_N]; exact hvv⟩) _ t sa (by split <;> omega) (fun j hj => ?_) (Nat.le_refl _)⟩
    · rw [ex_N] at hi
      by_cases ei : i = pN p
      · subst ei
        rw [up_s, up_s, ex_Rn, ex_Hn]
        exact ⟨rfl, rfl⟩
      · rw [up_n ei, up_n ei, ex_R ei, ex_H ei]
        exact v2 i (by omega)
    · by_cases er : r' = r
      · subst er
        rw [up_s, up_s, ex_N, cO_ex, if_pos rfl, lbV_exs, Nat.sub_sub]
        exact ⟨rfl, rfl⟩
      · rw [up_n er, up_n er, ex_N, cO_ex, if_neg (fun z => er z.symm), lbV_ex er]
        exact v3 r' q1 q2
    · rw [v4 j hj, if_neg (by omega), Nat.or_zero]
theorem take_lp {h p : Gr} {b : Nat → Nat} {k r t : Nat} (ho : okH h) (hb : okB b) (hp : plOK h p) (hr1 : 1 ≤ r) (hr2 : r ≤ hR h) (ht : t ≤ 60) (hbit : ∀ u, t ≤ u → (shS h b k p u (pN p)).testBit r = false) {ts : Int32} {shuts cl lb : IA} (hsh : shuts r = nI (sh h b k r)) {K : Int32 → IA → IA → IA → Prop} (hK : ∀ v : IA, (∀ u, u ≤ 99 → v u = nI (shS h b k p u (pN p))) → K ts cl lb v) : ∀ (d u : Nat) (v : IA), u + d = (if t + sh h b k r ≤ 100 then t + sh h b k r else 100) → (∀ j, j ≤ 99 → v j = nI (shS h b k p j (pN p) ||| if u ≤ j ∧ j < t + sh h b k r then 2 ^ r else 0)) → t ≤ u → wp_X7_takeBack_29 (nI r) (nI t) ts shuts cl lb K (d + 1) (nI u) v := by
  have h5 := ho.1.1
  have hs := sh_b ho hb k hr1 hr2
  have e : nI t + shuts (nI r).toNatClampNeg = nI (t + sh h b k r) := by rw [px_cl (by omega), hsh, nI_add]
  intro d
  induction d with
  | zero =>
    intro u v hu hv htu
    have fin : K ts cl lb v := by
      refine hK v (fun j hj => ?_)
      rw [hv j hj, if_neg (by split at hu <;> omega), Nat.or_zero]
    refine ⟨px_in (by omega) (by decide), fun _ => fin, fun q => ⟨fun _ => fin, fun q2 => ?_⟩⟩
    rw [e, nI_leI (by omega) (by split at hu <;> omega)] at q
    rw [px_lit, nI_ltI (by omega) (by split at hu <;> omega)] at q2
    split at hu <;> omega
  | succ d ih =>
    intro u v hu hv htu
    have hu2 : u < t + sh h b k r ∧ u ≤ 99 := by split at hu <;> omega
    refine ⟨px_in (by omega) (by decide), fun q => ?_, fun q => ⟨fun q2 => ?_, fun q2 => ⟨px_in (by omega) (by decide), ?_⟩⟩⟩
    · rw [e, nI_leI (by omega) (by omega)] at q
      omega
    · rw [px_lit, nI_ltI (by omega) (by omega)] at q2
      omega
    · have hS := shS_b (b := b) (k := k) (p := p) (t := u) ho (pN p) (fun i hi => (hp i hi).1)
      have h2r := (shOK_one ho hr1 hr2).1
      rw [px_cl (by omega), hv u hu2.2, if_pos (by omega), px_shl1 r (by omega), px_nd, nI_1]
      refine ih (u + 1) _ (by omega) (fun j hj => ?_) (by omega)
      by_cases ej : j = u
      · subst ej
        rw [up_s, if_neg (by omega), Nat.or_zero]
        congr 1
        apply tb_ext
        intro i
        rw [nd_tb (Nat.lt_of_lt_of_le (or_lt (n := 6) hS h2r) (by decide)), tb_or, tb_pow]
        by_cases ei : r = i
        · subst ei
          rw [hbit j htu]
          simp
        · simp [ei]
      · rw [up_n ej, hv j hj]
        by_cases c : u + 1 ≤ j ∧ j < t + sh h b k r
        · rw [if_pos c, if_pos (by omega)]
        · rw [if_neg c, if_neg (by omega)]
theorem take_sp {h p : Gr} {b : Nat → Nat} {k r t : Nat} (ho : okH h) (hb : okB b) (hp : plOK h p) (hn : pN p < 8) (hr1 : 1 ≤ r) (hr2 : r ≤ hR h) (ht : t ≤ 60) (hbit : ∀ u, t ≤ u → (shS h b k p u (pN p)).testBit r = false) (hc : cO p r (pN p) < hC h r) {ts : Int32} {tr th shuts cl lb sa : IA} (hsh : shuts r = nI (sh h b k r)) (hv : sV h b k (ex p r t) ts tr th cl lb sa) {K : Int32 → IA → IA → IA → Prop} (hK : ∀ ts' cl' lb' sa', sV h b k p ts' tr th cl' lb' sa' → K ts' cl' lb' sa') : wp_X7_takeBack (nI r) (nI t) (lbV p r) (nI (pN p)) ts shuts cl lb sa K := by
  have h5 := ho.1.1
  have hs := sh_b ho hb k hr1 hr2
  obtain ⟨rfl, v2, v3, v4⟩ := hv
  rw [ex_N] at v2 v3 v4 ⊢
  refine ⟨fun q => absurd q (nI_pos (by omega)), fun _ => ⟨fun q => ?_, fun _ => ⟨px_in (by omega) (by decide), ?_⟩⟩⟩
  · rw [nI_leI (by omega) (by omega)] at q
    omega
  · have hcr := (v3 r hr1 hr2).1
    rw [cO_ex, if_pos rfl] at hcr
    rw [px_cl (by omega), hcr, nI_1, show hC h r - (cO p r (pN p) + 1) + 1 = hC h r - cO p r (pN p) by omega]
    refine ⟨(if t + sh h b k r ≤ 100 then t + sh h b k r else 100) - t + 1, take_lp ho hb hp hr1 hr2 ht hbit hsh (fun v hvv => hK _ _ _ _ ⟨rfl, fun i hi => ?_, fun r' q1 q2 => ?_, hvv⟩) _ t sa (by split <;> omega) (fun j hj => ?_) (Nat.le_refl _)⟩
    · have := v2 i (by omega)
      rw [ex_R (by omega), ex_H (by omega)] at this
      exact this
    · by_cases er : r' = r
      · subst er
        rw [up_s, up_s]
        exact ⟨rfl, rfl⟩
      · rw [up_n er, up_n er]
        have := v3 r' q1 q2
        rw [cO_ex, if_neg (fun z => er z.symm), lbV_ex er] at this
        exact this
    · rw [v4 j hj, shS_ex]
