/-! PURE PART: the class's search: leastBegin = the model's first hour, if it still beats the bound; begin, takeBack -/
theorem las_max {p : Gr} {r j : Nat} : ∀ m, las p r m = some j → ∀ j', j' < m → pR p j' = r → j' ≤ j
  | 0, h => by cases h
  | m + 1, h => by
    intro j' h1 h2
    rw [las] at h
    split at h
    · cases h; omega
    · rename_i e
      by_cases ej : j' = m
      · subst ej; exact absurd h2 e
      · exact las_max m h j' (by omega) h2
theorem las_no {p : Gr} {r : Nat} : ∀ m, las p r m = none → ∀ j, j < m → pR p j ≠ r
  | 0, _ => fun j h1 => absurd h1 (by omega)
  | m + 1, h => by
    intro j h1
    rw [las] at h
    split at h
    · cases h
    · rename_i e
      by_cases ej : j = m
      · subst ej; exact e
      · exact las_no m h j (by omega)
theorem gp_st {h p : Gr} {b : Nat → Nat} {k : Nat} (hg : gp h b k p) {j : Nat} (hj : j < pN p) : pH p j ≤ stH h b p := by
  have := hg.2.2.2 j (pN p - 1) (by omega) (by omega)
  unfold stH en
  rw [if_neg (by omega)]
  omega
theorem stH_b {h p : Gr} {b : Nat → Nat} (ho : okH h) (hb : okB b) (hp : plOK h p) : stH h b p ≤ 69 := by
  unfold stH
  split
  · omega
  · have hq := hp (pN p - 1) (by omega)
    have := tk_b ho hb hq.1.1 hq.1.2
    unfold en
    omega
theorem rsF_b {h p : Gr} {b : Nat → Nat} (ho : okH h) (hb : okB b) : ∀ m, m ≤ hR h → rsF h b p m ≤ 18 * m
  | 0, _ => Nat.le_refl _
  | m + 1, hm => by
    have ih := rsF_b (p := p) ho hb m (by omega)
    have hc := (ho.2.1 (m + 1) (by omega) hm).2.2
    have ht := tk_b ho hb (r := m + 1) (by omega) hm
    have := Nat.mul_le_mul (show hC h (m + 1) - cO p (m + 1) (pN p) ≤ 2 by omega) ht.2
    rw [rsF]
    omega
theorem rst_b {h p : Gr} {b : Nat → Nat} (ho : okH h) (hb : okB b) : rst h b p ≤ 90 := by
  have := rsF_b (p := p) ho hb (hR h) (Nat.le_refl _)
  have h5 := ho.1.1
  unfold rst
  omega
theorem fe_g {h : Gr} {b : Nat → Nat} {k : Nat} {p : Gr} {r t : Nat} (ho : okH h) (hr : r < 6) (hg : gp h b k p) (ht : stH h b p ≤ t) : fe h b k p r t ↔ (∀ j, las p r (pN p) = some j → pH p j + (tk h b r + b 0 + b 1) ≤ t ∧ t ≤ pH p j + tk h b r + b 2) ∧ fc h b k p r t := fe_iff ho hr hg.2.2.1 (fun j hj => Nat.le_trans (gp_st hg hj) ht) (fun j j' e h1 h2 => hg.2.2.2 j' j (las_max _ e j' h1 h2) (las_b _ e).1) (fun e j h1 => las_no _ e j h1)
theorem fh_uq {h : Gr} {b : Nat → Nat} {k : Nat} {p : Gr} {r t : Nat} (h1 : stH h b p ≤ t) (h2 : t ≤ 60) (h3 : fe h b k p r t) (h4 : ∀ u, stH h b p ≤ u → u < t → ¬ fe h b k p r u) : fh h b k p r = some t := by
  cases e : fh h b k p r with
  | none => exact absurd h3 (fhF_none _ _ e t h1 (by omega))
  | some t' =>
    obtain ⟨g1, g2, g3, g4⟩ := fhF_s _ _ e
    have : t' = t := by
      apply Nat.le_antisymm
      · apply Nat.le_of_not_lt
        intro hl
        exact g4 t h1 hl h3
      · apply Nat.le_of_not_lt
        intro hl
        exact h4 t' g1 hl g3
    rw [this]
def lbV (p : Gr) (r : Nat) : Int32 := (las p r (pN p)).elim (-1 : Int32) (fun j => nI (pH p j))
theorem px_subneg {a c : Nat} (h : a < c) (hc : c < 2 ^ 29) : nI a - nI c < 0 := by
  rw [Int32.lt_iff_toInt_lt, pk_sub_toInt (by omega) (by omega)]
  have : (0 : Int32).toInt = 0 := rfl
  omega
def sT (h : Gr) (b : Nat → Nat) (k : Nat) (takes shuts dries aa : IA) : Prop := (∀ r, 1 ≤ r → r ≤ hR h → takes r = nI (tk h b r) ∧ shuts r = nI (sh h b k r) ∧ dries r = nI (tk h b r + b 0 + b 1)) ∧ ∀ u, u ≤ 99 → aa u = nI (nA h u (hN h))
theorem leastBegin_sp {h p : Gr} {b : Nat → Nat} {k r B : Nat} (ho : okH h) (hb : okB b) (hg : gp h b k p) (hr1 : 1 ≤ r) (hr2 : r ≤ hR h) {hab beside ct br takes shuts dries lb sa aa : IA} (hwy : wOK h ct br (2 ^ hR h)) (hbe : ∀ a, a < 6 → beside a = nI (hB h a)) (hcb : cB hab b) (hT : sT h b k takes shuts dries aa) (hlb : lb r = lbV p r) (hsa : ∀ u, u ≤ 99 → sa u = nI (shS h b k p u (pN p))) (hB1 : 1 ≤ B) (hB : B ≤ 1000) {K : Int32 → Prop} (h1 : ∀ t, fh h b k p r = some t → stH h b p ≤ t → t ≤ 60 → fe h b k p r t → t + rst h b p < B → K (nI t)) (h0 : (∀ t, fh h b k p r = some t → B ≤ t + rst h b p) → K (-9 : Int32)) : wp_X7_leastBegin (nI r) (nI (whP h b k p (pN p))) (nI (stH h b p)) (nI (rst h b p)) (nI (hR h)) beside hab ct br takes shuts dries lb sa aa (nI B) K := by
  have h5 := ho.1.1
  have hp := hg.1
  have hst := stH_b ho hb hp
  have hrs := rst_b (p := p) ho hb
  have htk := tk_b ho hb hr1 hr2
  obtain ⟨hT1, hT2⟩ := hT
  obtain ⟨t1, t2, t3⟩ := hT1 r hr1 hr2
  have core : ∀ (fr : Nat) (x6 : Int32), stH h b p ≤ fr → fr ≤ 500 → (x6 < 0 ∨ ∃ to, to ≤ 60 ∧ x6 = nI to) → (∀ t, stH h b p ≤ t → t ≤ 60 → t + rst h b p < B → (∀ j, las p r (pN p) = some j → pH p j + (tk h b r + b 0 + b 1) ≤ t ∧ t ≤ pH p j + tk h b r + b 2) → fr ≤ t ∧ ¬ (x6 < nI t)) → (∀ t, fr ≤ t → t ≤ 60 → ¬ (x6 < nI t) → (∀ j, las p r (pN p) = some j → pH p j + (tk h b r + b 0 + b 1) ≤ t ∧ t ≤ pH p j + tk h b r + b 2) ∧ t + rst h b p < B) → ∃ n : Nat, wp_X7_leastBegin_91 (nI r) (nI (whP h b k p (pN p))) x6 (nI (hR h)) beside ct br takes shuts sa aa K n (nI fr) (nI fr) (nI fr) := by
    intro fr x6 hf1 hf2 hx hin hout
    have none_ : (∀ u, fr ≤ u → u ≤ 60 → ¬ (x6 < nI u) → ¬ fc h b k p r u) → K (-9 : Int32) := by
      intro hn
      refine h0 (fun t et => ?_)
      apply Nat.le_of_not_lt
      intro hlt
      obtain ⟨g1, g2, g3, -⟩ := fhF_s _ _ et
      have g := (fe_g ho (by omega) hg g1).mp g3
      obtain ⟨y1, y2⟩ := hin t g1 (by omega) hlt g.1
      exact hn t y1 (by omega) y2 g.2
    rcases hx with hneg | ⟨to, hto, rfl⟩
    · exact ⟨1, fun _ => none_ (fun u _ u2 u3 => absurd (px_neg_lt hneg (by omega)) u3), fun q => absurd (px_neg_lt hneg (by omega)) q⟩
    · have lt : ∀ u, u ≤ 1000 → (¬ (nI to < nI u) ↔ u ≤ to) := by
        intro u hu
        rw [nI_ltI (by omega) (by omega)]
        omega
      by_cases q : fr ≤ to
      · refine ⟨(to + 1 - fr) + 1, lb91_lp ho hb hwy hbe hp hr1 hr2 hto t1 t2 hsa hT2 (to + 1 - fr) fr fr fr (by omega) (Nat.le_refl _) (by omega) ⟨by omega, fun u u1 u2 => absurd u1 (by omega), fun z => absurd z (by omega)⟩ (fun t' g1 g2 g3 g4 => ?_) (fun g => none_ (fun u u1 u2 u3 => g u u1 ((lt u (by omega)).mp u3)))⟩
        obtain ⟨y1, y2⟩ := hout t' g1 (by omega) ((lt t' (by omega)).mpr g2)
        have hf : fe h b k p r t' := (fe_g ho (by omega) hg (by omega)).mpr ⟨y1, g3⟩
        refine h1 t' (fh_uq (by omega) (by omega) hf (fun u u1 u2 u3 => ?_)) (by omega) (by omega) hf y2
        have v := (fe_g ho (by omega) hg u1).mp u3
        obtain ⟨v1, v2⟩ := hin u u1 (by omega) (by omega) v.1
        exact g4 u v1 u2 v.2
      · exact ⟨1, fun _ => none_ (fun u u1 u2 u3 => absurd ((lt u (by omega)).mp u3) (by omega)), fun z => absurd ((lt fr (by omega)).mp z) q⟩
  intro x6 e6
  have hx : (B ≤ rst h b p ∧ x6 < 0) ∨ ∃ to, to ≤ 60 ∧ x6 = nI to ∧ ∀ t, t ≤ to ↔ (t ≤ 60 ∧ t + rst h b p < B) := by
    rw [show nI B - (1 : Int32) = nI (B - 1) by rw [px_lit, pk_sub hB1]] at e6
    by_cases q : B ≤ rst h b p
    · have hn : nI (B - 1) - nI (rst h b p) < 0 := px_subneg (by omega) (by omega)
      rw [if_pos (show nI (B - 1) - nI (rst h b p) < (60 : Int32) from px_neg_lt (k := 60) hn (by decide))] at e6
      exact Or.inl ⟨q, by rw [e6]; exact hn⟩
    · right
      rw [pk_sub (show rst h b p ≤ B - 1 by omega)] at e6
      by_cases q2 : B - 1 - rst h b p < 60
      · rw [if_pos (show nI (B - 1 - rst h b p) < (60 : Int32) by rw [px_lit, nI_ltI (by omega) (by omega)]; exact q2)] at e6
        exact ⟨B - 1 - rst h b p, by omega, e6, fun t => by omega⟩
      · rw [if_neg (show ¬ nI (B - 1 - rst h b p) < (60 : Int32) by rw [px_lit, nI_ltI (by omega) (by omega)]; exact q2)] at e6
        exact ⟨60, Nat.le_refl _, e6, fun t => by omega⟩
  refine ⟨px_in (by omega) (by decide), fun q => ?_, fun q x5 e5 x6' e6' => ?_⟩
  · rw [px_cl (by omega), hlb] at q
    have el : las p r (pN p) = none := by
      cases e : las p r (pN p) with
      | none => rfl
      | some j =>
        exfalso
        have hj := hp j (las_b _ e).1
        unfold lbV at q
        rw [e] at q
        exact nI_pos (n := pH p j) (by omega) (by rw [show nI (pH p j) = (-1 : Int32) from q]; decide)
    refine core (stH h b p) x6 (Nat.le_refl _) (by omega) (hx.elim (fun z => Or.inl z.2) (fun ⟨to, z1, z2, _⟩ => Or.inr ⟨to, z1, z2⟩)) (fun t g1 g2 g3 _ => ⟨g1, ?_⟩) (fun t g1 g2 g3 => ⟨fun j ej => (by rw [el] at ej; cases ej), ?_⟩)
    · rcases hx with ⟨z, -⟩ | ⟨to, z1, rfl, z3⟩
      · omega
      · rw [nI_ltI (by omega) (by omega)]
        have := (z3 t).mpr ⟨g2, g3⟩
        omega
    · rcases hx with ⟨-, z⟩ | ⟨to, z1, rfl, z3⟩
      · exact absurd (px_neg_lt z (by omega)) g3
      · rw [nI_ltI (by omega) (by omega)] at g3
        exact ((z3 t).mp (by omega)).2
  · rw [px_cl (by omega)] at q e5 e6'
    rw [hlb] at q e5 e6'
    cases e : las p r (pN p) with
    | none =>
      exfalso
      apply q
      unfold lbV
      rw [e]
      rfl
    | some j =>
      have hj := hp j (las_b _ e).1
      have ev : lbV p r = nI (pH p j) := by unfold lbV; rw [e]; rfl
      have hb0 := hb.1
      have hb1 := hb.2.1
      have hb2 := hb.2.2.1
      have e2 : hab (2 : Int32).toNatClampNeg = nI (b 2) := hcb 2 (by decide)
      rw [ev, t3, nI_add] at e5
      rw [ev, t1, e2, nI_add, nI_add] at e6'
      have hx5 : x5 = nI (if stH h b p < pH p j + (tk h b r + b 0 + b 1) then pH p j + (tk h b r + b 0 + b 1) else stH h b p) := by
        rw [e5]
        by_cases c : stH h b p < pH p j + (tk h b r + b 0 + b 1)
        · rw [if_pos c, if_pos (by rw [nI_ltI (by omega) (by omega)]; exact c)]
        · rw [if_neg c, if_neg (by rw [nI_ltI (by omega) (by omega)]; exact c)]
      subst hx5
      refine core _ x6' (by split <;> omega) (by split <;> omega) ?_ (fun t g1 g2 g3 g4 => ?_) (fun t g1 g2 g3 => ?_)
      · rcases hx with ⟨-, z⟩ | ⟨to, z1, rfl, z3⟩
        · left
          rw [e6', if_neg (px_neg_nlt z (by omega))]
          exact z
        · right
          by_cases c : pH p j + tk h b r + b 2 < to
          · rw [if_pos (by rw [nI_ltI (by omega) (by omega)]; exact c)] at e6'
            exact ⟨_, by omega, e6'⟩
          · rw [if_neg (by rw [nI_ltI (by omega) (by omega)]; exact c)] at e6'
            exact ⟨_, z1, e6'⟩
      · obtain ⟨c1, c2⟩ := g4 j e
        refine ⟨by split <;> omega, ?_⟩
        rcases hx with ⟨z, -⟩ | ⟨to, z1, rfl, z3⟩
        · omega
        · have := (z3 t).mpr ⟨g2, g3⟩
          by_cases c : pH p j + tk h b r + b 2 < to
          · rw [if_pos (by rw [nI_ltI (by omega) (by omega)]; exact c)] at e6'
            rw [e6', nI_ltI (by omega) (by omega)]
            omega
          · rw [if_neg (by rw [nI_ltI (by omega) (by omega)]; exact c)] at e6'
            rw [e6', nI_ltI (by omega) (by omega)]
            omega
      · rcases hx with ⟨-, z⟩ | ⟨to, z1, rfl, z3⟩
        · rw [if_neg (px_neg_nlt z (by omega))] at e6'
          rw [e6'] at g3
          exact absurd (px_neg_lt z (by omega)) g3
        · by_cases c : pH p j + tk h b r + b 2 < to
          · rw [if_pos (by rw [nI_ltI (by omega) (by omega)]; exact c)] at e6'
            rw [e6', nI_ltI (by omega) (by omega)] at g3
            refine ⟨fun j' ej => ?_, ((z3 t).mp (by omega)).2⟩
            obtain rfl : j = j' := by rw [e] at ej; exact Option.some.inj ej
            split at g1 <;> omega
          · rw [if_neg (by rw [nI_ltI (by omega) (by omega)]; exact c)] at e6'
            rw [e6', nI_ltI (by omega) (by omega)] at g3
            refine ⟨fun j' ej => ?_, ((z3 t).mp (by omega)).2⟩
            obtain rfl : j = j' := by rw [e] at ej; exact Option.some.inj ej
            split at g1 <;> omega
