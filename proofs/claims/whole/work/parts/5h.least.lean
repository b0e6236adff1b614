/-! PURE PART: the class's search: when the next step can begin -/
theorem shOK_or {h : Gr} {S T : Nat} (a : shOK h S) (c : shOK h T) : shOK h (S ||| T) := ⟨or_lt (n := 6) a.1 c.1, by rw [tb_or, a.2.1, c.2.1]; rfl, fun i hi => by
  rw [tb_or, Bool.or_eq_true] at hi
  exact hi.elim (a.2.2 i) (c.2.2 i)⟩
def bad (h : Gr) (b : Nat → Nat) (k : Nat) (p : Gr) (r u : Nat) : Prop := u ≤ 99 ∧ nA h u (hN h) &&& bar h (nd (allP h) (shS h b k p u (pN p) ||| 2 ^ r)) (hN h) ≠ 0
theorem fl_bad {h : Gr} {b : Nat → Nat} {k u : Nat} {p : Gr} {r t : Nat} (h1 : t ≤ u) (h2 : u < t + sh h b k r) : fl h b k (ex p r t) u (pN p + 1) = nA h u (hN h) &&& bar h (nd (allP h) (shS h b k p u (pN p) ||| 2 ^ r)) (hN h) := by
  unfold fl opn
  rw [shS_ex, if_pos ⟨h1, h2⟩]
def gp (h : Gr) (b : Nat → Nat) (k : Nat) (p : Gr) : Prop := plOK h p ∧ leC h p ∧ (∀ u, u ≤ 99 → fl h b k p u (pN p) = 0) ∧ ∀ i j, i ≤ j → j < pN p → pH p i ≤ pH p j
theorem needFails_sp {h p : Gr} {b : Nat → Nat} {k r u : Nat} (ho : okH h) {ct br sa aa : IA} (hwy : wOK h ct br (2 ^ hR h)) (hp : plOK h p) (hr1 : 1 ≤ r) (hr2 : r ≤ hR h) (hu : u < 1000) (hsa : ∀ u, u ≤ 99 → sa u = nI (shS h b k p u (pN p))) (haa : ∀ u, u ≤ 99 → aa u = nI (nA h u (hN h))) {K : Int32 → Prop} (h1 : bad h b k p r u → K 1) (h0 : ¬ bad h b k p r u → K 0) : wp_X7_needFails (nI u) (nI r) br sa aa K := by
  have h5 := ho.1.1
  refine ⟨fun q => ?_, fun q => ?_⟩
  · rw [px_lit, nI_ltI (by omega) (by omega)] at q
    exact h0 (fun z => by have := z.1; omega)
  · rw [px_lit, nI_ltI (by omega) (by omega)] at q
    rw [px_cl (by omega), hsa u (by omega), haa u (by omega), px_shl1 r (by omega), px_or]
    have hs : shOK h (shS h b k p u (pN p) ||| 2 ^ r) := shOK_or (shS_ok ho (fun i hi => (hp i hi).1)) (shOK_one ho hr1 hr2)
    have hA := nA_b (h := h) (t := u) _ ho.1.2.2
    refine ⟨px_in (by omega) (by decide), barredNeeds_sp ho hwy hs ⟨fun q2 => ?_, fun q2 => ?_⟩⟩
    · refine h0 (fun z => z.2 ?_)
      have hl : bar h (nd (allP h) (shS h b k p u (pN p) ||| 2 ^ r)) (hN h) &&& nA h u (hN h) ≤ nA h u (hN h) := Nat.and_le_right
      rw [px_and, ← nI_0, nI_eq (by omega) (by omega)] at q2
      rw [Nat.and_comm]
      exact q2
    · refine h1 ⟨by omega, fun z => q2 ?_⟩
      rw [px_and, Nat.and_comm, z]
      rfl
def lbI (h : Gr) (b : Nat → Nat) (k : Nat) (p : Gr) (r t L A : Nat) : Prop := A ≤ 1000 ∧ (∀ u, t ≤ u → u < L → bad h b k p r u → u < A) ∧ (t < A → bad h b k p r (A - 1) ∧ A - 1 < L)
theorem lb98_lp {h p : Gr} {b : Nat → Nat} {k r t : Nat} (ho : okH h) (hb : okB b) {ct br sa aa shuts : IA} (hwy : wOK h ct br (2 ^ hR h)) (hp : plOK h p) (hr1 : 1 ≤ r) (hr2 : r ≤ hR h) (ht : t ≤ 60) (hsh : shuts r = nI (sh h b k r)) (hsa : ∀ u, u ≤ 99 → sa u = nI (shS h b k p u (pN p))) (haa : ∀ u, u ≤ 99 → aa u = nI (nA h u (hN h))) {E : Int32 → Int32 → Prop} {K : Int32 → Prop} (hE : ∀ A, lbI h b k p r t (t + sh h b k r) A → E (nI (t + sh h b k r)) (nI A)) : ∀ (d L A : Nat), L + d = t + sh h b k r → lbI h b k p r t L A → t ≤ L → wp_X7_leastBegin_98 (nI r) (nI t) br shuts sa aa E K (d + 1) (nI L) (nI A) := by
  have h5 := ho.1.1
  have hs := sh_b ho hb k hr1 hr2
  have e : nI t + shuts (nI r).toNatClampNeg = nI (t + sh h b k r) := by rw [px_cl (by omega), hsh, nI_add]
  intro d
  induction d with
  | zero =>
    intro L A hL hi htL
    obtain rfl : L = t + sh h b k r := by omega
    refine ⟨px_in (by omega) (by decide), fun _ => hE A hi, fun q => absurd ?_ q⟩
    rw [e, nI_leI (by omega) (by omega)]
    omega
  | succ d ih =>
    intro L A hL hi htL
    refine ⟨px_in (by omega) (by decide), fun q => ?_, fun _ => needFails_sp ho hwy hp hr1 hr2 (by omega) hsa haa (fun z => ⟨fun q => absurd q px_01, fun _ x8 e8 => ?_⟩) (fun z => ⟨fun _ => ?_, fun q => absurd rfl q⟩)⟩
    · rw [e, nI_leI (by omega) (by omega)] at q
      omega
    · subst e8
      rw [nI_1]
      exact ih (L + 1) (L + 1) (by omega) ⟨by omega, fun u _ h2 _ => h2, fun _ => ⟨z, by omega⟩⟩ (by omega)
    · rw [nI_1]
      refine ih (L + 1) A (by omega) ⟨hi.1, fun u u1 u2 u3 => ?_, fun g => ⟨(hi.2.2 g).1, by have := (hi.2.2 g).2; omega⟩⟩ (by omega)
      by_cases eu : u = L
      · subst eu; exact absurd u3 z
      · exact hi.2.1 u u1 (by omega) u3
theorem placeOut7_sp {h : Gr} (ho : okH h) {r u S : Nat} (hr : r < 6) {beside sa : IA} (hbe : ∀ a, a < 6 → beside a = nI (hB h a)) (hu : u ≤ 99) (hS : sa u = nI S) {K : Int32 → Prop} (hK : K (oI (lbF (nd (hB h r) S) (hR h + 1) 0))) : wp_X7_placeOutside (nI r) (nI u) (nI (hR h)) beside sa K := by
  refine ⟨fun _ => ⟨px_in (by omega) (by decide), ?_⟩, fun q => absurd ?_ q⟩
  · rw [px_cl (by omega), hS]
    exact leastOpenBeside_sp ho hbe hr hK
  · rw [px_lit, nI_leI (by omega) (by omega)]
    exact hu
theorem lb91_lp {h p : Gr} {b : Nat → Nat} {k r to : Nat} (ho : okH h) (hb : okB b) {beside ct br sa aa takes shuts : IA} (hwy : wOK h ct br (2 ^ hR h)) (hbe : ∀ a, a < 6 → beside a = nI (hB h a)) (hp : plOK h p) (hr1 : 1 ≤ r) (hr2 : r ≤ hR h) (hto : to ≤ 60) (htk : takes r = nI (tk h b r)) (hsh : shuts r = nI (sh h b k r)) (hsa : ∀ u, u ≤ 99 → sa u = nI (shS h b k p u (pN p))) (haa : ∀ u, u ≤ 99 → aa u = nI (nA h u (hN h))) {K : Int32 → Prop} : ∀ (d t L A : Nat), t + d = to + 1 → t ≤ L → L ≤ t + sh h b k r → lbI h b k p r t L A → (∀ t', t ≤ t' → t' ≤ to → fc h b k p r t' → (∀ u, t ≤ u → u < t' → ¬ fc h b k p r u) → K (nI t')) → ((∀ u, t ≤ u → u ≤ to → ¬ fc h b k p r u) → K (-9 : Int32)) → wp_X7_leastBegin_91 (nI r) (nI (whP h b k p (pN p))) (nI to) (nI (hR h)) beside ct br takes shuts sa aa K (d + 1) (nI L) (nI A) (nI t) := by
  have h5 := ho.1.1
  have hs := sh_b ho hb k hr1 hr2
  have hw := whP_b ho (b := b) (k := k) (p := p) (pN p) (fun j hj => (hp j hj).1.2)
  have ht9 := tk_b ho hb hr1 hr2
  intro d
  induction d with
  | zero =>
    intro t L A ht hL1 hL2 hi g1 g0
    refine ⟨fun _ => g0 (fun u u1 u2 => absurd u1 (by omega)), fun q => absurd ?_ q⟩
    rw [nI_ltI (by omega) (by omega)]
    omega
  | succ d ih =>
    intro t L A ht hL1 hL2 hi g1 g0
    refine ⟨fun q => ?_, fun _ => ⟨(t + sh h b k r - L) + 1, lb98_lp ho hb hwy hp hr1 hr2 (by omega) hsh hsa haa (fun A' hi' => ?_) (t + sh h b k r - L) L A (by omega) hi hL1⟩⟩
    · rw [nI_ltI (by omega) (by omega)] at q
      omega
    · have nxt : ¬ fc h b k p r t → wp_X7_leastBegin_91 (nI r) (nI (whP h b k p (pN p))) (nI to) (nI (hR h)) beside ct br takes shuts sa aa K (d + 1) (nI (t + sh h b k r)) (nI A') (nI t + (1 : Int32)) := by
        intro hn
        rw [nI_1]
        refine ih (t + 1) (t + sh h b k r) A' (by omega) (by omega) (by omega) ⟨hi'.1, fun u u1 => hi'.2.1 u (by omega), fun z => hi'.2.2 (by omega)⟩ (fun t' q1 q2 q3 q4 => g1 t' (by omega) q2 q3 (fun u u1 u2 => ?_)) (fun q => g0 (fun u u1 u2 => ?_))
        · by_cases eu : u = t
          · subst eu; exact hn
          · exact q4 u (by omega) u2
        · by_cases eu : u = t
          · subst eu; exact hn
          · exact q u (by omega) u2
      have hA := hi'.1
      refine ⟨fun q => nxt (fun z => ?_), fun q => ⟨px_in (by omega) (by decide), ?_⟩⟩
      · rw [nI_ltI (by omega) (by omega)] at q
        obtain ⟨z1, z2⟩ := hi'.2.2 q
        have := z.1 (A' - 1) (by omega) z2 z1.1
        rw [fl_bad (by omega) z2] at this
        exact z1.2 this
      · rw [nI_ltI (by omega) (by omega)] at q
        rw [px_cl (by omega), hsa t (by omega)]
        refine leads_sp ho hwy hw (by omega) (shS_ok ho (fun i hi => (hp i hi).1)) (fun z => ⟨fun q => absurd q px_01, fun _ => ⟨px_in (by omega) (by decide), ?_⟩⟩) (fun z => ⟨fun _ => nxt (fun y => ?_), fun q => absurd rfl q⟩)
        · rw [px_cl (by omega), htk, nI_add]
          refine placeOut7_sp ho (by omega) hbe (by omega) (hsa _ (by omega)) ⟨fun q2 => nxt (fun y => ?_), fun q2 => ?_⟩
          · cases e : outB h b k p r t with
            | none => exact y.2.2 e
            | some x =>
              have hx := (lbF_some _ _ _ e).2.2
              unfold outB at e
              rw [e] at q2
              exact px_n9 (by omega) q2
          · refine g1 t (Nat.le_refl _) (by omega) ⟨fun u u1 u2 u3 => ?_, z, fun e => q2 ?_⟩ (fun u u1 u2 => absurd u1 (by omega))
            · rw [fl_bad u1 u2]
              cases Nat.eq_zero_or_pos (nA h u (hN h) &&& bar h (nd (allP h) (shS h b k p u (pN p) ||| 2 ^ r)) (hN h)) with
              | inl e => exact e
              | inr e => exact absurd (hi'.2.1 u u1 u2 ⟨u3, by omega⟩) (by omega)
            · unfold outB at e
              rw [e]
              rfl
        · have y2 := y.2.1
          unfold opn at y2
          rw [z] at y2
          cases y2
