/-! PURE PART: one step more; when it can begin (the model's words) -/
def ex (p : Gr) (r t : Nat) : Gr := fun g i => if g = 0 ∧ i = 0 then pN p + 1 else if g = 1 ∧ i = pN p then r else if g = 2 ∧ i = pN p then t else p g i
theorem ex_N {p : Gr} {r t : Nat} : pN (ex p r t) = pN p + 1 := by simp [ex, pN]
theorem ex_Rn {p : Gr} {r t : Nat} : pR (ex p r t) (pN p) = r := by simp [ex, pR]
theorem ex_Hn {p : Gr} {r t : Nat} : pH (ex p r t) (pN p) = t := by simp [ex, pH]
theorem ex_R {p : Gr} {r t i : Nat} (h : i ≠ pN p) : pR (ex p r t) i = pR p i := by simp [ex, pR, h]
theorem ex_H {p : Gr} {r t i : Nat} (h : i ≠ pN p) : pH (ex p r t) i = pH p i := by simp [ex, pH, h]
def fe (h : Gr) (b : Nat → Nat) (k : Nat) (p : Gr) (r t : Nat) : Prop := ¬ fq h b (ex p r t) (pN p) (pN p) ∧ ¬ w5 h b (ex p r t) (pN p) ∧ ¬ w1 h b k (ex p r t) (pN p) ∧ ¬ w2 h b k (ex p r t) (pN p) ∧ ∀ u, (if pN p = 0 then 0 else t) ≤ u → u ≤ 99 → u ≤ (if pN p = 0 then 99 else en h b (ex p r t) (pN p) + b 0) → fl h b k (ex p r t) u (pN p + 1) = 0
noncomputable def fhF (h : Gr) (b : Nat → Nat) (k : Nat) (p : Gr) (r : Nat) : Nat → Nat → Option Nat
  | 0, _ => none
  | d + 1, t => @ite _ (fe h b k p r t) (Classical.propDecidable _) (some t) (fhF h b k p r d (t + 1))
theorem fhF_y {h : Gr} {b : Nat → Nat} {k : Nat} {p : Gr} {r d t : Nat} (q : fe h b k p r t) : fhF h b k p r (d + 1) t = some t := by rw [fhF, if_pos q]
theorem fhF_n {h : Gr} {b : Nat → Nat} {k : Nat} {p : Gr} {r d t : Nat} (q : ¬ fe h b k p r t) : fhF h b k p r (d + 1) t = fhF h b k p r d (t + 1) := by rw [fhF, if_neg q]
def stH (h : Gr) (b : Nat → Nat) (p : Gr) : Nat := if pN p = 0 then 0 else en h b p (pN p - 1)
noncomputable def fh (h : Gr) (b : Nat → Nat) (k : Nat) (p : Gr) (r : Nat) : Option Nat := fhF h b k p r (61 - stH h b p) (stH h b p)
def plOK (h p : Gr) : Prop := ∀ i, i < pN p → (1 ≤ pR p i ∧ pR p i ≤ hR h) ∧ pH p i ≤ 60
def mS (s : IA) (h : Gr) (b : Nat → Nat) (k : Nat) (p : Gr) : Prop := mH s h ∧ mB s b ∧ s 8 = nI k ∧ s 3 = nI (pN p) ∧ mPs s p (pN p)
theorem canB_lp {s0 met : IA} {h p : Gr} {b : Nat → Nat} {k r : Nat} (ho : okH h) (hb : okB b) (hk : k < 64) (hn : pN p < 8) (hpl : plOK h p) (hr1 : 1 ≤ r) (hr2 : r ≤ hR h) (hmet : metOK h met 64) {K : Int32 → IA → Prop} : ∀ (d t : Nat) (v : IA), t + d = 61 → (mH v h ∧ mB v b ∧ v 8 = nI k ∧ v 3 = nI (pN p + 1) ∧ mPs v p (pN p) ∧ v (77 + 2 * pN p) = nI r) → (∀ j, j < 120 → j ≠ 3 → (j < 77 ∨ 93 ≤ j) → v j = s0 j) → (∀ t' s', fhF h b k p r d t = some t' → t ≤ t' → t' ≤ 60 → mS s' h b k (ex p r t') → (∀ j, j < 120 → j ≠ 3 → (j < 77 ∨ 93 ≤ j) → s' j = s0 j) → K 1 s') → (fhF h b k p r d t = none → ∀ s', mS s' h b k p → (∀ j, j < 120 → j ≠ 3 → (j < 77 ∨ 93 ≤ j) → s' j = s0 j) → K 0 s') → wp_X11_canBegin_44 (nI (pN p)) met K (d + 1) (nI t) v := by
  have h5 := ho.1.1
  intro d
  induction d with
  | zero =>
    intro t v ht hv hj h1 h0
    have e : t = 61 := by omega
    subst e
    obtain ⟨v1, v2, v3, v4, v5, v6⟩ := hv
    refine ⟨fun _ => h0 rfl _ ⟨v1.ext ho (fun j hj => up_n (f := v) (k := 3) (by omega)), v2.ext (fun j q1 q2 => up_n (f := v) (k := 3) (by omega)), (up_n (f := v) (k := 3) (by omega)).trans v3, up_s, fun i hi => ⟨(up_n (f := v) (k := 3) (by omega)).trans (v5 i hi).1, (up_n (f := v) (k := 3) (by omega)).trans (v5 i hi).2⟩⟩ (fun j q1 q2 q3 => (up_n (f := v) (k := 3) (by omega)).trans (hj j q1 q2 q3)), fun q => absurd (by decide) q⟩
  | succ d ih =>
    intro t v ht hv hj h1 h0
    obtain ⟨v1, v2, v3, v4, v5, v6⟩ := hv
    have ei : ((77 : Int32) + ((2 : Int32) * nI (pN p))) + (1 : Int32) = nI (78 + 2 * pN p) := by
      rw [show (77 : Int32) = nI 77 from rfl, show (2 : Int32) = nI 2 from rfl, pk_mul, nI_add, nI_1]; congr 1; omega
    refine ⟨fun q => absurd q (by rw [px_lit, nI_ltI (by omega) (by omega)]; omega), fun _ => ?_⟩
    rw [ei, px_cl (by omega)]
    refine ⟨px_in (by omega) (by decide), ?_⟩
    have un : ∀ j, j ≠ 78 + 2 * pN p → upd v (78 + 2 * pN p) (nI t) j = v j := fun j q => up_n q
    have w1' : mH (upd v (78 + 2 * pN p) (nI t)) h := v1.ext ho (fun j q => un j (by omega))
    have w2' : mB (upd v (78 + 2 * pN p) (nI t)) b := v2.ext (fun j q1 q2 => un j (by omega))
    have w3' : upd v (78 + 2 * pN p) (nI t) 8 = nI k := (un 8 (by omega)).trans v3
    have w4' : upd v (78 + 2 * pN p) (nI t) 3 = nI (pN p + 1) := (un 3 (by omega)).trans v4
    have wj : ∀ j, j < 120 → j ≠ 3 → (j < 77 ∨ 93 ≤ j) → upd v (78 + 2 * pN p) (nI t) j = s0 j := fun j q1 q2 q3 => (un j (by omega)).trans (hj j q1 q2 q3)
    have wp : mPs (upd v (78 + 2 * pN p) (nI t)) (ex p r t) (pN p + 1) := by
      intro i hi
      by_cases e : i = pN p
      · subst e
        rw [ex_Rn, ex_Hn]
        exact ⟨(un _ (by omega)).trans v6, up_s⟩
      · rw [ex_R e, ex_H e, un _ (by omega), un _ (by omega)]
        exact v5 i (by omega)
    have hpx : ∀ i, i < pN p + 1 → (1 ≤ pR (ex p r t) i ∧ pR (ex p r t) i ≤ hR h) ∧ pH (ex p r t) i ≤ 99 := by
      intro i hi
      by_cases e : i = pN p
      · subst e
        rw [ex_Rn, ex_Hn]
        exact ⟨⟨hr1, hr2⟩, by omega⟩
      · rw [ex_R e, ex_H e]
        have := hpl i (by omega)
        exact ⟨this.1, by omega⟩
    have hpx' : ∀ i, i < pN p + 1 → (1 ≤ pR (ex p r t) i ∧ pR (ex p r t) i ≤ hR h) ∧ pH (ex p r t) i < 1000 := fun i hi => ⟨(hpx i hi).1, by have := (hpx i hi).2; omega⟩
    have hen := en_b (p := ex p r t) (i := pN p) ho hb (by rw [ex_Rn]; exact hr1) (by rw [ex_Rn]; exact hr2) (by rw [ex_Hn]; omega)
    have e4 : upd v (78 + 2 * pN p) (nI t) (4 : Int32).toNatClampNeg = nI (b 0) := w2' 0 (by decide)
    have hb0 := hb.1
    generalize hV : upd v (78 + 2 * pN p) (nI t) = V at *
    have nxt : ¬ fe h b k p r t → wp_X11_canBegin_44 (nI (pN p)) met K (d + 1) (nI t + (1 : Int32)) V := by
      intro hno
      rw [nI_1]
      rw [fhF_n hno] at h1 h0
      exact ih (t + 1) V (by omega) ⟨w1', w2', w3', w4', fun i hi => by have := wp i (by omega); rw [ex_R (by omega), ex_H (by omega)] at this; exact this, by have := (wp (pN p) (by omega)).1; rw [ex_Rn] at this; exact this⟩ wj (fun t' s' g1 g2 g3 g4 g5 => h1 t' s' g1 (by omega) g3 g4 g5) h0
    have p96 : ∀ lo hi, lo = (if pN p = 0 then 0 else t) → hi = (if pN p = 0 then 99 else en h b (ex p r t) (pN p) + b 0) → wp_X11_canBegin_96 (nI (pN p)) (nI lo) V met (fun x => wp_X11_canBegin_44 (nI (pN p)) met K (d + 1) x V) K (nI t) (nI hi) := by
      intro lo hi el eh
      have hi1 : hi < 1000 := by rw [eh]; split <;> omega
      have lo1 : lo < 1000 := by rw [el]; split <;> omega
      refine isWrong_sp (n := pN p + 1) (t := 4) ho hb w1' w2' w3' hk (by omega) wp (by omega) hpx (by omega) (fun c => ⟨fun q => absurd q px_01, fun _ => nxt (fun z => z.1 c)⟩) (fun c4 => ⟨fun _ => ?_, fun q => absurd rfl q⟩)
      refine isWrong_sp (n := pN p + 1) (t := 5) ho hb w1' w2' w3' hk (by omega) wp (by omega) hpx (by omega) (fun c => ⟨fun q => absurd q px_01, fun _ => nxt (fun z => z.2.1 c)⟩) (fun c5 => ⟨fun _ => ?_, fun q => absurd rfl q⟩)
      refine isWrong_sp (n := pN p + 1) (t := 1) ho hb w1' w2' w3' hk (by omega) wp (by omega) hpx (by omega) (fun c => ⟨fun q => absurd q px_01, fun _ => nxt (fun z => z.2.2.1 c)⟩) (fun c1 => ⟨fun _ => ?_, fun q => absurd rfl q⟩)
      refine isShutIn_sp (n := pN p + 1) ho hb w1' w2' w3' hk (by omega) wp (by omega) hpx' (fun c => ⟨fun q => absurd q px_01, fun _ => nxt (fun z => z.2.2.2.1 c)⟩) (fun c2 => ⟨fun _ => ?_, fun q => absurd rfl q⟩)
      rw [nI_1 (pN p)]
      refine failsAt_sp ho hb w1' w2' w3' hk (by omega) wp hpx' hmet hi1 lo1 (fun hz => ⟨fun q => absurd q (by decide), fun _ => ?_⟩) (fun t' g1 g2 g3 g4 g5 => ⟨fun _ => nxt (fun z => g4 (z.2.2.2.2 t' (by rw [← el]; exact g1) g2 (by rw [← eh]; exact g3))), fun q => absurd (nI_pos' (by omega)) q⟩)
      have n2 : ¬ w2 h b k (ex p r t) (pN p) := by
        intro z
        obtain ⟨rr, e⟩ := c2
        unfold w2 at z
        rw [e] at z
        cases z
      have hfe : fe h b k p r t := ⟨c4, c5, c1, n2, fun u u1 u2 u3 => hz u (by rw [el]; exact u1) u2 (by rw [eh]; exact u3)⟩
      exact h1 t V (fhF_y hfe) (Nat.le_refl _) (by omega) ⟨w1', w2', w3', by rw [ex_N]; exact w4', by rw [ex_N]; exact wp⟩ wj
    refine ⟨fun q => ?_, fun q => ?_⟩
    · rw [← nI_0, nI_eq (by omega) (by omega)] at q
      exact ⟨fun _ => p96 0 99 (by rw [if_pos q]) (by rw [if_pos q]), fun q2 => absurd (by rw [q]; rfl) q2⟩
    · have q0 : ¬ pN p = 0 := fun z => q (by rw [z]; rfl)
      refine ⟨fun q2 => absurd q2 q, fun _ => endOf_sp (n := pN p + 1) ho hb w1' w2' wp (by omega) (by omega) (by rw [ex_Rn]; exact hr1) (by rw [ex_Rn]; exact hr2) ?_⟩
      rw [e4, nI_add]
      exact p96 t _ (by rw [if_neg q0]) (by rw [if_neg q0])
theorem canB_sp {s met : IA} {h p : Gr} {b : Nat → Nat} {k r : Nat} (ho : okH h) (hb : okB b) (hk : k < 64) (hn : pN p < 8) (hpl : plOK h p) (hr1 : 1 ≤ r) (hr2 : r ≤ hR h) (hmet : metOK h met 64) (hm : mS s h b k p) {K : Int32 → IA → Prop} (h1 : ∀ t' s', fh h b k p r = some t' → stH h b p ≤ t' → t' ≤ 60 → mS s' h b k (ex p r t') → (∀ j, j < 120 → j ≠ 3 → (j < 77 ∨ 93 ≤ j) → s' j = s j) → K 1 s') (h0 : fh h b k p r = none → ∀ s', mS s' h b k p → (∀ j, j < 120 → j ≠ 3 → (j < 77 ∨ 93 ≤ j) → s' j = s j) → K 0 s') : wp_X11_canBegin (nI r) s met K := by
  obtain ⟨m1, m2, m3, m4, m5⟩ := hm
  intro x2 e2
  have e2' : x2 = nI (pN p) := e2.trans m4
  subst e2'
  have ei : (77 : Int32) + ((2 : Int32) * nI (pN p)) = nI (77 + 2 * pN p) := by rw [px_lit, px_lit, pk_mul, nI_add]
  rw [ei, px_cl (by omega), nI_1]
  refine ⟨px_in (by omega) (by decide), ?_⟩
  have un : ∀ j, j ≠ 3 → j ≠ 77 + 2 * pN p → upd (upd s (77 + 2 * pN p) (nI r)) (3 : Int32).toNatClampNeg (nI (pN p + 1)) j = s j := fun j q1 q2 => (up_n (f := upd s (77 + 2 * pN p) (nI r)) (k := 3) q1).trans (up_n q2)
  have u3 : upd (upd s (77 + 2 * pN p) (nI r)) (3 : Int32).toNatClampNeg (nI (pN p + 1)) 3 = nI (pN p + 1) := up_s
  have ur : upd (upd s (77 + 2 * pN p) (nI r)) (3 : Int32).toNatClampNeg (nI (pN p + 1)) (77 + 2 * pN p) = nI r := (up_n (f := upd s (77 + 2 * pN p) (nI r)) (k := 3) (by omega)).trans up_s
  generalize hV : upd (upd s (77 + 2 * pN p) (nI r)) (3 : Int32).toNatClampNeg (nI (pN p + 1)) = V at *
  have w1' : mH V h := m1.ext ho (fun j q => un j (by omega) (by omega))
  have w2' : mB V b := m2.ext (fun j q1 q2 => un j (by omega) (by omega))
  have w5' : mPs V p (pN p) := fun i hi => ⟨(un _ (by omega) (by omega)).trans (m5 i hi).1, (un _ (by omega) (by omega)).trans (m5 i hi).2⟩
  have go : stH h b p ≤ 69 → ∃ n : Nat, wp_X11_canBegin_44 (nI (pN p)) met K n (nI (stH h b p)) V := by
    intro hs
    by_cases q : stH h b p ≤ 60
    · exact ⟨61 - stH h b p + 1, canB_lp (s0 := s) ho hb hk hn hpl hr1 hr2 hmet (61 - stH h b p) (stH h b p) V (by omega) ⟨w1', w2', (un 8 (by omega) (by omega)).trans m3, u3, w5', ur⟩ (fun j q1 q2 q3 => un j q2 (by omega)) (fun t' s' g1 g2 g3 g4 g5 => h1 t' s' g1 g2 g3 g4 g5) (fun g s' g4 g5 => h0 g s' g4 g5)⟩
    · have e0 : fh h b k p r = none := by unfold fh; rw [show 61 - stH h b p = 0 by omega]; rfl
      refine ⟨1, ⟨fun _ => h0 e0 _ ⟨w1'.ext ho (fun j hj => up_n (f := V) (k := 3) (by omega)), w2'.ext (fun j q1 q2 => up_n (f := V) (k := 3) (by omega)), (up_n (f := V) (k := 3) (by omega)).trans ((un 8 (by omega) (by omega)).trans m3), up_s, fun i hi => ⟨(up_n (f := V) (k := 3) (by omega)).trans (w5' i hi).1, (up_n (f := V) (k := 3) (by omega)).trans (w5' i hi).2⟩⟩ (fun j q1 q2 q3 => (up_n (f := V) (k := 3) (by omega)).trans (un j q2 (by omega))), fun z => absurd (by rw [px_lit, nI_ltI (by omega) (by omega)]; omega) z⟩⟩
  refine ⟨fun q => ?_, fun q => ?_⟩
  · rw [← nI_0, nI_eq (by omega) (by omega)] at q
    have e : stH h b p = 0 := by unfold stH; rw [if_pos q]
    rw [e] at go
    exact go (by omega)
  · have q0 : ¬ pN p = 0 := fun z => q (by rw [z]; rfl)
    have e : stH h b p = en h b p (pN p - 1) := by unfold stH; rw [if_neg q0]
    have hq := hpl (pN p - 1) (by omega)
    have hen := tk_b ho hb hq.1.1 hq.1.2
    have hen2 : en h b p (pN p - 1) ≤ 69 := by unfold en; omega
    rw [e] at go
    rw [show nI (pN p) - (1 : Int32) = nI (pN p - 1) by rw [px_lit, pk_sub (by omega)]]
    exact endOf_sp (n := pN p) ho hb w1' w2' w5' (by omega) (by omega) hq.1.1 hq.1.2 (go hen2)
