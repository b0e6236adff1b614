/-! PURE PART: the judge: the least of what is wrong, by hour, then by thing -/
def jS (Q : Nat → Nat → Prop) (lh lt : Int32) : Prop := (lh = (-9 : Int32) ∧ lt = (-9 : Int32) ∧ ∀ t c, ¬ Q t c) ∨ ∃ hh tt, hh < 1000 ∧ tt < 10 ∧ lh = nI hh ∧ lt = nI tt ∧ Q tt hh ∧ ∀ t c, Q t c → hh < c ∨ (hh = c ∧ tt ≤ t)
theorem jS_uq {Q : Nat → Nat → Prop} {a b a' b' : Int32} (h1 : jS Q a b) (h2 : jS Q a' b') : a = a' ∧ b = b' := by
  rcases h1 with ⟨rfl, rfl, n1⟩ | ⟨hh, tt, _, _, rfl, rfl, q1, l1⟩
  · rcases h2 with ⟨rfl, rfl, _⟩ | ⟨hh', tt', _, _, rfl, rfl, q2, l2⟩
    · exact ⟨rfl, rfl⟩
    · exact absurd q2 (n1 _ _)
  · rcases h2 with ⟨rfl, rfl, n2⟩ | ⟨hh', tt', _, _, rfl, rfl, q2, l2⟩
    · exact absurd q1 (n2 _ _)
    · have e1 := l1 _ _ q2
      have e2 := l2 _ _ q1
      have e3 : hh = hh' ∧ tt = tt' := by omega
      rw [e3.1, e3.2]
      exact ⟨rfl, rfl⟩
theorem jS_cg {Q Q' : Nat → Nat → Prop} {a b : Int32} (e : ∀ t c, Q t c ↔ Q' t c) (h : jS Q a b) : jS Q' a b := by
  rcases h with ⟨h1, h2, n1⟩ | ⟨hh, tt, p1, p2, p3, p4, q1, l1⟩
  · exact Or.inl ⟨h1, h2, fun t c q => n1 t c ((e t c).mpr q)⟩
  · exact Or.inr ⟨hh, tt, p1, p2, p3, p4, (e _ _).mp q1, fun t c q => l1 t c ((e t c).mpr q)⟩
def jAd (Q : Nat → Nat → Prop) (C : Prop) (t0 c0 : Nat) : Nat → Nat → Prop := fun t c => Q t c ∨ (C ∧ t = t0 ∧ c = c0)
theorem jS_no {Q : Nat → Nat → Prop} {C : Prop} {t0 c0 : Nat} {a b : Int32} (hn : ¬ C) (h : jS Q a b) : jS (jAd Q C t0 c0) a b := jS_cg (fun _ _ => ⟨Or.inl, fun x => x.elim id (fun y => absurd y.1 hn)⟩) h
theorem jS_put {Q : Nat → Nat → Prop} {C : Prop} {t c : Nat} (hC : C) (ht : t < 10) (hc : c < 1000) (hl : ∀ t' c', Q t' c' → c < c' ∨ (c = c' ∧ t ≤ t')) : jS (jAd Q C t c) (nI c) (nI t) := Or.inr ⟨c, t, hc, ht, rfl, rfl, Or.inr ⟨hC, rfl, rfl⟩, fun t' c' q => q.elim (hl t' c') (fun y => Or.inr ⟨y.2.2.symm, Nat.le_of_eq y.2.1.symm⟩)⟩
theorem jS_keep {Q : Nat → Nat → Prop} {C : Prop} {t c hh tt : Nat} (h1 : hh < 1000) (h2 : tt < 10) (hq : Q tt hh) (hl : ∀ t' c', Q t' c' → hh < c' ∨ (hh = c' ∧ tt ≤ t')) (hk : hh < c ∨ (hh = c ∧ tt ≤ t)) : jS (jAd Q C t c) (nI hh) (nI tt) := Or.inr ⟨hh, tt, h1, h2, rfl, rfl, Or.inl hq, fun t' c' q => q.elim (hl t' c') (fun y => by rw [y.2.1, y.2.2]; exact hk)⟩
theorem wrong_sp {Q : Nat → Nat → Prop} {C : Prop} {t c : Nat} {lh lt : Int32} (hj : jS Q lh lt) (hC : C) (ht : t < 10) (hc : c < 1000) {K : Int32 → Int32 → Prop} (hK : ∀ lh lt, jS (jAd Q C t c) lh lt → K lh lt) : wp_X3_wrong (nI t) (nI c) lh lt K := by
  rcases hj with ⟨rfl, rfl, n1⟩ | ⟨hh, tt, h1, h2, rfl, rfl, q1, l1⟩
  · exact ⟨fun _ => hK _ _ (jS_put hC ht hc (fun t' c' q => absurd q (n1 t' c'))), fun q => absurd rfl q⟩
  · refine ⟨fun q => absurd q (px_n9 (by omega)), fun _ => ⟨fun q2 => ?_, fun q2 => ⟨fun q3 => ⟨fun q4 => ?_, fun q4 => ?_⟩, fun q3 => ?_⟩⟩⟩
    · rw [nI_ltI (by omega) (by omega)] at q2
      exact hK _ _ (jS_put hC ht hc (fun t' c' q => by have := l1 t' c' q; omega))
    · rw [nI_eq (by omega) (by omega)] at q3
      rw [nI_leI (by omega) (by omega)] at q4
      exact hK _ _ (jS_keep h1 h2 q1 l1 (by omega))
    · rw [nI_eq (by omega) (by omega)] at q3
      rw [nI_leI (by omega) (by omega)] at q4
      exact hK _ _ (jS_put hC ht hc (fun t' c' q => by have := l1 t' c' q; omega))
    · rw [nI_eq (by omega) (by omega)] at q3
      rw [nI_ltI (by omega) (by omega)] at q2
      exact hK _ _ (jS_keep h1 h2 q1 l1 (by omega))
theorem notes_sp {Q : Nat → Nat → Prop} {C : Prop} {t c : Nat} {lh lt : Int32} (hj : jS Q lh lt) (hC : C) (ht : t < 10) (hc : c < 1000) {K : Int32 → Int32 → Prop} (hK : ∀ lh lt, jS (jAd Q C t c) lh lt → K lh lt) : wp_X11_notes (nI c) (nI t) lh lt K := by
  rcases hj with ⟨rfl, rfl, n1⟩ | ⟨hh, tt, h1, h2, rfl, rfl, q1, l1⟩
  · exact ⟨fun _ => hK _ _ (jS_put hC ht hc (fun t' c' q => absurd q (n1 t' c'))), fun q => absurd px_neg9 q⟩
  · refine ⟨fun q => absurd q (nI_pos (by omega)), fun _ => ⟨fun q2 => ?_, fun q2 => ⟨fun q3 => ⟨fun q4 => ?_, fun q4 => ?_⟩, fun q3 => ?_⟩⟩⟩
    · rw [nI_ltI (by omega) (by omega)] at q2
      exact hK _ _ (jS_keep h1 h2 q1 l1 (by omega))
    · rw [nI_eq (by omega) (by omega)] at q3
      rw [nI_ltI (by omega) (by omega)] at q4
      exact hK _ _ (jS_put hC ht hc (fun t' c' q => by have := l1 t' c' q; omega))
    · rw [nI_eq (by omega) (by omega)] at q3
      rw [nI_ltI (by omega) (by omega)] at q4
      exact hK _ _ (jS_keep h1 h2 q1 l1 (by omega))
    · rw [nI_eq (by omega) (by omega)] at q3
      rw [nI_ltI (by omega) (by omega)] at q2
      exact hK _ _ (jS_put hC ht hc (fun t' c' q => by have := l1 t' c' q; omega))
/-! what may be wrong with one step -/
def las (p : Gr) (r : Nat) : Nat → Option Nat
  | 0 => none
  | m + 1 => if pR p m = r then some m else las p r m
theorem las_b {p : Gr} {r j : Nat} : ∀ m, las p r m = some j → j < m ∧ pR p j = r
  | 0, h => by cases h
  | m + 1, h => by
    rw [las] at h
    split at h
    · rename_i e
      cases h
      exact ⟨by omega, e⟩
    · have := las_b m h
      exact ⟨by omega, this.2⟩
def cO (p : Gr) (r : Nat) : Nat → Nat
  | 0 => 0
  | m + 1 => cO p r m + if pR p m = r then 1 else 0
theorem cO_b {p : Gr} {r : Nat} : ∀ m, cO p r m ≤ m
  | 0 => by simp [cO]
  | m + 1 => by
    rw [cO]
    have := cO_b (p := p) (r := r) m
    split <;> omega
def fre (h : Gr) (b : Nat → Nat) (p : Gr) (i j : Nat) : Prop := pR p j = pR p i ∧ pH p j ≤ pH p i ∧ pH p i < pH p j + (tk h b (pR p i) + b 0 + b 1)
def fq (h : Gr) (b : Nat → Nat) (p : Gr) (i m : Nat) : Prop := ∃ j, j < m ∧ fre h b p i j
theorem fq_s {h : Gr} {b : Nat → Nat} {p : Gr} {i m : Nat} : fq h b p i (m + 1) ↔ fq h b p i m ∨ fre h b p i m := by
  constructor
  · rintro ⟨j, h1, h2⟩
    by_cases e : j = m
    · subst e; exact Or.inr h2
    · exact Or.inl ⟨j, by omega, h2⟩
  · rintro (⟨j, h1, h2⟩ | h2)
    · exact ⟨j, by omega, h2⟩
    · exact ⟨m, by omega, h2⟩
theorem jS_fq {Q : Nat → Nat → Prop} {h : Gr} {b : Nat → Nat} {p : Gr} {i m t c : Nat} {x y : Int32} (hj : jS (jAd (jAd Q (fq h b p i m) t c) (fre h b p i m) t c) x y) : jS (jAd Q (fq h b p i (m + 1)) t c) x y := by
  refine jS_cg (fun t' c' => ?_) hj
  unfold jAd
  rw [fq_s]
  constructor
  · rintro ((h1 | h1) | h1)
    · exact Or.inl h1
    · exact Or.inr ⟨Or.inl h1.1, h1.2⟩
    · exact Or.inr ⟨Or.inr h1.1, h1.2⟩
  · rintro (h1 | ⟨h1 | h1, h2⟩)
    · exact Or.inl (Or.inl h1)
    · exact Or.inl (Or.inr ⟨h1, h2⟩)
    · exact Or.inr ⟨h1, h2⟩
def w1 (h : Gr) (b : Nat → Nat) (k : Nat) (p : Gr) (i : Nat) : Prop := rc h (opn h b k p (pH p i) i) (whP h b k p i) (pR p i) = false
def w2 (h : Gr) (b : Nat → Nat) (k : Nat) (p : Gr) (i : Nat) : Prop := outP h b k p i = none
def w5 (h : Gr) (b : Nat → Nat) (p : Gr) (i : Nat) : Prop := ∃ j, las p (pR p i) i = some j ∧ en h b p j + b 2 < pH p i
def w6 (h : Gr) (b : Nat → Nat) (p : Gr) (i : Nat) : Prop := 0 < i ∧ pH p i < en h b p (i - 1)
def w7 (h p : Gr) (i : Nat) : Prop := hC h (pR p i) ≤ cO p (pR p i) i
def stQ (h : Gr) (b : Nat → Nat) (k : Nat) (p : Gr) (i : Nat) (Q : Nat → Nat → Prop) : Nat → Nat → Prop := jAd (jAd (jAd (jAd (jAd (jAd Q (w1 h b k p i) 1 (pH p i)) (w2 h b k p i) 2 (en h b p i)) (w6 h b p i) 6 (pH p i)) (fq h b p i i) 4 (pH p i)) (w5 h b p i) 5 (pH p i)) (w7 h p i) 7 (pH p i)
theorem stQ_m {h : Gr} {b : Nat → Nat} {k : Nat} {p : Gr} {i : Nat} {Q : Nat → Nat → Prop} {x y : Int32} (hj : jS (jAd (jAd (jAd (jAd (jAd (jAd Q (w1 h b k p i) 1 (pH p i)) (fq h b p i i) 4 (pH p i)) (w5 h b p i) 5 (pH p i)) (w6 h b p i) 6 (pH p i)) (w7 h p i) 7 (pH p i)) (w2 h b k p i) 2 (en h b p i)) x y) : jS (stQ h b k p i Q) x y := by
  refine jS_cg (fun t c => ?_) hj
  unfold stQ jAd
  constructor
  · rintro ((((((h1 | h1) | h1) | h1) | h1) | h1) | h1) <;> first | exact Or.inr h1 | exact Or.inl (Or.inr h1) | exact Or.inl (Or.inl (Or.inr h1)) | exact Or.inl (Or.inl (Or.inl (Or.inr h1))) | exact Or.inl (Or.inl (Or.inl (Or.inl (Or.inr h1)))) | exact Or.inl (Or.inl (Or.inl (Or.inl (Or.inl (Or.inr h1))))) | exact Or.inl (Or.inl (Or.inl (Or.inl (Or.inl (Or.inl h1)))))
  · rintro ((((((h1 | h1) | h1) | h1) | h1) | h1) | h1) <;> first | exact Or.inr h1 | exact Or.inl (Or.inr h1) | exact Or.inl (Or.inl (Or.inr h1)) | exact Or.inl (Or.inl (Or.inl (Or.inr h1))) | exact Or.inl (Or.inl (Or.inl (Or.inl (Or.inr h1)))) | exact Or.inl (Or.inl (Or.inl (Or.inl (Or.inl (Or.inr h1))))) | exact Or.inl (Or.inl (Or.inl (Or.inl (Or.inl (Or.inl h1)))))
def acQ (h : Gr) (b : Nat → Nat) (k : Nat) (p : Gr) : Nat → Nat → Nat → Prop
  | 0 => fun _ _ => False
  | i + 1 => stQ h b k p i (acQ h b k p i)
def fsQ (h : Gr) (b : Nat → Nat) (k : Nat) (p : Gr) (c : Nat) : Prop := c ≤ 99 ∧ fl h b k p c (pN p) ≠ 0 ∧ ∀ u, u < c → fl h b k p u (pN p) = 0
def ndQ (h : Gr) (b : Nat → Nat) (k : Nat) (p : Gr) : Nat → Nat → Prop := fun t c => acQ h b k p (pN p) t c ∨ (t = 3 ∧ fsQ h b k p c)
def lkQ (h p : Gr) (m : Nat) : Prop := ∃ r, 1 ≤ r ∧ r ≤ m ∧ cO p r (pN p) < hC h r
def alQ (h : Gr) (b : Nat → Nat) (k : Nat) (p : Gr) (m : Nat) : Nat → Nat → Prop := jAd (ndQ h b k p) (lkQ h p m) 8 99
theorem alQ_s {h : Gr} {b : Nat → Nat} {k : Nat} {p : Gr} {m : Nat} {x y : Int32} (hj : jS (jAd (alQ h b k p m) (cO p (m + 1) (pN p) < hC h (m + 1)) 8 99) x y) : jS (alQ h b k p (m + 1)) x y := by
  refine jS_cg (fun t c => ?_) hj
  unfold alQ jAd
  constructor
  · rintro ((h1 | ⟨⟨r, h1, h2, h3⟩, h4⟩) | h1)
    · exact Or.inl h1
    · exact Or.inr ⟨⟨r, h1, by omega, h3⟩, h4⟩
    · exact Or.inr ⟨⟨m + 1, by omega, by omega, h1.1⟩, h1.2⟩
  · rintro (h1 | ⟨⟨r, h1, h2, h3⟩, h4⟩)
    · exact Or.inl (Or.inl h1)
    · by_cases e : r = m + 1
      · subst e; exact Or.inr ⟨h3, h4⟩
      · exact Or.inl (Or.inr ⟨⟨r, h1, by omega, h3⟩, h4⟩)
theorem shS_ok {h : Gr} {b : Nat → Nat} {k : Nat} {p : Gr} {t n : Nat} (ho : okH h) (hp : ∀ i, i < n → 1 ≤ pR p i ∧ pR p i ≤ hR h) : shOK h (shS h b k p t n) := ⟨shS_b ho n hp, shS_0 (fun i hi => (hp i hi).1), fun i hi => by
  obtain ⟨j, h1, h2, -⟩ := (shS_tb n).mp hi
  have := hp j h1
  omega⟩
theorem px_subn {a c d : Nat} (ha : a < 2 ^ 29) (hc : c < 2 ^ 29) (hd : d < 2 ^ 29) : nI a - nI c ≤ nI d ↔ a ≤ c + d := by
  rw [Int32.le_iff_toInt_le, pk_sub_toInt (by omega) (by omega), nI_toInt (by omega)]
  omega
theorem en_b {h : Gr} {b : Nat → Nat} {p : Gr} (ho : okH h) (hb : okB b) {i : Nat} (h1 : 1 ≤ pR p i) (h2 : pR p i ≤ hR h) (h3 : pH p i ≤ 99) : en h b p i ≤ 108 := by
  have := tk_b ho hb h1 h2
  unfold en
  omega
/-! the class -/
def rowOK (h p : Gr) (rr rh : IA) : Prop := ∀ j, j < pN p → (1 ≤ pR p j ∧ pR p j ≤ hR h) ∧ pH p j ≤ 99 ∧ rr j = nI (pR p j) ∧ rh j = nI (pH p j)
theorem rowOK.b {h p : Gr} {rr rh : IA} (hp : rowOK h p rr rh) : ∀ j, j < pN p → (1 ≤ pR p j ∧ pR p j ≤ hR h) ∧ pH p j < 1000 ∧ rr j = nI (pR p j) ∧ rh j = nI (pH p j) := fun j hj => ⟨(hp j hj).1, by have := (hp j hj).2.1; omega, (hp j hj).2.2⟩
theorem painter_sp {h p : Gr} {b : Nat → Nat} {k i : Nat} (ho : okH h) (hb : okB b) {work hab rr rh beside ct br : IA} (hw : ∀ r, 1 ≤ r → r ≤ hR h → work r = nI (hW h r)) (hbe : ∀ a, a < 6 → beside a = nI (hB h a)) (hc : cB hab b) (hk : k < 64) (hi : i < pN p) (hn8 : pN p ≤ 8) (hp : rowOK h p rr rh) (hwy : wOK h ct br (2 ^ hR h)) {Q : Nat → Nat → Prop} {lh lt : Int32} (hj : jS Q lh lt) {K : Int32 → Int32 → Prop} (hK : ∀ lh lt, jS (jAd (jAd (jAd Q (w1 h b k p i) 1 (pH p i)) (w2 h b k p i) 2 (en h b p i)) (w6 h b p i) 6 (pH p i)) lh lt → K lh lt) : wp_X3_lookAtPainter (nI i) (nI (hR h)) work beside (nI (pN p)) rr rh hab (nI k) ct lh lt K := by
  have h5 := ho.1.1
  obtain ⟨⟨r1, r2⟩, r3, r4, r5⟩ := hp i hi
  have hen := en_b ho hb r1 r2 r3
  have p78 : ∀ lh lt, jS (jAd (jAd Q (w1 h b k p i) 1 (pH p i)) (w2 h b k p i) 2 (en h b p i)) lh lt → wp_X3_lookAtPainter_78 (nI i) (nI (pH p i)) work rr rh hab K lh lt := by
    intro lh lt hj
    by_cases h0 : i = 0
    · subst h0
      exact ⟨fun _ => hK _ _ (jS_no (fun x => absurd x.1 (by omega)) hj), fun q => absurd (by decide) q⟩
    · obtain ⟨⟨s1, s2⟩, s3, s4, s5⟩ := hp (i - 1) (by omega)
      have hen1 := en_b ho hb s1 s2 s3
      refine ⟨fun q => absurd q (nI_nle (by omega) (by omega)), fun _ => ?_⟩
      rw [show nI i - (1 : Int32) = nI (i - 1) by rw [px_lit, pk_sub (by omega)]]
      refine doneHour_sp ho hb hw hc (by omega) s4 s5 s1 s2 ⟨fun q => ?_, fun q => ?_⟩
      · rw [nI_leI (by omega) (by omega)] at q
        exact hK _ _ (jS_no (fun x => by have := x.2; omega) hj)
      · rw [nI_leI (by omega) (by omega)] at q
        exact wrong_sp (t := 6) hj (show w6 h b p i from ⟨by omega, by omega⟩) (by decide) (by omega) hK
  have p55 : ∀ lh lt, jS (jAd Q (w1 h b k p i) 1 (pH p i)) lh lt → wp_X3_lookAtPainter_55 (nI i) (nI (pH p i)) (nI (hR h)) work beside (nI (pN p)) rr rh hab (nI k) K lh lt := by
    intro lh lt hj
    refine placeOutside_sp ho hb hw hbe hc hk hi hn8 hp.b ?_
    cases e : outP h b k p i with
    | none => exact ⟨fun _ => doneHour_sp ho hb hw hc (by omega) r4 r5 r1 r2 (wrong_sp (t := 2) hj (show w2 h b k p i from e) (by decide) (by omega) p78), fun q => absurd rfl q⟩
    | some r =>
      have := outP_ne ho (by omega) e
      exact ⟨fun q => absurd q (px_n9 (k := r) (by omega)), fun _ => p78 _ _ (jS_no (fun x => by unfold w2 at x; rw [e] at x; cases x) hj)⟩
  refine ⟨px_in (by omega) (by decide), fun x2 e2 => ?_⟩
  rw [px_cl (by omega), r5] at e2
  subst e2
  rw [px_cl (by omega), r4]
  refine placeBehind_sp ho hb hw hbe hc hk (by omega) hn8 hp.b (shutBy_sp ho hb hw hc hk (by omega) (by omega) hn8 (fun j hj => ⟨(hp j (by omega)).1, by have := (hp j (by omega)).2.1; omega, (hp j (by omega)).2.2⟩) ?_)
  refine leads_sp ho hwy (whP_b ho i (fun j hj => (hp j (by omega)).1.2)) (by omega) (shS_ok ho (fun j hj => (hp j (by omega)).1)) (fun ht => ⟨fun q => absurd q px_01, fun _ => p55 _ _ (jS_no (fun x => ?_) hj)⟩) (fun hf => ⟨fun _ => wrong_sp (t := 1) hj (show w1 h b k p i from hf) (by decide) (by omega) p55, fun q => absurd rfl q⟩)
  have ht : rc h (opn h b k p (pH p i) i) (whP h b k p i) (pR p i) = true := ht
  unfold w1 at x
  rw [ht] at x
  cases x
theorem ahead_lp {h p : Gr} {b : Nat → Nat} {i : Nat} (ho : okH h) (hb : okB b) {work hab rr rh : IA} (hw : ∀ r, 1 ≤ r → r ≤ hR h → work r = nI (hW h r)) (hc : cB hab b) (hi : i < pN p) (hn8 : pN p ≤ 8) (hp : rowOK h p rr rh) {Q : Nat → Nat → Prop} {K : Int32 → Int32 → Prop} {E : Int32 → Int32 → Int32 → Int32 → Prop} (hE : ∀ lh lt, jS (jAd Q (fq h b p i i) 4 (pH p i)) lh lt → E (nI (cO p (pR p i) i)) (oI (las p (pR p i) i)) lh lt) : ∀ (d m : Nat) (lh lt : Int32), m + d = i → jS (jAd Q (fq h b p i m) 4 (pH p i)) lh lt → wp_X3_lookAtCoatsAhead_36 (nI i) (nI (pR p i)) (nI (pH p i)) work rr rh hab E K (d + 1) (nI (cO p (pR p i) m)) (oI (las p (pR p i) m)) (nI m) lh lt := by
  have h5 := ho.1.1
  obtain ⟨⟨r1, r2⟩, r3, r4, r5⟩ := hp i hi
  have ht9 := tk_b ho hb r1 r2
  have hb0 := hb.1
  have hb1 := hb.2.1
  intro d
  induction d with
  | zero =>
    intro m lh lt hm hj
    have e : m = i := by omega
    subst e
    exact ⟨fun _ => hE _ _ hj, fun q => absurd (nI_le (Nat.le_refl _) (by omega)) q⟩
  | succ d ih =>
    intro m lh lt hm hj
    obtain ⟨⟨s1, s2⟩, s3, s4, s5⟩ := hp m (by omega)
    have nxt := fun lh lt hj => ih (m + 1) lh lt (by omega) hj
    refine ⟨fun q => absurd q (by rw [nI_leI (by omega) (by omega)]; omega), fun _ => ⟨px_in (by omega) (by decide), ?_⟩⟩
    rw [px_cl (by omega), s4, s5, nI_1, nI_1]
    by_cases e : pR p m = pR p i
    · have c1 : cO p (pR p i) (m + 1) = cO p (pR p i) m + 1 := by rw [cO, if_pos e]
      have c2 : las p (pR p i) (m + 1) = some m := by rw [las, if_pos e]
      rw [c1, c2] at nxt
      refine ⟨fun _ => fun x7 e7 => ⟨fun q => ?_, fun q => ?_⟩, fun q => absurd (by rw [e]) q⟩
      · refine nxt _ _ (jS_fq (jS_no (fun x => ?_) hj))
        have := x.2.1
        rw [e7, pk_sub this] at q
        exact nI_pos (by omega) q
      · have hle : pH p m ≤ pH p i := by
          apply Nat.le_of_not_lt
          intro hlt
          exact q (by rw [e7]; exact pk_sneg (by omega) hlt)
        rw [pk_sub hle] at e7
        subst e7
        refine dryHours_sp ho hb hw hc r1 r2 ⟨fun q2 => ?_, fun q2 => ?_⟩
        · rw [nI_leI (by omega) (by omega)] at q2
          exact nxt _ _ (jS_fq (jS_no (fun x => by have := x.2.2; omega) hj))
        · rw [nI_leI (by omega) (by omega)] at q2
          exact wrong_sp (t := 4) hj (show fre h b p i m from ⟨e, hle, by omega⟩) (by decide) (by omega) (fun lh lt hj => nxt _ _ (jS_fq hj))
    · have c1 : cO p (pR p i) (m + 1) = cO p (pR p i) m := by rw [cO, if_neg e]; rfl
      have c2 : las p (pR p i) (m + 1) = las p (pR p i) m := by rw [las, if_neg e]
      rw [c1, c2] at nxt
      exact ⟨fun q => absurd ((nI_eq (by omega) (by omega)).mp q) e, fun _ => nxt _ _ (jS_fq (jS_no (fun x => e x.1) hj))⟩
theorem ahead_sp {h p : Gr} {b : Nat → Nat} {i : Nat} (ho : okH h) (hb : okB b) {work coats hab rr rh : IA} (hw : ∀ r, 1 ≤ r → r ≤ hR h → work r = nI (hW h r)) (hco : ∀ r, 1 ≤ r → r ≤ hR h → coats r = nI (hC h r)) (hc : cB hab b) (hi : i < pN p) (hn8 : pN p ≤ 8) (hp : rowOK h p rr rh) {Q : Nat → Nat → Prop} {lh lt : Int32} (hj : jS Q lh lt) {K : Int32 → Int32 → Prop} (hK : ∀ lh lt, jS (jAd (jAd (jAd Q (fq h b p i i) 4 (pH p i)) (w5 h b p i) 5 (pH p i)) (w7 h p i) 7 (pH p i)) lh lt → K lh lt) : wp_X3_lookAtCoatsAhead (nI i) work coats rr rh hab lh lt K := by
  have h5 := ho.1.1
  obtain ⟨⟨r1, r2⟩, r3, r4, r5⟩ := hp i hi
  have hb2 := hb.2.2.1
  have hcC := (ho.2.1 _ r1 r2).2
  have hcb := cO_b (p := p) (r := pR p i) i
  have e2 : hab (2 : Int32).toNatClampNeg = nI (b 2) := hc 2 (by decide)
  have p147 : ∀ lh lt, jS (jAd (jAd Q (fq h b p i i) 4 (pH p i)) (w5 h b p i) 5 (pH p i)) lh lt → wp_X3_lookAtCoatsAhead_147 (nI (pR p i)) (nI (pH p i)) (nI (cO p (pR p i) i)) coats K lh lt := by
    intro lh lt hj
    unfold wp_X3_lookAtCoatsAhead_147
    rw [px_cl (by omega), hco _ r1 r2]
    refine ⟨px_in (by omega) (by decide), fun q => ?_, fun q => ?_⟩
    · rw [nI_ltI (by omega) (by omega)] at q
      exact hK _ _ (jS_no (fun x => by unfold w7 at x; omega) hj)
    · rw [nI_ltI (by omega) (by omega)] at q
      exact wrong_sp (t := 7) hj (show w7 h p i by unfold w7; omega) (by decide) (by omega) hK
  unfold wp_X3_lookAtCoatsAhead
  rw [px_cl (by omega), r4, r5, e2]
  refine ⟨px_in (by omega) (by decide), fun x2 e => ?_⟩
  subst e
  intro x3 e
  subst e
  refine ⟨i + 1, ahead_lp ho hb hw hc hi hn8 hp (Q := Q) (fun lh lt hj => ?_) i 0 lh lt (by omega) (jS_no (fun x => by obtain ⟨j, hj, -⟩ := x; omega) hj)⟩
  cases e : las p (pR p i) i with
  | none => exact ⟨fun _ => p147 _ _ (jS_no (fun x => by obtain ⟨j, hj, -⟩ := x; rw [e] at hj; cases hj) hj), fun q => absurd px_neg9 q⟩
  | some j =>
    obtain ⟨l1, l2⟩ := las_b _ e
    obtain ⟨⟨s1, s2⟩, s3, s4, s5⟩ := hp j (by omega)
    have hen := en_b ho hb s1 s2 s3
    refine ⟨fun q => absurd q (nI_pos (by omega)), fun _ => doneHour_sp ho hb hw hc (by omega) s4 s5 s1 s2 ⟨fun q => ?_, fun q => ?_⟩⟩
    · rw [px_subn (by omega) (by omega) (by omega)] at q
      refine p147 _ _ (jS_no (fun x => ?_) hj)
      obtain ⟨j', hj', hl⟩ := x
      rw [e] at hj'
      cases hj'
      omega
    · rw [px_subn (by omega) (by omega) (by omega)] at q
      exact wrong_sp (t := 5) hj (show w5 h b p i from ⟨j, e, by omega⟩) (by decide) (by omega) p147
theorem needs3_lp {h p : Gr} {b : Nat → Nat} {k : Nat} (ho : okH h) (hb : okB b) {work hab rr rh ct br np : IA} (hw : ∀ r, 1 ≤ r → r ≤ hR h → work r = nI (hW h r)) (hnp : ∀ k, k < 4 * hN h → np k = nI (hP h k)) (hc : cB hab b) (hk : k < 64) (hn8 : pN p ≤ 8) (hp : rowOK h p rr rh) (hwy : wOK h ct br (2 ^ hR h)) {lh lt : Int32} {K : Int32 → Int32 → Prop} {E : Int32 → Prop} (hno : (∀ u, u ≤ 99 → fl h b k p u (pN p) = 0) → K lh lt) (hyes : ∀ c, fsQ h b k p c → E (nI c)) : ∀ d t : Nat, t + d = 100 → (∀ u, u < t → fl h b k p u (pN p) = 0) → wp_X3_lookAtNeeds_2 (nI (hN h)) work np (nI (pN p)) rr rh hab (nI k) br lh lt E K (d + 1) (nI t) := by
  intro d
  induction d with
  | zero =>
    intro t ht hz
    exact ⟨fun _ => hno (fun u hu => hz u (by omega)), fun q => absurd (by rw [px_lit, nI_ltI (by omega) (by omega)]; omega) q⟩
  | succ d ih =>
    intro t ht hz
    refine ⟨fun q => absurd q (by rw [px_lit, nI_ltI (by omega) (by omega)]; omega), fun _ => shutBy_sp ho hb hw hc hk (by omega) (Nat.le_refl _) hn8 (fun j hj => ⟨(hp j hj).1, by have := (hp j hj).2.1; omega, (hp j hj).2.2⟩) (barredNeeds_sp ho hwy (shS_ok ho (fun j hj => (hp j hj).1)) (needsAt3_sp ho hnp (by omega) ?_))⟩
    have flb := fl_b ho (b := b) (k := k) (p := p) (t := t) (n := pN p)
    have e : bar h (nd (allP h) (shS h b k p t (pN p))) (hN h) &&& nA h t (hN h) = fl h b k p t (pN p) := Nat.and_comm _ _
    rw [px_and, e, nI_1]
    refine ⟨fun q => ih (t + 1) (by omega) (fun u hu => ?_), fun q => hyes t ⟨by omega, fun e0 => q (by rw [e0]; rfl), hz⟩⟩
    rw [← nI_0, nI_eq (by omega) (by omega)] at q
    by_cases e1 : u = t
    · subst e1; exact q
    · exact hz u (by omega)
theorem ndQ_no {h p : Gr} {b : Nat → Nat} {k : Nat} {x y : Int32} (hz : ∀ u, u ≤ 99 → fl h b k p u (pN p) = 0) (hj : jS (acQ h b k p (pN p)) x y) : jS (ndQ h b k p) x y := jS_cg (fun t c => ⟨Or.inl, fun z => z.elim id (fun y => absurd (hz c y.2.1) y.2.2.1)⟩) hj
theorem ndQ_yes {h p : Gr} {b : Nat → Nat} {k c : Nat} {x y : Int32} (hf : fsQ h b k p c) (hj : jS (jAd (acQ h b k p (pN p)) (fsQ h b k p c) 3 c) x y) : jS (ndQ h b k p) x y := jS_cg (fun t c' => ⟨fun z => z.elim Or.inl (fun y => Or.inr ⟨y.2.1, by rw [y.2.2]; exact hf⟩), fun z => z.elim Or.inl (fun y => Or.inr ⟨hf, y.1, by
  obtain ⟨-, f1, f2, f3⟩ := y
  obtain ⟨g1, g2, g3⟩ := hf
  rcases Nat.lt_trichotomy c' c with q | q | q
  · exact absurd (g3 c' q) f2
  · exact q
  · exact absurd (f3 c q) g2⟩)⟩) hj
theorem lack20_lp {h p : Gr} {rr rh : IA} (ho : okH h) (hn8 : pN p ≤ 8) (hp : rowOK h p rr rh) {r : Nat} (hr : r ≤ 5) {E : Int32 → Prop} {K : Int32 → Int32 → Prop} (hE : E (nI (cO p r (pN p)))) : ∀ d m : Nat, m + d = pN p → wp_X3_lookAtCoatsLacking_20 (nI r) (nI (pN p)) rr E K (d + 1) (nI (cO p r m)) (nI m) := by
  have h5 := ho.1.1
  intro d
  induction d with
  | zero =>
    intro m hm
    have e : m = pN p := by omega
    subst e
    exact ⟨fun _ => hE, fun q => absurd (nI_le (Nat.le_refl _) (by omega)) q⟩
  | succ d ih =>
    intro m hm
    obtain ⟨⟨s1, s2⟩, s3, s4, s5⟩ := hp m (by omega)
    have nxt := ih (m + 1) (by omega)
    rw [cO] at nxt
    refine ⟨fun q => absurd q (by rw [nI_leI (by omega) (by omega)]; omega), fun _ => ⟨px_in (by omega) (by decide), ?_⟩⟩
    rw [px_cl (by omega), s4, nI_1, nI_1]
    refine ⟨fun q => ?_, fun q => ?_⟩
    · rw [nI_eq (by omega) (by omega)] at q
      rw [if_pos q] at nxt
      exact nxt
    · rw [nI_eq (by omega) (by omega)] at q
      rw [if_neg q] at nxt
      exact nxt
theorem lack2_lp {h p : Gr} {b : Nat → Nat} {k : Nat} {coats rr rh : IA} (ho : okH h) (hco : ∀ r, 1 ≤ r → r ≤ hR h → coats r = nI (hC h r)) (hn8 : pN p ≤ 8) (hp : rowOK h p rr rh) {K : Int32 → Int32 → Prop} (hK : ∀ lh lt, jS (alQ h b k p (hR h)) lh lt → K lh lt) : ∀ (d m : Nat) (lh lt : Int32), m + d = hR h → jS (alQ h b k p m) lh lt → wp_X3_lookAtCoatsLacking_2 (nI (hR h)) coats (nI (pN p)) rr K (d + 1) (nI (m + 1)) lh lt := by
  have h5 := ho.1.1
  intro d
  induction d with
  | zero =>
    intro m lh lt hm hj
    have e : m = hR h := by omega
    subst e
    exact ⟨fun _ => hK _ _ hj, fun q => absurd (nI_lt (by omega) (by omega)) q⟩
  | succ d ih =>
    intro m lh lt hm hj
    have hcC := (ho.2.1 (m + 1) (by omega) (by omega)).2
    have hcb := cO_b (p := p) (r := m + 1) (pN p)
    refine ⟨fun q => absurd q (by rw [nI_ltI (by omega) (by omega)]; omega), fun _ => ⟨pN p + 1, lack20_lp ho hn8 hp (by omega) ?_ (pN p) 0 (by omega)⟩⟩
    rw [px_cl (by omega), hco _ (by omega) (by omega), nI_1]
    refine ⟨px_in (by omega) (by decide), fun q => ?_, fun q => ?_⟩
    · rw [nI_leI (by omega) (by omega)] at q
      exact ih (m + 1) _ _ (by omega) (alQ_s (jS_no (by omega) hj))
    · rw [nI_leI (by omega) (by omega)] at q
      exact wrong_sp (t := 8) (c := 99) hj (show cO p (m + 1) (pN p) < hC h (m + 1) by omega) (by decide) (by decide) (fun lh lt hj => ih (m + 1) _ _ (by omega) (alQ_s hj))
theorem look_lp {h p : Gr} {b : Nat → Nat} {k : Nat} (ho : okH h) (hb : okB b) {work coats hab rr rh beside ct br : IA} (hw : ∀ r, 1 ≤ r → r ≤ hR h → work r = nI (hW h r)) (hco : ∀ r, 1 ≤ r → r ≤ hR h → coats r = nI (hC h r)) (hbe : ∀ a, a < 6 → beside a = nI (hB h a)) (hc : cB hab b) (hk : k < 64) (hn8 : pN p ≤ 8) (hp : rowOK h p rr rh) (hwy : wOK h ct br (2 ^ hR h)) {K : Int32 → Int32 → Prop} {E : Int32 → Int32 → Prop} (hE : ∀ lh lt, jS (acQ h b k p (pN p)) lh lt → E lh lt) : ∀ (d i : Nat) (lh lt : Int32), i + d = pN p → jS (acQ h b k p i) lh lt → wp_X3_look_14 (nI (hR h)) work coats beside (nI (pN p)) rr rh hab (nI k) ct E K (d + 1) (nI i) lh lt := by
  intro d
  induction d with
  | zero =>
    intro i lh lt hi hj
    have e : i = pN p := by omega
    subst e
    exact ⟨fun _ => hE _ _ hj, fun q => absurd (nI_le (Nat.le_refl _) (by omega)) q⟩
  | succ d ih =>
    intro i lh lt hi hj
    refine ⟨fun q => absurd q (by rw [nI_leI (by omega) (by omega)]; omega), fun _ => painter_sp ho hb hw hbe hc hk (by omega) hn8 hp hwy hj (fun lh lt hj => ahead_sp ho hb hw hco hc (by omega) hn8 hp hj (fun lh lt hj => ?_))⟩
    rw [nI_1]
    exact ih (i + 1) _ _ (by omega) hj
theorem look_sp {h p : Gr} {b : Nat → Nat} {k : Nat} (ho : okH h) (hb : okB b) {work coats hab rr rh beside np ct br : IA} (hw : ∀ r, 1 ≤ r → r ≤ hR h → work r = nI (hW h r)) (hco : ∀ r, 1 ≤ r → r ≤ hR h → coats r = nI (hC h r)) (hbe : ∀ a, a < 6 → beside a = nI (hB h a)) (hnp : ∀ k, k < 4 * hN h → np k = nI (hP h k)) (hc : cB hab b) (hk : k < 64) (hn8 : pN p ≤ 8) (hp : rowOK h p rr rh) (hwy : wOK h ct br (2 ^ hR h)) {lh0 lt0 : Int32} {K : Int32 → Int32 → Prop} (hK : ∀ lh lt, jS (alQ h b k p (hR h)) lh lt → K lh lt) : wp_X3_look (nI (hR h)) (nI (hN h)) work coats beside np (nI (pN p)) rr rh hab (nI k) ct br lh0 lt0 K := by
  have fin : ∀ lh lt, jS (ndQ h b k p) lh lt → wp_X3_lookAtCoatsLacking (nI (hR h)) coats (nI (pN p)) rr lh lt (fun a b => K a b) := fun lh lt hj => ⟨hR h + 1, lack2_lp ho hco hn8 hp hK (hR h) 0 lh lt (by omega) (jS_no (fun x => by obtain ⟨r, h1, h2, -⟩ := x; omega) hj)⟩
  refine ⟨pN p + 1, look_lp ho hb hw hco hbe hc hk hn8 hp hwy (fun lh lt hj => ?_) (pN p) 0 _ _ (by omega) (Or.inl ⟨rfl, rfl, fun _ _ x => x⟩)⟩
  exact ⟨100 + 1, needs3_lp ho hb hw hnp hc hk hn8 hp hwy (fun hz => fin _ _ (ndQ_no hz hj)) (fun c hf => wrong_sp (t := 3) hj hf (by decide) (by have := hf.1; omega) (fun lh lt hj => fin _ _ (ndQ_yes hf hj))) 100 0 (by omega) (fun u hu => absurd hu (by omega))⟩
