/-! PURE PART: the judge, the model's side; judged -/
theorem isFresh_lp {s : IA} {h p : Gr} {b : Nat → Nat} {n i : Nat} (ho : okH h) (hb : okB b) (hmh : mH s h) (hmb : mB s b) (h8 : n ≤ 8) (hm : mPs s p n) (hi : i < n) (hp : ∀ i, i < n → (1 ≤ pR p i ∧ pR p i ≤ hR h) ∧ pH p i ≤ 99) {K : Int32 → Prop} (hK1 : fq h b p i i → K 1) (hK0 : ¬ fq h b p i i → K 0) : ∀ d m : Nat, m + d = i → ¬ fq h b p i m → wp_X11_isFresh_3 (nI (pR p i)) (nI (pH p i)) (nI i) s K (d + 1) (nI m) := by
  have h5 := ho.1.1
  obtain ⟨⟨r1, r2⟩, r3⟩ := hp i hi
  have hb0 := hb.1
  have hb1 := hb.2.1
  have e4 : s (4 : Int32).toNatClampNeg = nI (b 0) := hmb 0 (by decide)
  have e5 : s (5 : Int32).toNatClampNeg = nI (b 1) := hmb 1 (by decide)
  intro d
  induction d with
  | zero =>
    intro m hmi hn
    have e : m = i := by omega
    subst e
    exact ⟨fun _ => hK0 hn, fun q => absurd (nI_le (Nat.le_refl _) (by omega)) q⟩
  | succ d ih =>
    intro m hmi hn
    obtain ⟨⟨s1, s2⟩, s3⟩ := hp m (by omega)
    have hen := en_b ho hb s1 s2 s3
    have no : ¬ fre h b p i m → wp_X11_isFresh_3 (nI (pR p i)) (nI (pH p i)) (nI i) s K (d + 1) (nI m + (1 : Int32)) := by
      intro hf
      rw [nI_1]
      exact ih (m + 1) (by omega) (fun x => (fq_s.mp x).elim hn hf)
    refine ⟨fun q => absurd q (by rw [nI_leI (by omega) (by omega)]; omega), fun _ => roomOf_sp hm (by omega) h8 ⟨fun q => ?_, fun q => ?_⟩⟩
    · rw [nI_eq (by omega) (by omega)] at q
      refine hourOf_sp hm (by omega) h8 ⟨fun q2 => ?_, fun q2 => endOf_sp ho hb hmh hmb hm (by omega) h8 s1 s2 ⟨fun q3 => ?_, fun q3 => ?_⟩⟩
      · rw [nI_ltI (by omega) (by omega)] at q2
        exact no (fun x => by have := x.2.1; omega)
      · rw [e4, e5, nI_add, nI_add, nI_leI (by omega) (by omega)] at q3
        unfold en at q3
        rw [q] at q3
        exact no (fun x => by have := x.2.2; omega)
      · rw [nI_ltI (by omega) (by omega)] at q2
        rw [e4, e5, nI_add, nI_add, nI_leI (by omega) (by omega)] at q3
        unfold en at q3
        rw [q] at q3
        exact hK1 ⟨m, by omega, q, by omega, by omega⟩
    · rw [nI_eq (by omega) (by omega)] at q
      exact no (fun x => q x.1)
theorem coatsOf_lp {s : IA} {h p : Gr} {n m0 r : Nat} (ho : okH h) (h8 : n ≤ 8) (hm : mPs s p n) (hm0 : m0 ≤ n) (hr : r ≤ 5) (hp : ∀ i, i < n → (1 ≤ pR p i ∧ pR p i ≤ hR h) ∧ pH p i ≤ 99) {K : Int32 → Prop} (hK : K (nI (cO p r m0))) : ∀ d m : Nat, m + d = m0 → wp_X11_coatsOf_5 (nI r) (nI m0) s K (d + 1) (nI (cO p r m)) (nI m) := by
  have h5 := ho.1.1
  intro d
  induction d with
  | zero =>
    intro m hmi
    have e : m = m0 := by omega
    subst e
    exact ⟨fun _ => hK, fun q => absurd (nI_le (Nat.le_refl _) (by omega)) q⟩
  | succ d ih =>
    intro m hmi
    obtain ⟨⟨s1, s2⟩, s3⟩ := hp m (by omega)
    have nxt := ih (m + 1) (by omega)
    rw [cO] at nxt
    refine ⟨fun q => absurd q (by rw [nI_leI (by omega) (by omega)]; omega), fun _ => roomOf_sp hm (by omega) h8 ⟨fun q => fun x3 e3 => ?_, fun q => fun x3 e3 => ?_⟩⟩
    · rw [nI_eq (by omega) (by omega)] at q
      rw [if_pos q] at nxt
      rw [e3, nI_1, nI_1]; exact nxt
    · rw [nI_eq (by omega) (by omega)] at q
      rw [if_neg q] at nxt
      rw [e3, nI_1, show (0 : Int32) = nI 0 from rfl, nI_add]; exact nxt
theorem coatsOf_sp {s : IA} {h p : Gr} {n m0 r : Nat} (ho : okH h) (h8 : n ≤ 8) (hm : mPs s p n) (hm0 : m0 ≤ n) (hr : r ≤ 5) (hp : ∀ i, i < n → (1 ≤ pR p i ∧ pR p i ≤ hR h) ∧ pH p i ≤ 99) {K : Int32 → Prop} (hK : K (nI (cO p r m0))) : wp_X11_coatsOf (nI r) (nI m0) s K := ⟨m0 + 1, coatsOf_lp ho h8 hm hm0 hr hp hK m0 0 (by omega)⟩
theorem isLate_lp {s : IA} {h p : Gr} {n i : Nat} (ho : okH h) (h8 : n ≤ 8) (hm : mPs s p n) (hi : i < n) (hp : ∀ i, i < n → (1 ≤ pR p i ∧ pR p i ≤ hR h) ∧ pH p i ≤ 99) {K : Int32 → Prop} {E : Int32 → Prop} (hE : E (oI (las p (pR p i) i))) : ∀ d m : Nat, m + d = i → wp_X11_isLate_5 (nI i) s E K (d + 1) (oI (las p (pR p i) m)) (nI m) := by
  have h5 := ho.1.1
  obtain ⟨⟨r1, r2⟩, r3⟩ := hp i hi
  intro d
  induction d with
  | zero =>
    intro m hmi
    have e : m = i := by omega
    subst e
    exact ⟨fun _ => hE, fun q => absurd (nI_le (Nat.le_refl _) (by omega)) q⟩
  | succ d ih =>
    intro m hmi
    obtain ⟨⟨s1, s2⟩, s3⟩ := hp m (by omega)
    have nxt := ih (m + 1) (by omega)
    rw [las] at nxt
    refine ⟨fun q => absurd q (by rw [nI_leI (by omega) (by omega)]; omega), fun _ => roomOf_sp hm (by omega) h8 (roomOf_sp hm hi h8 ⟨fun q => ?_, fun q => ?_⟩)⟩
    · rw [nI_eq (by omega) (by omega)] at q
      rw [if_pos q] at nxt
      rw [nI_1]; exact nxt
    · rw [nI_eq (by omega) (by omega)] at q
      rw [if_neg q] at nxt
      rw [nI_1]; exact nxt
theorem isLate_sp {s : IA} {h p : Gr} {b : Nat → Nat} {n i : Nat} (ho : okH h) (hb : okB b) (hmh : mH s h) (hmb : mB s b) (h8 : n ≤ 8) (hm : mPs s p n) (hi : i < n) (hp : ∀ i, i < n → (1 ≤ pR p i ∧ pR p i ≤ hR h) ∧ pH p i ≤ 99) {K : Int32 → Prop} (hK1 : w5 h b p i → K 1) (hK0 : ¬ w5 h b p i → K 0) : wp_X11_isLate (nI i) s K := by
  have h5 := ho.1.1
  obtain ⟨⟨r1, r2⟩, r3⟩ := hp i hi
  have hb2 := hb.2.2.1
  have e6 : s (6 : Int32).toNatClampNeg = nI (b 2) := hmb 2 (by decide)
  refine ⟨i + 1, isLate_lp ho h8 hm hi hp ?_ i 0 (by omega)⟩
  cases e : las p (pR p i) i with
  | none => exact ⟨fun _ => hK0 (fun x => by obtain ⟨j, hj, -⟩ := x; rw [e] at hj; cases hj), fun q => absurd px_neg9 q⟩
  | some j =>
    obtain ⟨l1, l2⟩ := las_b _ e
    obtain ⟨⟨s1, s2⟩, s3⟩ := hp j (by omega)
    have hen := en_b ho hb s1 s2 s3
    refine ⟨fun q => absurd q (nI_pos (by omega)), fun _ => hourOf_sp hm hi h8 (endOf_sp ho hb hmh hmb hm (by omega) h8 s1 s2 ⟨fun q => hK0 (fun x => ?_), fun q => hK1 ⟨j, e, ?_⟩⟩)⟩
    · rw [e6, px_subn (by omega) (by omega) (by omega)] at q
      obtain ⟨j', hj', hl⟩ := x
      rw [e] at hj'
      cases hj'
      omega
    · rw [e6, px_subn (by omega) (by omega) (by omega)] at q
      omega
/-- one thing of one step -/
def wQ (h : Gr) (b : Nat → Nat) (k : Nat) (p : Gr) (i t : Nat) : Prop := match t with
  | 1 => w1 h b k p i
  | 4 => fq h b p i i
  | 5 => w5 h b p i
  | 6 => w6 h b p i
  | _ => w7 h p i
theorem isWrong_sp {s : IA} {h p : Gr} {b : Nat → Nat} {k n i t : Nat} (ho : okH h) (hb : okB b) (hmh : mH s h) (hmb : mB s b) (h8k : s 8 = nI k) (hk : k < 64) (h8 : n ≤ 8) (hm : mPs s p n) (hi : i < n) (hp : ∀ i, i < n → (1 ≤ pR p i ∧ pR p i ≤ hR h) ∧ pH p i ≤ 99) (ht : t = 1 ∨ t = 4 ∨ t = 5 ∨ t = 6 ∨ t = 7) {K : Int32 → Prop} (hK1 : wQ h b k p i t → K 1) (hK0 : ¬ wQ h b k p i t → K 0) : wp_X11_isWrong (nI i) (nI t) s K := by
  have h5 := ho.1.1
  obtain ⟨⟨r1, r2⟩, r3⟩ := hp i hi
  have hp' : ∀ i, i < n → (1 ≤ pR p i ∧ pR p i ≤ hR h) ∧ pH p i < 1000 := fun i hi => ⟨(hp i hi).1, by have := (hp i hi).2; omega⟩
  have hp2 : ∀ j, j < i → (1 ≤ pR p j ∧ pR p j ≤ hR h) ∧ pH p j < 100000 := fun j hj => ⟨(hp j (by omega)).1, by have := (hp j (by omega)).2; omega⟩
  have hms : mPs s p i := fun j hj => hm j (by omega)
  rcases ht with rfl | rfl | rfl | rfl | rfl
  · refine ⟨fun _ => whereOf_sp ho hb hmh hmb h8k hk h8 hm (by omega) hp' (roomOf_sp hm hi h8 (hourOf_sp hm hi h8 (openAt_sp ho hb hmh hmb h8k hk (by omega) (by omega) hms hp2 (comesTo_sp ho hmh (opn_b ho) ?_ (by omega) (fun ht => ⟨fun q => absurd q px_01, fun _ => hK0 (fun x => ?_)⟩) (fun hf => ⟨fun _ => hK1 hf, fun q => absurd rfl q⟩))))), fun q => absurd rfl q⟩
    · have := whP_b ho (b := b) (k := k) (p := p) i (fun j hj => (hp2 j hj).1.2)
      omega
    · have x : w1 h b k p i := x
      unfold w1 at x
      rw [ht] at x
      cases x
  · exact ⟨fun q => absurd q (by decide), fun _ => ⟨fun q => absurd q (by decide), fun _ => ⟨fun q => absurd q (by decide), fun _ => ⟨fun _ => roomOf_sp hm hi h8 (hourOf_sp hm hi h8 ⟨i + 1, isFresh_lp ho hb hmh hmb h8 hm hi hp hK1 hK0 i 0 (by omega) (fun x => by obtain ⟨j, hj, -⟩ := x; omega)⟩), fun q => absurd rfl q⟩⟩⟩⟩
  · exact ⟨fun q => absurd q (by decide), fun _ => ⟨fun q => absurd q (by decide), fun _ => ⟨fun q => absurd q (by decide), fun _ => ⟨fun q => absurd q (by decide), fun _ => ⟨fun _ => isLate_sp ho hb hmh hmb h8 hm hi hp hK1 hK0, fun q => absurd rfl q⟩⟩⟩⟩⟩
  · refine ⟨fun q => absurd q (by decide), fun _ => ⟨fun q => absurd q (by decide), fun _ => ⟨fun q => absurd q (by decide), fun _ => ⟨fun q => absurd q (by decide), fun _ => ⟨fun q => absurd q (by decide), fun _ => ⟨fun _ => ?_, fun q => absurd rfl q⟩⟩⟩⟩⟩⟩
    by_cases h0 : i = 0
    · subst h0
      exact ⟨fun _ => hK0 (fun x => by have x : w6 h b p 0 := x; exact absurd x.1 (by omega)), fun q => absurd (by decide) q⟩
    · obtain ⟨⟨s1, s2⟩, s3⟩ := hp (i - 1) (by omega)
      have hen1 := en_b ho hb s1 s2 s3
      refine ⟨fun q => absurd q (nI_nle (by omega) (by omega)), fun _ => hourOf_sp hm hi h8 ?_⟩
      rw [show nI i - (1 : Int32) = nI (i - 1) by rw [px_lit, pk_sub (by omega)]]
      refine endOf_sp ho hb hmh hmb hm (by omega) h8 s1 s2 ⟨fun q => hK0 (fun x => ?_), fun q => hK1 ?_⟩
      · rw [nI_leI (by omega) (by omega)] at q
        have x : w6 h b p i := x
        have := x.2
        omega
      · rw [nI_leI (by omega) (by omega)] at q
        exact show w6 h b p i from ⟨by omega, by omega⟩
  · refine ⟨fun q => absurd q (by decide), fun _ => ⟨fun q => absurd q (by decide), fun _ => ⟨fun q => absurd q (by decide), fun _ => ⟨fun q => absurd q (by decide), fun _ => ⟨fun q => absurd q (by decide), fun _ => ⟨fun q => absurd q (by decide), fun _ => ?_⟩⟩⟩⟩⟩⟩
    have hcC := (ho.2.1 _ r1 r2).2
    have hcb := cO_b (p := p) (r := pR p i) i
    refine roomOf_sp hm hi h8 (coatsOf_sp ho h8 hm (by omega) (by omega) hp (roomOf_sp hm hi h8 ?_))
    rw [show (15 : Int32) = nI 15 from rfl, nI_add, px_cl (by omega), (hmh.2.2.2.1 _ r1 r2).2]
    refine ⟨px_in (by omega) (by decide), fun q => hK0 (fun x => ?_), fun q => hK1 ?_⟩
    · rw [nI_ltI (by omega) (by omega)] at q
      have x : w7 h p i := x
      unfold w7 at x
      omega
    · rw [nI_ltI (by omega) (by omega)] at q
      show w7 h p i
      unfold w7
      omega
theorem judged44_st {s : IA} {h p : Gr} {b : Nat → Nat} {k n i t : Nat} (ho : okH h) (hb : okB b) (hmh : mH s h) (hmb : mB s b) (h8k : s 8 = nI k) (hk : k < 64) (h8 : n ≤ 8) (hm : mPs s p n) (hi : i < n) (hp : ∀ i, i < n → (1 ≤ pR p i ∧ pR p i ≤ hR h) ∧ pH p i ≤ 99) (ht : t = 1 ∨ t = 4 ∨ t = 5 ∨ t = 6 ∨ t = 7) {E : Int32 → Int32 → Prop} {K : Int32 → IA → IA → Int32 → Int32 → Prop} {Q : Nat → Nat → Prop} {lh lt : Int32} {d : Nat} (hj : jS Q lh lt) (hN : ∀ lh lt, jS (jAd Q (wQ h b k p i t) t (pH p i)) lh lt → wp_X11_judged_44 (nI i) s E K d (nI (t + 1)) lh lt) : wp_X11_judged_44 (nI i) s E K (d + 1) (nI t) lh lt := by
  have r3 := (hp i hi).2
  refine ⟨fun q => absurd q (by rw [px_lit, nI_leI (by omega) (by omega)]; omega), fun _ => ⟨fun q => absurd q (by rw [px_lit, nI_eq (by omega) (by omega)]; omega), fun _ => ⟨fun q => absurd q (by rw [px_lit, nI_eq (by omega) (by omega)]; omega), fun _ => ?_⟩⟩⟩
  rw [nI_1]
  exact isWrong_sp ho hb hmh hmb h8k hk h8 hm hi hp ht (fun hc => ⟨fun q => absurd q px_01, fun _ => hourOf_sp hm hi h8 (notes_sp hj hc (by omega) (by omega) hN)⟩) (fun hc => ⟨fun _ => hN _ _ (jS_no hc hj), fun q => absurd rfl q⟩)
theorem judged36_lp {s : IA} {h p : Gr} {b : Nat → Nat} {k n : Nat} (ho : okH h) (hb : okB b) (hmh : mH s h) (hmb : mB s b) (h8k : s 8 = nI k) (hk : k < 64) (h8 : n ≤ 8) (hm : mPs s p n) (hp : ∀ i, i < n → (1 ≤ pR p i ∧ pR p i ≤ hR h) ∧ pH p i ≤ 99) {E : Int32 → Int32 → Prop} {K : Int32 → IA → IA → Int32 → Int32 → Prop} (hE : ∀ lh lt, jS (acQ h b k p n) lh lt → E lh lt) : ∀ (d i : Nat) (lh lt : Int32), i + d = n → jS (acQ h b k p i) lh lt → wp_X11_judged_36 (nI n) s E K (d + 1) (nI i) lh lt := by
  intro d
  induction d with
  | zero =>
    intro i lh lt hi hj
    have e : i = n := by omega
    subst e
    exact ⟨fun _ => hE _ _ hj, fun q => absurd (nI_le (Nat.le_refl _) (by omega)) q⟩
  | succ d ih =>
    intro i lh lt hi hj
    obtain ⟨⟨r1, r2⟩, r3⟩ := hp i (by omega)
    have hen := en_b ho hb r1 r2 r3
    have nxt := fun lh lt hj => ih (i + 1) lh lt (by omega) hj
    refine ⟨fun q => absurd q (by rw [nI_leI (by omega) (by omega)]; omega), fun _ => ⟨8, ?_⟩⟩
    refine judged44_st (t := 1) ho hb hmh hmb h8k hk h8 hm (by omega) hp (by omega) hj (fun lh lt hj => ?_)
    refine ⟨fun q => absurd q (by decide), fun _ => ⟨fun _ => ?_, fun q => absurd rfl q⟩⟩
    refine ⟨fun q => absurd q (by decide), fun _ => ⟨fun q => absurd q (by decide), fun _ => ⟨fun _ => ?_, fun q => absurd rfl q⟩⟩⟩
    refine judged44_st (t := 4) ho hb hmh hmb h8k hk h8 hm (by omega) hp (by omega) hj (fun lh lt hj => ?_)
    refine judged44_st (t := 5) ho hb hmh hmb h8k hk h8 hm (by omega) hp (by omega) hj (fun lh lt hj => ?_)
    refine judged44_st (t := 6) ho hb hmh hmb h8k hk h8 hm (by omega) hp (by omega) hj (fun lh lt hj => ?_)
    refine judged44_st (t := 7) ho hb hmh hmb h8k hk h8 hm (by omega) hp (by omega) hj (fun lh lt hj => ?_)
    refine ⟨fun _ => ?_, fun q => absurd (by decide) q⟩
    rw [nI_1]
    refine isShutIn_sp ho hb hmh hmb h8k hk h8 hm (by omega) (fun i hi => ⟨(hp i hi).1, by have := (hp i hi).2; omega⟩) (fun e => ⟨fun q => absurd q px_01, fun _ => endOf_sp ho hb hmh hmb hm (by omega) h8 r1 r2 (notes_sp (t := 2) hj (show w2 h b k p i from e) (by decide) (by omega) (fun lh lt hj => nxt _ _ (stQ_m hj)))⟩) (fun e => ⟨fun _ => nxt _ _ (stQ_m (jS_no (fun x => ?_) hj)), fun q => absurd rfl q⟩)
    obtain ⟨r, e⟩ := e
    unfold w2 at x
    rw [e] at x
    cases x
theorem judged140_lp {s : IA} {h p : Gr} {b : Nat → Nat} {k : Nat} (ho : okH h) (hmh : mH s h) (h8 : pN p ≤ 8) (hm : mPs s p (pN p)) (hp : ∀ i, i < pN p → (1 ≤ pR p i ∧ pR p i ≤ hR h) ∧ pH p i ≤ 99) {E : Int32 → Int32 → Prop} {K : Int32 → IA → IA → Int32 → Int32 → Prop} (hE : ∀ lh lt, jS (alQ h b k p (hR h)) lh lt → E lh lt) : ∀ (d m : Nat) (lh lt : Int32), m + d = hR h → jS (alQ h b k p m) lh lt → wp_X11_judged_140 (nI (pN p)) s E K (d + 1) (nI (m + 1)) lh lt := by
  have h5 := ho.1.1
  have e0 : s (0 : Int32).toNatClampNeg = nI (hR h + 1) := hmh.1
  intro d
  induction d with
  | zero =>
    intro m lh lt hm' hj
    have e : m = hR h := by omega
    subst e
    exact ⟨fun _ => hE _ _ hj, fun q => absurd (by rw [e0]; exact nI_le (Nat.le_refl _) (by omega)) q⟩
  | succ d ih =>
    intro m lh lt hm' hj
    have hcC := (ho.2.1 (m + 1) (by omega) (by omega)).2
    have hcb := cO_b (p := p) (r := m + 1) (pN p)
    refine ⟨fun q => absurd q (by rw [e0, nI_leI (by omega) (by omega)]; omega), fun _ => coatsOf_sp ho h8 hm (Nat.le_refl _) (by omega) hp ?_⟩
    rw [show (15 : Int32) = nI 15 from rfl, nI_add, px_cl (by omega), (hmh.2.2.2.1 (m + 1) (by omega) (by omega)).2, nI_1]
    refine ⟨px_in (by omega) (by decide), fun q => ?_, fun q => ?_⟩
    · rw [nI_leI (by omega) (by omega)] at q
      exact ih (m + 1) _ _ (by omega) (alQ_s (jS_no (by omega) hj))
    · rw [nI_leI (by omega) (by omega)] at q
      exact notes_sp (t := 8) (c := 99) hj (show cO p (m + 1) (pN p) < hC h (m + 1) by omega) (by decide) (by decide) (fun lh lt hj => ih (m + 1) _ _ (by omega) (alQ_s hj))
theorem judged11_sp {x1 : Int32} {mr s met : IA} {wh wt : Int32} {h p : Gr} {b : Nat → Nat} {k : Nat} (hoh : okH h) (ho : okP h p) (hb : okB b) (hk : k < 64) (hmh : mH s h) (hm : mP s p) (hmb : mB s b) (hmk : s 8 = nI k) (hx : x1 = 0 ∨ x1 = 1) {K : Int32 → IA → IA → Int32 → Int32 → Prop} (hK : ∀ v lh lt, jS (alQ h b k p (hR h)) lh lt → K (if x1 = 0 then lh else lt) mr v lh lt) : wp_X11_judged x1 mr s met wh wt K := by
  obtain ⟨m3, m4⟩ := hm
  have h8 := ho.1
  have e3 : s (3 : Int32).toNatClampNeg = nI (pN p) := m3
  have hp : ∀ i, i < pN p → (1 ≤ pR p i ∧ pR p i ≤ hR h) ∧ pH p i ≤ 99 := fun i hi => ⟨⟨(ho.2 i hi).1, (ho.2 i hi).2.1⟩, (ho.2 i hi).2.2⟩
  have fin : ∀ (v : IA) (lh lt : Int32), jS (ndQ h b k p) lh lt → ∃ n : Nat, wp_X11_judged_140 (nI (pN p)) s (fun lh lt => (x1 = 0 → K lh mr v lh lt) ∧ (¬ (x1 = 0) → K lt mr v lh lt)) K n (1 : Int32) lh lt := by
    intro v lh lt hj
    refine ⟨hR h + 1, judged140_lp hoh hmh h8 m4 hp (fun lh lt hj => ⟨fun q => ?_, fun q => ?_⟩) (hR h) 0 lh lt (by omega) (jS_no (fun x => by obtain ⟨r, h1, h2, -⟩ := x; omega) hj)⟩
    · have := hK v lh lt hj; rw [if_pos q] at this; exact this
    · have := hK v lh lt hj; rw [if_neg q] at this; exact this
  have inn : ∀ K : Int32 → Prop, K 1 → wp_X11_isIn x1 (2 : Int32) K := by
    intro K1 hK1
    rcases hx with rfl | rfl
    · exact isIn_in (k := 0) (n := 2) (by decide) (by decide) hK1
    · exact isIn_in (k := 1) (n := 2) (by decide) (by decide) hK1
  refine inn _ ⟨fun q => absurd q px_01, fun _ => fun x2 e2 => ?_⟩
  rw [e3] at e2
  subst e2
  refine ⟨pN p + 1, judged36_lp hoh hb hmh hmb hmk hk h8 m4 hp (fun lh lt hj => ?_) (pN p) 0 _ _ (by omega) (Or.inl ⟨rfl, rfl, fun _ _ x => x⟩)⟩
  refine findMet_sp hoh hmh (fun v hv => failsAt_sp (from_ := 0) (to := 99) hoh hb hmh hmb hmk hk h8 m4 ho.up hv (by decide) (by decide) (fun hz => ⟨fun _ => fin v _ _ (ndQ_no (fun u hu => hz u (by omega) hu hu) hj), fun q => absurd px_neg9 q⟩) (fun t' _ h2 _ h4 h5 => ⟨fun q => absurd q (nI_pos (by omega)), fun _ => ?_⟩))
  have hf : fsQ h b k p t' := ⟨h2, h4, fun u hu => h5 u (by omega) hu⟩
  exact notes_sp (t := 3) hj hf (by decide) (by omega) (fun lh lt hj => fin v _ _ (ndQ_yes hf hj))
theorem m_judged {x1 : Int32} {cr mr s met ct br rr rh hab : IA} {lh0 lt0 wh wt rooms doors needs steps planked : Int32} {work coats beside np : IA} {h p : Gr} {b : Nat → Nat} {k : Nat} (hr : Rref cr mr) (hoh : okH h) (ho : okP h p) (hb : okB b) (hk : okK h k) (hch : cH rooms doors needs work coats beside np h) (hmh : mH s h) (hc : cP steps rr rh p) (hm : mP s p) (hcb : cB hab b) (hmb : mB s b) (hck : planked = nI k) (hmk : s 8 = nI k) (hwy : wOK h ct br (2 ^ hR h)) : wp_X10_judged x1 cr ct br rooms needs work coats beside np steps rr rh hab planked lh0 lt0 (fun r cr' _ _ => wp_X11_judged x1 mr s met wh wt (fun r' mr' _ _ _ => r = r' ∧ Rref cr' mr')) := by
  obtain ⟨rfl, -, rfl, hc4, hcB, hcN⟩ := hch
  obtain ⟨rfl, hc2⟩ := hc
  subst hck
  have h8 := ho.1
  have hrow : rowOK h p rr rh := fun j hj => ⟨⟨(ho.2 j hj).1, (ho.2 j hj).2.1⟩, (ho.2 j hj).2.2, hc2 j hj⟩
  have both : (x1 = 0 ∨ x1 = 1) → wp_X10_judged_16 x1 cr ct br (nI (hR h)) (nI (hN h)) work coats beside np (nI (pN p)) rr rh hab (nI k) (fun r cr' _ _ => wp_X11_judged x1 mr s met wh wt (fun r' mr' _ _ _ => r = r' ∧ Rref cr' mr')) lh0 lt0 := by
    intro hx
    refine look_sp hoh hb (fun r a b => (hc4 r a b).1) (fun r a b => (hc4 r a b).2) hcB hcN hcb (hk.b hoh) h8 hrow hwy (fun lh lt hj => ⟨fun q => ?_, fun q => ?_⟩)
    · refine judged11_sp hoh ho hb (hk.b hoh) hmh hm hmb hmk hx (fun v lh' lt' hj' => ?_)
      rw [if_pos q]
      exact ⟨(jS_uq hj hj').1, hr⟩
    · refine judged11_sp hoh ho hb (hk.b hoh) hmh hm hmb hmk hx (fun v lh' lt' hj' => ?_)
      rw [if_neg q]
      exact ⟨(jS_uq hj hj').2, hr⟩
  refine ⟨fun e => both (Or.inl e), fun e0 => ⟨fun e => both (Or.inr e), fun e1 => ?_⟩⟩
  refine rf10 2 (by decide) (by decide) ?_
  refine isIn_out (n := 2) (by decide) ?_ ⟨fun _ => rf11 2 (by decide) (by decide) ⟨rfl, hr.up 2 (by decide)⟩, fun q => absurd rfl q⟩
  rcases px_cases x1 2 (by decide) with h | ⟨k, hk, rfl⟩ | ⟨k, hk, hk2, rfl⟩
  · exact Or.inl h
  · rcases (show k = 0 ∨ k = 1 by omega) with rfl | rfl
    · exact absurd rfl e0
    · exact absurd rfl e1
  · exact Or.inr ⟨k, hk, hk2, rfl⟩
