/-! PURE PART: where he goes out; how many doors -/
def lbF (S : Nat) : Nat → Nat → Option Nat
  | 0, _ => none
  | d + 1, i => if S.testBit i then some i else lbF S d (i + 1)
def oI : Option Nat → Int32
  | none => (-9 : Int32)
  | some r => nI r
theorem lbF_congr {S T : Nat} : ∀ d i, (∀ j, i ≤ j → j < i + d → S.testBit j = T.testBit j) → lbF S d i = lbF T d i
  | 0, _, _ => rfl
  | d + 1, i, h => by
    rw [lbF, lbF, h i (by omega) (by omega), lbF_congr d (i + 1) (fun j h1 h2 => h j (by omega) (by omega))]
theorem lbF_some {S : Nat} : ∀ d i r, lbF S d i = some r → S.testBit r = true ∧ i ≤ r ∧ r < i + d
  | 0, _, _, h => by cases h
  | d + 1, i, r, h => by
    rw [lbF] at h
    split at h
    · rename_i hc
      cases h
      exact ⟨hc, by omega, by omega⟩
    · have := lbF_some d (i + 1) r h
      exact ⟨this.1, by omega, by omega⟩
theorem lob_lp {S R : Nat} (hS : S < 64) (hR : R ≤ 5) {K : Int32 → Prop} : ∀ d i : Nat, i + d = R + 1 → K (oI (lbF S d i)) → wp_X1_leastOpenBeside_14 (nI S) (nI R) K (d + 1) (nI i) := by
  intro d
  induction d with
  | zero =>
    intro i hi hK
    exact ⟨fun _ => hK, fun q => absurd (by rw [nI_ltI (by omega) (by omega)]; omega) q⟩
  | succ d ih =>
    intro i hi hK
    rw [lbF] at hK
    refine ⟨fun q => absurd q (by rw [nI_ltI (by omega) (by omega)]; omega), fun _ => ⟨fun q => ?_, fun q => ?_⟩⟩
    · rw [px_bit (by omega) (by omega)] at q
      rw [q] at hK
      rw [nI_1]
      exact ih (i + 1) (by omega) hK
    · rw [px_bit (by omega) (by omega)] at q
      have q : S.testBit i = true := by
        cases e : S.testBit i
        · exact absurd e q
        · rfl
      rw [q] at hK
      exact hK
theorem leastOpenBeside_sp {h : Gr} (ho : okH h) {beside : IA} (hb : ∀ a, a < 6 → beside a = nI (hB h a)) {a S : Nat} (ha : a < 6) {K : Int32 → Prop} (hK : K (oI (lbF (nd (hB h a) S) (hR h + 1) 0))) : wp_X1_leastOpenBeside (nI a) (nI S) (nI (hR h)) beside K := by
  have hB6 := ho.Bs ha
  refine ⟨px_in ha (by decide), fun x3 e3 => ?_⟩
  rw [px_cl (by omega), hb a ha, px_nd] at e3
  subst e3
  exact ⟨hR h + 1 + 1, lob_lp (Nat.lt_of_le_of_lt (nd_le _ _) hB6) ho.1.1 (hR h + 1) 0 (by omega) hK⟩
/-- into which room he goes out behind step i -/
def outP (h : Gr) (b : Nat → Nat) (k : Nat) (p : Gr) (i : Nat) : Option Nat := lbF (nd (hB h (pR p i)) (shS h b k p (en h b p i) (i + 1))) (hR h + 1) 0
def whP (h : Gr) (b : Nat → Nat) (k : Nat) (p : Gr) : Nat → Nat
  | 0 => 0
  | i + 1 => (outP h b k p i).getD (pR p i)
theorem noself {h : Gr} (ho : okH h) {a : Nat} (ha : a < 6) : (hB h a).testBit a = false := by
  cases e : (hB h a).testBit a
  · rfl
  · obtain ⟨k, hk, x⟩ := (ho.2.2.2.1 a ha a).mp e
    have := ho.2.2.1 k hk
    omega
theorem outP_ne {h : Gr} (ho : okH h) {b : Nat → Nat} {k : Nat} {p : Gr} {i r : Nat} (h6 : pR p i < 6) (e : outP h b k p i = some r) : r ≠ pR p i ∧ r ≤ hR h := by
  have := lbF_some _ _ _ e
  refine ⟨?_, by omega⟩
  rintro rfl
  have hb := this.1
  rw [nd_tb (by have := ho.Bs h6; omega), noself ho h6] at hb
  cases hb
theorem whP_b {h : Gr} (ho : okH h) {b : Nat → Nat} {k : Nat} {p : Gr} : ∀ i, (∀ j, j < i → pR p j ≤ hR h) → whP h b k p i ≤ hR h
  | 0, _ => Nat.zero_le _
  | i + 1, hp => by
    rw [whP]
    cases e : outP h b k p i with
    | none => exact hp i (by omega)
    | some r => exact (outP_ne ho (by have := hp i (by omega); have := ho.1.1; omega) e).2
theorem placeOutside_sp {h p : Gr} {b : Nat → Nat} {k i : Nat} (ho : okH h) (hb : okB b) {work hab rr rh beside : IA} (hw : ∀ r, 1 ≤ r → r ≤ hR h → work r = nI (hW h r)) (hbe : ∀ a, a < 6 → beside a = nI (hB h a)) (hc : cB hab b) (hk : k < 64) (hi : i < pN p) (hn8 : pN p ≤ 8) (hp : ∀ j, j < pN p → (1 ≤ pR p j ∧ pR p j ≤ hR h) ∧ pH p j < 1000 ∧ rr j = nI (pR p j) ∧ rh j = nI (pH p j)) {K : Int32 → Prop} (hK : K (oI (outP h b k p i))) : wp_X3_placeOutside (nI i) (nI (hR h)) work beside (nI (pN p)) rr rh hab (nI k) K := by
  obtain ⟨⟨r1, r2⟩, r3, r4, r5⟩ := hp i hi
  have ht := tk_b ho hb r1 r2
  have h5 := ho.1.1
  refine doneHour_sp ho hb hw hc (by omega) r4 r5 r1 r2 ?_
  rw [nI_1]
  refine shutBy_sp ho hb hw hc hk (by unfold en; omega) (by omega) hn8 (fun j hj => ⟨(hp j (by omega)).1, by have := (hp j (by omega)).2.1; omega, (hp j (by omega)).2.2⟩) ⟨px_in (by omega) (by decide), ?_⟩
  rw [px_cl (by omega), r4]
  exact leastOpenBeside_sp ho hbe (by omega) hK
theorem placeBehind_sp {h p : Gr} {b : Nat → Nat} {k i : Nat} (ho : okH h) (hb : okB b) {work hab rr rh beside : IA} (hw : ∀ r, 1 ≤ r → r ≤ hR h → work r = nI (hW h r)) (hbe : ∀ a, a < 6 → beside a = nI (hB h a)) (hc : cB hab b) (hk : k < 64) (hi : i ≤ pN p) (hn8 : pN p ≤ 8) (hp : ∀ j, j < pN p → (1 ≤ pR p j ∧ pR p j ≤ hR h) ∧ pH p j < 1000 ∧ rr j = nI (pR p j) ∧ rh j = nI (pH p j)) {K : Int32 → Prop} (hK : K (nI (whP h b k p i))) : wp_X3_placeBehind (nI i) (nI (hR h)) work beside (nI (pN p)) rr rh hab (nI k) K := by
  cases i with
  | zero => exact ⟨fun _ => hK, fun q => absurd (by decide) q⟩
  | succ i =>
    have h5 := ho.1.1
    have e : nI (i + 1) - (1 : Int32) = nI i := by rw [px_lit, pk_sub (by omega)]; rfl
    rw [whP] at hK
    refine ⟨fun q => absurd q (by rw [px_lit, nI_ltI (by omega) (by omega)]; omega), fun _ => ⟨fun _ => ?_, fun q => absurd (by rw [nI_leI (by omega) (by omega)]; omega) q⟩⟩
    rw [e, px_cl (by omega)]
    refine placeOutside_sp ho hb hw hbe hc hk (by omega) hn8 hp ?_
    cases eo : outP h b k p i with
    | none =>
      rw [eo] at hK
      refine ⟨fun _ => ⟨px_in (by omega) (by decide), ?_⟩, fun q => absurd rfl q⟩
      rw [(hp i (by omega)).2.2.1]; exact hK
    | some r =>
      rw [eo] at hK
      have := (outP_ne ho (by have := (hp i (by omega)).1; omega) eo).2
      exact ⟨fun q => absurd q (px_n9 (by omega)), fun _ => hK⟩
theorem goesOut_lp {S R : Nat} (hS : S < 64) (hR : R ≤ 5) {s : IA} (h0 : s 0 = nI (R + 1)) {K : Int32 → Prop} {E : Prop} : ∀ d i : Nat, i + d = R + 1 → (lbF S d i = none → E) → (∀ r, lbF S d i = some r → K (nI r)) → wp_X11_goesOut_25 (nI S) s E K (d + 1) (nI i) := by
  have e0 : s (0 : Int32).toNatClampNeg = nI (R + 1) := h0
  intro d
  induction d with
  | zero =>
    intro i hi hE hK
    refine ⟨fun _ => hE rfl, fun q => absurd (by rw [e0, nI_leI (by omega) (by omega)]; omega) q⟩
  | succ d ih =>
    intro i hi hE hK
    rw [lbF] at hE hK
    refine ⟨fun q => absurd q (by rw [e0, nI_leI (by omega) (by omega)]; omega), fun _ => ⟨fun q => ?_, fun q => ?_⟩⟩
    · rw [px_bit1 (by omega) (by omega)] at q
      exact hK i (by rw [q]; rfl)
    · rw [px_bit1 (by omega) (by omega)] at q
      have q : S.testBit i = false := by
        cases e : S.testBit i
        · rfl
        · exact absurd e q
      rw [q] at hE hK
      rw [nI_1]
      exact ih (i + 1) (by omega) hE hK
theorem goesOut_sp {s : IA} {h p : Gr} {b : Nat → Nat} {k n i : Nat} (ho : okH h) (hb : okB b) (hmh : mH s h) (hmb : mB s b) (h8k : s 8 = nI k) (hk : k < 64) (h8 : n ≤ 8) (hm : mPs s p n) (hi : i < n) (hp : ∀ i, i < n → (1 ≤ pR p i ∧ pR p i ≤ hR h) ∧ pH p i < 1000) {K : Int32 → Prop} (hK : K (nI (whP h b k p (i + 1)))) : wp_X11_goesOut (nI i) s K := by
  have h5 := ho.1.1
  obtain ⟨⟨r1, r2⟩, r3⟩ := hp i hi
  have ht := tk_b ho hb r1 r2
  have hB6 := ho.Bs (a := pR p i) (by omega)
  refine roomOf_sp hm hi h8 (besideOf_sp ho hmh (by omega) (endOf_sp ho hb hmh hmb hm hi h8 r1 r2 ?_))
  rw [nI_1]
  refine openAt_sp ho hb hmh hmb h8k hk (by unfold en; omega) (by omega) (fun j hj => hm j (by omega)) (fun j hj => ⟨(hp j (by omega)).1, by have := (hp j (by omega)).2; omega⟩) (fun x2 e2 => ?_)
  rw [px_and] at e2
  subst e2
  have eS : lbF (hB h (pR p i) &&& opn h b k p (en h b p i) (i + 1)) (hR h + 1) 0 = outP h b k p i := by
    apply lbF_congr
    intro j _ hj
    rw [tb_and, opn_tb ho, nd_tb (by omega)]
    simp [show j ≤ hR h by omega]
  rw [whP] at hK
  refine ⟨hR h + 1 + 1, goesOut_lp (Nat.lt_of_le_of_lt Nat.and_le_left hB6) h5 hmh.1 (hR h + 1) 0 (by omega) (fun e => ?_) (fun r e => ?_)⟩
  · rw [eS] at e
    rw [e] at hK
    exact roomOf_sp hm hi h8 hK
  · rw [eS] at e
    rw [e] at hK
    exact hK
theorem whereOf_sp {s : IA} {h p : Gr} {b : Nat → Nat} {k n i : Nat} (ho : okH h) (hb : okB b) (hmh : mH s h) (hmb : mB s b) (h8k : s 8 = nI k) (hk : k < 64) (h8 : n ≤ 8) (hm : mPs s p n) (hi : i ≤ n) (hp : ∀ i, i < n → (1 ≤ pR p i ∧ pR p i ≤ hR h) ∧ pH p i < 1000) {K : Int32 → Prop} (hK : K (nI (whP h b k p i))) : wp_X11_whereOf (nI i) s K := by
  cases i with
  | zero => exact ⟨fun _ => hK, fun q => absurd rfl q⟩
  | succ i =>
    have e : nI (i + 1) - (1 : Int32) = nI i := by rw [px_lit, pk_sub (by omega)]; rfl
    refine ⟨fun q => absurd q (nI_ne0 (by omega) (by omega)), fun _ => ?_⟩
    rw [e]
    exact goesOut_sp ho hb hmh hmb h8k hk h8 hm (by omega) hp hK
theorem isShutIn_sp {s : IA} {h p : Gr} {b : Nat → Nat} {k n i : Nat} (ho : okH h) (hb : okB b) (hmh : mH s h) (hmb : mB s b) (h8k : s 8 = nI k) (hk : k < 64) (h8 : n ≤ 8) (hm : mPs s p n) (hi : i < n) (hp : ∀ i, i < n → (1 ≤ pR p i ∧ pR p i ≤ hR h) ∧ pH p i < 1000) {K : Int32 → Prop} (hK1 : outP h b k p i = none → K 1) (hK0 : (∃ r, outP h b k p i = some r) → K 0) : wp_X11_isShutIn (nI i) s K := by
  have h5 := ho.1.1
  obtain ⟨⟨r1, r2⟩, r3⟩ := hp i hi
  refine goesOut_sp ho hb hmh hmb h8k hk h8 hm hi hp (roomOf_sp hm hi h8 ?_)
  rw [whP]
  cases e : outP h b k p i with
  | none => exact ⟨fun _ => hK1 e, fun q => absurd rfl q⟩
  | some r =>
    have := outP_ne ho (by omega) e
    refine ⟨fun q => absurd ((nI_eq (a := r) (by omega) (by omega)).mp q) this.1, fun _ => hK0 ⟨r, e⟩⟩
theorem okP.up {h p : Gr} (ho : okP h p) : ∀ i, i < pN p → (1 ≤ pR p i ∧ pR p i ≤ hR h) ∧ pH p i < 1000 := fun i hi => ⟨⟨(ho.2 i hi).1, (ho.2 i hi).2.1⟩, by have := (ho.2 i hi).2.2; omega⟩
theorem m_where {x1 : Int32} {cr mr s rr rh hab : IA} {rooms doors needs steps planked : Int32} {work coats beside np : IA} {h p : Gr} {b : Nat → Nat} {k : Nat} (hr : Rref cr mr) (hoh : okH h) (ho : okP h p) (hb : okB b) (hk : okK h k) (hch : cH rooms doors needs work coats beside np h) (hmh : mH s h) (hc : cP steps rr rh p) (hm : mP s p) (hcb : cB hab b) (hmb : mB s b) (hck : planked = nI k) (hmk : s 8 = nI k) : wp_X10_where x1 cr rooms work beside steps rr rh hab planked (fun r cr' => wp_X11_where x1 mr s (fun r' mr' => r = r' ∧ Rref cr' mr')) := by
  obtain ⟨rfl, -, -, hc4, hcB, -⟩ := hch
  obtain ⟨rfl, hc2⟩ := hc
  obtain ⟨m3, m4⟩ := hm
  subst hck
  have h8 := ho.1
  have e3 : s (3 : Int32).toNatClampNeg + (1 : Int32) = nI (pN p + 1) := by
    show s 3 + (1 : Int32) = _
    rw [m3, nI_1]
  have no : (x1 < 0 ∨ ∃ k, pN p + 1 ≤ k ∧ k < 2 ^ 31 ∧ x1 = nI k) → wp_X10_where_18 (fun r cr' => wp_X11_where x1 mr s (fun r' mr' => r = r' ∧ Rref cr' mr')) cr := by
    intro hx
    refine rf10 1 (by decide) (by decide) ?_
    show wp_X11_isIn x1 (s (3 : Int32).toNatClampNeg + (1 : Int32)) _
    rw [e3]
    exact isIn_out (by omega) hx ⟨fun _ => rf11 1 (by decide) (by decide) ⟨rfl, hr.up 1 (by decide)⟩, fun q => absurd rfl q⟩
  rcases px_cases x1 (pN p + 1) (by omega) with hx | ⟨i, hi, rfl⟩ | ⟨i, hi, hi2, rfl⟩
  · exact ⟨fun _ => no (Or.inl hx), fun q => absurd hx q⟩
  · refine ⟨fun q => absurd q (nI_pos (by omega)), fun _ => ⟨fun _ => ?_, fun q => absurd (by rw [nI_leI (by omega) (by omega)]; omega) q⟩⟩
    refine placeBehind_sp hoh hb (fun r a b => (hc4 r a b).1) hcB hcb (hk.b hoh) (by omega) h8 (fun j hj => ⟨(ho.up j hj).1, (ho.up j hj).2, hc2 j hj⟩) ?_
    show wp_X11_isIn (nI i) (s (3 : Int32).toNatClampNeg + (1 : Int32)) _
    rw [e3]
    exact isIn_in hi (by omega) ⟨fun q => absurd q px_01, fun _ => whereOf_sp hoh hb hmh hmb hmk (hk.b hoh) h8 m4 (by omega) ho.up ⟨rfl, hr⟩⟩
  · exact ⟨fun q => absurd q (nI_pos (by omega)), fun _ => ⟨fun q => absurd q (by rw [nI_leI (by omega) (by omega)]; omega), fun _ => no (Or.inr ⟨i, hi, hi2, rfl⟩)⟩⟩
/-! how many doors -/
def nb (h : Gr) (S : Nat) : Nat → Nat
  | 0 => 0
  | n + 1 => nb h S n ||| if S.testBit n then hB h n else 0
def gr (h : Gr) (o S : Nat) : Nat := (S ||| nb h S (hR h + 1)) &&& o
def wr (h : Gr) (o to : Nat) : Nat → Nat → Nat → Int32
  | 0, _, _ => (-9 : Int32)
  | d + 1, n, S => if S.testBit to then nI n else wr h o to d (n + 1) (gr h o S)
theorem nb_tb {h : Gr} {S i : Nat} : ∀ n, (nb h S n).testBit i = true ↔ ∃ a, a < n ∧ S.testBit a = true ∧ (hB h a).testBit i = true
  | 0 => by simp [nb]
  | n + 1 => by
    rw [nb, tb_or, Bool.or_eq_true, nb_tb n]
    constructor
    · rintro (⟨a, h1, h2⟩ | h1)
      · exact ⟨a, by omega, h2⟩
      · split at h1
        · rename_i hc
          exact ⟨n, by omega, hc, h1⟩
        · simp at h1
    · rintro ⟨a, h1, h2, h3⟩
      by_cases e : a = n
      · subst e; right; rw [if_pos h2]; exact h3
      · exact Or.inl ⟨a, by omega, h2, h3⟩
theorem nb_b {h : Gr} (ho : okH h) {S : Nat} : ∀ n, n ≤ 6 → nb h S n < 64
  | 0, _ => by simp [nb]
  | n + 1, hn => by
    rw [nb]
    refine or_lt (n := 6) (nb_b ho n (by omega)) ?_
    split
    · exact ho.Bs (by omega)
    · decide
theorem gr_b {h : Gr} {o S : Nat} (h6 : o < 64) : gr h o S < 64 := Nat.lt_of_le_of_lt Nat.and_le_right h6
theorem besideAny_lp {h : Gr} (ho : okH h) {beside : IA} (hb : ∀ a, a < 6 → beside a = nI (hB h a)) {S : Nat} (hS : S < 64) {K : Int32 → Prop} (hK : K (nI (nb h S (hR h + 1)))) : ∀ d i : Nat, i + d = hR h + 1 → wp_X1_besideAny_4 (nI S) (nI (hR h)) beside K (d + 1) (nI (nb h S i)) (nI i) := by
  have h5 := ho.1.1
  intro d
  induction d with
  | zero =>
    intro i hi
    have e : i = hR h + 1 := by omega
    subst e
    exact ⟨fun _ => hK, fun q => absurd (by rw [nI_ltI (by omega) (by omega)]; omega) q⟩
  | succ d ih =>
    intro i hi
    have nxt := ih (i + 1) (by omega)
    rw [nb] at nxt
    refine ⟨fun q => absurd q (by rw [nI_ltI (by omega) (by omega)]; omega), fun _ => ⟨fun q => ?_, fun q => ⟨px_in (by omega) (by decide), fun x2 e2 => ?_⟩⟩⟩
    · rw [px_bit (by omega) (by omega)] at q
      rw [q] at nxt
      rw [nI_1]
      simpa using nxt
    · rw [px_bit (by omega) (by omega)] at q
      have q : S.testBit i = true := by
        cases e : S.testBit i
        · exact absurd e q
        · rfl
      rw [px_cl (by omega), hb i (by omega), px_or] at e2
      rw [q] at nxt
      rw [nI_1, e2]
      exact nxt
theorem doorsBetween_lp {h : Gr} (ho : okH h) {beside : IA} (hb : ∀ a, a < 6 → beside a = nI (hB h a)) {o to : Nat} (h6 : o < 64) (ht : to < 6) {K : Int32 → Prop} : ∀ d n S : Nat, n + d = 6 → S < 64 → K (wr h o to d n S) → wp_X1_doorsBetween_21 (nI to) (nI o) (nI (hR h)) beside K (d + 1) (nI S) (nI n) := by
  intro d
  induction d with
  | zero =>
    intro n S hn hS hK
    have e : n = 6 := by omega
    subst e
    exact ⟨fun _ => hK, fun q => absurd (by decide) q⟩
  | succ d ih =>
    intro n S hn hS hK
    rw [wr] at hK
    refine ⟨fun q => absurd q (by rw [px_lit, nI_leI (by omega) (by omega)]; omega), fun _ => ⟨fun q => ?_, fun q => ?_⟩⟩
    · rw [px_bit (by omega) (by omega)] at q
      rw [q] at hK
      refine ⟨hR h + 1 + 1, besideAny_lp ho hb hS (fun x5 e5 => ?_) (hR h + 1) 0 (by omega)⟩
      rw [px_or, px_and] at e5
      subst e5
      rw [nI_1]
      exact ih (n + 1) _ (by omega) (gr_b h6) hK
    · rw [px_bit (by omega) (by omega)] at q
      have q : S.testBit to = true := by
        cases e : S.testBit to
        · exact absurd e q
        · rfl
      rw [q] at hK
      exact hK
theorem wayIn_lp {h : Gr} (ho : okH h) {s : IA} (hm : mH s h) {o S n : Nat} (h6 : o < 64) (hS : S < 64) {K : Int32 → Prop} {E : Int32 → Int32 → Prop} (hE : E (nI (S ||| (nb h S (hR h + 1) &&& o))) (nI n + 1)) : ∀ d i : Nat, i + d = hR h + 1 → wp_X11_wayOf_37 (nI o) s E K (d + 1) (nI S) (nI n) (nI (S ||| (nb h S i &&& o))) (nI i) := by
  have h5 := ho.1.1
  have e0 : s (0 : Int32).toNatClampNeg = nI (hR h + 1) := hm.1
  intro d
  induction d with
  | zero =>
    intro i hi
    have e : i = hR h + 1 := by omega
    subst e
    exact ⟨fun _ => hE, fun q => absurd (by rw [e0]; exact nI_le (Nat.le_refl _) (by omega)) q⟩
  | succ d ih =>
    intro i hi
    have nxt := ih (i + 1) (by omega)
    rw [nb] at nxt
    refine ⟨fun q => absurd q (by rw [e0, nI_leI (by omega) (by omega)]; omega), fun _ => ⟨fun q => ?_, fun q => ?_⟩⟩
    · rw [px_bit1 (by omega) (by omega)] at q
      rw [q] at nxt
      refine besideOf_sp ho hm (by omega) (fun x6 e6 => ?_)
      rw [px_and, px_or] at e6
      rw [nI_1, e6]
      have e : (S ||| (nb h S i &&& o)) ||| (hB h i &&& o) = S ||| ((nb h S i ||| hB h i) &&& o) := by
        apply tb_ext
        intro j
        rw [tb_or, tb_or, tb_and, tb_and, tb_or, tb_and, tb_or]
        cases S.testBit j <;> cases (nb h S i).testBit j <;> cases (hB h i).testBit j <;> cases o.testBit j <;> rfl
      rw [e]
      exact nxt
    · rw [px_bit1 (by omega) (by omega)] at q
      have q : S.testBit i = false := by
        cases e : S.testBit i
        · rfl
        · exact absurd e q
      rw [q] at nxt
      rw [nI_1]
      simpa using nxt
def subM (S o : Nat) : Prop := ∀ i, S.testBit i = true → o.testBit i = true
theorem gr_sub {h : Gr} {o S : Nat} : subM (gr h o S) o := fun i hi => by
  unfold gr at hi
  rw [tb_and, Bool.and_eq_true] at hi
  exact hi.2
theorem gr_eq {h : Gr} {o S : Nat} (hs : subM S o) : S ||| (nb h S (hR h + 1) &&& o) = gr h o S := by
  apply tb_ext
  intro j
  unfold gr
  rw [tb_or, tb_and, tb_and, tb_or]
  cases e : S.testBit j
  · simp
  · simp [hs j e]
theorem wayOf_lp {h : Gr} (ho : okH h) {s : IA} (hm : mH s h) {o to : Nat} (h6 : o < 64) (ht : to < 6) {K : Int32 → Prop} : ∀ d n S : Nat, n + d = 6 → S < 64 → subM S o → K (wr h o to d n S) → wp_X11_wayOf_10 (nI to) (nI o) s K (d + 1) (nI S) (nI n) := by
  intro d
  induction d with
  | zero =>
    intro n S hn hS _ hK
    have e : n = 6 := by omega
    subst e
    exact ⟨fun _ => hK, fun q => absurd (by decide) q⟩
  | succ d ih =>
    intro n S hn hS hsub hK
    rw [wr] at hK
    refine ⟨fun q => absurd q (by rw [px_lit, nI_leI (by omega) (by omega)]; omega), fun _ => ⟨fun q => ?_, fun q => ?_⟩⟩
    · rw [px_bit1 (by omega) (by omega)] at q
      rw [q] at hK
      exact hK
    · rw [px_bit1 (by omega) (by omega)] at q
      have q : S.testBit to = false := by
        cases e : S.testBit to
        · rfl
        · exact absurd e q
      rw [q] at hK
      have e0 : S ||| (nb h S 0 &&& o) = S := by simp [nb]
      refine ⟨hR h + 1 + 1, ?_⟩
      have := wayIn_lp (n := n) (K := K) (E := fun x4 x5 => wp_X11_wayOf_10 (nI to) (nI o) s K (d + 1) x4 x5) ho hm h6 hS (by
        rw [gr_eq hsub, nI_1]
        exact ih (n + 1) _ (by omega) (gr_b h6) gr_sub hK) (hR h + 1) 0 (by omega)
      rw [e0] at this
      exact this
/-- the room itself, if it is open -/
def one (a o : Nat) : Nat := 2 ^ a &&& o
theorem one_sub (a o : Nat) : subM (one a o) o := fun i hi => by
  unfold one at hi
  rw [tb_and, Bool.and_eq_true] at hi
  exact hi.2
def wy (h : Gr) (o a to : Nat) : Int32 := wr h o to 6 0 (one a o)
theorem wayOf_sp {h : Gr} (ho : okH h) {s : IA} (hm : mH s h) {a o to : Nat} (h6 : o < 64) (ha : a < 6) (ht : to < 6) {K : Int32 → Prop} (hK : K (wy h o a to)) : wp_X11_wayOf (nI a) (nI to) (nI o) s K := by
  intro x4 e4
  rw [px_shl1 _ (by omega), px_and] at e4
  subst e4
  exact ⟨6 + 1, wayOf_lp ho hm h6 ht 6 0 _ (by omega) (Nat.lt_of_le_of_lt Nat.and_le_right h6) (one_sub a o) hK⟩
theorem doorsBetween_sp {h : Gr} (ho : okH h) {beside : IA} (hb : ∀ a, a < 6 → beside a = nI (hB h a)) {a to S : Nat} (ha : a < 6) (ht : to < 6) {K : Int32 → Prop} (hK : K (wy h (nd (allP h) S) a to)) : wp_X1_doorsBetween (nI a) (nI to) (nI S) (nI (hR h)) beside K := by
  have h6 : nd (allP h) S < 64 := Nat.lt_of_le_of_lt (nd_le _ _) (allP_b ho)
  show ∀ x4 : Int32, x4 = _ → _
  intro x4 e4
  rw [everyPlace_eq _ ho.1.1, px_nd] at e4
  subst e4
  intro x5 e5
  rw [px_shl1 _ (by omega), px_and] at e5
  subst e5
  exact ⟨6 + 1, doorsBetween_lp ho hb h6 ht 6 0 _ (by omega) (Nat.lt_of_le_of_lt Nat.and_le_right h6) hK⟩
theorem m_way {x1 x2 x3 : Int32} {cr mr s rr rh hab : IA} {rooms doors needs steps planked : Int32} {work coats beside np : IA} {h p : Gr} {b : Nat → Nat} {k : Nat} (hr : Rref cr mr) (hoh : okH h) (ho : okP h p) (hb : okB b) (hk : okK h k) (hch : cH rooms doors needs work coats beside np h) (hmh : mH s h) (hc : cP steps rr rh p) (hm : mP s p) (hcb : cB hab b) (hmb : mB s b) (hck : planked = nI k) (hmk : s 8 = nI k) : wp_X10_way x1 x2 x3 cr rooms work beside steps rr rh hab planked (fun r cr' => wp_X11_way x1 x2 x3 mr s (fun r' mr' => r = r' ∧ Rref cr' mr')) := by
  obtain ⟨rfl, -, -, hc4, hcB, -⟩ := hch
  obtain ⟨rfl, hc2⟩ := hc
  obtain ⟨m3, m4⟩ := hm
  have m0 := hmh.1
  subst hck
  have h8 := ho.1
  have h5 : hR h ≤ 5 := hoh.1.1
  have e3 : s (3 : Int32).toNatClampNeg = nI (pN p) := m3
  have no27 : ∀ (j : Nat) (x : Int32) (K : Int32 → IA → Prop), j < 7 → -x = nI j → ¬ x = 0 → K x (upd mr j (mr j + 1)) → wp_X11_way_27 x1 x2 x3 s K mr x := fun j x K hj hx h0 hK => ⟨fun q => absurd q h0, fun _ => rf11 j hj hx hK⟩
  rcases hasPlace_sp x1 h5 with ⟨a, ha, rfl, hca, hma⟩ | ⟨hca, hma⟩
  · refine hca _ ⟨fun q => absurd q px_01, fun _ => ?_⟩
    rcases hasPlace_sp x2 h5 with ⟨c, hc, rfl, hca2, hma2⟩ | ⟨hca2, hma2⟩
    · refine hca2 _ ⟨fun q => absurd q px_01, fun _ => ?_⟩
      rcases refHour_sp x3 with ⟨v, hv, rfl, hcw, hmw⟩ | ⟨hcw, hmw⟩ | ⟨hcw, hmw⟩
      · refine hcw _ ⟨fun _ => ?_, fun q => absurd rfl q⟩
        refine shutBy_sp hoh hb (fun r a b => (hc4 r a b).1) hcb (hk.b hoh) (by omega) (Nat.le_refl _) h8 (fun i hi => ⟨(ho.up i hi).1, by have := (ho.up i hi).2; omega, hc2 i hi⟩) ?_
        refine doorsBetween_sp hoh hcB (by omega) (by omega) ?_
        refine hma s _ m0 ⟨fun q => absurd q px_01, fun _ => hma2 s _ m0 ⟨fun q => absurd q px_01, fun _ => hmw _ ⟨fun _ => ?_, fun q => absurd rfl q⟩⟩⟩
        rw [e3]
        refine openAt_sp hoh hb hmh hmb hmk (hk.b hoh) (by omega) h8 m4 (fun i hi => ⟨(ho.up i hi).1, by have := (ho.up i hi).2; omega⟩) ?_
        exact wayOf_sp hoh hmh (opn_b hoh) (by omega) (by omega) ⟨rfl, hr⟩
      · exact hcw _ ⟨fun q => absurd q (by decide), fun _ => rf10 4 (by decide) (by decide) (hma s _ m0 ⟨fun q => absurd q px_01, fun _ => hma2 s _ m0 ⟨fun q => absurd q px_01, fun _ => hmw _ (no27 4 _ _ (by decide) (by decide) (by decide) ⟨rfl, hr.up 4 (by decide)⟩)⟩⟩)⟩
      · exact hcw _ ⟨fun q => absurd q (by decide), fun _ => rf10 6 (by decide) (by decide) (hma s _ m0 ⟨fun q => absurd q px_01, fun _ => hma2 s _ m0 ⟨fun q => absurd q px_01, fun _ => hmw _ (no27 6 _ _ (by decide) (by decide) (by decide) ⟨rfl, hr.up 6 (by decide)⟩)⟩⟩)⟩
    · exact hca2 _ ⟨fun _ => rf10 1 (by decide) (by decide) (hma s _ m0 ⟨fun q => absurd q px_01, fun _ => hma2 s _ m0 ⟨fun _ => no27 1 _ _ (by decide) (by decide) (by decide) ⟨rfl, hr.up 1 (by decide)⟩, fun q => absurd rfl q⟩⟩), fun q => absurd rfl q⟩
  · exact hca _ ⟨fun _ => rf10 1 (by decide) (by decide) (hma s _ m0 ⟨fun _ => no27 1 _ _ (by decide) (by decide) (by decide) ⟨rfl, hr.up 1 (by decide)⟩, fun q => absurd rfl q⟩), fun q => absurd rfl q⟩
