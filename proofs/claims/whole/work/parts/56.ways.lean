/-! PURE PART: coats in all, count, done, free; who is beside whom, where he goes out, how many doors -/
def cS (h : Gr) : Nat → Nat
  | 0 => 0
  | n + 1 => cS h n + hC h (n + 1)
theorem cS_b {h : Gr} (ho : okH h) : ∀ n, n ≤ hR h → cS h n ≤ 2 * n
  | 0, _ => by simp [cS]
  | n + 1, hn => by
    rw [cS]
    have := cS_b ho n (by omega)
    have := (ho.2.1 (n + 1) (by omega) hn).2
    omega
theorem coats10_lp {h : Gr} (ho : okH h) {coats : IA} (hc : ∀ r, 1 ≤ r → r ≤ hR h → coats r = nI (hC h r)) {K : Int32 → Prop} (hK : K (nI (cS h (hR h)))) : ∀ d i : Nat, i + d = hR h → wp_X1_coatsInAll_4 (nI (hR h)) coats K (d + 1) (nI (cS h i)) (nI (i + 1)) := by
  have h5 := ho.1.1
  intro d
  induction d with
  | zero =>
    intro i hi
    have e : i = hR h := by omega
    subst e
    exact ⟨fun _ => hK, fun q => absurd (nI_lt (by omega) (by omega)) q⟩
  | succ d ih =>
    intro i hi
    refine ⟨fun q => absurd q (by rw [nI_ltI (by omega) (by omega)]; omega), fun _ => ⟨px_in (by omega) (by decide), fun x1 e1 => ?_⟩⟩
    rw [px_cl (by omega), hc _ (by omega) (by omega), nI_add] at e1
    subst e1
    rw [nI_1]
    exact ih (i + 1) (by omega)
theorem coats10_sp {h : Gr} (ho : okH h) {coats : IA} (hc : ∀ r, 1 ≤ r → r ≤ hR h → coats r = nI (hC h r)) {K : Int32 → Prop} (hK : K (nI (cS h (hR h)))) : wp_X1_coatsInAll (nI (hR h)) coats K := ⟨hR h + 1, coats10_lp ho hc hK (hR h) 0 (by omega)⟩
theorem coats11_lp {h : Gr} (ho : okH h) {s : IA} (hm : mH s h) {K : Int32 → Prop} (hK : K (nI (cS h (hR h)))) : ∀ d i : Nat, i + d = hR h → wp_X11_coatsInAll_4 s K (d + 1) (nI (cS h i)) (nI (i + 1)) := by
  have h5 := ho.1.1
  have e0 : s (0 : Int32).toNatClampNeg = nI (hR h + 1) := hm.1
  intro d
  induction d with
  | zero =>
    intro i hi
    have e : i = hR h := by omega
    subst e
    exact ⟨fun _ => hK, fun q => absurd (by rw [e0]; exact nI_le (Nat.le_refl _) (by omega)) q⟩
  | succ d ih =>
    intro i hi
    refine ⟨fun q => absurd q (by rw [e0, nI_leI (by omega) (by omega)]; omega), fun _ => ?_⟩
    rw [show (15 : Int32) = nI 15 from rfl, nI_add, px_cl (by omega), (hm.2.2.2.1 (i + 1) (by omega) (by omega)).2, nI_add, nI_1]
    refine ⟨px_in (by omega) (by decide), fun x1 e1 => ?_⟩
    subst e1
    exact ih (i + 1) (by omega)
theorem coats11_sp {h : Gr} (ho : okH h) {s : IA} (hm : mH s h) {K : Int32 → Prop} (hK : K (nI (cS h (hR h)))) : wp_X11_coatsInAll s K := ⟨hR h + 1, coats11_lp ho hm hK (hR h) 0 (by omega)⟩
theorem m_count {x1 : Int32} {cr mr s tb mt rr rh : IA} {tl ml rooms doors needs steps : Int32} {work coats beside np : IA} {h p : Gr} (hr : Rref cr mr) (ht : Rtape tb tl mt ml) (ho : okH h) (hc : cH rooms doors needs work coats beside np h) (hm : mH s h) (hcp : cP steps rr rh p) (hmp : mP s p) : wp_X10_count x1 cr tl rooms doors needs coats steps (fun r => wp_X11_count x1 mr s ml (fun r' => r = r')) := by
  obtain ⟨n, hn, rfl, rfl, -⟩ := ht
  obtain ⟨rfl, rfl, rfl, hc4, -, -⟩ := hc
  obtain ⟨rfl, -⟩ := hcp
  have h5 := ho.1.1
  have mc : ∀ K : Int32 → Prop, x1 ≤ (10 : Int32) → wp_X11_count_22 x1 s (nI n) K → wp_X11_count x1 mr s (nI n) K := fun K h1 h2 => ⟨fun _ => h2, fun q => absurd h1 q⟩
  have e0 : s (0 : Int32).toNatClampNeg - (1 : Int32) = nI (hR h) := by
    show s 0 - (1 : Int32) = _
    rw [hm.1, px_lit, pk_sub (by omega)]; rfl
  refine ⟨fun e => ?_, fun q0 => ⟨fun e => ?_, fun q1 => ⟨fun e => ?_, fun q2 => ⟨fun e => ?_, fun q3 => ⟨fun e => ?_, fun q4 => ⟨fun e => ?_, fun q5 => ?_⟩⟩⟩⟩⟩⟩
  · subst e; exact mc _ (by decide) ⟨fun _ => e0.symm, fun q => absurd rfl q⟩
  · subst e; exact mc _ (by decide) ⟨fun q => absurd q (by decide), fun _ => ⟨fun _ => ⟨px_in (k := 1) (by decide) (by decide), hm.2.1.symm⟩, fun q => absurd rfl q⟩⟩
  · subst e; exact mc _ (by decide) ⟨fun q => absurd q (by decide), fun _ => ⟨fun q => absurd q (by decide), fun _ => ⟨fun _ => ⟨px_in (k := 2) (by decide) (by decide), hm.2.2.1.symm⟩, fun q => absurd rfl q⟩⟩⟩
  · subst e; exact mc _ (by decide) ⟨fun q => absurd q (by decide), fun _ => ⟨fun q => absurd q (by decide), fun _ => ⟨fun q => absurd q (by decide), fun _ => ⟨fun _ => ⟨px_in (k := 3) (by decide) (by decide), hmp.1.symm⟩, fun q => absurd rfl q⟩⟩⟩⟩
  · subst e
    refine coats10_sp ho (fun r a b => (hc4 r a b).2) (mc _ (by decide) ⟨fun q => absurd q (by decide), fun _ => ⟨fun q => absurd q (by decide), fun _ => ⟨fun q => absurd q (by decide), fun _ => ⟨fun q => absurd q (by decide), fun _ => ⟨fun _ => coats11_sp ho hm rfl, fun q => absurd rfl q⟩⟩⟩⟩⟩)
  · subst e; exact mc _ (by decide) ⟨fun q => absurd q (by decide), fun _ => ⟨fun q => absurd q (by decide), fun _ => ⟨fun q => absurd q (by decide), fun _ => ⟨fun q => absurd q (by decide), fun _ => ⟨fun q => absurd q (by decide), fun _ => ⟨fun _ => rfl, fun q => absurd rfl q⟩⟩⟩⟩⟩⟩
  · have other : wp_X11_count_22 x1 s (nI n) (fun r' => (-9 : Int32) = r') := ⟨fun q => absurd q q0, fun _ => ⟨fun q => absurd q q1, fun _ => ⟨fun q => absurd q q2, fun _ => ⟨fun q => absurd q q3, fun _ => ⟨fun q => absurd q q4, fun _ => ⟨fun q => absurd q q5, fun _ => rfl⟩⟩⟩⟩⟩⟩
    rcases px_cases x1 17 (by decide) with hx | ⟨v, hv, rfl⟩ | ⟨v, hv, hv2, rfl⟩
    · exact ⟨fun _ => mc _ (px_neg_le (k := 10) hx (by decide)) other, fun q => absurd (px_neg_lt (k := 11) hx (by decide)) q⟩
    · by_cases h11 : v < 11
      · exact ⟨fun _ => mc _ (by rw [px_lit, nI_leI (by omega) (by omega)]; omega) other, fun q => absurd (by rw [px_lit, nI_ltI (by omega) (by omega)]; omega) q⟩
      · refine ⟨fun q => absurd q (by rw [px_lit, nI_ltI (by omega) (by omega)]; omega), fun _ => ⟨fun q => absurd q (by rw [px_lit, nI_ltI (by omega) (by omega)]; omega), fun _ => ?_⟩⟩
        have e : nI v - (10 : Int32) = nI (v - 10) := by rw [px_lit, pk_sub (by omega)]
        rw [e, px_cl (by omega)]
        refine ⟨px_in (by omega) (by decide), fun q => absurd q (by rw [px_lit, nI_leI (by omega) (by omega)]; omega), fun _ => ⟨fun q => absurd q (by rw [px_lit, nI_leI (by omega) (by omega)]; omega), fun _ => ?_⟩⟩
        rw [e, px_cl (by omega)]
        exact ⟨px_in (by omega) (by decide), hr _ (by omega)⟩
    · refine ⟨fun q => absurd q (by rw [px_lit, nI_ltI (by omega) (by omega)]; omega), fun _ => ⟨fun _ => ?_, fun q => absurd (by rw [px_lit, nI_ltI (by omega) (by omega)]; omega) q⟩⟩
      exact ⟨fun q => absurd q (by rw [px_lit, nI_leI (by omega) (by omega)]; omega), fun _ => ⟨fun _ => other, fun q => absurd (by rw [px_lit, nI_leI (by omega) (by omega)]; omega) q⟩⟩
theorem m_done {s rr rh hab : IA} {rooms doors needs steps : Int32} {work coats beside np : IA} {h p : Gr} {b : Nat → Nat} (hoh : okH h) (ho : okP h p) (hb : okB b) (hch : cH rooms doors needs work coats beside np h) (hmh : mH s h) (hc : cP steps rr rh p) (hm : mP s p) (hcb : cB hab b) (hmb : mB s b) : wp_X10_done work steps rr rh hab (fun r => wp_X11_done s (fun r' => r = r')) := by
  obtain ⟨-, -, -, hc4, -, -⟩ := hch
  obtain ⟨rfl, hc2⟩ := hc
  obtain ⟨m3, m4⟩ := hm
  have h8 := ho.1
  have e3 : s (3 : Int32).toNatClampNeg = nI (pN p) := m3
  by_cases h0 : pN p = 0
  · have e0 : nI (pN p) = 0 := by rw [h0]; rfl
    refine ⟨fun _ => ⟨fun _ => rfl, fun q => absurd (by rw [e3, e0]) q⟩, fun q => absurd e0 q⟩
  · have n0 : ¬ nI (pN p) = 0 := nI_ne0 (by omega) (by omega)
    obtain ⟨o1, o2, o3⟩ := ho.2 (pN p - 1) (by omega)
    have e : nI (pN p) - (1 : Int32) = nI (pN p - 1) := by rw [px_lit, pk_sub (by omega)]
    refine ⟨fun q => absurd q n0, fun _ => ?_⟩
    rw [e]
    refine doneHour_sp hoh hb (fun r a b => (hc4 r a b).1) hcb (by omega) (hc2 _ (by omega)).1 (hc2 _ (by omega)).2 o1 o2 ⟨fun q => absurd q (by rw [e3]; exact n0), fun _ => ?_⟩
    rw [e3, e]
    exact endOf_sp hoh hb hmh hmb m4 (by omega) h8 o1 o2 rfl
theorem okK.b {h : Gr} {k : Nat} (ho : okH h) (hk : okK h k) : k < 64 := by
  apply Nat.lt_of_not_le
  intro hge
  obtain ⟨i, hi, hb⟩ := Nat.exists_ge_and_testBit_of_ge_two_pow (n := 6) hge
  have := hk i hb
  have := ho.1.1
  omega
theorem m_free {x1 : Int32} {cr mr s rr rh hab : IA} {rooms doors needs steps planked : Int32} {work coats beside np : IA} {h p : Gr} {b : Nat → Nat} {k : Nat} (hr : Rref cr mr) (hoh : okH h) (ho : okP h p) (hb : okB b) (hk : okK h k) (hch : cH rooms doors needs work coats beside np h) (hmh : mH s h) (hc : cP steps rr rh p) (hm : mP s p) (hcb : cB hab b) (hmb : mB s b) (hck : planked = nI k) (hmk : s 8 = nI k) : wp_X10_free x1 cr rooms work steps rr rh hab planked (fun r cr' => wp_X11_free x1 mr s (fun r' mr' => r = r' ∧ Rref cr' mr')) := by
  obtain ⟨rfl, -, -, hc4, -, -⟩ := hch
  obtain ⟨rfl, hc2⟩ := hc
  obtain ⟨m3, m4⟩ := hm
  subst hck
  have h8 := ho.1
  have e3 : s (3 : Int32).toNatClampNeg = nI (pN p) := m3
  rcases refHour_sp x1 with ⟨v, hv, rfl, hcw, hmw⟩ | ⟨hcw, hmw⟩ | ⟨hcw, hmw⟩
  · refine hcw _ ⟨fun _ => ?_, fun q => absurd rfl q⟩
    show wp_X6_shutBy _ _ _ _ _ _ _ _ _
    refine shutBy_sp hoh hb (fun r a b => (hc4 r a b).1) hcb (hk.b hoh) (by omega) (Nat.le_refl _) h8 (fun i hi => ⟨⟨(ho.2 i hi).1, (ho.2 i hi).2.1⟩, by have := (ho.2 i hi).2.2; omega, hc2 i hi⟩) ?_
    rw [everyPlace_eq _ hoh.1.1, px_nd]
    refine hmw _ ⟨fun _ => ?_, fun q => absurd rfl q⟩
    rw [e3]
    exact openAt_sp hoh hb hmh hmb hmk (hk.b hoh) (by omega) h8 m4 (fun i hi => ⟨⟨(ho.2 i hi).1, (ho.2 i hi).2.1⟩, by have := (ho.2 i hi).2.2; omega⟩) ⟨rfl, hr⟩
  · exact hcw _ ⟨fun q => absurd q (by decide), fun _ => rf10 4 (by decide) (by decide) (hmw _ ⟨fun q => absurd q (by decide), fun _ => rf11 4 (by decide) (by decide) ⟨rfl, hr.up 4 (by decide)⟩⟩)⟩
  · exact hcw _ ⟨fun q => absurd q (by decide), fun _ => rf10 6 (by decide) (by decide) (hmw _ ⟨fun q => absurd q (by decide), fun _ => rf11 6 (by decide) (by decide) ⟨rfl, hr.up 6 (by decide)⟩⟩)⟩
/-! who is beside a room -/
def bS (h : Gr) (a : Nat) : Nat → Nat
  | 0 => 0
  | k + 1 => (bS h a k ||| if hL h (2 * k) = a then 2 ^ hL h (2 * k + 1) else 0) ||| if hL h (2 * k + 1) = a then 2 ^ hL h (2 * k) else 0
theorem bS_tb {h : Gr} {a i : Nat} : ∀ n, (bS h a n).testBit i = true ↔ ∃ k, k < n ∧ ((hL h (2 * k) = a ∧ hL h (2 * k + 1) = i) ∨ (hL h (2 * k) = i ∧ hL h (2 * k + 1) = a))
  | 0 => by simp [bS]
  | n + 1 => by
    rw [bS, tb_or, tb_or, Bool.or_eq_true, Bool.or_eq_true, bS_tb n]
    constructor
    · rintro ((⟨k, h1, h2⟩ | h1) | h1)
      · exact ⟨k, by omega, h2⟩
      · split at h1
        · rename_i hc
          rw [tb_pow] at h1
          exact ⟨n, by omega, Or.inl ⟨hc, by simpa using h1⟩⟩
        · simp at h1
      · split at h1
        · rename_i hc
          rw [tb_pow] at h1
          exact ⟨n, by omega, Or.inr ⟨by simpa using h1, hc⟩⟩
        · simp at h1
    · rintro ⟨k, h1, h2⟩
      by_cases e : k = n
      · subst e
        rcases h2 with ⟨h2, h3⟩ | ⟨h2, h3⟩
        · left; right; rw [if_pos h2, tb_pow]; simp [h3]
        · right; rw [if_pos h3, tb_pow]; simp [h2]
      · exact Or.inl (Or.inl ⟨k, by omega, h2⟩)
theorem bS_eq {h : Gr} (ho : okH h) {a : Nat} (ha : a < 6) : bS h a (hD h) = hB h a := by
  apply tb_ext
  intro i
  have h1 := bS_tb (h := h) (a := a) (i := i) (hD h)
  have h2 := ho.2.2.2.1 a ha i
  cases e : (hB h a).testBit i
  · cases e2 : (bS h a (hD h)).testBit i
    · rfl
    · rw [h2.mpr (h1.mp e2)] at e; cases e
  · exact h1.mpr (h2.mp e)
theorem bS_b {h : Gr} (ho : okH h) (a : Nat) : ∀ n, n ≤ hD h → bS h a n < 64
  | 0, _ => by simp [bS]
  | n + 1, hn => by
    rw [bS]
    have h5 := ho.1.1
    have := bS_b ho a n (by omega)
    have hl := ho.2.2.1 n (by omega)
    refine or_lt (n := 6) (or_lt (n := 6) this ?_) ?_
    · split
      · exact Nat.pow_lt_pow_right (by decide) (by omega)
      · decide
    · split
      · exact Nat.pow_lt_pow_right (by decide) (by omega)
      · decide
theorem besideOf_lp {h : Gr} (ho : okH h) {s : IA} (hm : mH s h) {a : Nat} (ha : a < 6) {K : Int32 → Prop} (hK : K (nI (hB h a))) : ∀ d i : Nat, i + d = hD h → wp_X11_besideOf_4 (nI a) s K (d + 1) (nI (bS h a i)) (nI i) := by
  have h12 := ho.1.2.1
  have h5 := ho.1.1
  have e1 : s (1 : Int32).toNatClampNeg = nI (hD h) := hm.2.1
  intro d
  induction d with
  | zero =>
    intro i hi
    have e : i = hD h := by omega
    subst e
    refine ⟨fun _ => by rw [bS_eq ho ha]; exact hK, fun q => absurd (by rw [e1]; exact nI_le (Nat.le_refl _) (by omega)) q⟩
  | succ d ih =>
    intro i hi
    have f1 : s (21 + 2 * i) = nI (hL h (2 * i)) := hm.2.2.2.2.1 _ (by omega)
    have f2 : s (21 + 2 * i + 1) = nI (hL h (2 * i + 1)) := hm.2.2.2.2.1 (2 * i + 1) (by omega)
    have g1 : ((21 : Int32) + ((2 : Int32) * nI i)) = nI (21 + 2 * i) := by rw [px_lit, px_lit, pk_mul, nI_add]
    have g2 : ((21 : Int32) + ((2 : Int32) * nI i)) + (1 : Int32) = nI (21 + 2 * i + 1) := by rw [g1, nI_1]
    have hl := ho.2.2.1 i (by omega)
    have nxt := ih (i + 1) (by omega)
    rw [bS] at nxt
    have tail : ∀ X : Nat, X = (bS h a i ||| if hL h (2 * i) = a then 2 ^ hL h (2 * i + 1) else 0) → wp_X11_besideOf_47 (nI a) s (fun x2 x3 => wp_X11_besideOf_4 (nI a) s K (d + 1) x2 x3) K (nI X) (nI i) := by
      intro X hX
      subst hX
      unfold wp_X11_besideOf_47
      rw [g2, g1, px_cl (k := 21 + 2 * i + 1) (by omega), px_cl (k := 21 + 2 * i) (by omega), f1, f2, nI_1, px_shl1 _ (by omega)]
      refine ⟨px_in (by omega) (by decide), fun q => ⟨px_in (by omega) (by decide), fun x2 e2 => ?_⟩, fun q => ?_⟩
      · rw [nI_eq (by omega) (by omega)] at q
        rw [if_pos q] at nxt
        rw [e2, px_or]
        exact nxt
      · rw [nI_eq (by omega) (by omega)] at q
        rw [if_neg q, Nat.or_zero] at nxt
        exact nxt
    refine ⟨fun q => absurd q (by rw [e1, nI_leI (by omega) (by omega)]; omega), fun _ => ?_⟩
    rw [g2, g1, px_cl (k := 21 + 2 * i + 1) (by omega), px_cl (k := 21 + 2 * i) (by omega), f1, f2, px_shl1 _ (by omega)]
    refine ⟨px_in (by omega) (by decide), fun q => ⟨px_in (by omega) (by decide), fun x2 e2 => ?_⟩, fun q => ?_⟩
    · rw [nI_eq (by omega) (by omega)] at q
      rw [e2, px_or]
      exact tail _ (by rw [if_pos q])
    · rw [nI_eq (by omega) (by omega)] at q
      exact tail _ (by rw [if_neg q, Nat.or_zero])
theorem besideOf_sp {h : Gr} (ho : okH h) {s : IA} (hm : mH s h) {a : Nat} (ha : a < 6) {K : Int32 → Prop} (hK : K (nI (hB h a))) : wp_X11_besideOf (nI a) s K := ⟨hD h + 1, besideOf_lp ho hm ha hK (hD h) 0 (by omega)⟩
