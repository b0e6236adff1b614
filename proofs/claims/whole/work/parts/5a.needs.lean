/-! PURE PART: needs at an hour, those that are met, the first hour at which one fails; cuts -/
def nA (h : Gr) (t : Nat) : Nat → Nat
  | 0 => 0
  | i + 1 => nA h t i ||| if hP h (4 * i + 2) ≤ t ∧ t ≤ hP h (4 * i + 3) then 2 ^ i else 0
def mt (h : Gr) (o : Nat) : Nat → Nat
  | 0 => 0
  | i + 1 => mt h o i ||| if rc h o (hP h (4 * i)) (hP h (4 * i + 1)) then 2 ^ i else 0
theorem nA_b {h : Gr} {t : Nat} : ∀ n, n ≤ 8 → nA h t n < 256
  | 0, _ => by simp [nA]
  | n + 1, hn => by
    rw [nA]
    refine or_lt (n := 8) (nA_b n (by omega)) ?_
    split
    · exact Nat.pow_lt_pow_right (by decide) (by omega)
    · decide
theorem nA_hi {h : Gr} {t i : Nat} : ∀ n, n ≤ i → (nA h t n).testBit i = false
  | 0, _ => by simp [nA]
  | n + 1, hn => by
    rw [nA, tb_or, nA_hi n (by omega)]
    split
    · rw [tb_pow]; simp; omega
    · simp
theorem mt_tb {h : Gr} {o i : Nat} : ∀ n, (mt h o n).testBit i = (decide (i < n) && rc h o (hP h (4 * i)) (hP h (4 * i + 1)))
  | 0 => by simp [mt]
  | n + 1 => by
    rw [mt, tb_or, mt_tb n]
    by_cases e : i = n
    · subst e
      split
      · rename_i hh; rw [tb_pow]; simp [hh]
      · rename_i hh; simp [hh]
    · have e1 : decide (i < n + 1) = decide (i < n) := by
        apply decide_eq_decide.mpr; omega
      rw [e1]
      split
      · rw [tb_pow]; simp [show ¬ n = i by omega]
      · simp
def fl (h : Gr) (b : Nat → Nat) (k : Nat) (p : Gr) (t n : Nat) : Nat := nA h t (hN h) &&& bar h (opn h b k p t n) (hN h)
theorem fl_eq {h : Gr} (ho : okH h) {b : Nat → Nat} {k : Nat} {p : Gr} {t n : Nat} : nd (nA h t (hN h)) (mt h (opn h b k p t n) (hN h)) = fl h b k p t n := by
  have h8 := ho.1.2.2
  have := nA_b (h := h) (t := t) (hN h) h8
  apply tb_ext
  intro i
  unfold fl
  rw [nd_tb (by omega), tb_and, mt_tb, bar_tb]
  by_cases hi : i < hN h
  · simp [hi]
  · rw [nA_hi _ (by omega)]; simp
theorem fl_b {h : Gr} (ho : okH h) {b : Nat → Nat} {k : Nat} {p : Gr} {t n : Nat} : fl h b k p t n < 256 := Nat.lt_of_le_of_lt Nat.and_le_left (nA_b _ ho.1.2.2)
theorem needPart_g (i j : Nat) : (nI i * (4 : Int32)) + nI j = nI (4 * i + j) := by rw [px_lit, pk_mul, nI_add, Nat.mul_comm]
theorem needPart_sp {h : Gr} (ho : okH h) {np : IA} (hnp : ∀ k, k < 4 * hN h → np k = nI (hP h k)) {i j : Nat} (hi : i < hN h) (hj : j < 4) {K : Int32 → Prop} (hK : K (nI (hP h (4 * i + j)))) : wp_X1_needPart (nI i) (nI j) np K := by
  have h8 := ho.1.2.2
  unfold wp_X1_needPart
  rw [needPart_g, px_cl (by omega), hnp _ (by omega)]
  exact ⟨px_in (by omega) (by decide), hK⟩
theorem needsAt3_lp {h : Gr} (ho : okH h) {np : IA} (hnp : ∀ k, k < 4 * hN h → np k = nI (hP h k)) {t : Nat} (ht : t < 1000) {K : Int32 → Prop} (hK : K (nI (nA h t (hN h)))) : ∀ d i : Nat, i + d = hN h → wp_X3_needsAt_4 (nI t) (nI (hN h)) np K (d + 1) (nI (nA h t i)) (nI i) := by
  have h8 := ho.1.2.2
  intro d
  induction d with
  | zero =>
    intro i hi
    have e : i = hN h := by omega
    subst e
    exact ⟨fun _ => hK, fun q => absurd (nI_le (Nat.le_refl _) (by omega)) q⟩
  | succ d ih =>
    intro i hi
    obtain ⟨-, -, -, p3, p4⟩ := ho.2.2.2.2 i (by omega)
    have nxt := ih (i + 1) (by omega)
    rw [nA] at nxt
    refine ⟨fun q => absurd q (by rw [nI_leI (by omega) (by omega)]; omega), fun _ => needPart_sp ho hnp (j := 2) (by omega) (by decide) ⟨fun q => ?_, fun q => needPart_sp ho hnp (j := 3) (by omega) (by decide) ⟨fun q2 => ?_, fun q2 => fun x2 e2 => ?_⟩⟩⟩
    · rw [nI_ltI (by omega) (by omega)] at q
      rw [if_neg (by omega), Nat.or_zero] at nxt
      rw [nI_1]; exact nxt
    · rw [nI_ltI (by omega) (by omega)] at q2
      rw [if_neg (by omega), Nat.or_zero] at nxt
      rw [nI_1]; exact nxt
    · rw [nI_ltI (by omega) (by omega)] at q q2
      rw [if_pos (by omega)] at nxt
      rw [nI_1, e2, px_shl1 _ (by omega), px_or]; exact nxt
theorem needsAt3_sp {h : Gr} (ho : okH h) {np : IA} (hnp : ∀ k, k < 4 * hN h → np k = nI (hP h k)) {t : Nat} (ht : t < 1000) {K : Int32 → Prop} (hK : K (nI (nA h t (hN h)))) : wp_X3_needsAt (nI t) (nI (hN h)) np K := ⟨hN h + 1, needsAt3_lp ho hnp ht hK (hN h) 0 (by omega)⟩
theorem mneed_g (i j : Nat) : ((45 : Int32) + ((4 : Int32) * nI i)) + nI j = nI (45 + (4 * i + j)) := by rw [px_lit, px_lit, pk_mul, nI_add, nI_add, Nat.add_assoc]
theorem mneed_g0 (i : Nat) : ((45 : Int32) + ((4 : Int32) * nI i)) = nI (45 + 4 * i) := by rw [px_lit, px_lit, pk_mul, nI_add]
theorem needsAt11_lp {h : Gr} (ho : okH h) {s : IA} (hm : mH s h) {t : Nat} (ht : t < 1000) {K : Int32 → Prop} (hK : K (nI (nA h t (hN h)))) : ∀ d i : Nat, i + d = hN h → wp_X11_needsAt_4 (nI t) s K (d + 1) (nI (nA h t i)) (nI i) := by
  have h8 := ho.1.2.2
  have e2 : s (2 : Int32).toNatClampNeg = nI (hN h) := hm.2.2.1
  intro d
  induction d with
  | zero =>
    intro i hi
    have e : i = hN h := by omega
    subst e
    exact ⟨fun _ => hK, fun q => absurd (by rw [e2]; exact nI_le (Nat.le_refl _) (by omega)) q⟩
  | succ d ih =>
    intro i hi
    obtain ⟨-, -, -, p3, p4⟩ := ho.2.2.2.2 i (by omega)
    have nxt := ih (i + 1) (by omega)
    rw [nA] at nxt
    refine ⟨fun q => absurd q (by rw [e2, nI_leI (by omega) (by omega)]; omega), fun _ => ?_⟩
    rw [show (2 : Int32) = nI 2 from rfl, show (3 : Int32) = nI 3 from rfl, mneed_g, mneed_g, px_cl (k := 45 + (4 * i + 2)) (by omega), px_cl (k := 45 + (4 * i + 3)) (by omega), hm.2.2.2.2.2 (4 * i + 2) (by omega), hm.2.2.2.2.2 (4 * i + 3) (by omega), nI_1, px_shl1 _ (by omega)]
    refine ⟨px_in (by omega) (by decide), fun q => fun x2 e3 => ?_, fun q => ⟨px_in (by omega) (by decide), fun q2 => fun x2 e3 => ?_, fun q2 => fun x2 e3 => ?_⟩⟩
    · rw [nI_ltI (by omega) (by omega)] at q
      rw [if_neg (by omega), Nat.or_zero] at nxt
      rw [e3, show (0 : Int32) = nI 0 from rfl, px_or, Nat.or_zero]; exact nxt
    · rw [nI_ltI (by omega) (by omega)] at q2
      rw [if_neg (by omega), Nat.or_zero] at nxt
      rw [e3, show (0 : Int32) = nI 0 from rfl, px_or, Nat.or_zero]; exact nxt
    · rw [nI_ltI (by omega) (by omega)] at q q2
      rw [if_pos (by omega)] at nxt
      rw [e3, px_or]; exact nxt
theorem needsAt11_sp {h : Gr} (ho : okH h) {s : IA} (hm : mH s h) {t : Nat} (ht : t < 1000) {K : Int32 → Prop} (hK : K (nI (nA h t (hN h)))) : wp_X11_needsAt (nI t) s K := ⟨hN h + 1, needsAt11_lp ho hm ht hK (hN h) 0 (by omega)⟩
def metOK (h : Gr) (met : IA) (n : Nat) : Prop := ∀ o, o < n → met o = nI (mt h o (hN h))
theorem findIn_lp {h : Gr} (ho : okH h) {s : IA} (hm : mH s h) {o : Nat} (h6 : o < 64) {v0 : IA} {K : IA → Prop} {E : Int32 → IA → Prop} (hE : ∀ v : IA, v o = nI (mt h o (hN h)) → (∀ j, j ≠ o → v j = v0 j) → E (nI (o + 1)) v) : ∀ (d i : Nat) (v : IA), i + d = hN h → v o = nI (mt h o i) → (∀ j, j ≠ o → v j = v0 j) → wp_X11_findMet_17 s E K (d + 1) (nI o) (nI i) v := by
  have h8 := ho.1.2.2
  have h5 := ho.1.1
  have e2 : s (2 : Int32).toNatClampNeg = nI (hN h) := hm.2.2.1
  intro d
  induction d with
  | zero =>
    intro i v hi h1 h2
    have e : i = hN h := by omega
    subst e
    refine ⟨fun _ => ?_, fun q => absurd (by rw [e2]; exact nI_le (Nat.le_refl _) (by omega)) q⟩
    rw [nI_1]; exact hE v h1 h2
  | succ d ih =>
    intro i v hi h1 h2
    obtain ⟨p1, p2, -, -, -⟩ := ho.2.2.2.2 i (by omega)
    have stepv : ∀ x : Int32, x = nI (mt h o (i + 1)) → wp_X11_findMet_17 s E K (d + 1) (nI o) (nI (i + 1)) (upd v o x) := by
      intro x hx
      exact ih (i + 1) _ (by omega) (by rw [up_s]; exact hx) (fun j hj => by rw [up_n hj]; exact h2 j hj)
    refine ⟨fun q => absurd q (by rw [e2, nI_leI (by omega) (by omega)]; omega), fun _ => ?_⟩
    have f1 : s ((45 : Int32) + ((4 : Int32) * nI i)).toNatClampNeg = nI (hP h (4 * i)) := by rw [mneed_g0, px_cl (by omega)]; exact hm.2.2.2.2.2 _ (by omega)
    have f2 : s (((45 : Int32) + ((4 : Int32) * nI i)) + (1 : Int32)).toNatClampNeg = nI (hP h (4 * i + 1)) := by rw [show (1 : Int32) = nI 1 from rfl, mneed_g, px_cl (by omega)]; exact hm.2.2.2.2.2 _ (by omega)
    refine ⟨px_in h6 (by decide), by rw [mneed_g0]; exact px_in (by omega) (by decide), by rw [show (1 : Int32) = nI 1 from rfl, mneed_g]; exact px_in (by omega) (by decide), ?_⟩
    rw [f1, f2, px_cl (by omega), h1, nI_1]
    refine comesTo_sp ho hm h6 (by omega) (by omega) (fun hb => ⟨fun q => absurd q px_01, fun _ => stepv _ ?_⟩) (fun hb => ⟨fun _ => stepv _ ?_, fun q => absurd rfl q⟩)
    · rw [mt, hb, px_shl1 _ (by omega), px_or]; rfl
    · rw [mt, hb, show (0 : Int32) = nI 0 from rfl, px_or]; rfl
theorem findMet_lp {h : Gr} (ho : okH h) {s : IA} (hm : mH s h) {K : IA → Prop} (hK : ∀ v : IA, metOK h v 64 → K v) : ∀ (d o : Nat) (v : IA), o + d = 64 → metOK h v o → wp_X11_findMet_2 s K (d + 1) (nI o) v := by
  intro d
  induction d with
  | zero =>
    intro o v ho2 h1
    have e : o = 64 := by omega
    subst e
    exact ⟨fun _ => hK v h1, fun q => absurd (by decide) q⟩
  | succ d ih =>
    intro o v ho2 h1
    refine ⟨fun q => absurd q (by rw [px_lit, nI_leI (by omega) (by omega)]; omega), fun _ => ⟨px_in (by omega) (by decide), hN h + 1, ?_⟩⟩
    rw [px_cl (by omega)]
    refine findIn_lp ho hm (by omega) (v0 := v) (fun v' h2 h3 => ih (o + 1) v' (by omega) (fun o' ho' => ?_)) (hN h) 0 _ (by omega) up_s (fun j hj => up_n hj)
    by_cases e : o' = o
    · subst e; exact h2
    · rw [h3 o' e]; exact h1 o' (by omega)
theorem findMet_sp {h : Gr} (ho : okH h) {s met : IA} (hm : mH s h) {K : IA → Prop} (hK : ∀ v : IA, metOK h v 64 → K v) : wp_X11_findMet s met K := ⟨64 + 1, findMet_lp ho hm hK 64 0 met (by omega) (fun o ho2 => absurd ho2 (by omega))⟩
theorem failsAt_lp {s met : IA} {h p : Gr} {b : Nat → Nat} {k n to : Nat} (ho : okH h) (hb : okB b) (hmh : mH s h) (hmb : mB s b) (h8k : s 8 = nI k) (hk : k < 64) (h8 : n ≤ 8) (hm : mPs s p n) (hp : ∀ i, i < n → (1 ≤ pR p i ∧ pR p i ≤ hR h) ∧ pH p i < 1000) (hmet : metOK h met 64) (hto : to < 1000) {K : Int32 → Prop} : ∀ d t : Nat, 100 ≤ t + d → t < 1000 → ((∀ t', t ≤ t' → t' ≤ 99 → t' ≤ to → fl h b k p t' n = 0) → K (-9)) → (∀ t', t ≤ t' → t' ≤ 99 → t' ≤ to → fl h b k p t' n ≠ 0 → (∀ u, t ≤ u → u < t' → fl h b k p u n = 0) → K (nI t')) → wp_X11_failsAt_3 (nI n) (nI to) s met K (d + 1) (nI t) := by
  intro d
  induction d with
  | zero =>
    intro t h1 h2 hno hyes
    refine ⟨fun _ => hno (fun t' a b => by omega), fun q => absurd (by rw [px_lit, nI_ltI (by omega) (by omega)]; omega) q⟩
  | succ d ih =>
    intro t h1 h2 hno hyes
    refine ⟨fun q => hno (fun t' a b => ?_), fun q => ⟨fun q2 => hno (fun t' a b c => ?_), fun q2 => ?_⟩⟩
    · rw [px_lit, nI_ltI (by omega) (by omega)] at q; omega
    · rw [nI_ltI (by omega) (by omega)] at q2; omega
    · rw [px_lit, nI_ltI (by omega) (by omega)] at q
      rw [nI_ltI (by omega) (by omega)] at q2
      have h6 := opn_b ho (b := b) (k := k) (p := p) (t := t) (n := n)
      refine needsAt11_sp ho hmh (by omega) (openAt_sp ho hb hmh hmb h8k hk (by omega) h8 hm (fun i hi => ⟨(hp i hi).1, by have := (hp i hi).2; omega⟩) ⟨px_in h6 (by decide), ?_⟩)
      rw [px_cl (by omega), hmet _ h6, px_nd, fl_eq ho, nI_1]
      have flb := fl_b ho (b := b) (k := k) (p := p) (t := t) (n := n)
      refine ⟨fun q3 => ih (t + 1) (by omega) (by omega) (fun hh => hno (fun t' a b c => ?_)) (fun t' a b c d e => hyes t' (by omega) b c d (fun u hu1 hu2 => ?_)), fun q3 => hyes t (Nat.le_refl _) (by omega) (by omega) (fun e => q3 (by rw [e]; rfl)) (fun u a b => by omega)⟩
      · rw [← nI_0, nI_eq (by omega) (by omega)] at q3
        by_cases e : t' = t
        · subst e; exact q3
        · exact hh t' (by omega) b c
      · rw [← nI_0, nI_eq (by omega) (by omega)] at q3
        by_cases e2 : u = t
        · subst e2; exact q3
        · exact e u (by omega) hu2
theorem failsAt_sp {s met : IA} {h p : Gr} {b : Nat → Nat} {k n from_ to : Nat} (ho : okH h) (hb : okB b) (hmh : mH s h) (hmb : mB s b) (h8k : s 8 = nI k) (hk : k < 64) (h8 : n ≤ 8) (hm : mPs s p n) (hp : ∀ i, i < n → (1 ≤ pR p i ∧ pR p i ≤ hR h) ∧ pH p i < 1000) (hmet : metOK h met 64) (hto : to < 1000) (hfr : from_ < 1000) {K : Int32 → Prop} (hno : (∀ t', from_ ≤ t' → t' ≤ 99 → t' ≤ to → fl h b k p t' n = 0) → K (-9)) (hyes : ∀ t', from_ ≤ t' → t' ≤ 99 → t' ≤ to → fl h b k p t' n ≠ 0 → (∀ u, from_ ≤ u → u < t' → fl h b k p u n = 0) → K (nI t')) : wp_X11_failsAt (nI n) (nI from_) (nI to) s met K := ⟨100 + 1, failsAt_lp ho hb hmh hmb h8k hk h8 hm hp hmet hto 100 from_ (by omega) hfr hno hyes⟩
/-! cuts -/
def cut (h : Gr) : Nat → Nat
  | 0 => 0
  | r + 1 => cut h r ||| if bar h (nd (allP h) (2 ^ (r + 1))) (hN h) = 0 then 0 else 2 ^ (r + 1)
theorem shOK_one {h : Gr} (ho : okH h) {r : Nat} (h1 : 1 ≤ r) (h2 : r ≤ hR h) : shOK h (2 ^ r) := by
  have h5 := ho.1.1
  refine ⟨Nat.pow_lt_pow_right (n := 6) (by decide) (by omega), ?_, fun i hi => ?_⟩
  · rw [tb_pow]; simp; omega
  · rw [tb_pow] at hi
    have : r = i := by simpa using hi
    omega
theorem cut_b {h : Gr} (ho : okH h) : ∀ n, n ≤ hR h → cut h n < 64
  | 0, _ => by simp [cut]
  | n + 1, hn => by
    rw [cut]
    have h5 := ho.1.1
    refine or_lt (n := 6) (cut_b ho n (by omega)) ?_
    split
    · decide
    · exact Nat.pow_lt_pow_right (by decide) (by omega)
theorem cuts10_lp {h : Gr} (ho : okH h) {ct br : IA} (hw : wOK h ct br (2 ^ hR h)) {K : Int32 → Prop} (hK : K (nI (cut h (hR h)))) : ∀ d i : Nat, i + d = hR h → wp_X10_cuts_4 br (nI (hR h)) K (d + 1) (nI (cut h i)) (nI (i + 1)) := by
  have h5 := ho.1.1
  intro d
  induction d with
  | zero =>
    intro i hi
    have e : i = hR h := by omega
    subst e
    exact ⟨fun _ => hK, fun q => absurd (nI_lt (by omega) (by omega)) q⟩
  | succ d ih =>
    intro i hi
    have nxt := ih (i + 1) (by omega)
    rw [cut] at nxt
    have bb := bar_b (h := h) (o := nd (allP h) (2 ^ (i + 1))) (hN h) ho.1.2.2
    refine ⟨fun q => absurd q (by rw [nI_ltI (by omega) (by omega)]; omega), fun _ => ?_⟩
    rw [px_shl1 _ (by omega), nI_1]
    refine barredNeeds_sp ho hw (shOK_one ho (by omega) (by omega)) ⟨fun q => ?_, fun q => fun x1 e1 => ?_⟩
    · rw [← nI_0, nI_eq (by omega) (by omega)] at q
      rw [if_pos q, Nat.or_zero] at nxt
      exact nxt
    · rw [← nI_0, nI_eq (by omega) (by omega)] at q
      rw [if_neg q] at nxt
      rw [e1, px_or]; exact nxt
theorem cutsIn_lp {h : Gr} (ho : okH h) {s : IA} (hm : mH s h) {o r X : Nat} (h6 : o < 64) (hr : r < 6) {K : Int32 → Prop} {E : Int32 → Int32 → Prop} (hE : E (nI (X ||| if bar h o (hN h) = 0 then 0 else 2 ^ r)) (nI (r + 1))) : ∀ d i : Nat, i + d = hN h → wp_X11_cuts_34 (nI o) s E K (d + 1) (nI (X ||| if bar h o i = 0 then 0 else 2 ^ r)) (nI r) (nI i) := by
  have h8 := ho.1.2.2
  have h5 := ho.1.1
  have e2 : s (2 : Int32).toNatClampNeg = nI (hN h) := hm.2.2.1
  intro d
  induction d with
  | zero =>
    intro i hi
    have e : i = hN h := by omega
    subst e
    refine ⟨fun _ => by rw [nI_1]; exact hE, fun q => absurd (by rw [e2]; exact nI_le (Nat.le_refl _) (by omega)) q⟩
  | succ d ih =>
    intro i hi
    obtain ⟨p1, p2, -, -, -⟩ := ho.2.2.2.2 i (by omega)
    have nxt := ih (i + 1) (by omega)
    refine ⟨fun q => absurd q (by rw [e2, nI_leI (by omega) (by omega)]; omega), fun _ => ?_⟩
    have f1 : s ((45 : Int32) + ((4 : Int32) * nI i)).toNatClampNeg = nI (hP h (4 * i)) := by rw [mneed_g0, px_cl (by omega)]; exact hm.2.2.2.2.2 _ (by omega)
    have f2 : s (((45 : Int32) + ((4 : Int32) * nI i)) + (1 : Int32)).toNatClampNeg = nI (hP h (4 * i + 1)) := by rw [show (1 : Int32) = nI 1 from rfl, mneed_g, px_cl (by omega)]; exact hm.2.2.2.2.2 _ (by omega)
    refine ⟨by rw [mneed_g0]; exact px_in (by omega) (by decide), by rw [show (1 : Int32) = nI 1 from rfl, mneed_g]; exact px_in (by omega) (by decide), ?_⟩
    rw [f1, f2, nI_1]
    refine comesTo_sp ho hm h6 (by omega) (by omega) (fun hb => ⟨fun q => absurd q px_01, fun _ => ?_⟩) (fun hb => ⟨fun _ => fun x1 e1 => ?_, fun q => absurd rfl q⟩)
    · have e : bar h o (i + 1) = bar h o i := by rw [bar, hb]; simp
      rw [e] at nxt
      exact nxt
    · have e : bar h o (i + 1) ≠ 0 := by
        intro e
        have : (bar h o (i + 1)).testBit i = true := by rw [bar_tb, hb]; simp
        rw [e] at this; simp at this
      rw [if_neg e] at nxt
      rw [e1, px_shl1 _ (by omega), px_or]
      have e3 : (X ||| if bar h o i = 0 then 0 else 2 ^ r) ||| 2 ^ r = X ||| 2 ^ r := by
        apply tb_ext
        intro j
        rw [tb_or, tb_or, tb_or]
        split
        · simp
        · cases X.testBit j <;> cases (2 ^ r).testBit j <;> rfl
      rw [e3]; exact nxt
theorem cuts11_lp {h : Gr} (ho : okH h) {s : IA} (hm : mH s h) {K : Int32 → Prop} (hK : K (nI (cut h (hR h)))) : ∀ d i : Nat, i + d = hR h → wp_X11_cuts_4 s K (d + 1) (nI (cut h i)) (nI (i + 1)) := by
  have h5 := ho.1.1
  have e0 : s (0 : Int32).toNatClampNeg = nI (hR h + 1) := hm.1
  intro d
  induction d with
  | zero =>
    intro i hi
    have e : i = hR h := by omega
    subst e
    exact ⟨fun _ => hK, fun q => absurd (by rw [e0]; exact nI_le (Nat.le_refl _) (by omega)) q⟩
  | succ d ih =>
    intro i hi
    have nxt := ih (i + 1) (by omega)
    rw [cut] at nxt
    refine ⟨fun q => absurd q (by rw [e0, nI_leI (by omega) (by omega)]; omega), fun _ => fun x3 e3 => ?_⟩
    rw [e0, openAll_eq _ h5, px_shl1 _ (by omega), px_nd] at e3
    have eX : x3 = nI (nd (allP h) (2 ^ (i + 1))) := e3
    rw [eX]
    have h6 : nd (allP h) (2 ^ (i + 1)) < 64 := Nat.lt_of_le_of_lt (nd_le _ _) (allP_b ho)
    refine ⟨hN h + 1, ?_⟩
    have := cutsIn_lp (X := cut h i) (r := i + 1) (K := K) (E := fun x1 x2 => wp_X11_cuts_4 s K (d + 1) x1 x2) ho hm h6 (by omega) nxt (hN h) 0 (by omega)
    rw [show (cut h i ||| if bar h (nd (allP h) (2 ^ (i + 1))) 0 = 0 then 0 else 2 ^ (i + 1)) = cut h i by simp [bar]] at this
    exact this
theorem m_cuts {s ct br : IA} {rooms doors needs : Int32} {work coats beside np : IA} {h : Gr} (ho : okH h) (hc : cH rooms doors needs work coats beside np h) (hm : mH s h) (hw : wOK h ct br (2 ^ hR h)) : wp_X10_cuts br rooms (fun r => wp_X11_cuts s (fun r' => r = r')) := by
  obtain ⟨rfl, -⟩ := hc
  exact ⟨hR h + 1, cuts10_lp ho hw ⟨hR h + 1, cuts11_lp ho hm rfl (hR h) 0 (by omega)⟩ (hR h) 0 (by omega)⟩
