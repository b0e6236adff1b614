/-! PURE PART: hours: how long a coat takes, when it is done, what is shut -/
def tk (h : Gr) (b : Nat → Nat) (r : Nat) : Nat := (hW h r + b 3 - 1) / b 3
def en (h : Gr) (b : Nat → Nat) (p : Gr) (i : Nat) : Nat := pH p i + tk h b (pR p i)
def sh (h : Gr) (b : Nat → Nat) (k r : Nat) : Nat := tk h b r + if k.testBit r then 0 else b 0
/-- rooms that are shut at an hour by the first n steps -/
def shS (h : Gr) (b : Nat → Nat) (k : Nat) (p : Gr) (t : Nat) : Nat → Nat
  | 0 => 0
  | n + 1 => shS h b k p t n ||| if pH p n ≤ t ∧ t < pH p n + sh h b k (pR p n) then 2 ^ pR p n else 0
def allP (h : Gr) : Nat := 2 ^ (hR h + 1) - 1
def opn (h : Gr) (b : Nat → Nat) (k : Nat) (p : Gr) (t n : Nat) : Nat := nd (allP h) (shS h b k p t n)
theorem tk_b {h : Gr} {b : Nat → Nat} (ho : okH h) (hb : okB b) {r : Nat} (h1 : 1 ≤ r) (h2 : r ≤ hR h) : 1 ≤ tk h b r ∧ tk h b r ≤ 9 := by
  have w := (ho.2.1 r h1 h2).1
  have hh := hb.2.2.2
  unfold tk
  rcases (show b 3 = 1 ∨ b 3 = 2 ∨ b 3 = 3 by omega) with e | e | e <;> rw [e] <;> omega
theorem sh_b {h : Gr} {b : Nat → Nat} (ho : okH h) (hb : okB b) (k : Nat) {r : Nat} (h1 : 1 ≤ r) (h2 : r ≤ hR h) : 1 ≤ sh h b k r ∧ sh h b k r ≤ 33 := by
  have := tk_b ho hb h1 h2
  have := hb.1
  unfold sh
  split <;> omega
theorem shS_tb {h : Gr} {b : Nat → Nat} {k : Nat} {p : Gr} {t i : Nat} : ∀ n, (shS h b k p t n).testBit i = true ↔ ∃ j, j < n ∧ pR p j = i ∧ pH p j ≤ t ∧ t < pH p j + sh h b k (pR p j)
  | 0 => by simp [shS]
  | n + 1 => by
    rw [shS, tb_or, Bool.or_eq_true, shS_tb n]
    constructor
    · rintro (⟨j, h1, h2⟩ | h1)
      · exact ⟨j, by omega, h2⟩
      · split at h1
        · rename_i hc
          rw [tb_pow] at h1
          exact ⟨n, by omega, by simpa using h1, hc⟩
        · simp at h1
    · rintro ⟨j, h1, h2, h3⟩
      by_cases e : j = n
      · subst e
        right
        rw [if_pos h3, tb_pow]; simp [h2]
      · exact Or.inl ⟨j, by omega, h2, h3⟩
theorem shS_b {h : Gr} {b : Nat → Nat} {k : Nat} {p : Gr} {t : Nat} (ho : okH h) : ∀ n, (∀ i, i < n → 1 ≤ pR p i ∧ pR p i ≤ hR h) → shS h b k p t n < 64
  | 0, _ => by simp [shS]
  | n + 1, hp => by
    rw [shS]
    have h5 := ho.1.1
    have := shS_b (b := b) (k := k) (t := t) ho n (fun i hi => hp i (by omega))
    have hr := hp n (by omega)
    refine or_lt (n := 6) this ?_
    split
    · exact Nat.pow_lt_pow_right (by decide) (by omega)
    · decide
theorem shS_0 {h : Gr} {b : Nat → Nat} {k : Nat} {p : Gr} {t n : Nat} (hp : ∀ i, i < n → 1 ≤ pR p i) : (shS h b k p t n).testBit 0 = false := by
  cases e : (shS h b k p t n).testBit 0
  · rfl
  · obtain ⟨j, h1, h2, -⟩ := (shS_tb n).mp e
    have := hp j h1
    omega
theorem allP_b {h : Gr} (ho : okH h) : allP h < 64 := by
  have h5 := ho.1.1
  unfold allP
  have : 2 ^ (hR h + 1) ≤ 2 ^ 6 := Nat.pow_le_pow_right (by decide) (by omega)
  omega
theorem allP_tb {h : Gr} (i : Nat) : (allP h).testBit i = decide (i ≤ hR h) := by
  unfold allP
  rw [tb_m1]
  simp [Nat.lt_succ_iff]
theorem opn_tb {h : Gr} (ho : okH h) {b : Nat → Nat} {k : Nat} {p : Gr} {t n i : Nat} : (opn h b k p t n).testBit i = (decide (i ≤ hR h) && !(shS h b k p t n).testBit i) := by
  unfold opn
  rw [nd_tb (by have := allP_b ho; omega), allP_tb]
theorem opn_b {h : Gr} (ho : okH h) {b : Nat → Nat} {k : Nat} {p : Gr} {t n : Nat} : opn h b k p t n < 64 := Nat.lt_of_le_of_lt (nd_le _ _) (allP_b ho)
theorem tk_eq {h : Gr} {b : Nat → Nat} (ho : okH h) (hb : okB b) {r : Nat} (h1 : 1 ≤ r) (h2 : r ≤ hR h) : ((nI (hW h r) + nI (b 3)) - (1 : Int32)) / nI (b 3) = nI (tk h b r) := by
  have w := (ho.2.1 r h1 h2).1
  have hh := hb.2.2.2
  rw [nI_add, px_lit, pk_sub (by omega), pk_div (by omega) (by omega) (by omega)]
  rfl
theorem coatHours_sp {h : Gr} {b : Nat → Nat} (ho : okH h) (hb : okB b) {work hab : IA} (hw : ∀ r, 1 ≤ r → r ≤ hR h → work r = nI (hW h r)) (hc : cB hab b) {r : Nat} (h1 : 1 ≤ r) (h2 : r ≤ hR h) {K : Int32 → Prop} (hK : K (nI (tk h b r))) : wp_X6_coatHours (nI r) work hab K := by
  have h5 := ho.1.1
  have hh := hb.2.2.2
  intro x2 e
  have e3 : x2 = nI (b 3) := by
    rw [e]
    show hab 3 = _
    rw [hc 3 (by decide)]
  subst e3
  have hle : (1 : Int32) ≤ nI (b 3) := by rw [px_lit, nI_leI (by omega) (by omega)]; omega
  refine ⟨fun _ => ⟨px_in (by omega) (by decide), nI_ne0 (by omega) (by omega), ?_⟩, fun q => absurd hle q⟩
  rw [px_cl (by omega), hw r h1 h2, tk_eq ho hb h1 h2]
  exact hK
theorem dryHours_sp {h : Gr} {b : Nat → Nat} (ho : okH h) (hb : okB b) {work hab : IA} (hw : ∀ r, 1 ≤ r → r ≤ hR h → work r = nI (hW h r)) (hc : cB hab b) {r : Nat} (h1 : 1 ≤ r) (h2 : r ≤ hR h) {K : Int32 → Prop} (hK : K (nI (tk h b r + b 0 + b 1))) : wp_X6_dryHours (nI r) work hab K := by
  refine coatHours_sp ho hb hw hc h1 h2 ?_
  show K ((nI (tk h b r) + hab 0) + hab 1)
  rw [hc 0 (by decide), hc 1 (by decide), nI_add, nI_add]
  exact hK
theorem shutHours_sp {h : Gr} {b : Nat → Nat} (ho : okH h) (hb : okB b) {work hab : IA} (hw : ∀ r, 1 ≤ r → r ≤ hR h → work r = nI (hW h r)) (hc : cB hab b) {r k : Nat} (hk : k < 64) (h1 : 1 ≤ r) (h2 : r ≤ hR h) {K : Int32 → Prop} (hK : K (nI (sh h b k r))) : wp_X6_shutHours (nI r) (nI k) work hab K := by
  have h5 := ho.1.1
  refine ⟨fun q => ?_, fun q => ?_⟩
  · rw [px_bit (by omega) (by omega)] at q
    refine coatHours_sp ho hb hw hc h1 h2 ⟨fun _ => ?_, fun q => absurd rfl q⟩
    show K (nI (tk h b r) + hab 0)
    rw [hc 0 (by decide), nI_add]
    unfold sh at hK
    rw [q] at hK
    exact hK
  · rw [px_bit (by omega) (by omega)] at q
    have q : k.testBit r = true := by cases e : k.testBit r with
      | false => exact absurd e q
      | true => rfl
    refine coatHours_sp ho hb hw hc h1 h2 ⟨fun q => absurd q (by decide), fun _ => ?_⟩
    show K (nI (tk h b r) + nI 0)
    rw [nI_add]
    unfold sh at hK
    rw [q] at hK
    exact hK
theorem doneHour_sp {h p : Gr} {b : Nat → Nat} (ho : okH h) (hb : okB b) {work hab rr rh : IA} (hw : ∀ r, 1 ≤ r → r ≤ hR h → work r = nI (hW h r)) (hc : cB hab b) {i : Nat} (hi : i < 8) (hrr : rr i = nI (pR p i)) (hrh : rh i = nI (pH p i)) (h1 : 1 ≤ pR p i) (h2 : pR p i ≤ hR h) {K : Int32 → Prop} (hK : K (nI (en h b p i))) : wp_X6_doneHour (nI i) work rr rh hab K := by
  refine ⟨px_in hi (by decide), ?_⟩
  rw [px_cl (by omega), hrr, hrh]
  refine coatHours_sp ho hb hw hc h1 h2 ?_
  show K (nI (pH p i) + nI (tk h b (pR p i)))
  rw [nI_add]
  exact hK
theorem shutBy_lp {h p : Gr} {b : Nat → Nat} {k t n : Nat} (ho : okH h) (hb : okB b) {work hab rr rh : IA} (hw : ∀ r, 1 ≤ r → r ≤ hR h → work r = nI (hW h r)) (hc : cB hab b) (hk : k < 64) (ht : t < 100000) (hn : n ≤ pN p) (hn8 : pN p ≤ 8) (hp : ∀ i, i < n → (1 ≤ pR p i ∧ pR p i ≤ hR h) ∧ pH p i < 100000 ∧ rr i = nI (pR p i) ∧ rh i = nI (pH p i)) {K : Int32 → Prop} (hK : K (nI (shS h b k p t n))) : ∀ d i : Nat, i + d = n → wp_X6_shutBy_5 (nI n) (nI t) work (nI (pN p)) rr rh hab (nI k) K (d + 1) (nI (shS h b k p t i)) (nI i) := by
  intro d
  induction d with
  | zero =>
    intro i hi
    have e : i = n := by omega
    subst e
    exact ⟨fun _ => hK, fun q => absurd (nI_le (Nat.le_refl _) (by omega)) q⟩
  | succ d ih =>
    intro i hi
    obtain ⟨⟨r1, r2⟩, r3, r4, r5⟩ := hp i (by omega)
    have h5 := ho.1.1
    have hs := sh_b ho hb k r1 r2
    have hsb := shS_b (b := b) (k := k) (t := t) ho i (fun j hj => (hp j (by omega)).1)
    refine ⟨fun q => absurd q (by rw [nI_leI (by omega) (by omega)]; omega), fun _ => ⟨fun q => absurd q (by rw [nI_leI (by omega) (by omega)]; omega), fun _ => ⟨px_in (by omega) (by decide), fun x5 e5 => ?_⟩⟩⟩
    rw [px_cl (by omega), r5] at e5
    rw [px_cl (by omega), r4, nI_1]
    have nxt := ih (i + 1) (by omega)
    rw [shS] at nxt
    by_cases c1 : pH p i ≤ t
    · rw [pk_sub c1] at e5
      subst e5
      refine ⟨fun q => absurd q (nI_pos (by omega)), fun _ => shutHours_sp ho hb hw hc hk r1 r2 ⟨fun q => ?_, fun q => fun x3 e3 => ?_⟩⟩
      · rw [nI_leI (by omega) (by omega)] at q
        rw [if_neg (by omega), Nat.or_zero] at nxt
        exact nxt
      · rw [nI_leI (by omega) (by omega)] at q
        rw [if_pos (by omega)] at nxt
        rw [e3, px_shl1 _ (by omega), px_or]
        exact nxt
    · have hneg : x5 < 0 := by rw [e5]; exact pk_sneg (by omega) (by omega)
      rw [if_neg (by omega), Nat.or_zero] at nxt
      exact ⟨fun _ => nxt, fun q => absurd hneg q⟩
theorem shutBy_sp {h p : Gr} {b : Nat → Nat} {k t n : Nat} (ho : okH h) (hb : okB b) {work hab rr rh : IA} (hw : ∀ r, 1 ≤ r → r ≤ hR h → work r = nI (hW h r)) (hc : cB hab b) (hk : k < 64) (ht : t < 100000) (hn : n ≤ pN p) (hn8 : pN p ≤ 8) (hp : ∀ i, i < n → (1 ≤ pR p i ∧ pR p i ≤ hR h) ∧ pH p i < 100000 ∧ rr i = nI (pR p i) ∧ rh i = nI (pH p i)) {K : Int32 → Prop} (hK : K (nI (shS h b k p t n))) : wp_X6_shutBy (nI n) (nI t) work (nI (pN p)) rr rh hab (nI k) K := ⟨n + 1, shutBy_lp ho hb hw hc hk ht hn hn8 hp hK n 0 (by omega)⟩
/-! the model's side -/
def mPs (s : IA) (p : Gr) (n : Nat) : Prop := ∀ i, i < n → s (77 + 2 * i) = nI (pR p i) ∧ s (78 + 2 * i) = nI (pH p i)
theorem roomOf_sp {s : IA} {p : Gr} {n i : Nat} (hm : mPs s p n) (hi : i < n) (h8 : n ≤ 8) {K : Int32 → Prop} (hK : K (nI (pR p i))) : wp_X11_roomOf (nI i) s K := by
  unfold wp_X11_roomOf
  rw [px_lit, px_lit, pk_mul, nI_add, px_cl (by omega), (hm i hi).1]
  exact ⟨px_in (by omega) (by decide), hK⟩
theorem hourOf_sp {s : IA} {p : Gr} {n i : Nat} (hm : mPs s p n) (hi : i < n) (h8 : n ≤ 8) {K : Int32 → Prop} (hK : K (nI (pH p i))) : wp_X11_hourOf (nI i) s K := by
  unfold wp_X11_hourOf
  rw [px_lit, px_lit, px_lit, pk_mul, nI_add, nI_add, px_cl (by omega), show 77 + 2 * i + 1 = 78 + 2 * i by omega, (hm i hi).2]
  exact ⟨px_in (by omega) (by decide), hK⟩
theorem endOf_sp {s : IA} {h p : Gr} {b : Nat → Nat} {n i : Nat} (ho : okH h) (hb : okB b) (hmh : mH s h) (hmb : mB s b) (hm : mPs s p n) (hi : i < n) (h8 : n ≤ 8) (h1 : 1 ≤ pR p i) (h2 : pR p i ≤ hR h) {K : Int32 → Prop} (hK : K (nI (en h b p i))) : wp_X11_endOf (nI i) s K := by
  have h5 := ho.1.1
  have hh := hb.2.2.2
  have e7 : s (7 : Int32).toNatClampNeg = nI (b 3) := hmb 3 (by decide)
  refine hourOf_sp hm hi h8 (roomOf_sp hm hi h8 ?_)
  rw [e7, show (9 : Int32) = nI 9 from rfl, nI_add, px_cl (by omega), (hmh.2.2.2.1 _ h1 h2).1, tk_eq ho hb h1 h2, nI_add]
  exact ⟨px_in (by omega) (by decide), nI_ne0 (by omega) (by omega), hK⟩
theorem isPlanked_sp {s : IA} {k r : Nat} (h8 : s 8 = nI k) (hk : k < 64) (hr : r < 32) {K : Int32 → Prop} (hK1 : k.testBit r = true → K 1) (hK0 : k.testBit r = false → K 0) : wp_X11_isPlanked (nI r) s K := by
  have e8 : s (8 : Int32).toNatClampNeg = nI k := h8
  unfold wp_X11_isPlanked
  rw [e8]
  refine ⟨fun q => hK1 ((px_bit1 (by omega) hr).mp q), fun q => hK0 ?_⟩
  cases e : k.testBit r
  · rfl
  · exact absurd ((px_bit1 (by omega) hr).mpr e) q
theorem nd_nd {a b c : Nat} (ha : a < 2 ^ 32) : nd (nd a b) c = nd a (b ||| c) := by
  apply tb_ext
  intro i
  rw [nd_tb (Nat.lt_of_le_of_lt (nd_le _ _) ha), nd_tb ha, nd_tb ha, tb_or]
  cases a.testBit i <;> cases b.testBit i <;> cases c.testBit i <;> rfl
theorem nd_0 {a : Nat} (ha : a < 2 ^ 32) : nd a 0 = a := by
  apply tb_ext
  intro i
  rw [nd_tb ha]; simp
theorem openAt_lp {s : IA} {h p : Gr} {b : Nat → Nat} {k t n : Nat} (ho : okH h) (hb : okB b) (hmh : mH s h) (hmb : mB s b) (h8k : s 8 = nI k) (hk : k < 64) (ht : t < 100000) (h8 : n ≤ 8) (hm : mPs s p n) (hp : ∀ i, i < n → (1 ≤ pR p i ∧ pR p i ≤ hR h) ∧ pH p i < 100000) {K : Int32 → Prop} (hK : K (nI (opn h b k p t n))) : ∀ d i : Nat, i + d = n → wp_X11_openAt_14 (nI t) (nI n) s K (d + 1) (nI (opn h b k p t i)) (nI i) := by
  intro d
  induction d with
  | zero =>
    intro i hi
    have e : i = n := by omega
    subst e
    exact ⟨fun _ => hK, fun q => absurd (nI_le (Nat.le_refl _) (by omega)) q⟩
  | succ d ih =>
    intro i hi
    obtain ⟨⟨r1, r2⟩, r3⟩ := hp i (by omega)
    have h5 := ho.1.1
    have ht9 := tk_b ho hb r1 r2
    have hwet := hb.1
    have nxt := ih (i + 1) (by omega)
    have e4 : s (4 : Int32).toNatClampNeg = nI (b 0) := hmb 0 (by decide)
    have hen : en h b p i < 200000 := by unfold en; omega
    -- what is done with the answer
    have fin : ∀ (t0 x5 : Int32), (nz t0 ∧ nz x5) → ((¬ (x5 = 0 ∧ t0 = 0)) ↔ (pH p i ≤ t ∧ t < pH p i + sh h b k (pR p i))) → wp_X11_openAt_92 x5 s (fun x3 x4 => wp_X11_openAt_14 (nI t) (nI n) s K (d + 1) x3 x4) K (nI (opn h b k p t i)) (nI i) t0 := by
      intro t0 x5 hz hiff
      have shut : (¬ (x5 = 0 ∧ t0 = 0)) → wp_X11_openAt_104 s (fun x3 x4 => wp_X11_openAt_14 (nI t) (nI n) s K (d + 1) x3 x4) K (nI (opn h b k p t i)) (nI i) := by
        intro hn
        refine roomOf_sp hm (by omega) h8 (fun x3 e3 => ?_)
        have e : opn h b k p t (i + 1) = nd (opn h b k p t i) (2 ^ pR p i) := by
          unfold opn
          rw [shS, if_pos (hiff.mp hn), nd_nd (by have := allP_b ho; omega)]
        rw [e3, px_shl1 _ (by omega), px_nd, nI_1, ← e]
        exact nxt
      refine ⟨fun q5 => ⟨fun q0 => ?_, fun q0 => shut (fun x => q0 x.2)⟩, fun q5 => shut (fun x => q5 x.1)⟩
      have e : opn h b k p t (i + 1) = opn h b k p t i := by
        unfold opn
        rw [shS, if_neg (fun c => hiff.mpr c ⟨q5, q0⟩), Nat.or_zero]
      show wp_X11_openAt_14 (nI t) (nI n) s K (d + 1) (nI (opn h b k p t i)) (nI i + (1 : Int32))
      rw [nI_1, ← e]
      exact nxt
    have mid : ∀ t0 : Int32, nz t0 → (¬ t0 = 0 ↔ (pH p i ≤ t ∧ t < en h b p i)) → wp_X11_openAt_45 (nI t) s (fun x3 x4 => wp_X11_openAt_14 (nI t) (nI n) s K (d + 1) x3 x4) K (nI (opn h b k p t i)) (nI i) t0 := by
      intro t0 hz hiff
      have z01 : ¬ ((1 : Int32) = 0) := by decide
      refine endOf_sp ho hb hmh hmb hm (by omega) h8 r1 r2 ⟨fun q => ?_, fun q => ?_⟩
      · rw [nI_ltI (by omega) (by omega)] at q
        refine fin _ _ ⟨nz0, hz⟩ ⟨fun hn => ?_, fun hc hn => ?_⟩
        · have := hiff.mp (fun e => hn ⟨e, rfl⟩)
          unfold sh; unfold en at this; omega
        · exact (hiff.mpr ⟨hc.1, q⟩) hn.1
      · rw [nI_ltI (by omega) (by omega)] at q
        have ht0 : t0 = 0 := by
          rcases hz with e | e
          · exact e
          · have := hiff.mp (by rw [e]; decide); omega
        refine endOf_sp ho hb hmh hmb hm (by omega) h8 r1 r2 ⟨fun q2 => ?_, fun q2 => ?_⟩
        · rw [e4, nI_add, nI_leI (by omega) (by omega)] at q2
          refine fin _ _ ⟨nz0, hz⟩ ⟨fun hn => absurd ⟨ht0, rfl⟩ hn, fun hc => ?_⟩
          have h2 := hc.2
          unfold sh at h2; unfold en at q2 q
          split at h2 <;> omega
        · rw [e4, nI_add, nI_leI (by omega) (by omega)] at q2
          refine roomOf_sp hm (by omega) h8 (isPlanked_sp h8k hk (by omega) (fun hb1 => ⟨fun q3 => absurd q3 z01, fun _ => ?_⟩) (fun hb0 => ⟨fun _ => ?_, fun q3 => absurd rfl q3⟩))
          · refine fin _ _ ⟨nz0, hz⟩ ⟨fun hn => absurd ⟨ht0, rfl⟩ hn, fun hc => ?_⟩
            have h2 := hc.2
            unfold sh at h2; rw [hb1] at h2; unfold en at q
            simp at h2; omega
          · refine fin _ _ ⟨nz1, hz⟩ ⟨fun _ => ?_, fun _ x => absurd x.2 z01⟩
            unfold sh; rw [hb0]; unfold en at q q2
            simp; omega
    refine ⟨fun q => absurd q (by rw [nI_leI (by omega) (by omega)]; omega), fun _ => hourOf_sp hm (by omega) h8 ⟨fun q => ?_, fun q => ?_⟩⟩
    · rw [nI_ltI (by omega) (by omega)] at q
      exact mid _ nz0 ⟨fun hn => absurd rfl hn, fun hc => by omega⟩
    · rw [nI_ltI (by omega) (by omega)] at q
      refine endOf_sp ho hb hmh hmb hm (by omega) h8 r1 r2 ⟨fun q2 => ?_, fun q2 => ?_⟩
      · rw [nI_leI (by omega) (by omega)] at q2
        exact mid _ nz0 ⟨fun hn => absurd rfl hn, fun hc => by omega⟩
      · rw [nI_leI (by omega) (by omega)] at q2
        exact mid _ nz1 ⟨fun _ => by omega, fun _ => by decide⟩
theorem openAt_sp {s : IA} {h p : Gr} {b : Nat → Nat} {k t n : Nat} (ho : okH h) (hb : okB b) (hmh : mH s h) (hmb : mB s b) (h8k : s 8 = nI k) (hk : k < 64) (ht : t < 100000) (h8 : n ≤ 8) (hm : mPs s p n) (hp : ∀ i, i < n → (1 ≤ pR p i ∧ pR p i ≤ hR h) ∧ pH p i < 100000) {K : Int32 → Prop} (hK : K (nI (opn h b k p t n))) : wp_X11_openAt (nI t) (nI n) s K := by
  intro x3 e3
  have e0 : s (0 : Int32).toNatClampNeg = nI (hR h + 1) := hmh.1
  rw [e0, openAll_eq _ ho.1.1] at e3
  have e : x3 = nI (opn h b k p t 0) := by
    rw [e3]
    unfold opn
    rw [shS, nd_0 (by have := allP_b ho; omega)]; rfl
  rw [e]
  exact ⟨n + 1, openAt_lp ho hb hmh hmb h8k hk ht h8 hm hp hK n 0 (by omega)⟩
