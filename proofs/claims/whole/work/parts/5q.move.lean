/-! PURE PART: the class's walk, layer by layer -/
def eR (been : IA) (V F N : Nat → Nat → Prop) : Prop := ∀ S, S < 1024 → ∃ w, w < 2 ^ 30 ∧ been S = nI w ∧ ∀ x, x < 10 → (w.testBit x = true ↔ V S x) ∧ (w.testBit (10 + x) = true ↔ F S x) ∧ (w.testBit (20 + x) = true ↔ N S x)
theorem eR_cg {been : IA} {V F N V' F' N' : Nat → Nat → Prop} (h : eR been V F N) (e1 : ∀ S x, S < 1024 → x < 10 → (V S x ↔ V' S x)) (e2 : ∀ S x, S < 1024 → x < 10 → (F S x ↔ F' S x)) (e3 : ∀ S x, S < 1024 → x < 10 → (N S x ↔ N' S x)) : eR been V' F' N' := fun S hS => by
  obtain ⟨w, h1, h2, h3⟩ := h S hS
  exact ⟨w, h1, h2, fun x hx => ⟨(h3 x hx).1.trans (e1 S x hS hx), (h3 x hx).2.1.trans (e2 S x hS hx), (h3 x hx).2.2.trans (e3 S x hS hx)⟩⟩
theorem pw10 {n : Nat} (h : n ≤ 10) : 2 ^ n ≤ 1024 := by
  have := Nat.pow_le_pow_right (n := 2) (by decide) h
  exact this
theorem or1024 {S y n : Nat} (hS : S < 2 ^ n) (hy : y < n) (hn : n ≤ 10) : S ||| 2 ^ y < 2 ^ n ∧ S ||| 2 ^ y < 1024 := by
  have h1 := or_lt hS (Nat.pow_lt_pow_right (a := 2) (by decide) hy)
  exact ⟨h1, Nat.lt_of_lt_of_le h1 (pw10 hn)⟩
theorem eR_add {been : IA} {V F N : Nat → Nat → Prop} {T y : Nat} (hT : T < 1024) (hy : y < 10) (h : eR been V F N) : eR (upd been T (been T ||| nI (2 ^ (20 + y)))) V F (fun U z => N U z ∨ (U = T ∧ z = y)) := fun S hS => by
  by_cases e : S = T
  · subst e
    obtain ⟨w, h1, h2, h3⟩ := h S hS
    refine ⟨w ||| 2 ^ (20 + y), or_lt h1 (Nat.pow_lt_pow_right (by decide) (by omega)), by rw [up_s, h2, px_or], fun x hx => ?_⟩
    obtain ⟨g1, g2, g3⟩ := h3 x hx
    refine ⟨?_, ?_, ?_⟩
    · rw [tb_put, g1]
      exact ⟨fun z => z.elim id (fun z => by omega), Or.inl⟩
    · rw [tb_put, g2]
      exact ⟨fun z => z.elim id (fun z => by omega), Or.inl⟩
    · rw [tb_put, g3]
      exact ⟨fun z => z.elim Or.inl (fun z => Or.inr ⟨rfl, by omega⟩), fun z => z.elim Or.inl (fun z => Or.inr (by omega))⟩
  · obtain ⟨w, h1, h2, h3⟩ := h S hS
    refine ⟨w, h1, by rw [up_n e]; exact h2, fun x hx => ⟨(h3 x hx).1, (h3 x hx).2.1, (h3 x hx).2.2.trans ⟨Or.inl, fun z => z.elim id (fun z => absurd z.1 e)⟩⟩⟩
theorem bes_bit {bes : IA} {A : Nat → Nat → Prop} (hb : bRel bes A) {x y : Nat} (hx : x < 10) (hy : y < 10) : ((bes (nI x).toNatClampNeg >>> (nI y &&& 31)) &&& (1 : Int32)) = 0 ↔ ¬ A x y := by
  obtain ⟨m, h1, h2, h3⟩ := hb x hx
  rw [px_cl (by omega), h2, px_bit (by omega) (by omega), ← h3 y]
  cases m.testBit y <;> simp
theorem moveFrom_sp {bes been : IA} {A V F N : Nat → Nat → Prop} {n S x : Nat} (hn : n ≤ 10) (hS : S < 2 ^ n) (hx : x < n) (hb : bRel bes A) (h : eR been V F N) {K : IA → Prop} (hK : ∀ been', eR been' V F (fun T y => N T y ∨ (y < n ∧ A x y ∧ T = S ||| 2 ^ y)) → K been') : wp_X4_moveFrom (nI S) (nI x) bes been (nI n) K := by
  have h10 := pw10 hn
  have lp : ∀ (d j : Nat) (been : IA), j + d = n → eR been V F (fun T y => N T y ∨ (y < j ∧ A x y ∧ T = S ||| 2 ^ y)) → wp_X4_moveFrom_2 (nI S) (nI x) bes (nI n) K (d + 1) (nI j) been := by
    intro d
    induction d with
    | zero =>
      intro j been hj he
      obtain rfl : j = n := by omega
      refine ⟨fun _ => hK been he, fun q => absurd ?_ q⟩
      rw [nI_leI (by omega) (by omega)]
      exact Nat.le_refl _
    | succ d ih =>
      intro j been hj he
      have oo := or1024 hS (show j < n by omega) hn
      refine ⟨fun q => ?_, fun _ => ⟨px_in (by omega) (by decide), fun q => ?_, fun q => ?_⟩⟩
      · rw [nI_leI (by omega) (by omega)] at q
        omega
      · rw [bes_bit hb (by omega) (by omega)] at q
        rw [nI_1]
        refine ih (j + 1) been (by omega) (eR_cg he (fun _ _ _ _ => Iff.rfl) (fun _ _ _ _ => Iff.rfl) (fun T y _ _ => ?_))
        constructor
        · rintro (z | ⟨z1, z2⟩)
          · exact Or.inl z
          · exact Or.inr ⟨by omega, z2⟩
        · rintro (z | ⟨z1, z2, z3⟩)
          · exact Or.inl z
          · by_cases ey : y = j
            · subst ey; exact absurd z2 q
            · exact Or.inr ⟨by omega, z2, z3⟩
      · rw [bes_bit hb (by omega) (by omega)] at q
        have hA : A x j := Classical.byContradiction q
        rw [px_shl1 j (by omega), px_or, show (20 : Int32) + nI j = nI (20 + j) by rw [px_lit, nI_add], px_shl1 (20 + j) (by omega), px_cl (by omega), nI_1]
        refine ⟨px_in oo.2 (by decide), ih (j + 1) _ (by omega) (eR_cg (eR_add oo.2 (show j < 10 by omega) he) (fun _ _ _ _ => Iff.rfl) (fun _ _ _ _ => Iff.rfl) (fun T y _ _ => ?_))⟩
        constructor
        · rintro ((z | ⟨z1, z2⟩) | ⟨z1, z2⟩)
          · exact Or.inl z
          · exact Or.inr ⟨by omega, z2⟩
          · exact Or.inr ⟨by omega, by rw [z2]; exact hA, by rw [z1, z2]⟩
        · rintro (z | ⟨z1, z2, z3⟩)
          · exact Or.inl (Or.inl z)
          · by_cases ey : y = j
            · subst ey; exact Or.inr ⟨z3, rfl⟩
            · exact Or.inl (Or.inr ⟨by omega, z2, z3⟩)
  refine ⟨n + 1, lp n 0 been (by omega) (eR_cg h (fun _ _ _ _ => Iff.rfl) (fun _ _ _ _ => Iff.rfl) (fun T y _ _ => ⟨Or.inl, fun z => z.elim id (fun z => absurd z.1 (by omega))⟩))⟩
theorem move28_lp {bes : IA} {A V F N : Nat → Nat → Prop} {n S fr : Nat} (hn : n ≤ 10) (hS : S < 2 ^ n) (hb : bRel bes A) (hfr : fr < 1024) (hF : ∀ x, x < 10 → (fr.testBit x = true ↔ F S x)) {E : Int32 → IA → Prop} {K : IA → Prop} (hE : ∀ been, eR been V F (fun T y => N T y ∨ ∃ x, x < n ∧ F S x ∧ y < n ∧ A x y ∧ T = S ||| 2 ^ y) → E (nI (S + 1)) been) : ∀ (d j : Nat) (been : IA), j + d = n → eR been V F (fun T y => N T y ∨ ∃ x, x < j ∧ F S x ∧ y < n ∧ A x y ∧ T = S ||| 2 ^ y) → wp_X4_moveOn_28 (nI fr) bes (nI n) E K (d + 1) (nI S) (nI j) been := by
  have h10 := pw10 hn
  intro d
  induction d with
  | zero =>
    intro j been hj he
    obtain rfl : j = n := by omega
    have fin : E (nI S + (1 : Int32)) been := by rw [nI_1]; exact hE been he
    refine ⟨fun _ => fin, fun _ => ⟨fun _ => fin, fun q => absurd ?_ q⟩⟩
    rw [nI_leI (by omega) (by omega)]
    exact Nat.le_refl _
  | succ d ih =>
    intro j been hj he
    refine ⟨fun q => ?_, fun q => ⟨fun q2 => ?_, fun _ => ⟨fun q2 => ?_, fun q2 => ?_⟩⟩⟩
    · rw [← nI_0, nI_eq (by omega) (by omega)] at q
      have no : ∀ x, x < 10 → ¬ F S x := fun x hx z => by
        have := (hF x hx).mpr z
        rw [q] at this
        simp at this
      rw [nI_1]
      refine hE been (eR_cg he (fun _ _ _ _ => Iff.rfl) (fun _ _ _ _ => Iff.rfl) (fun T y _ _ => ?_))
      constructor
      · rintro (z | ⟨x, z1, z2, z3⟩)
        · exact Or.inl z
        · exact absurd z2 (no x (by omega))
      · rintro (z | ⟨x, z1, z2, z3⟩)
        · exact Or.inl z
        · exact absurd z2 (no x (by omega))
    · rw [nI_leI (by omega) (by omega)] at q2
      omega
    · rw [px_bit (by omega) (by omega)] at q2
      have no : ¬ F S j := fun z => by
        have := (hF j (by omega)).mpr z
        rw [q2] at this
        cases this
      rw [nI_1]
      refine ih (j + 1) been (by omega) (eR_cg he (fun _ _ _ _ => Iff.rfl) (fun _ _ _ _ => Iff.rfl) (fun T y _ _ => ?_))
      constructor
      · rintro (z | ⟨x, z1, z2⟩)
        · exact Or.inl z
        · exact Or.inr ⟨x, by omega, z2⟩
      · rintro (z | ⟨x, z1, z2, z3⟩)
        · exact Or.inl z
        · by_cases ex : x = j
          · subst ex; exact absurd z2 no
          · exact Or.inr ⟨x, by omega, z2, z3⟩
    · have yes : F S j := by
        apply (hF j (by omega)).mp
        rw [px_bit (by omega) (by omega)] at q2
        cases e : fr.testBit j with
        | true => rfl
        | false => exact absurd e q2
      refine moveFrom_sp hn hS (show j < n by omega) hb he (fun been' he' => ?_)
      rw [nI_1]
      refine ih (j + 1) been' (by omega) (eR_cg he' (fun _ _ _ _ => Iff.rfl) (fun _ _ _ _ => Iff.rfl) (fun T y _ _ => ?_))
      constructor
      · rintro ((z | ⟨x, z1, z2⟩) | ⟨z1, z2, z3⟩)
        · exact Or.inl z
        · exact Or.inr ⟨x, by omega, z2⟩
        · exact Or.inr ⟨j, by omega, yes, z1, z2, z3⟩
      · rintro (z | ⟨x, z1, z2, z3⟩)
        · exact Or.inl (Or.inl z)
        · by_cases ex : x = j
          · subst ex; exact Or.inr z3
          · exact Or.inl (Or.inr ⟨x, by omega, z2, z3⟩)
theorem tb1023 : ∀ i, (1023 : Nat).testBit i = decide (i < 10) := by
  intro i
  rw [show (1023 : Nat) = 2 ^ 10 - 1 from rfl, tb_m1]
theorem tb_div (a k i : Nat) : (a / 2 ^ k).testBit i = a.testBit (k + i) := by
  rw [Nat.testBit_div_two_pow, Nat.add_comm]
theorem move2_lp {bes : IA} {A V F : Nat → Nat → Prop} {n : Nat} (hn : n ≤ 10) (hb : bRel bes A) {E : Int32 → IA → Prop} {K : IA → Prop} (hE : ∀ been, eR been V F (fun T y => ∃ S x, S < 2 ^ n ∧ x < n ∧ F S x ∧ y < n ∧ A x y ∧ T = S ||| 2 ^ y) → E (0 : Int32) been) : ∀ (d j : Nat) (been : IA), j + d = 2 ^ n → eR been V F (fun T y => ∃ S x, S < j ∧ x < n ∧ F S x ∧ y < n ∧ A x y ∧ T = S ||| 2 ^ y) → wp_X4_moveOn_2 bes (nI n) E K (d + 1) (nI j) been := by
  have h10 := pw10 hn
  intro d
  induction d with
  | zero =>
    intro j been hj he
    obtain rfl : j = 2 ^ n := by omega
    refine ⟨fun _ => hE been he, fun q => absurd ?_ q⟩
    rw [px_shl1 n (by omega), nI_leI (by omega) (by omega)]
    exact Nat.le_refl _
  | succ d ih =>
    intro j been hj he
    obtain ⟨w, h1, h2, h3⟩ := he j (by omega)
    refine ⟨fun q => ?_, fun _ => ⟨px_in (by omega) (by decide), fun x2 e2 => ?_⟩⟩
    · rw [px_shl1 n (by omega), nI_leI (by omega) (by omega)] at q
      omega
    · have e2' : x2 = nI ((w / 2 ^ 10) &&& 1023) := by
        rw [e2, px_cl (by omega), h2]
        exact (congrArg (fun z => z &&& (1023 : Int32)) (px_shr (k := 10) (by omega) (by decide))).trans (px_and _ 1023)
      subst e2'
      refine ⟨n + 1, move28_lp hn (by omega) hb (fr := (w / 2 ^ 10) &&& 1023) (Nat.lt_of_le_of_lt Nat.and_le_right (by decide)) (fun x hx => ?_) (fun been' he' => ih (j + 1) been' (by omega) (eR_cg he' (fun _ _ _ _ => Iff.rfl) (fun _ _ _ _ => Iff.rfl) (fun T y _ _ => ?_))) n 0 been (by omega) (eR_cg he (fun _ _ _ _ => Iff.rfl) (fun _ _ _ _ => Iff.rfl) (fun T y _ _ => ⟨Or.inl, fun z => z.elim id (fun ⟨x, z1, _⟩ => absurd z1 (by omega))⟩))⟩
      · rw [tb_and, tb1023, tb_div, decide_eq_true hx, Bool.and_true]
        exact (h3 x hx).2.1
      · constructor
        · rintro (⟨S, x, z1, z2⟩ | ⟨x, z1, z2⟩)
          · exact ⟨S, x, by omega, z2⟩
          · exact ⟨j, x, by omega, z1, z2⟩
        · rintro ⟨S, x, z1, z2⟩
          by_cases ej : S = j
          · subst ej; exact Or.inr ⟨x, z2⟩
          · exact Or.inl ⟨S, x, by omega, z2⟩
theorem move68_lp {V F N : Nat → Nat → Prop} {n : Nat} (hn : n ≤ 10) {K : IA → Prop} (hK : ∀ been, eR been (fun S x => if S < 2 ^ n then (V S x ∨ F S x) else V S x) (fun S x => if S < 2 ^ n then (N S x ∧ ¬ (V S x ∨ F S x)) else F S x) (fun S x => if S < 2 ^ n then False else N S x) → K been) : ∀ (d j : Nat) (been : IA), j + d = 2 ^ n → eR been (fun S x => if S < j then (V S x ∨ F S x) else V S x) (fun S x => if S < j then (N S x ∧ ¬ (V S x ∨ F S x)) else F S x) (fun S x => if S < j then False else N S x) → wp_X4_moveOn_68 (nI n) K (d + 1) (nI j) been := by
  have h10 := pw10 hn
  intro d
  induction d with
  | zero =>
    intro j been hj he
    obtain rfl : j = 2 ^ n := by omega
    refine ⟨fun _ => hK been he, fun q => absurd ?_ q⟩
    rw [px_shl1 n (by omega), nI_leI (by omega) (by omega)]
    exact Nat.le_refl _
  | succ d ih =>
    intro j been hj he
    obtain ⟨w, h1, h2, h3⟩ := he j (by omega)
    refine ⟨fun q => ?_, fun _ => ⟨px_in (by omega) (by decide), fun x2 e2 x3 e3 => ?_⟩⟩
    · rw [px_shl1 n (by omega), nI_leI (by omega) (by omega)] at q
      omega
    · have es : nI w >>> ((10 : Int32) &&& 31) = nI (w / 2 ^ 10) := px_shr (k := 10) (by omega) (by decide)
      have es2 : nI w >>> ((20 : Int32) &&& 31) = nI (w / 2 ^ 20) := px_shr (k := 20) (by omega) (by decide)
      have e2' : x2 = nI ((w &&& 1023) ||| ((w / 2 ^ 10) &&& 1023)) := by
        rw [e2, px_cl (by omega), h2, es]
        exact ((congrArg (fun z => z ||| (nI (w / 2 ^ 10) &&& (1023 : Int32))) (px_and w 1023)).trans (congrArg (fun z => nI (w &&& 1023) ||| z) (px_and (w / 2 ^ 10) 1023))).trans (px_or _ _)
      subst e2'
      have hp : (w &&& 1023) ||| ((w / 2 ^ 10) &&& 1023) < 1024 := or_lt (n := 10) (Nat.lt_of_le_of_lt Nat.and_le_right (by decide)) (Nat.lt_of_le_of_lt Nat.and_le_right (by decide))
      have hw20 : w / 2 ^ 20 < 1024 := by omega
      have e3' : x3 = nI (nd (w / 2 ^ 20) ((w &&& 1023) ||| ((w / 2 ^ 10) &&& 1023))) := by
        rw [e3, px_cl (by omega), h2, es2, px_nd]
      subst e3'
      have hnd := nd_le (w / 2 ^ 20) ((w &&& 1023) ||| ((w / 2 ^ 10) &&& 1023))
      have hlt : w / 2 ^ 20 < 2 ^ 32 := Nat.lt_of_lt_of_le hw20 (by decide)
      show wp_X4_moveOn_68 (nI n) K (d + 1) (nI j + (1 : Int32)) (upd been (nI j).toNatClampNeg (_ ||| (_ <<< ((10 : Int32) &&& 31))))
      have esl : nI (nd (w / 2 ^ 20) ((w &&& 1023) ||| ((w / 2 ^ 10) &&& 1023))) <<< ((10 : Int32) &&& 31) = nI (nd (w / 2 ^ 20) ((w &&& 1023) ||| ((w / 2 ^ 10) &&& 1023)) * 2 ^ 10) := px_shl (k := 10) (by decide) (by omega)
      rw [esl, px_or, px_cl (by omega), nI_1]
      generalize hA : (w &&& 1023) ||| ((w / 2 ^ 10) &&& 1023) = a at *
      generalize hB : nd (w / 2 ^ 20) a = c at *
      have ta : ∀ i, a.testBit i = (decide (i < 10) && (w.testBit i || w.testBit (10 + i))) := by
        intro i
        rw [← hA, tb_or, tb_and, tb_and, tb1023, tb_div]
        cases decide (i < 10) <;> cases w.testBit i <;> cases w.testBit (10 + i) <;> rfl
      have tc : ∀ i, c.testBit i = (w.testBit (20 + i) && !a.testBit i) := by
        intro i
        rw [← hB, nd_tb hlt, tb_div]
      refine ih (j + 1) _ (by omega) (fun S hS => ?_)
      by_cases ej : S = j
      · subst ej
        have lt1 : c * 2 ^ 10 < 2 ^ 20 := by omega
        refine ⟨a ||| c * 2 ^ 10, or_lt (n := 30) (Nat.lt_of_lt_of_le hp (by decide)) (Nat.lt_of_lt_of_le lt1 (by decide)), up_s, fun x hx => ?_⟩
        obtain ⟨g1, g2, g3⟩ := h3 x hx
        simp only [if_neg (Nat.lt_irrefl S)] at g1 g2 g3
        simp only [if_pos (Nat.lt_succ_self S)]
        rw [tb_or, tb_or, tb_or, Nat.testBit_mul_two_pow, Nat.testBit_mul_two_pow, Nat.testBit_mul_two_pow, ta x, ta (10 + x), ta (20 + x)]
        refine ⟨?_, ?_, ?_⟩
        · rw [decide_eq_true hx, decide_eq_false (show ¬ 10 ≤ x by omega), Bool.true_and, Bool.false_and, Bool.or_false, Bool.or_eq_true, g1, g2]
        · rw [decide_eq_false (show ¬ 10 + x < 10 by omega), decide_eq_true (show 10 ≤ 10 + x by omega), Bool.false_and, Bool.false_or, Bool.true_and, show 10 + x - 10 = x by omega, tc x, ta x, decide_eq_true hx, Bool.true_and, ← g1, ← g2, ← g3]
          cases w.testBit x <;> cases w.testBit (10 + x) <;> cases w.testBit (20 + x) <;> simp
        · rw [decide_eq_false (show ¬ 20 + x < 10 by omega), decide_eq_true (show 10 ≤ 20 + x by omega), Bool.false_and, Bool.false_or, Bool.true_and, tb_big (n := 10) (show c < 2 ^ 10 by omega) (show 10 ≤ 20 + x - 10 by omega)]
          simp
      · obtain ⟨w', k1, k2, k3⟩ := he S hS
        refine ⟨w', k1, by rw [up_n ej]; exact k2, fun x hx => ?_⟩
        obtain ⟨g1, g2, g3⟩ := k3 x hx
        by_cases c : S < j
        · simp only [if_pos c] at g1 g2 g3
          simp only [if_pos (show S < j + 1 by omega)]
          exact ⟨g1, g2, g3⟩
        · simp only [if_neg c] at g1 g2 g3
          simp only [if_neg (show ¬ S < j + 1 by omega)]
          exact ⟨g1, g2, g3⟩
theorem moveOn_sp {bes been : IA} {A V F : Nat → Nat → Prop} {n : Nat} (hn : n ≤ 10) (hb : bRel bes A) (hV : ∀ S x, V S x → S < 2 ^ n) (hF : ∀ S x, F S x → S < 2 ^ n ∧ x < n) (h : eR been V F (fun _ _ => False)) {K : IA → Prop} (hK : ∀ been', eR been' (fun S x => V S x ∨ F S x) (fun T y => (∃ S x, F S x ∧ y < n ∧ A x y ∧ T = S ||| 2 ^ y) ∧ ¬ (V T y ∨ F T y)) (fun _ _ => False) → K been') : wp_X4_moveOn bes been (nI n) K := by
  have h10 := pw10 hn
  refine ⟨2 ^ n + 1, move2_lp (V := V) (F := F) hn hb (fun been1 h1 => ⟨2 ^ n + 1, move68_lp (V := V) (F := F) (N := fun T y => ∃ S x, S < 2 ^ n ∧ x < n ∧ F S x ∧ y < n ∧ A x y ∧ T = S ||| 2 ^ y) hn (fun been2 h2 => hK been2 (eR_cg h2 (fun S x _ _ => ?_) (fun S x _ _ => ?_) (fun S x _ _ => ?_))) (2 ^ n) 0 been1 (by omega) (eR_cg h1 (fun S x _ _ => ?_) (fun S x _ _ => ?_) (fun S x _ _ => ?_))⟩) (2 ^ n) 0 been (by omega) (eR_cg h (fun _ _ _ _ => Iff.rfl) (fun _ _ _ _ => Iff.rfl) (fun T y _ _ => ⟨False.elim, fun ⟨S, x, z, _⟩ => absurd z (by omega)⟩))⟩
  · by_cases c : S < 2 ^ n
    · simp only [if_pos c]
    · simp only [if_neg c]
      exact ⟨Or.inl, fun z => z.elim id (fun y => absurd (hF S x y).1 c)⟩
  · by_cases c : S < 2 ^ n
    · simp only [if_pos c]
      constructor
      · rintro ⟨⟨S', x', z1, z2, z3, z4⟩, z5⟩
        exact ⟨⟨S', x', z3, z4⟩, z5⟩
      · rintro ⟨⟨S', x', z1, z2⟩, z5⟩
        exact ⟨⟨S', x', (hF S' x' z1).1, (hF S' x' z1).2, z1, z2⟩, z5⟩
    · simp only [if_neg c]
      constructor
      · intro z
        exact absurd (hF S x z).1 c
      · rintro ⟨⟨S', x', z1, z2, z3, z4⟩, z5⟩
        exact absurd (by rw [z4]; exact (or1024 (hF S' x' z1).1 z2 hn).1) c
  · by_cases c : S < 2 ^ n
    · simp only [if_pos c]
    · simp only [if_neg c]
      refine ⟨?_, False.elim⟩
      rintro ⟨S', x', z1, z2, z3, z4, z5, z6⟩
      exact absurd (by rw [z6]; exact (or1024 z1 z4 hn).1) c
  · simp only [if_neg (Nat.not_lt_zero S)]
  · simp only [if_neg (Nat.not_lt_zero S)]
  · simp only [if_neg (Nat.not_lt_zero S)]
def lV (A : Nat → Nat → Prop) (n D m : Nat) (S x : Nat) : Prop := ∃ m', m' < m ∧ cR A n D m' S x
def lF (A : Nat → Nat → Prop) (n D m : Nat) (S x : Nat) : Prop := cR A n D m S x ∧ ∀ m', m' < m → ¬ cR A n D m' S x
theorem cR_lt {A : Nat → Nat → Prop} {n D m S x : Nat} (hD : D < n) (h : cR A n D m S x) : S < 2 ^ n ∧ x < n := by
  have hb := cR_b hD m S x h
  refine ⟨?_, hb.1⟩
  apply Nat.lt_pow_two_of_testBit
  intro i hi
  cases e : S.testBit i with
  | false => rfl
  | true => exact absurd (hb.2.2.2 i e) (by omega)
theorem lay {A : Nat → Nat → Prop} {n D m : Nat} (S x : Nat) : (lV A n D m S x ∨ lF A n D m S x) ↔ lV A n D (m + 1) S x := by
  constructor
  · rintro (⟨m', h1, h2⟩ | ⟨h1, h2⟩)
    · exact ⟨m', by omega, h2⟩
    · exact ⟨m, by omega, h1⟩
  · rintro ⟨m', h1, h2⟩
    by_cases q : ∃ m'', m'' < m ∧ cR A n D m'' S x
    · exact Or.inl q
    · right
      have e : m' = m := by
        apply Nat.le_antisymm (by omega)
        apply Nat.le_of_not_lt
        intro hl
        exact q ⟨m', hl, h2⟩
      subst e
      exact ⟨h2, fun m'' h3 h4 => q ⟨m'', h3, h4⟩⟩
theorem layF {A : Nat → Nat → Prop} {n D m : Nat} (T y : Nat) : ((∃ S x, lF A n D m S x ∧ y < n ∧ A x y ∧ T = S ||| 2 ^ y) ∧ ¬ (lV A n D m T y ∨ lF A n D m T y)) ↔ lF A n D (m + 1) T y := by
  rw [lay]
  constructor
  · rintro ⟨⟨S, x, h1, h2, h3, h4⟩, h5⟩
    exact ⟨⟨S, x, h1.1, h2, h3, h4⟩, fun m' g1 g2 => h5 ⟨m', g1, g2⟩⟩
  · rintro ⟨⟨S, x, h1, h2, h3, h4⟩, h5⟩
    refine ⟨⟨S, x, ⟨h1, fun m' g1 g2 => ?_⟩, h2, h3, h4⟩, fun ⟨m', g1, g2⟩ => h5 m' g1 g2⟩
    exact h5 (m' + 1) (by omega) ⟨S, x, g2, h2, h3, h4⟩
theorem and_pw {a k : Nat} : a &&& 2 ^ k = 0 ↔ a.testBit k = false := by
  constructor
  · intro h
    have := congrArg (fun z => z.testBit k) h
    simp only [tb_and, tb_pow, Nat.zero_testBit] at this
    simpa using this
  · intro h
    apply tb_ext
    intro i
    rw [tb_and, tb_pow, Nat.zero_testBit]
    by_cases e : k = i
    · subst e; rw [h]; rfl
    · simp [e]
theorem front_eq {D : Nat} (h : D < 10) : ((1 : Int32) <<< (nI D &&& 31)) <<< ((10 : Int32) &&& 31) = nI (2 ^ (10 + D)) := by
  have hp := Nat.pow_lt_pow_right (a := 2) (by decide) h
  rw [px_shl1 D (by omega)]
  have := px_shl (a := 2 ^ D) (k := 10) (by decide) (by omega)
  refine this.trans ?_
  rw [← Nat.pow_add, Nat.add_comm]
theorem least75_lp {num bes : IA} {A : Nat → Nat → Prop} {n D : Nat} (hn : n ≤ 10) (hs : ∀ x y, A x y → A y x) (hD : D < n) (hb : bRel bes A) {K : Int32 → IA → IA → IA → Int32 → Int32 → Prop} (hK : ∀ r been, oR A n D r → K r num bes been (nI n) (nI D)) : ∀ (d m : Nat) (been : IA), m + d = 2 * (n - 1) + 1 → eR been (lV A n D m) (lF A n D m) (fun _ _ => False) → (∀ m', m' < m → ¬ cR A n D m' (2 ^ n - 1) D) → wp_X4_leastMoves_75 (nI (2 * (n - 1))) (nI (2 ^ n - 1)) num bes (nI n) (nI D) K (d + 1) (nI m) been := by
  have h10 := pw10 hn
  intro d
  induction d with
  | zero =>
    intro m been hm he hno
    refine ⟨fun _ => hK _ _ (Or.inr ⟨fun M hM => ?_, rfl⟩), fun q => absurd ?_ q⟩
    · exact hno _ (by omega) (cR_soon hs hD hM)
    · rw [nI_ltI (by omega) (by omega)]
      omega
  | succ d ih =>
    intro m been hm he hno
    have hall : 2 ^ n - 1 < 1024 := by
      have := Nat.two_pow_pos n
      omega
    obtain ⟨w, h1, h2, h3⟩ := he (2 ^ n - 1) hall
    have g2 := (h3 D (by omega)).2.1
    have hw : w &&& 2 ^ (10 + D) ≤ w := Nat.and_le_left
    refine ⟨fun q => ?_, fun _ => ⟨px_in hall (by decide), ?_⟩⟩
    · rw [nI_ltI (by omega) (by omega)] at q
      omega
    · show ((been (nI (2 ^ n - 1)).toNatClampNeg &&& (((1 : Int32) <<< (nI D &&& 31)) <<< ((10 : Int32) &&& 31))) = 0 → _) ∧ _
      rw [front_eq (by omega), px_cl (by omega), h2, px_and]
      refine ⟨fun q => ?_, fun q => ?_⟩
      · rw [← nI_0, nI_eq (by omega) (by omega), and_pw] at q
        have hnow : ¬ cR A n D m (2 ^ n - 1) D := fun z => by
          have := g2.mpr ⟨z, hno⟩
          rw [q] at this
          cases this
        refine moveOn_sp hn hb (fun S x ⟨m', _, z⟩ => (cR_lt hD z).1) (fun S x z => cR_lt hD z.1) he (fun been' he' => ?_)
        rw [nI_1]
        refine ih (m + 1) been' (by omega) (eR_cg he' (fun S x _ _ => lay S x) (fun S x _ _ => layF S x) (fun _ _ _ _ => Iff.rfl)) (fun m' hm' => ?_)
        by_cases e : m' = m
        · subst e; exact hnow
        · exact hno m' (by omega)
      · refine hK _ _ (Or.inl ⟨m, ?_, hno, rfl⟩)
        have : w.testBit (10 + D) = true := by
          cases e : w.testBit (10 + D) with
          | true => rfl
          | false =>
            exfalso
            apply q
            rw [and_pw.mpr e]
            rfl
        exact (g2.mp this).1
theorem least26_sp {num bes been0 : IA} {A : Nat → Nat → Prop} {n D : Nat} (hn : n ≤ 10) (hs : ∀ x y, A x y → A y x) (hD : D < n) (hb : bRel bes A) {K : Int32 → IA → IA → IA → Int32 → Int32 → Prop} (hK : ∀ r been, oR A n D r → K r num bes been (nI n) (nI D)) : wp_X4_leastMoves_26 num bes (nI n) (nI D) K been0 := by
  have h10 := pw10 hn
  have hD10 : 2 ^ D < 1024 := Nat.lt_of_lt_of_le (Nat.pow_lt_pow_right (by decide) hD) h10
  refine fill_sp (by decide) (fun v hv => ?_)
  show vp_in ((1 : Int32) <<< (nI D &&& 31)) 1024 ∧ (∀ x2 : Int32, x2 = (2 : Int32) * (nI n - (1 : Int32)) → ∀ x3 : Int32, x3 = ((1 : Int32) <<< (nI n &&& 31)) - (1 : Int32) → ∃ k : Nat, wp_X4_leastMoves_75 x2 x3 num bes (nI n) (nI D) K k (0 : Int32) (upd v ((1 : Int32) <<< (nI D &&& 31)).toNatClampNeg (((1 : Int32) <<< (nI D &&& 31)) <<< ((10 : Int32) &&& 31))))
  rw [front_eq (by omega), px_shl1 D (by omega), px_cl (by omega)]
  refine ⟨px_in hD10 (by decide), fun x2 e2 x3 e3 => ?_⟩
  have p1 := Nat.two_pow_pos n
  have es : ∀ a, 1 ≤ a → nI a - (1 : Int32) = nI (a - 1) := fun a ha => by rw [px_lit, pk_sub ha]
  rw [px_shl1 n (by omega), es _ (by omega)] at e3
  rw [es _ (by omega), px_lit, pk_mul] at e2
  subst e2
  subst e3
  refine ⟨2 * (n - 1) + 1 + 1, least75_lp hn hs hD hb hK (2 * (n - 1) + 1) 0 _ (by omega) (fun S hS => ?_) (fun m' hm' => absurd hm' (by omega))⟩
  by_cases e : S = 2 ^ D
  · subst e
    refine ⟨2 ^ (10 + D), Nat.pow_lt_pow_right (by decide) (by omega), up_s, fun x hx => ?_⟩
    rw [tb_pow, tb_pow, tb_pow, decide_eq_true_iff, decide_eq_true_iff, decide_eq_true_iff]
    refine ⟨⟨fun z => (by omega), fun ⟨m', z, _⟩ => absurd z (by omega)⟩, ⟨fun z => ⟨⟨rfl, (by omega)⟩, fun m' z => absurd z (by omega)⟩, fun z => ?_⟩, ⟨fun z => (by omega), False.elim⟩⟩
    have := z.1.2
    omega
  · refine ⟨0, by decide, by rw [up_n e]; exact hv S hS, fun x hx => ?_⟩
    rw [Nat.zero_testBit, Nat.zero_testBit, Nat.zero_testBit]
    refine ⟨⟨fun z => (by cases z), fun ⟨m', z, _⟩ => absurd z (by omega)⟩, ⟨fun z => (by cases z), fun z => absurd z.1.1 e⟩, ⟨fun z => (by cases z), False.elim⟩⟩
