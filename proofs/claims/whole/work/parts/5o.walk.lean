/-! PURE PART: walks from the door: by the set walked (the class), by what is painted (the model) -/
/-- he has walked S and is on x after m moves -/
def cR (A : Nat → Nat → Prop) (n D : Nat) : Nat → Nat → Nat → Prop
  | 0, S, x => S = 2 ^ D ∧ x = D
  | m + 1, T, y => ∃ S x, cR A n D m S x ∧ y < n ∧ A x y ∧ T = S ||| 2 ^ y
/-- he is on x and P is painted after m moves -/
def mR (A : Nat → Nat → Prop) (n D : Nat) : Nat → Nat → Nat → Prop
  | 0, x, P => x = D ∧ P = 0
  | m + 1, y, Q => ∃ x P, mR A n D m x P ∧ y < n ∧ A x y ∧ P.testBit y = false ∧ (Q = P ∨ Q = P ||| 2 ^ x)
theorem cR_b {A : Nat → Nat → Prop} {n D : Nat} (hD : D < n) : ∀ m S x, cR A n D m S x → x < n ∧ S.testBit x = true ∧ S.testBit D = true ∧ ∀ i, S.testBit i = true → i < n
  | 0, S, x, h => by
    obtain ⟨rfl, rfl⟩ := h
    refine ⟨hD, by rw [tb_pow]; simp, by rw [tb_pow]; simp, fun i hi => ?_⟩
    rw [tb_pow, decide_eq_true_iff] at hi
    omega
  | m + 1, T, y, h => by
    obtain ⟨S, x, h1, h2, h3, rfl⟩ := h
    obtain ⟨g1, g2, g3, g4⟩ := cR_b hD m S x h1
    refine ⟨h2, by rw [tb_or, tb_pow]; simp, by rw [tb_or, g3]; rfl, fun i hi => ?_⟩
    rw [tb_or, Bool.or_eq_true, tb_pow, decide_eq_true_iff] at hi
    rcases hi with hi | hi
    · exact g4 i hi
    · omega
theorem mR_b {A : Nat → Nat → Prop} {n D : Nat} (hD : D < n) : ∀ m x P, mR A n D m x P → x < n ∧ ∀ i, P.testBit i = true → i < n
  | 0, x, P, h => by
    obtain ⟨rfl, rfl⟩ := h
    exact ⟨hD, fun i hi => by simp at hi⟩
  | m + 1, y, Q, h => by
    obtain ⟨x, P, h1, h2, h3, h4, h5⟩ := h
    obtain ⟨g1, g2⟩ := mR_b hD m x P h1
    refine ⟨h2, fun i hi => ?_⟩
    rcases h5 with rfl | rfl
    · exact g2 i hi
    · rw [tb_or, Bool.or_eq_true, tb_pow, decide_eq_true_iff] at hi
      rcases hi with hi | hi
      · exact g2 i hi
      · omega
/-- what is painted was walked -/
theorem mR_cR {A : Nat → Nat → Prop} {n D : Nat} (hD : D < n) : ∀ m x P, mR A n D m x P → ∃ S, cR A n D m S x ∧ ∀ i, P.testBit i = true → S.testBit i = true
  | 0, x, P, h => by
    obtain ⟨rfl, rfl⟩ := h
    exact ⟨2 ^ x, ⟨rfl, rfl⟩, fun i hi => by simp at hi⟩
  | m + 1, y, Q, h => by
    obtain ⟨x, P, h1, h2, h3, h4, h5⟩ := h
    obtain ⟨S, g1, g2⟩ := mR_cR hD m x P h1
    have gx := (cR_b hD m S x g1).2.1
    refine ⟨S ||| 2 ^ y, ⟨S, x, g1, h2, h3, rfl⟩, fun i hi => ?_⟩
    rw [tb_or, Bool.or_eq_true]
    left
    rcases h5 with rfl | rfl
    · exact g2 i hi
    · rw [tb_or, Bool.or_eq_true, tb_pow, decide_eq_true_iff] at hi
      rcases hi with hi | hi
      · exact g2 i hi
      · rw [← hi]; exact gx
/-- he can paint each square as he leaves it for the last time -/
theorem cR_mR {A : Nat → Nat → Prop} {n D : Nat} (hs : ∀ x y, A x y → A y x) (hD : D < n) : ∀ j V x, cR A n D j V x → ∀ a P, mR A n D a x P → (∀ i, V.testBit i = true → P.testBit i = false) → ∃ Q, mR A n D (a + j) D Q ∧ ∀ i, Q.testBit i = (P.testBit i || (V.testBit i && decide (i ≠ D)))
  | 0, V, x, h => by
    obtain ⟨rfl, rfl⟩ := h
    intro a P hm _
    refine ⟨P, hm, fun i => ?_⟩
    rw [tb_pow]
    by_cases e : x = i
    · subst e; simp
    · simp [e]
  | j + 1, V, y, h => by
    obtain ⟨S, x, h1, h2, h3, rfl⟩ := h
    obtain ⟨g1, g2, g3, g4⟩ := cR_b hD j S x h1
    intro a P hm hd
    have hPx : P.testBit x = false := hd x (by rw [tb_or, g2]; rfl)
    cases e : S.testBit y with
    | true =>
      have hst : mR A n D (a + 1) x P := ⟨y, P, hm, g1, hs x y h3, hPx, Or.inl rfl⟩
      obtain ⟨Q, q1, q2⟩ := cR_mR hs hD j S x h1 (a + 1) P hst (fun i hi => hd i (by rw [tb_or, hi]; rfl))
      refine ⟨Q, by rw [show a + (j + 1) = a + 1 + j by omega]; exact q1, fun i => ?_⟩
      rw [q2 i, tb_or, tb_pow]
      by_cases ei : y = i
      · subst ei; rw [e]; simp
      · simp [ei]
    | false =>
      have hyx : x ≠ y := by
        intro z
        subst z
        rw [g2] at e
        cases e
      have hyD : D ≠ y := by
        intro z
        subst z
        rw [g3] at e
        cases e
      have hst : mR A n D (a + 1) x (P ||| 2 ^ y) := ⟨y, P, hm, g1, hs x y h3, hPx, Or.inr rfl⟩
      obtain ⟨Q, q1, q2⟩ := cR_mR hs hD j S x h1 (a + 1) (P ||| 2 ^ y) hst (fun i hi => by
        rw [tb_or, hd i (by rw [tb_or, hi]; rfl), tb_pow]
        have : y ≠ i := by
          intro z
          subst z
          rw [hi] at e
          cases e
        simp [this])
      refine ⟨Q, by rw [show a + (j + 1) = a + 1 + j by omega]; exact q1, fun i => ?_⟩
      rw [q2 i, tb_or, tb_or, tb_pow]
      by_cases ei : y = i
      · subst ei
        have : y ≠ D := fun z => hyD z.symm
        simp [this]
      · simp [ei]
theorem out_iff {A : Nat → Nat → Prop} {n D g : Nat} (hs : ∀ x y, A x y → A y x) (hD : D < n) (hg : ∀ i, g.testBit i = (decide (i < n) && decide (i ≠ D))) (m : Nat) : mR A n D m D g ↔ cR A n D m (2 ^ n - 1) D := by
  constructor
  · intro h
    obtain ⟨S, h1, h2⟩ := mR_cR hD m D g h
    obtain ⟨g1, g2, g3, g4⟩ := cR_b hD m S D h1
    have e : S = 2 ^ n - 1 := by
      apply tb_ext
      intro i
      rw [tb_m1]
      by_cases hi : i < n
      · rw [decide_eq_true hi]
        by_cases e : i = D
        · subst e; exact g2
        · exact h2 i (by rw [hg]; simp [hi, e])
      · rw [decide_eq_false hi]
        cases es : S.testBit i with
        | false => rfl
        | true => exact absurd (g4 i es) hi
    rw [← e]
    exact h1
  · intro h
    obtain ⟨Q, q1, q2⟩ := cR_mR hs hD m _ D h 0 0 ⟨rfl, rfl⟩ (fun i _ => by simp)
    have e : Q = g := by
      apply tb_ext
      intro i
      rw [q2, hg, tb_m1]
      simp
    rw [← e, ← Nat.zero_add m]
    exact q1
/-! never more than twice the squares -/
theorem cR_ins {A : Nat → Nat → Prop} {n D : Nat} (hs : ∀ x y, A x y → A y x) (hD : D < n) : ∀ m S z, cR A n D m S z → ∀ x y, S.testBit x = true → y < n → A x y → cR A n D (m + 2) (S ||| 2 ^ y) z
  | 0, S, z, h => by
    obtain ⟨rfl, rfl⟩ := h
    intro x y hx hy ha
    rw [tb_pow, decide_eq_true_iff] at hx
    subst hx
    refine ⟨2 ^ z ||| 2 ^ y, y, ⟨2 ^ z, z, ⟨rfl, rfl⟩, hy, ha, rfl⟩, hD, hs _ _ ha, ?_⟩
    apply tb_ext
    intro i
    simp only [tb_or]
    cases (2 ^ z).testBit i <;> cases (2 ^ y).testBit i <;> rfl
  | m + 1, T, z, h => by
    obtain ⟨S, w, h1, h2, h3, rfl⟩ := h
    intro x y hx hy ha
    rw [tb_or, Bool.or_eq_true, tb_pow, decide_eq_true_iff] at hx
    rcases hx with hx | hx
    · refine ⟨S ||| 2 ^ y, w, cR_ins hs hD m S w h1 x y hx hy ha, h2, h3, ?_⟩
      rw [Nat.or_assoc, Nat.or_assoc, Nat.or_comm (2 ^ z)]
    · subst hx
      refine ⟨(S ||| 2 ^ z) ||| 2 ^ y, y, ⟨S ||| 2 ^ z, z, ⟨S, w, h1, h2, h3, rfl⟩, hy, ha, rfl⟩, h2, hs _ _ ha, ?_⟩
      apply tb_ext
      intro i
      simp only [tb_or]
      cases S.testBit i <;> cases (2 ^ z).testBit i <;> cases (2 ^ y).testBit i <;> rfl
def cb (S : Nat) : Nat → Nat
  | 0 => 0
  | i + 1 => cb S i + if S.testBit i then 1 else 0
theorem cb_le (S : Nat) : ∀ n, cb S n ≤ n
  | 0 => Nat.le_refl _
  | n + 1 => by
    have := cb_le S n
    rw [cb]
    split <;> omega
theorem cb_put {S y : Nat} (h : S.testBit y = false) : ∀ n, cb (S ||| 2 ^ y) n = cb S n + if y < n then 1 else 0
  | 0 => by rw [if_neg (by omega)]; rfl
  | n + 1 => by
    rw [cb, cb, cb_put h n, tb_or, tb_pow]
    by_cases e : y = n
    · subst e
      rw [h, if_neg (Nat.lt_irrefl y), if_pos (Nat.lt_succ_self y)]
      simp
    · by_cases c : y < n
      · rw [if_pos c, if_pos (show y < n + 1 by omega), decide_eq_false e, Bool.or_false, Nat.add_right_comm]
      · rw [if_neg c, if_neg (show ¬ y < n + 1 by omega), decide_eq_false e, Bool.or_false, Nat.add_zero, Nat.add_zero]
theorem cb_lack {S : Nat} : ∀ n, cb S n < n → ∃ y, y < n ∧ S.testBit y = false
  | 0, h => absurd h (by omega)
  | n + 1, h => by
    cases e : S.testBit n with
    | false => exact ⟨n, by omega, e⟩
    | true =>
      rw [cb, e, if_pos rfl] at h
      obtain ⟨y, h1, h2⟩ := cb_lack (S := S) n (by omega)
      exact ⟨y, by omega, h2⟩
theorem cb_full {S : Nat} : ∀ n, cb S n = n → ∀ i, i < n → S.testBit i = true
  | 0, _ => fun i hi => absurd hi (by omega)
  | n + 1, h => by
    have hl := cb_le S n
    rw [cb] at h
    intro i hi
    split at h
    · rename_i c
      by_cases e : i = n
      · subst e; exact c
      · exact cb_full n (by omega) i (by omega)
    · omega
theorem cR_in {A : Nat → Nat → Prop} {n D S : Nat} (hS : S.testBit D = true) (hc : ∀ x y, S.testBit x = true → y < n → A x y → S.testBit y = true) : ∀ m T z, cR A n D m T z → S.testBit z = true ∧ ∀ i, T.testBit i = true → S.testBit i = true
  | 0, T, z, h => by
    obtain ⟨rfl, rfl⟩ := h
    refine ⟨hS, fun i hi => ?_⟩
    rw [tb_pow, decide_eq_true_iff] at hi
    subst hi
    exact hS
  | m + 1, T, z, h => by
    obtain ⟨U, w, h1, h2, h3, rfl⟩ := h
    obtain ⟨g1, g2⟩ := cR_in hS hc m U w h1
    have gz := hc w z g1 h2 h3
    refine ⟨gz, fun i hi => ?_⟩
    rw [tb_or, Bool.or_eq_true, tb_pow, decide_eq_true_iff] at hi
    rcases hi with hi | hi
    · exact g2 i hi
    · subst hi; exact gz
theorem cb_one {D : Nat} : ∀ n, cb (2 ^ D) n = if D < n then 1 else 0
  | 0 => by rw [if_neg (by omega)]; rfl
  | n + 1 => by
    rw [cb, cb_one n, tb_pow]
    by_cases e : D = n
    · subst e
      rw [if_neg (Nat.lt_irrefl D), if_pos (Nat.lt_succ_self D)]
      simp
    · by_cases c : D < n
      · rw [if_pos c, if_pos (show D < n + 1 by omega), decide_eq_false e]
        rfl
      · rw [if_neg c, if_neg (show ¬ D < n + 1 by omega), decide_eq_false e]
        rfl
theorem cR_soon {A : Nat → Nat → Prop} {n D M : Nat} (hs : ∀ x y, A x y → A y x) (hD : D < n) (hM : cR A n D M (2 ^ n - 1) D) : cR A n D (2 * (n - 1)) (2 ^ n - 1) D := by
  have grow : ∀ k, k < n → ∃ S, cR A n D (2 * k) S D ∧ cb S n = k + 1 := by
    intro k
    induction k with
    | zero => intro _; exact ⟨2 ^ D, ⟨rfl, rfl⟩, by rw [cb_one, if_pos hD]⟩
    | succ k ih =>
      intro hk
      obtain ⟨S, h1, h2⟩ := ih (by omega)
      have hSD := (cR_b hD _ S D h1).2.2.1
      by_cases q : ∃ x y, S.testBit x = true ∧ y < n ∧ A x y ∧ S.testBit y = false
      · obtain ⟨x, y, q1, q2, q3, q4⟩ := q
        refine ⟨S ||| 2 ^ y, cR_ins hs hD _ S D h1 x y q1 q2 q3, ?_⟩
        rw [cb_put q4, if_pos q2, h2]
      · exfalso
        have hc : ∀ x y, S.testBit x = true → y < n → A x y → S.testBit y = true := by
          intro x y x1 x2 x3
          cases e : S.testBit y with
          | true => rfl
          | false => exact absurd ⟨x, y, x1, x2, x3, e⟩ q
        obtain ⟨y, y1, y2⟩ := cb_lack (S := S) n (by omega)
        have := (cR_in hSD hc M _ D hM).2 y (by rw [tb_m1]; simp [y1])
        rw [this] at y2
        cases y2
  obtain ⟨S, h1, h2⟩ := grow (n - 1) (by omega)
  have hb := (cR_b hD _ S D h1).2.2.2
  have e : S = 2 ^ n - 1 := by
    apply tb_ext
    intro i
    rw [tb_m1]
    by_cases hi : i < n
    · rw [decide_eq_true hi]
      exact cb_full n (by omega) i hi
    · rw [decide_eq_false hi]
      cases es : S.testBit i with
      | false => rfl
      | true => exact absurd (hb i es) hi
  rw [← e]
  exact h1
/-- the answer -/
def oR (A : Nat → Nat → Prop) (n D : Nat) (r : Int32) : Prop := (∃ m, cR A n D m (2 ^ n - 1) D ∧ (∀ m', m' < m → ¬ cR A n D m' (2 ^ n - 1) D) ∧ r = nI m) ∨ ((∀ m, ¬ cR A n D m (2 ^ n - 1) D) ∧ r = (-9 : Int32))
theorem oR_uq {A : Nat → Nat → Prop} {n D : Nat} {r r' : Int32} (h1 : oR A n D r) (h2 : oR A n D r') : r = r' := by
  rcases h1 with ⟨m, a1, a2, rfl⟩ | ⟨a1, rfl⟩
  · rcases h2 with ⟨m', c1, c2, rfl⟩ | ⟨c1, rfl⟩
    · have : m = m' := by
        apply Nat.le_antisymm
        · apply Nat.le_of_not_lt
          intro hl
          exact a2 m' hl c1
        · apply Nat.le_of_not_lt
          intro hl
          exact c2 m hl a1
      rw [this]
    · exact absurd a1 (c1 m)
  · rcases h2 with ⟨m', c1, c2, rfl⟩ | ⟨c1, rfl⟩
    · exact absurd c1 (a1 m')
    · rfl
