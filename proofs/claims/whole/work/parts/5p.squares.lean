/-! PURE PART: the squares by number, who is beside whom (the class) -/
theorem fN_mono {f : Gr} {i : Nat} : ∀ {j : Nat}, i ≤ j → fN f i ≤ fN f j := by
  intro j
  induction j with
  | zero => intro h; rw [show i = 0 by omega]; exact Nat.le_refl _
  | succ j ih =>
    intro h
    by_cases e : i = j + 1
    · rw [e]; exact Nat.le_refl _
    · have := ih (by omega)
      rw [fN]
      omega
theorem fN_s {f : Gr} {i : Nat} (h : fS f i ≠ 0) : fN f (i + 1) = fN f i + 1 := by rw [fN, if_neg h]
theorem fN_z {f : Gr} {i : Nat} (h : fS f i = 0) : fN f (i + 1) = fN f i := by rw [fN, if_pos h]; rfl
theorem fN_lt {f : Gr} {i j : Nat} (h : i < j) (hi : fS f i ≠ 0) : fN f i < fN f j := by
  have := fN_mono (f := f) (show i + 1 ≤ j from h)
  rw [fN_s hi] at this
  omega
theorem fN_inj {f : Gr} {i j : Nat} (hi : fS f i ≠ 0) (hj : fS f j ≠ 0) (e : fN f i = fN f j) : i = j := by
  rcases Nat.lt_trichotomy i j with h | h | h
  · have := fN_lt h hi; omega
  · exact h
  · have := fN_lt h hj; omega
theorem fN_q {f : Gr} (hf : okF f) {i : Nat} (h : i < 25) (hi : fS f i ≠ 0) : fN f i < fQ f := by
  have := fN_lt h hi
  rw [hf.2.2.2.2.2.1] at this
  exact this
theorem fN_flat {f : Gr} {a : Nat} : ∀ d, (∀ j, a ≤ j → j < a + d → fS f j = 0) → fN f (a + d) = fN f a
  | 0, _ => rfl
  | d + 1, h => by
    rw [show a + (d + 1) = (a + d) + 1 by omega, fN_z (h (a + d) (by omega) (by omega))]
    exact fN_flat d (fun j h1 h2 => h j h1 (by omega))
def sg (f : Gr) (r c : Nat) : Nat := if r < fR f ∧ c < fC f then fS f (5 * r + c) else 0
theorem sgn_sp {f : Gr} (hf : okF f) {signs : IA} (hsg : ∀ r c, r < fR f → c < fC f → signs (5 * r + c) = nI (fS f (5 * r + c))) {r c : Nat} (hr : r < 1000) (hc : c < 1000) {K : Int32 → Prop} (hK : K (nI (sg f r c))) : wp_X0_sign (nI r) (nI c) signs (nI (fR f)) (nI (fC f)) K := by
  have f1 := hf.2.1
  have f2 := hf.2.2.1
  unfold sg at hK
  refine ⟨fun q => absurd q (nI_pos (by omega)), fun _ => ⟨fun q => ?_, fun q => ⟨fun q2 => absurd q2 (nI_pos (by omega)), fun _ => ⟨fun q2 => ?_, fun q2 => ?_⟩⟩⟩⟩
  · rw [nI_leI (by omega) (by omega)] at q
    rw [if_neg (by omega)] at hK
    exact ⟨fun _ => hK, fun z => absurd rfl z⟩
  · rw [nI_leI (by omega) (by omega)] at q2
    rw [if_neg (by omega)] at hK
    exact ⟨fun _ => hK, fun z => absurd rfl z⟩
  · rw [nI_leI (by omega) (by omega)] at q q2
    rw [if_pos (by omega)] at hK
    have e : nI r * (5 : Int32) + nI c = nI (5 * r + c) := by rw [px_lit, pk_mul, nI_add, Nat.mul_comm]
    refine ⟨fun z => absurd z px_01, fun _ => ?_⟩
    rw [e, px_cl (by omega), hsg r c (by omega) (by omega)]
    exact ⟨px_in (by omega) (by decide), hK⟩
def nuM (f : Gr) (num : IA) (k : Nat) : Prop := ∀ j, j < k → fS f j ≠ 0 → num j = nI (fN f j)
theorem nuM_z {f : Gr} {num : IA} {k : Nat} (h : nuM f num k) (e : fS f k = 0) : nuM f num (k + 1) := fun j h1 h2 => by
  by_cases ej : j = k
  · subst ej; exact absurd e h2
  · exact h j (by omega) h2
theorem nuM_s {f : Gr} {num : IA} {k : Nat} (h : nuM f num k) : nuM f (upd num k (nI (fN f k))) (k + 1) := fun j h1 h2 => by
  by_cases ej : j = k
  · subst ej; exact up_s
  · rw [up_n ej]; exact h j (by omega) h2
def drN (f : Gr) (d k : Nat) : Nat := if d < k then fN f d else 0
theorem drN_n {f : Gr} {d k : Nat} (h : d ≠ k) : drN f d (k + 1) = drN f d k := by
  unfold drN
  by_cases c : d < k
  · rw [if_pos c, if_pos (by omega)]
  · rw [if_neg c, if_neg (by omega)]
theorem row_z {f : Gr} (hf : okF f) {r j : Nat} (hr : r < 5) (h1 : 5 * r + fC f ≤ j) (h2 : j < 5 * (r + 1)) : fS f j = 0 := by
  have := hf.2.2.2.2.1 r (j - 5 * r) hr (by omega) (by omega)
  rw [show 5 * r + (j - 5 * r) = j by omega] at this
  exact this
theorem num22_lp {f : Gr} {d : Nat} (hf : okF f) (hd : ∀ k, k < 25 → fS f k = 2 → k = d) (hd2 : fS f d = 2) {signs : IA} (hsg : ∀ r c, r < fR f → c < fC f → signs (5 * r + c) = nI (fS f (5 * r + c))) {r : Nat} (hr : r < fR f) {E : Int32 → IA → Int32 → Int32 → Prop} {K : IA → Int32 → Int32 → Prop} (hE : ∀ num, nuM f num (5 * (r + 1)) → E (nI (r + 1)) num (nI (fN f (5 * (r + 1)))) (nI (drN f d (5 * (r + 1))))) : ∀ (dd c : Nat) (num : IA), c + dd = fC f → nuM f num (5 * r + c) → wp_X4_number_22 signs (nI (fR f)) (nI (fC f)) E K (dd + 1) (nI r) (nI c) num (nI (fN f (5 * r + c))) (nI (drN f d (5 * r + c))) := by
  have f1 := hf.2.1
  have f2 := hf.2.2.1
  have f10 := hf.2.2.2.2.2.2.1
  intro dd
  induction dd with
  | zero =>
    intro c num hc hn
    obtain rfl : c = fC f := by omega
    have flat : ∀ j, 5 * r + fC f ≤ j → j < 5 * r + fC f + (5 - fC f) → fS f j = 0 := fun j h1 h2 => row_z hf (by omega) h1 (by omega)
    have e1 := fN_flat (5 - fC f) flat
    rw [show 5 * r + fC f + (5 - fC f) = 5 * (r + 1) by omega] at e1
    have e2 : drN f d (5 * (r + 1)) = drN f d (5 * r + fC f) := by
      unfold drN
      by_cases q : d < 5 * r + fC f
      · rw [if_pos q, if_pos (by omega)]
      · rw [if_neg q, if_neg]
        intro z
        have := row_z hf (j := d) (r := r) (by omega) (by omega) z
        omega
    refine ⟨fun _ => ?_, fun q => absurd ?_ q⟩
    · rw [nI_1, ← e1, ← e2]
      refine hE num (fun j h1 h2 => ?_)
      by_cases q : j < 5 * r + fC f
      · exact hn j q h2
      · exact absurd (row_z hf (by omega) (by omega) h1) h2
    · rw [nI_leI (by omega) (by omega)]
      exact Nat.le_refl _
  | succ dd ih =>
    intro c num hc hn
    have hk : 5 * r + c < 25 := by omega
    have e : sg f r c = fS f (5 * r + c) := if_pos ⟨hr, by omega⟩
    have hf2 := hf.2.2.2.1 (5 * r + c) hk
    have ek : nI r * (5 : Int32) + nI c = nI (5 * r + c) := by rw [px_lit, pk_mul, nI_add, Nat.mul_comm]
    have hle : fN f (5 * r + c) ≤ 10 := by
      have := fN_mono (f := f) (show 5 * r + c ≤ 25 by omega)
      rw [hf.2.2.2.2.2.1] at this
      omega
    refine ⟨fun q => ?_, fun _ => sgn_sp hf hsg (by omega) (by omega) ?_⟩
    · rw [nI_leI (by omega) (by omega)] at q
      omega
    · rw [e]
      have st : ∀ (E22 : Int32 → IA → Int32 → Prop), (∀ num', nuM f num' (5 * r + c + 1) → E22 (nI (c + 1)) num' (nI (fN f (5 * r + c + 1)))) → wp_X4_number_52 (nI r) (nI (fS f (5 * r + c))) E22 K (nI c) num (nI (fN f (5 * r + c))) := by
        intro E22 hE22
        refine ⟨fun q => ?_, fun q => ⟨fun q2 => ?_, fun q2 => ?_⟩⟩
        · rw [← nI_0, nI_eq (by omega) (by omega)] at q
          have := hE22 num (nuM_z hn q)
          rw [fN_z q] at this
          rw [nI_1]
          exact this
        · have hq : fS f (5 * r + c) ≠ 0 := fun z => q (by rw [z]; rfl)
          have := fN_q hf hk hq
          rw [px_lit, nI_leI (by omega) (by omega)] at q2
          omega
        · have hq : fS f (5 * r + c) ≠ 0 := fun z => q (by rw [z]; rfl)
          have := hE22 _ (nuM_s hn)
          rw [fN_s hq] at this
          rw [ek, px_cl (by omega), nI_1, nI_1]
          exact ⟨px_in hk (by decide), this⟩
      refine ⟨fun q => st _ (fun num' hn' => ?_), fun q => st _ (fun num' hn' => ?_)⟩
      · rw [px_lit, nI_eq (by omega) (by omega)] at q
        have ed := hd _ hk q
        have := ih (c + 1) num' (by omega) hn'
        rw [show drN f d (5 * r + (c + 1)) = fN f (5 * r + c) by unfold drN; rw [if_pos (by omega), ed]] at this
        exact this
      · rw [px_lit, nI_eq (by omega) (by omega)] at q
        have := ih (c + 1) num' (by omega) hn'
        rw [show drN f d (5 * r + (c + 1)) = drN f d (5 * r + c) from drN_n (k := 5 * r + c) (fun z => q (by rw [← z]; exact hd2))] at this
        exact this
theorem number_sp {f : Gr} {d : Nat} (hf : okF f) (hd1 : d < 25) (hd : ∀ k, k < 25 → fS f k = 2 → k = d) (hd2 : fS f d = 2) {signs num : IA} {sq dr : Int32} (hsg : ∀ r c, r < fR f → c < fC f → signs (5 * r + c) = nI (fS f (5 * r + c))) {K : IA → Int32 → Int32 → Prop} (hK : ∀ num, nuM f num 25 → K num (nI (fQ f)) (nI (fN f d))) : wp_X4_number num sq dr signs (nI (fR f)) (nI (fC f)) K := by
  have f1 := hf.2.1
  have f2 := hf.2.2.1
  have flat : ∀ j, 5 * fR f ≤ j → j < 25 → fS f j = 0 := by
    intro j h1 h2
    have := hf.2.2.2.2.1 (j / 5) (j % 5) (by omega) (by omega) (by omega)
    rw [show 5 * (j / 5) + j % 5 = j by omega] at this
    exact this
  have lp : ∀ (dd r : Nat) (num : IA), r + dd = fR f → nuM f num (5 * r) → wp_X4_number_12 signs (nI (fR f)) (nI (fC f)) K (dd + 1) (nI r) num (nI (fN f (5 * r))) (nI (drN f d (5 * r))) := by
    intro dd
    induction dd with
    | zero =>
      intro r num hr hn
      obtain rfl : r = fR f := by omega
      have e1 := fN_flat (f := f) (a := 5 * fR f) (25 - 5 * fR f) (fun j h1 h2 => flat j h1 (by omega))
      rw [show 5 * fR f + (25 - 5 * fR f) = 25 by omega, hf.2.2.2.2.2.1] at e1
      have hdl : d < 5 * fR f := by
        apply Nat.lt_of_not_le
        intro z
        have := flat d z hd1
        omega
      refine ⟨fun _ => ?_, fun q => absurd ?_ q⟩
      · rw [← e1, show drN f d (5 * fR f) = fN f d from if_pos hdl]
        refine hK num (fun j h1 h2 => ?_)
        by_cases q : j < 5 * fR f
        · exact hn j q h2
        · exact absurd (flat j (by omega) h1) h2
      · rw [nI_leI (by omega) (by omega)]
        exact Nat.le_refl _
    | succ dd ih =>
      intro r num hr hn
      refine ⟨fun q => ?_, fun _ => ⟨fC f + 1, num22_lp hf hd hd2 hsg (by omega) (fun num' hn' => ih (r + 1) num' (by omega) hn') (fC f) 0 num (by omega) hn⟩⟩
      rw [nI_leI (by omega) (by omega)] at q
      omega
  exact ⟨fR f + 1, lp (fR f) 0 num (by omega) (fun j hj => absurd hj (by omega))⟩
/-! who is beside whom -/
def bRel (bes : IA) (Q : Nat → Nat → Prop) : Prop := ∀ i, i < 10 → ∃ m, m < 1024 ∧ bes i = nI m ∧ ∀ c, m.testBit c = true ↔ Q i c
def pr (x y a c : Nat) : Prop := (x = a ∧ y = c) ∨ (x = c ∧ y = a)
theorem bRel_cg {bes : IA} {Q Q' : Nat → Nat → Prop} (h : bRel bes Q) (e : ∀ i c, Q i c ↔ Q' i c) : bRel bes Q' := fun i hi => by
  obtain ⟨m, h1, h2, h3⟩ := h i hi
  exact ⟨m, h1, h2, fun c => (h3 c).trans (e i c)⟩
theorem tb_put {m k c : Nat} : (m ||| 2 ^ k).testBit c = true ↔ m.testBit c = true ∨ k = c := by
  rw [tb_or, Bool.or_eq_true, tb_pow, decide_eq_true_iff]
theorem joinTwo_sp {bes : IA} {Q : Nat → Nat → Prop} {a b : Nat} (ha : a < 10) (hb : b < 10) (hab : a ≠ b) (h : bRel bes Q) {K : IA → Prop} (hK : ∀ bes', bRel bes' (fun i c => Q i c ∨ pr a b i c) → K bes') : wp_X4_joinTwo (nI a) (nI b) bes K := by
  obtain ⟨ma, a1, a2, a3⟩ := h a ha
  obtain ⟨mb, b1, b2, b3⟩ := h b hb
  refine ⟨px_in ha (by decide), px_in hb (by decide), ?_⟩
  rw [px_cl (by omega), px_cl (by omega), px_shl1 a (by omega), px_shl1 b (by omega), up_n (fun z => hab z.symm), a2, b2, px_or, px_or]
  refine hK _ (fun i hi => ?_)
  have p2 : ∀ k, k < 10 → 2 ^ k < 2 ^ 10 := fun k hk => Nat.pow_lt_pow_right (by decide) hk
  by_cases ei : i = b
  · subst ei
    refine ⟨mb ||| 2 ^ a, or_lt (n := 10) b1 (p2 a ha), up_s, fun c => ?_⟩
    rw [tb_put, b3 c]
    unfold pr
    constructor
    · rintro (z | z)
      · exact Or.inl z
      · exact Or.inr (Or.inr ⟨z, rfl⟩)
    · rintro (z | ⟨z, -⟩ | ⟨z, -⟩)
      · exact Or.inl z
      · exact absurd z hab
      · exact Or.inr z
  · by_cases ea : i = a
    · subst ea
      refine ⟨ma ||| 2 ^ b, or_lt (n := 10) a1 (p2 b hb), by rw [up_n ei, up_s], fun c => ?_⟩
      rw [tb_put, a3 c]
      unfold pr
      constructor
      · rintro (z | z)
        · exact Or.inl z
        · exact Or.inr (Or.inl ⟨rfl, z⟩)
      · rintro (z | ⟨-, z⟩ | ⟨-, z⟩)
        · exact Or.inl z
        · exact Or.inr z
        · exact absurd z.symm ei
    · obtain ⟨m, m1, m2, m3⟩ := h i hi
      refine ⟨m, m1, by rw [up_n ei, up_n ea]; exact m2, fun c => ?_⟩
      rw [m3 c]
      unfold pr
      constructor
      · exact Or.inl
      · rintro (z | ⟨z, -⟩ | ⟨-, z⟩)
        · exact z
        · exact absurd z.symm ea
        · exact absurd z.symm ei
def rt (f : Gr) (k : Nat) : Prop := k % 5 ≤ 3 ∧ k + 1 < 25 ∧ fS f (k + 1) ≠ 0
def dn (f : Gr) (k : Nat) : Prop := k + 5 < 25 ∧ fS f (k + 5) ≠ 0
def jn (f : Gr) : Nat → Nat → Nat → Prop
  | 0, _, _ => False
  | k + 1, a, c => jn f k a c ∨ (fS f k ≠ 0 ∧ ((rt f k ∧ pr (fN f k) (fN f (k + 1)) a c) ∨ (dn f k ∧ pr (fN f k) (fN f (k + 5)) a c)))
theorem jn_z {f : Gr} {k : Nat} (h : fS f k = 0) (a c : Nat) : jn f k a c ↔ jn f (k + 1) a c := ⟨Or.inl, fun z => z.elim id (fun y => absurd h y.1)⟩
theorem jn_flat {f : Gr} {a0 : Nat} : ∀ d, (∀ j, a0 ≤ j → j < a0 + d → fS f j = 0) → ∀ a c, jn f a0 a c ↔ jn f (a0 + d) a c
  | 0, _ => fun _ _ => Iff.rfl
  | d + 1, h => fun a c => (jn_flat d (fun j h1 h2 => h j h1 (by omega)) a c).trans (jn_z (h (a0 + d) (by omega) (by omega)) a c)
theorem join20_lp {f : Gr} (hf : okF f) {signs num : IA} (hsg : ∀ r c, r < fR f → c < fC f → signs (5 * r + c) = nI (fS f (5 * r + c))) (hn : nuM f num 25) {r : Nat} (hr : r < fR f) {E : Int32 → IA → Prop} {K : IA → Prop} (hE : ∀ bes, bRel bes (jn f (5 * (r + 1))) → E (nI (r + 1)) bes) : ∀ (dd c : Nat) (bes : IA), c + dd = fC f → bRel bes (jn f (5 * r + c)) → wp_X4_join_20 num signs (nI (fR f)) (nI (fC f)) E K (dd + 1) (nI r) (nI c) bes := by
  have f1 := hf.2.1
  have f2 := hf.2.2.1
  have f10 := hf.2.2.2.2.2.2.1
  intro dd
  induction dd with
  | zero =>
    intro c bes hc hb
    obtain rfl : c = fC f := by omega
    refine ⟨fun _ => ?_, fun q => absurd ?_ q⟩
    · rw [nI_1]
      refine hE bes (bRel_cg hb (fun i c => ?_))
      have := jn_flat (f := f) (a0 := 5 * r + fC f) (5 - fC f) (fun j h1 h2 => row_z hf (by omega) h1 (by omega)) i c
      rw [show 5 * r + fC f + (5 - fC f) = 5 * (r + 1) by omega] at this
      exact this
    · rw [nI_leI (by omega) (by omega)]
      exact Nat.le_refl _
  | succ dd ih =>
    intro c bes hc hb
    have hk : 5 * r + c < 25 := by omega
    have e : sg f r c = fS f (5 * r + c) := if_pos ⟨hr, by omega⟩
    have hf2 := hf.2.2.2.1 (5 * r + c) hk
    have ek : nI r * (5 : Int32) + nI c = nI (5 * r + c) := by rw [px_lit, pk_mul, nI_add, Nat.mul_comm]
    have b1 : sg f r (c + 1) ≤ 2 := by
      unfold sg
      split
      · exact hf.2.2.2.1 _ (by omega)
      · omega
    have b2 : sg f (r + 1) c ≤ 2 := by
      unfold sg
      split
      · exact hf.2.2.2.1 _ (by omega)
      · omega
    have er : rt f (5 * r + c) ↔ sg f r (c + 1) ≠ 0 := by
      unfold rt sg
      by_cases q : r < fR f ∧ c + 1 < fC f
      · rw [if_pos q, show 5 * r + (c + 1) = 5 * r + c + 1 by omega]
        exact ⟨fun z => z.2.2, fun z => ⟨by omega, by omega, z⟩⟩
      · rw [if_neg q]
        refine ⟨fun z => absurd ?_ z.2.2, fun z => absurd rfl z⟩
        exact row_z hf (r := r) (by omega) (by omega) (by omega)
    have ed : dn f (5 * r + c) ↔ sg f (r + 1) c ≠ 0 := by
      unfold dn sg
      by_cases q : r + 1 < fR f ∧ c < fC f
      · rw [if_pos q, show 5 * (r + 1) + c = 5 * r + c + 5 by omega]
        exact ⟨fun z => z.2, fun z => ⟨by omega, z⟩⟩
      · rw [if_neg q]
        refine ⟨fun z => absurd ?_ z.2, fun z => absurd rfl z⟩
        have := hf.2.2.2.2.1 (r + 1) c (by omega) (by omega) (by omega)
        rw [show 5 * (r + 1) + c = 5 * r + c + 5 by omega] at this
        exact this
    refine ⟨fun q => ?_, fun _ => sgn_sp hf hsg (by omega) (by omega) ⟨fun q => ?_, fun q x4 e4 => ?_⟩⟩
    · rw [nI_leI (by omega) (by omega)] at q
      omega
    · rw [e, ← nI_0, nI_eq (by omega) (by omega)] at q
      rw [nI_1]
      exact ih (c + 1) bes (by omega) (bRel_cg hb (fun i c => jn_z q i c))
    · have hq : fS f (5 * r + c) ≠ 0 := fun z => q (by rw [e, z]; rfl)
      rw [ek] at e4
      subst e4
      have hnk := hn (5 * r + c) hk hq
      have hlt := fN_q hf hk hq
      have dnw : ∀ (Q : Nat → Nat → Prop) (bes : IA), bRel bes Q → (∀ i j, (Q i j ∨ (dn f (5 * r + c) ∧ pr (fN f (5 * r + c)) (fN f (5 * r + c + 5)) i j)) ↔ jn f (5 * r + c + 1) i j) → wp_X4_join_75 (nI r) (nI (5 * r + c)) num signs (nI (fR f)) (nI (fC f)) (fun x3 v => wp_X4_join_20 num signs (nI (fR f)) (nI (fC f)) E K (dd + 1) (nI r) x3 v) K (nI c) bes := by
        intro Q bes hbq hQ
        show wp_X0_sign (nI r + (1 : Int32)) (nI c) _ _ _ _
        rw [nI_1]
        refine sgn_sp hf hsg (by omega) (by omega) ⟨fun q2 => ?_, fun q2 => ?_⟩
        · rw [← nI_0, nI_eq (by omega) (by omega)] at q2
          rw [nI_1]
          exact ih (c + 1) bes (by omega) (bRel_cg hbq (fun i j => ⟨fun z => (hQ i j).mp (Or.inl z), fun z => ((hQ i j).mpr z).elim id (fun y => absurd q2 (ed.mp y.1))⟩))
        · have q3 : sg f (r + 1) c ≠ 0 := fun z => q2 (by rw [z]; rfl)
          obtain ⟨d1, d2⟩ := ed.mpr q3
          have hlt2 := fN_q hf d1 d2
          have hlt3 := fN_lt (f := f) (show 5 * r + c < 5 * r + c + 5 by omega) hq
          rw [show nI (5 * r + c) + (5 : Int32) = nI (5 * r + c + 5) by rw [px_lit, nI_add], px_cl (by omega), px_cl (by omega), hnk, hn _ d1 d2, nI_1]
          exact ⟨px_in hk (by decide), px_in d1 (by decide), joinTwo_sp (by omega) (by omega) (by omega) hbq (fun bes' hb' => ih (c + 1) bes' (by omega) (bRel_cg hb' (fun i j => ⟨fun z => (hQ i j).mp (z.elim Or.inl (fun y => Or.inr ⟨⟨d1, d2⟩, y⟩)), fun z => ((hQ i j).mpr z).elim Or.inl (fun y => Or.inr y.2)⟩)))⟩
      rw [nI_1]
      refine sgn_sp hf hsg (by omega) (by omega) ⟨fun q2 => ?_, fun q2 => ?_⟩
      · rw [← nI_0, nI_eq (by omega) (by omega)] at q2
        refine dnw _ bes hb (fun i j => ?_)
        constructor
        · rintro (z | z)
          · exact Or.inl z
          · exact Or.inr ⟨hq, Or.inr z⟩
        · rintro (z | ⟨-, ⟨z, -⟩ | z⟩)
          · exact Or.inl z
          · exact absurd q2 (er.mp z)
          · exact Or.inr z
      · have q3 : sg f r (c + 1) ≠ 0 := fun z => q2 (by rw [z]; rfl)
        obtain ⟨d0, d1, d2⟩ := er.mpr q3
        have hlt2 := fN_q hf d1 d2
        have hlt3 := fN_lt (f := f) (show 5 * r + c < 5 * r + c + 1 by omega) hq
        rw [nI_1, px_cl (by omega), px_cl (by omega), hnk, hn _ d1 d2]
        refine ⟨px_in hk (by decide), px_in d1 (by decide), joinTwo_sp (by omega) (by omega) (by omega) hb (fun bes' hb' => dnw _ bes' hb' (fun i j => ?_))⟩
        constructor
        · rintro ((z | z) | z)
          · exact Or.inl z
          · exact Or.inr ⟨hq, Or.inl ⟨⟨d0, d1, d2⟩, z⟩⟩
          · exact Or.inr ⟨hq, Or.inr z⟩
        · rintro (z | ⟨-, ⟨-, z⟩ | z⟩)
          · exact Or.inl (Or.inl z)
          · exact Or.inl (Or.inr z)
          · exact Or.inr z
theorem join_sp {f : Gr} (hf : okF f) {signs num bes0 : IA} (hsg : ∀ r c, r < fR f → c < fC f → signs (5 * r + c) = nI (fS f (5 * r + c))) (hn : nuM f num 25) {K : IA → Prop} (hK : ∀ bes, bRel bes (jn f 25) → K bes) : wp_X4_join num bes0 signs (nI (fR f)) (nI (fC f)) K := by
  have f1 := hf.2.1
  have f2 := hf.2.2.1
  have lp : ∀ (dd r : Nat) (bes : IA), r + dd = fR f → bRel bes (jn f (5 * r)) → wp_X4_join_10 num signs (nI (fR f)) (nI (fC f)) K (dd + 1) (nI r) bes := by
    intro dd
    induction dd with
    | zero =>
      intro r bes hr hb
      obtain rfl : r = fR f := by omega
      refine ⟨fun _ => ?_, fun q => absurd ?_ q⟩
      · refine hK bes (bRel_cg hb (fun i c => ?_))
        have := jn_flat (f := f) (a0 := 5 * fR f) (25 - 5 * fR f) (fun j h1 h2 => by
          have := hf.2.2.2.2.1 (j / 5) (j % 5) (by omega) (by omega) (by omega)
          rw [show 5 * (j / 5) + j % 5 = j by omega] at this
          exact this) i c
        rw [show 5 * fR f + (25 - 5 * fR f) = 25 by omega] at this
        exact this
      · rw [nI_leI (by omega) (by omega)]
        exact Nat.le_refl _
    | succ dd ih =>
      intro r bes hr hb
      refine ⟨fun q => ?_, fun _ => ⟨fC f + 1, join20_lp hf hsg hn (by omega) (fun bes' hb' => ih (r + 1) bes' (by omega) hb') (fC f) 0 bes (by omega) hb⟩⟩
      rw [nI_leI (by omega) (by omega)] at q
      omega
  refine fill_sp (by decide) (fun v hv => ⟨fR f + 1, lp (fR f) 0 v (by omega) (fun i hi => ⟨0, by decide, hv i hi, fun c => ?_⟩)⟩)
  simp [jn]
