/-! PURE PART: the model's queue -/
def nbr (k j : Nat) : Bool := decide ((k % 5 ≤ 3 ∧ j = k + 1) ∨ (j % 5 ≤ 3 ∧ k = j + 1) ∨ j = k + 5 ∨ k = j + 5)
set_option maxRecDepth 100000 in
theorem nbr_eq : ∀ k, k < 25 → ∀ j, j < 25 → (((nI k / (5 : Int32)) - (nI j / (5 : Int32))) * ((nI k / (5 : Int32)) - (nI j / (5 : Int32))) + ((nI k - nI k / (5 : Int32) * (5 : Int32)) - (nI j - nI j / (5 : Int32) * (5 : Int32))) * ((nI k - nI k / (5 : Int32) * (5 : Int32)) - (nI j - nI j / (5 : Int32) * (5 : Int32))) = (1 : Int32) ↔ nbr k j = true) := by decide +kernel
theorem jn_iff {f : Gr} {a c : Nat} : ∀ m, jn f m a c ↔ ∃ i, i < m ∧ fS f i ≠ 0 ∧ ((rt f i ∧ pr (fN f i) (fN f (i + 1)) a c) ∨ (dn f i ∧ pr (fN f i) (fN f (i + 5)) a c))
  | 0 => ⟨False.elim, fun ⟨i, h, _⟩ => absurd h (by omega)⟩
  | m + 1 => by
    rw [jn, jn_iff m]
    constructor
    · rintro (⟨i, h1, h2⟩ | h)
      · exact ⟨i, by omega, h2⟩
      · exact ⟨m, by omega, h⟩
    · rintro ⟨i, h1, h2⟩
      by_cases e : i = m
      · subst e; exact Or.inr h2
      · exact Or.inl ⟨i, by omega, h2⟩
theorem pr_s {x y a c : Nat} (h : pr x y a c) : pr x y c a := h.elim Or.inr Or.inl
theorem jn_s {f : Gr} {m a c : Nat} (h : jn f m a c) : jn f m c a := by
  obtain ⟨i, h1, h2, h3⟩ := (jn_iff m).mp h
  exact (jn_iff m).mpr ⟨i, h1, h2, h3.elim (fun z => Or.inl ⟨z.1, pr_s z.2⟩) (fun z => Or.inr ⟨z.1, pr_s z.2⟩)⟩
theorem jn_nbr {f : Gr} {k j : Nat} (hk : k < 25) (hj : j < 25) (h1 : fS f k ≠ 0) (h2 : fS f j ≠ 0) : jn f 25 (fN f k) (fN f j) ↔ nbr k j = true := by
  rw [jn_iff]
  unfold nbr
  rw [decide_eq_true_iff]
  constructor
  · rintro ⟨i, g1, g2, ⟨⟨r1, r2, r3⟩, ⟨p1, p2⟩ | ⟨p1, p2⟩⟩ | ⟨⟨r1, r2⟩, ⟨p1, p2⟩ | ⟨p1, p2⟩⟩⟩
    · have e1 := fN_inj g2 h1 p1
      have e2 := fN_inj r3 h2 p2
      subst e1
      exact Or.inl ⟨r1, e2.symm⟩
    · have e1 := fN_inj g2 h2 p1
      have e2 := fN_inj r3 h1 p2
      subst e1
      exact Or.inr (Or.inl ⟨r1, e2.symm⟩)
    · have e1 := fN_inj g2 h1 p1
      have e2 := fN_inj r2 h2 p2
      subst e1
      exact Or.inr (Or.inr (Or.inl e2.symm))
    · have e1 := fN_inj g2 h2 p1
      have e2 := fN_inj r2 h1 p2
      subst e1
      exact Or.inr (Or.inr (Or.inr e2.symm))
  · rintro (⟨z1, z2⟩ | ⟨z1, z2⟩ | z | z)
    · subst z2
      exact ⟨k, hk, h1, Or.inl ⟨⟨z1, hj, h2⟩, Or.inl ⟨rfl, rfl⟩⟩⟩
    · subst z2
      exact ⟨j, hj, h2, Or.inl ⟨⟨z1, hk, h1⟩, Or.inr ⟨rfl, rfl⟩⟩⟩
    · subst z
      exact ⟨k, hk, h1, Or.inr ⟨⟨hj, h2⟩, Or.inl ⟨rfl, rfl⟩⟩⟩
    · subst z
      exact ⟨j, hj, h2, Or.inr ⟨⟨hk, h1⟩, Or.inr ⟨rfl, rfl⟩⟩⟩
theorem fN_on {f : Gr} {a : Nat} : ∀ m, a < fN f m → ∃ k, k < m ∧ fS f k ≠ 0 ∧ fN f k = a
  | 0, h => absurd h (by simp [fN])
  | m + 1, h => by
    by_cases e : fS f m = 0
    · rw [fN_z e] at h
      obtain ⟨k, h1, h2⟩ := fN_on m h
      exact ⟨k, by omega, h2⟩
    · rw [fN_s e] at h
      by_cases q : a < fN f m
      · obtain ⟨k, h1, h2⟩ := fN_on m q
        exact ⟨k, by omega, h2⟩
      · exact ⟨m, by omega, e, by omega⟩
def sqM (f : Gr) (sq : IA) (k : Nat) : Prop := ∀ j, j < k → fS f j ≠ 0 → sq (fN f j) = nI j
theorem isBeside_sp {f : Gr} (hf : okF f) {sq : IA} (hs : sqM f sq 25) {x y : Nat} (hx : x < fQ f) (hy : y < fQ f) {K : Int32 → Prop} (h1 : jn f 25 x y → K 1) (h0 : ¬ jn f 25 x y → K 0) : wp_X11_isBeside (nI x) (nI y) sq K := by
  have f10 := hf.2.2.2.2.2.2.1
  obtain ⟨k, k1, k2, k3⟩ := fN_on (f := f) (a := x) 25 (by rw [hf.2.2.2.2.2.1]; exact hx)
  obtain ⟨j, j1, j2, j3⟩ := fN_on (f := f) (a := y) 25 (by rw [hf.2.2.2.2.2.1]; exact hy)
  have ek := hs k k1 k2
  have ej := hs j j1 j2
  rw [k3] at ek
  rw [j3] at ej
  have hj := jn_nbr k1 j1 k2 j2
  rw [k3, j3] at hj
  refine ⟨px_in (by omega) (by decide), px_in (by omega) (by decide), fun x3 e3 x4 e4 => ?_⟩
  rw [px_cl (by omega), px_cl (by omega), ek, ej] at e3 e4
  subst e3
  subst e4
  refine ⟨fun q => h1 (hj.mpr ((nbr_eq k k1 j j1).mp q)), fun q => h0 (fun z => q ((nbr_eq k k1 j j1).mpr (hj.mp z)))⟩
/-! the rows of the queue -/
def suc (A : Nat → Nat → Prop) (n q q' : Nat) : Prop := ∃ y Q, y < n ∧ A (q / 1024) y ∧ (q % 1024).testBit y = false ∧ (Q = q % 1024 ∨ Q = q % 1024 ||| 2 ^ (q / 1024)) ∧ q' = 1024 * y + Q
def ptF (fm : Nat → Option Nat) (q v : Nat) : Nat → Option Nat := fun p => if p = q then some v else fm p
theorem ptF_s {fm : Nat → Option Nat} {q v : Nat} : ptF fm q v q = some v := if_pos rfl
theorem ptF_n {fm : Nat → Option Nat} {q v p : Nat} (h : p ≠ q) : ptF fm q v p = fm p := if_neg h
def ptQ (qu : Nat → Nat) (sz q : Nat) : Nat → Nat := fun j => if j = sz then q else qu j
theorem ptQ_s {qu : Nat → Nat} {sz q : Nat} : ptQ qu sz q sz = q := if_pos rfl
theorem ptQ_n {qu : Nat → Nat} {sz q j : Nat} (h : j ≠ sz) : ptQ qu sz q j = qu j := if_neg h
def ctF (fm : Nat → Option Nat) : Nat → Nat
  | 0 => 0
  | i + 1 => ctF fm i + if fm i = none then 0 else 1
theorem ctF_le (fm : Nat → Option Nat) : ∀ n, ctF fm n ≤ n
  | 0 => Nat.le_refl _
  | n + 1 => by
    have := ctF_le fm n
    rw [ctF]
    split <;> omega
theorem ctF_lt {fm : Nat → Option Nat} {q : Nat} (h : fm q = none) : ∀ n, q < n → ctF fm n < n
  | 0, hq => absurd hq (by omega)
  | n + 1, hq => by
    rw [ctF]
    by_cases e : q = n
    · subst e
      have := ctF_le fm q
      rw [if_pos h]
      omega
    · have := ctF_lt h n (by omega)
      split <;> omega
theorem ctF_put {fm : Nat → Option Nat} {q v : Nat} (h : fm q = none) : ∀ n, ctF (ptF fm q v) n = ctF fm n + if q < n then 1 else 0
  | 0 => by rw [if_neg (by omega)]; rfl
  | n + 1 => by
    rw [ctF, ctF, ctF_put h n]
    by_cases e : q = n
    · subst e
      rw [ptF_s, h, if_neg (by omega), if_neg (by simp), if_pos rfl, if_pos (by omega)]
    · rw [ptF_n (fun z => e z.symm)]
      by_cases c : q < n
      · rw [if_pos c, if_pos (show q < n + 1 by omega), Nat.add_right_comm]
      · rw [if_neg c, if_neg (show ¬ q < n + 1 by omega), Nat.add_zero, Nat.add_zero]
theorem ctF_0 : ∀ n, ctF (fun _ => none) n = 0
  | 0 => rfl
  | n + 1 => by rw [ctF, ctF_0 n, if_pos rfl]
def FA (far : IA) (fm : Nat → Option Nat) : Prop := ∀ q, q < 10240 → far q = oI (fm q)
def QU (queue : IA) (qu : Nat → Nat) (sz : Nat) : Prop := ∀ j, j < sz → queue j = nI (qu j)
/-- the queue while its head k is looked at -/
def bQ (A : Nat → Nat → Prop) (n D g k q0 v : Nat) (fm : Nat → Option Nat) (qu : Nat → Nat) (sz : Nat) (Dn : Nat → Prop) : Prop := (k < sz ∧ fm (1024 * D) = some 0) ∧ ctF fm 10240 = sz ∧ (∀ q w, q < 10240 → fm q = some w → ∃ j, j < sz ∧ qu j = q) ∧ (∀ j, j < sz → qu j < 10240 ∧ ∃ w, fm (qu j) = some w ∧ w ≤ j ∧ w ≤ v + 1 ∧ mR A n D w (qu j / 1024) (qu j % 1024)) ∧ (∀ i j a c, i ≤ j → j < sz → fm (qu i) = some a → fm (qu j) = some c → a ≤ c) ∧ (∀ j a q, j < k → fm (qu j) = some a → suc A n (qu j) q → ∃ c, fm q = some c ∧ c ≤ a + 1) ∧ (∀ j, j < k → qu j ≠ g) ∧ (qu k = q0 ∧ fm q0 = some v) ∧ ∀ q, Dn q → ∃ c, fm q = some c ∧ c ≤ v + 1
theorem bQ_sz {A : Nat → Nat → Prop} {n D g k q0 v : Nat} {fm : Nat → Option Nat} {qu : Nat → Nat} {sz : Nat} {Dn : Nat → Prop} (h : bQ A n D g k q0 v fm qu sz Dn) : sz ≤ 10240 := by
  have := ctF_le fm 10240
  rw [h.2.1] at this
  exact this
theorem bQ_v {A : Nat → Nat → Prop} {n D g k q0 v : Nat} {fm : Nat → Option Nat} {qu : Nat → Nat} {sz : Nat} {Dn : Nat → Prop} (h : bQ A n D g k q0 v fm qu sz Dn) : v ≤ k ∧ q0 < 10240 ∧ mR A n D v (q0 / 1024) (q0 % 1024) := by
  obtain ⟨⟨h1, -⟩, -, -, h4, -, -, -, ⟨rfl, h8⟩, -⟩ := h
  obtain ⟨g1, w, g2, g3, g4, g5⟩ := h4 k h1
  rw [h8] at g2
  cases g2
  exact ⟨g3, g1, g5⟩
theorem bQ_skip {A : Nat → Nat → Prop} {n D g k q0 v q c : Nat} {fm : Nat → Option Nat} {qu : Nat → Nat} {sz : Nat} {Dn : Nat → Prop} (h : bQ A n D g k q0 v fm qu sz Dn) (hq : q < 10240) (hc : fm q = some c) : bQ A n D g k q0 v fm qu sz (fun p => Dn p ∨ p = q) := by
  obtain ⟨h1, h2, h3, h4, h5, h6, h7, h8, h9⟩ := h
  refine ⟨h1, h2, h3, h4, h5, h6, h7, h8, ?_⟩
  rintro p (z | z)
  · exact h9 p z
  · subst z
    obtain ⟨j, j1, rfl⟩ := h3 p c hq hc
    obtain ⟨-, w, g2, -, g4, -⟩ := h4 j j1
    exact ⟨w, g2, g4⟩
theorem bQ_cg {A : Nat → Nat → Prop} {n D g k q0 v : Nat} {fm : Nat → Option Nat} {qu : Nat → Nat} {sz : Nat} {Dn Dn' : Nat → Prop} (h : bQ A n D g k q0 v fm qu sz Dn) (e : ∀ q, Dn' q → Dn q) : bQ A n D g k q0 v fm qu sz Dn' := by
  obtain ⟨h1, h2, h3, h4, h5, h6, h7, h8, h9⟩ := h
  exact ⟨h1, h2, h3, h4, h5, h6, h7, h8, fun q hq => h9 q (e q hq)⟩
theorem bQ_push {A : Nat → Nat → Prop} {n D g k q0 v q : Nat} {fm : Nat → Option Nat} {qu : Nat → Nat} {sz : Nat} {Dn : Nat → Prop} (h : bQ A n D g k q0 v fm qu sz Dn) (hq : q < 10240) (hn : fm q = none) (hm : mR A n D (v + 1) (q / 1024) (q % 1024)) : bQ A n D g k q0 v (ptF fm q (v + 1)) (ptQ qu sz q) (sz + 1) (fun p => Dn p ∨ p = q) := by
  have hv := bQ_v h
  obtain ⟨⟨h1, h1'⟩, h2, h3, h4, h5, h6, h7, ⟨h8, h8'⟩, h9⟩ := h
  have ne : ∀ p w, fm p = some w → p ≠ q := by
    intro p w e z
    subst z
    rw [hn] at e
    cases e
  have keep : ∀ p w, fm p = some w → ptF fm q (v + 1) p = some w := fun p w e => by rw [ptF_n (ne p w e)]; exact e
  have qo : ∀ j, j < sz → ptQ qu sz q j = qu j := fun j hj => ptQ_n (by omega)
  have val : ∀ j, j < sz → ∀ a, ptF fm q (v + 1) (qu j) = some a → fm (qu j) = some a := by
    intro j hj a ha
    obtain ⟨-, w, g2, -⟩ := h4 j hj
    rw [keep _ w g2] at ha
    rw [g2]
    exact ha
  refine ⟨⟨by omega, keep _ _ h1'⟩, ?_, fun p w p1 p2 => ?_, fun j hj => ?_, fun i j a c hij hj ha hc => ?_, fun j a p hj ha hs => ?_, fun j hj => ?_, ⟨?_, keep _ _ h8'⟩, ?_⟩
  · rw [ctF_put hn, if_pos hq, h2]
  · by_cases e : p = q
    · subst e
      exact ⟨sz, by omega, ptQ_s⟩
    · rw [ptF_n e] at p2
      obtain ⟨j, j1, j2⟩ := h3 p w p1 p2
      exact ⟨j, by omega, by rw [qo j j1]; exact j2⟩
  · by_cases e : j = sz
    · subst e
      rw [ptQ_s]
      exact ⟨hq, v + 1, ptF_s, by omega, Nat.le_refl _, hm⟩
    · rw [qo j (by omega)]
      obtain ⟨g1, w, g2, g3⟩ := h4 j (by omega)
      exact ⟨g1, w, keep _ w g2, g3⟩
  · by_cases ej : j = sz
    · subst ej
      rw [ptQ_s, ptF_s] at hc
      cases hc
      by_cases ei : i = j
      · subst ei
        rw [ptQ_s, ptF_s] at ha
        cases ha
        exact Nat.le_refl _
      · rw [qo i (by omega)] at ha
        have ha' := val i (by omega) a ha
        obtain ⟨-, w, g2, -, g4, -⟩ := h4 i (by omega)
        rw [ha'] at g2
        cases g2
        exact g4
    · rw [qo i (by omega)] at ha
      rw [qo j (by omega)] at hc
      exact h5 i j a c hij (by omega) (val i (by omega) a ha) (val j (by omega) c hc)
  · rw [qo j (by omega)] at ha hs
    obtain ⟨c, c1, c2⟩ := h6 j a p hj (val j (by omega) a ha) hs
    exact ⟨c, keep p c c1, c2⟩
  · rw [qo j (by omega)]
    exact h7 j hj
  · rw [qo k h1]
    exact h8
  · rintro p (z | z)
    · obtain ⟨c, c1, c2⟩ := h9 p z
      exact ⟨c, keep p c c1, c2⟩
    · subst z
      exact ⟨v + 1, ptF_s, Nat.le_refl _⟩
/-- all that is near enough stands in the rows -/
theorem mR_code {A : Nat → Nat → Prop} {n D m x P : Nat} (hn : n ≤ 10) (hD : D < n) (h : mR A n D m x P) : x < n ∧ P < 1024 ∧ (1024 * x + P) / 1024 = x ∧ (1024 * x + P) % 1024 = P := by
  have hb := mR_b hD m x P h
  have hP : P < 2 ^ n := by
    apply Nat.lt_pow_two_of_testBit
    intro i hi
    cases e : P.testBit i with
    | false => rfl
    | true => exact absurd (hb.2 i e) (by omega)
  have := pw10 hn
  exact ⟨hb.1, by omega, by omega, by omega⟩
theorem suc_mR {A : Nat → Nat → Prop} {n D m x P y Q : Nat} (hn : n ≤ 10) (hD : D < n) (h : mR A n D m x P) (h1 : y < n) (h2 : A x y) (h3 : P.testBit y = false) (h4 : Q = P ∨ Q = P ||| 2 ^ x) : suc A n (1024 * x + P) (1024 * y + Q) := by
  obtain ⟨-, -, c1, c2⟩ := mR_code hn hD h
  exact ⟨y, Q, h1, by rw [c1]; exact h2, by rw [c2]; exact h3, by rw [c1, c2]; exact h4, rfl⟩
theorem bQ_min {A : Nat → Nat → Prop} {n D g k q0 v : Nat} {fm : Nat → Option Nat} {qu : Nat → Nat} {sz : Nat} {Dn : Nat → Prop} (hn : n ≤ 10) (hD : D < n) (h : bQ A n D g k q0 v fm qu sz Dn) : ∀ m x P, mR A n D m x P → m ≤ v → ∃ c, fm (1024 * x + P) = some c ∧ c ≤ m
  | 0, x, P, hm, _ => by
    obtain ⟨rfl, rfl⟩ := hm
    exact ⟨0, h.1.2, Nat.le_refl _⟩
  | m + 1, y, Q, hm, hle => by
    obtain ⟨x, P, h1, h2, h3, h4, h5⟩ := hm
    obtain ⟨c, c1, c2⟩ := bQ_min hn hD h m x P h1 (by omega)
    obtain ⟨d1, d2, -, -⟩ := mR_code hn hD h1
    have hs := suc_mR hn hD h1 h2 h3 h4 h5
    obtain ⟨-, -, g3, -, g5, g6, -, ⟨g8, g8'⟩, -⟩ := h
    obtain ⟨j, j1, j2⟩ := g3 _ c (by omega) c1
    have hjk : j < k := by
      apply Nat.lt_of_not_le
      intro hl
      have := g5 k j v c hl j1 (by rw [g8]; exact g8') (by rw [j2]; exact c1)
      omega
    obtain ⟨c', e1, e2⟩ := g6 j c _ hjk (by rw [j2]; exact c1) (by rw [j2]; exact hs)
    exact ⟨c', e1, by omega⟩
/-- the queue when it is empty -/
def bE (A : Nat → Nat → Prop) (n D g : Nat) (fm : Nat → Option Nat) (qu : Nat → Nat) (sz : Nat) : Prop := fm (1024 * D) = some 0 ∧ (∀ q w, q < 10240 → fm q = some w → ∃ j, j < sz ∧ qu j = q) ∧ (∀ j a q, j < sz → fm (qu j) = some a → suc A n (qu j) q → ∃ c, fm q = some c ∧ c ≤ a + 1) ∧ ∀ j, j < sz → qu j ≠ g
theorem bE_all {A : Nat → Nat → Prop} {n D g : Nat} {fm : Nat → Option Nat} {qu : Nat → Nat} {sz : Nat} (hn : n ≤ 10) (hD : D < n) (h : bE A n D g fm qu sz) : ∀ m x P, mR A n D m x P → ∃ c, fm (1024 * x + P) = some c
  | 0, x, P, hm => by
    obtain ⟨rfl, rfl⟩ := hm
    exact ⟨0, h.1⟩
  | m + 1, y, Q, hm => by
    obtain ⟨x, P, h1, h2, h3, h4, h5⟩ := hm
    obtain ⟨c, c1⟩ := bE_all hn hD h m x P h1
    obtain ⟨d1, d2, -, -⟩ := mR_code hn hD h1
    have hs := suc_mR hn hD h1 h2 h3 h4 h5
    obtain ⟨j, j1, j2⟩ := h.2.1 _ c (by omega) c1
    obtain ⟨c', e1, -⟩ := h.2.2.1 j c _ j1 (by rw [j2]; exact c1) (by rw [j2]; exact hs)
    exact ⟨c', e1⟩
theorem bE_no {A : Nat → Nat → Prop} {n D G : Nat} {fm : Nat → Option Nat} {qu : Nat → Nat} {sz m : Nat} (hn : n ≤ 10) (hD : D < n) (h : bE A n D (1024 * D + G) fm qu sz) (hm : mR A n D m D G) : False := by
  obtain ⟨c, c1⟩ := bE_all hn hD h m D G hm
  obtain ⟨d1, d2, -, -⟩ := mR_code hn hD hm
  obtain ⟨j, j1, j2⟩ := h.2.1 _ c (by omega) c1
  exact h.2.2.2 j j1 j2
theorem bQ_next {A : Nat → Nat → Prop} {n D g k q0 v : Nat} {fm : Nat → Option Nat} {qu : Nat → Nat} {sz : Nat} {Dn : Nat → Prop} (h : bQ A n D g k q0 v fm qu sz Dn) (hD : ∀ q, suc A n q0 q → Dn q) (hg : q0 ≠ g) : (k + 1 < sz ∧ ∃ q1 v1, bQ A n D g (k + 1) q1 v1 fm qu sz (fun _ => False)) ∨ (k + 1 = sz ∧ bE A n D g fm qu sz) := by
  obtain ⟨⟨h1, h1'⟩, h2, h3, h4, h5, h6, h7, ⟨h8, h8'⟩, h9⟩ := h
  have nA' : ∀ j a q, j < k + 1 → fm (qu j) = some a → suc A n (qu j) q → ∃ c, fm q = some c ∧ c ≤ a + 1 := by
    intro j a q hj ha hs
    by_cases e : j = k
    · subst e
      rw [h8] at ha hs
      rw [h8'] at ha
      cases ha
      exact h9 q (hD q hs)
    · exact h6 j a q (by omega) ha hs
  have nE : ∀ j, j < k + 1 → qu j ≠ g := by
    intro j hj
    by_cases e : j = k
    · subst e; rw [h8]; exact hg
    · exact h7 j (by omega)
  by_cases c : k + 1 < sz
  · left
    obtain ⟨g1, w, g2, g3, g4, g5⟩ := h4 (k + 1) c
    have hvw := h5 k (k + 1) v w (by omega) c (by rw [h8]; exact h8') g2
    refine ⟨c, qu (k + 1), w, ⟨c, h1'⟩, h2, h3, fun j hj => ?_, h5, nA', nE, ⟨rfl, g2⟩, fun q z => z.elim⟩
    obtain ⟨e1, u, e2, e3, e4, e5⟩ := h4 j hj
    exact ⟨e1, u, e2, e3, by omega, e5⟩
  · right
    obtain rfl : k + 1 = sz := by omega
    exact ⟨rfl, h1', h3, nA', nE⟩
