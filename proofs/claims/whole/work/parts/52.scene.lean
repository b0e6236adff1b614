/-! PURE PART: what a scene is, in plain numbers; how the class and the model hold it; the plain calls -/
abbrev Gr : Type := Nat → Nat → Nat
def hR (h : Gr) : Nat := h 0 0
def hD (h : Gr) : Nat := h 0 1
def hN (h : Gr) : Nat := h 0 2
def hW (h : Gr) (r : Nat) : Nat := h 1 r
def hC (h : Gr) (r : Nat) : Nat := h 2 r
def hB (h : Gr) (r : Nat) : Nat := h 3 r
def hP (h : Gr) (k : Nat) : Nat := h 4 k
def hL (h : Gr) (k : Nat) : Nat := h 5 k
def okH (h : Gr) : Prop := (hR h ≤ 5 ∧ hD h ≤ 12 ∧ hN h ≤ 8) ∧ (∀ r, 1 ≤ r → r ≤ hR h → (1 ≤ hW h r ∧ hW h r ≤ 9) ∧ 1 ≤ hC h r ∧ hC h r ≤ 2) ∧ (∀ k, k < hD h → hL h (2 * k) ≤ hR h ∧ hL h (2 * k + 1) ≤ hR h ∧ hL h (2 * k) ≠ hL h (2 * k + 1)) ∧ (∀ a, a < 6 → ∀ b, (hB h a).testBit b = true ↔ ∃ k, k < hD h ∧ ((hL h (2 * k) = a ∧ hL h (2 * k + 1) = b) ∨ (hL h (2 * k) = b ∧ hL h (2 * k + 1) = a))) ∧ ∀ i, i < hN h → hP h (4 * i) ≤ hR h ∧ hP h (4 * i + 1) ≤ hR h ∧ hP h (4 * i) ≠ hP h (4 * i + 1) ∧ hP h (4 * i + 2) ≤ hP h (4 * i + 3) ∧ hP h (4 * i + 3) ≤ 99
def cH (rooms doors needs : Int32) (work coats beside np : IA) (h : Gr) : Prop := rooms = nI (hR h) ∧ doors = nI (hD h) ∧ needs = nI (hN h) ∧ (∀ r, 1 ≤ r → r ≤ hR h → work r = nI (hW h r) ∧ coats r = nI (hC h r)) ∧ (∀ a, a < 6 → beside a = nI (hB h a)) ∧ ∀ k, k < 4 * hN h → np k = nI (hP h k)
def mH (s : IA) (h : Gr) : Prop := s 0 = nI (hR h + 1) ∧ s 1 = nI (hD h) ∧ s 2 = nI (hN h) ∧ (∀ r, 1 ≤ r → r ≤ hR h → s (9 + r) = nI (hW h r) ∧ s (15 + r) = nI (hC h r)) ∧ (∀ k, k < 2 * hD h → s (21 + k) = nI (hL h k)) ∧ ∀ k, k < 4 * hN h → s (45 + k) = nI (hP h k)
def pN (p : Gr) : Nat := p 0 0
def pR (p : Gr) (i : Nat) : Nat := p 1 i
def pH (p : Gr) (i : Nat) : Nat := p 2 i
def okP (h p : Gr) : Prop := pN p ≤ 8 ∧ ∀ i, i < pN p → 1 ≤ pR p i ∧ pR p i ≤ hR h ∧ pH p i ≤ 99
def cP (steps : Int32) (rr rh : IA) (p : Gr) : Prop := steps = nI (pN p) ∧ ∀ i, i < pN p → rr i = nI (pR p i) ∧ rh i = nI (pH p i)
def mP (s : IA) (p : Gr) : Prop := s 3 = nI (pN p) ∧ ∀ i, i < pN p → s (77 + 2 * i) = nI (pR p i) ∧ s (78 + 2 * i) = nI (pH p i)
def okB (b : Nat → Nat) : Prop := (1 ≤ b 0 ∧ b 0 ≤ 24) ∧ b 1 ≤ 24 ∧ (1 ≤ b 2 ∧ b 2 ≤ 99) ∧ 1 ≤ b 3 ∧ b 3 ≤ 3
def cB (hab : IA) (b : Nat → Nat) : Prop := ∀ k, k < 4 → hab k = nI (b k)
def mB (s : IA) (b : Nat → Nat) : Prop := ∀ k, k < 4 → s (4 + k) = nI (b k)
def okK (h : Gr) (k : Nat) : Prop := ∀ i, k.testBit i = true → 1 ≤ i ∧ i ≤ hR h
def fR (f : Gr) : Nat := f 0 0
def fC (f : Gr) : Nat := f 0 1
def fQ (f : Gr) : Nat := f 0 2
def fS (f : Gr) (k : Nat) : Nat := f 1 k
/-- how many of the first n squares are floor -/
def fN (f : Gr) : Nat → Nat
  | 0 => 0
  | n + 1 => fN f n + if fS f n = 0 then 0 else 1
def okF (f : Gr) : Prop := (fQ f = 0 ↔ fR f = 0) ∧ fR f ≤ 5 ∧ fC f ≤ 5 ∧ (∀ k, k < 25 → fS f k ≤ 2) ∧ (∀ r c, r < 5 → c < 5 → (fR f ≤ r ∨ fC f ≤ c) → fS f (5 * r + c) = 0) ∧ fN f 25 = fQ f ∧ fQ f ≤ 10 ∧ (fQ f ≠ 0 → ∃ d, d < 25 ∧ fS f d = 2 ∧ ∀ k, k < 25 → fS f k = 2 → k = d)
def cF (signs : IA) (rows cols squares hasDoor : Int32) (f : Gr) : Prop := rows = nI (fR f) ∧ cols = nI (fC f) ∧ squares = nI (fQ f) ∧ nz hasDoor ∧ ∀ r c, r < fR f → c < fC f → signs (5 * r + c) = nI (fS f (5 * r + c))
def mF (s : IA) (f : Gr) : Prop := s 93 = nI (fR f) ∧ s 94 = nI (fC f) ∧ ∀ k, k < 25 → s (95 + k) = nI (fS f k)
theorem mH.ext {s s' : IA} {h : Gr} (ho : okH h) (m : mH s h) (e : ∀ j, (j ≤ 2 ∨ (9 ≤ j ∧ j < 77)) → s' j = s j) : mH s' h := by
  obtain ⟨⟨h1, h2, h3⟩, -⟩ := ho
  obtain ⟨m0, m1, m2, m3, m4, m5⟩ := m
  refine ⟨(e 0 (by omega)).trans m0, (e 1 (by omega)).trans m1, (e 2 (by omega)).trans m2, fun r a b => ⟨(e _ (by omega)).trans (m3 r a b).1, (e _ (by omega)).trans (m3 r a b).2⟩, fun k a => (e _ (by omega)).trans (m4 k a), fun k a => (e _ (by omega)).trans (m5 k a)⟩
theorem mP.ext {s s' : IA} {h p : Gr} (ho : okP h p) (m : mP s p) (e : ∀ j, (j = 3 ∨ (77 ≤ j ∧ j < 93)) → s' j = s j) : mP s' p := by
  obtain ⟨h1, -⟩ := ho
  exact ⟨(e 3 (by omega)).trans m.1, fun i a => ⟨(e _ (by omega)).trans (m.2 i a).1, (e _ (by omega)).trans (m.2 i a).2⟩⟩
theorem mB.ext {s s' : IA} {b : Nat → Nat} (m : mB s b) (e : ∀ j, 4 ≤ j → j < 8 → s' j = s j) : mB s' b := fun k a => (e _ (by omega) (by omega)).trans (m k a)
theorem mF.ext {s s' : IA} {f : Gr} (m : mF s f) (e : ∀ j, 93 ≤ j → j < 120 → s' j = s j) : mF s' f := ⟨(e 93 (by omega) (by omega)).trans m.1, (e 94 (by omega) (by omega)).trans m.2.1, fun k a => (e _ (by omega) (by omega)).trans (m.2.2 k a)⟩
/-- the whole scene, on both sides -/
def SC (s : IA) (h p : Gr) (b : Nat → Nat) (k : Nat) (f : Gr) : Prop := okH h ∧ okP h p ∧ okB b ∧ okK h k ∧ okF f ∧ mH s h ∧ mP s p ∧ mB s b ∧ s 8 = nI k ∧ mF s f
theorem hasRoom_sp (x1 : Int32) {R : Nat} (hR5 : R ≤ 5) : (∃ r, 1 ≤ r ∧ r ≤ R ∧ x1 = nI r ∧ (∀ K : Int32 → Prop, K 1 → wp_X1_hasRoom x1 (nI R) K) ∧ ∀ (s : IA) (K : Int32 → Prop), s 0 = nI (R + 1) → K 1 → wp_X11_isRoom x1 s K) ∨ ((∀ K : Int32 → Prop, K 0 → wp_X1_hasRoom x1 (nI R) K) ∧ ∀ (s : IA) (K : Int32 → Prop), s 0 = nI (R + 1) → K 0 → wp_X11_isRoom x1 s K) := by
  rcases px_cases x1 (R + 1) (by omega) with h | ⟨r, hr, rfl⟩ | ⟨r, hr, hr2, rfl⟩
  · have h0 : x1 ≤ 0 := px_neg_le (k := 0) h (by decide)
    exact Or.inr ⟨fun K hk => ⟨fun _ => hk, fun q => absurd h0 q⟩, fun s K _ hk => ⟨fun _ => hk, fun q => absurd h0 q⟩⟩
  · by_cases h1 : r = 0
    · subst h1
      have h0 : nI 0 ≤ 0 := by decide
      exact Or.inr ⟨fun K hk => ⟨fun _ => hk, fun q => absurd h0 q⟩, fun s K _ hk => ⟨fun _ => hk, fun q => absurd h0 q⟩⟩
    · have h0 : ¬ nI r ≤ 0 := nI_nle (by omega) (by omega)
      have h2 : ¬ nI R < nI r := by rw [nI_ltI (by omega) (by omega)]; omega
      have h3 : ¬ nI (R + 1) ≤ nI r := by rw [nI_leI (by omega) (by omega)]; omega
      refine Or.inl ⟨r, by omega, by omega, rfl, fun K hk => ⟨fun q => absurd q h0, fun _ => ⟨fun q => absurd q h2, fun _ => hk⟩⟩, fun s K hs hk => ⟨fun q => absurd q h0, fun _ => ?_⟩⟩
      show wp_X11_isIn (nI r) (s 0) _
      rw [hs]
      exact ⟨fun q => absurd q (nI_pos (by omega)), fun _ => ⟨fun q => absurd q h3, fun _ => ⟨fun q => absurd q (by decide), fun _ => hk⟩⟩⟩
  · have h0 : ¬ nI r ≤ 0 := nI_nle (by omega) (by omega)
    have h2 : nI R < nI r := by rw [nI_ltI (by omega) (by omega)]; omega
    have h3 : nI (R + 1) ≤ nI r := by rw [nI_leI (by omega) (by omega)]; omega
    refine Or.inr ⟨fun K hk => ⟨fun q => absurd q h0, fun _ => ⟨fun _ => hk, fun q => absurd h2 q⟩⟩, fun s K hs hk => ⟨fun q => absurd q h0, fun _ => ?_⟩⟩
    show wp_X11_isIn (nI r) (s 0) _
    rw [hs]
    exact ⟨fun q => absurd q (nI_pos (by omega)), fun _ => ⟨fun _ => ⟨fun _ => hk, fun q => absurd rfl q⟩, fun q => absurd h3 q⟩⟩
theorem isIn_in {n k : Nat} {K : Int32 → Prop} (hk : k < n) (hn : n < 2 ^ 31) (h : K 1) : wp_X11_isIn (nI k) (nI n) K := ⟨fun q => absurd q (nI_pos (by omega)), fun _ => ⟨fun q => absurd q (by rw [nI_leI (by omega) (by omega)]; omega), fun _ => h⟩⟩
theorem isIn_out {x : Int32} {n : Nat} {K : Int32 → Prop} (hn : n < 2 ^ 31) (hx : x < 0 ∨ ∃ k, n ≤ k ∧ k < 2 ^ 31 ∧ x = nI k) (h : K 0) : wp_X11_isIn x (nI n) K := by
  rcases hx with hx | ⟨k, h1, h2, rfl⟩
  · exact ⟨fun _ => h, fun q => absurd hx q⟩
  · exact ⟨fun _ => h, fun _ => ⟨fun _ => h, fun q => absurd (by rw [nI_leI (by omega) (by omega)]; omega) q⟩⟩
theorem hasPlace_sp (x1 : Int32) {R : Nat} (hR5 : R ≤ 5) : (∃ r, r ≤ R ∧ x1 = nI r ∧ (∀ K : Int32 → Prop, K 1 → wp_X1_hasPlace x1 (nI R) K) ∧ ∀ (s : IA) (K : Int32 → Prop), s 0 = nI (R + 1) → K 1 → wp_X11_isPlace x1 s K) ∨ ((∀ K : Int32 → Prop, K 0 → wp_X1_hasPlace x1 (nI R) K) ∧ ∀ (s : IA) (K : Int32 → Prop), s 0 = nI (R + 1) → K 0 → wp_X11_isPlace x1 s K) := by
  rcases px_cases x1 (R + 1) (by omega) with h | ⟨r, hr, rfl⟩ | ⟨r, hr, hr2, rfl⟩
  · refine Or.inr ⟨fun K hk => ⟨fun _ => hk, fun q => absurd h q⟩, fun s K hs hk => ?_⟩
    show wp_X11_isIn x1 (s 0) _
    rw [hs]
    exact isIn_out (by omega) (Or.inl h) hk
  · have h2 : ¬ nI R < nI r := by rw [nI_ltI (by omega) (by omega)]; omega
    refine Or.inl ⟨r, by omega, rfl, fun K hk => ⟨fun q => absurd q (nI_pos (by omega)), fun _ => ⟨fun q => absurd q h2, fun _ => hk⟩⟩, fun s K hs hk => ?_⟩
    show wp_X11_isIn (nI r) (s 0) _
    rw [hs]
    exact isIn_in (by omega) (by omega) hk
  · have h2 : nI R < nI r := by rw [nI_ltI (by omega) (by omega)]; omega
    refine Or.inr ⟨fun K hk => ⟨fun q => absurd q (nI_pos (by omega)), fun _ => ⟨fun _ => hk, fun q => absurd h2 q⟩⟩, fun s K hs hk => ?_⟩
    show wp_X11_isIn (nI r) (s 0) _
    rw [hs]
    exact isIn_out (by omega) (Or.inr ⟨r, hr, by omega, rfl⟩) hk
theorem px_01 : ¬ ((1 : Int32) = 0) := by decide
theorem m_room {x1 x2 : Int32} {cr mr s : IA} {rooms doors needs : Int32} {work coats beside np : IA} {h : Gr} (hr : Rref cr mr) (ho : okH h) (hc : cH rooms doors needs work coats beside np h) (hm : mH s h) : wp_X10_room x1 x2 cr rooms work coats (fun r cr' => wp_X11_room x1 x2 mr s (fun r' mr' => r = r' ∧ Rref cr' mr')) := by
  obtain ⟨rfl, -, -, hc4, -, -⟩ := hc
  obtain ⟨m0, -, -, m3, -, -⟩ := hm
  have h5 : hR h ≤ 5 := ho.1.1
  rcases hasRoom_sp x1 h5 with ⟨r, h1, h2, rfl, hca, hma⟩ | ⟨hca, hma⟩
  · refine hca _ ⟨fun q => absurd q px_01, fun _ => ⟨fun e => ?_, fun e0 => ⟨fun e => ?_, fun e1 => ?_⟩⟩⟩
    · subst e
      refine ⟨px_in (by omega) (by decide), hma s _ m0 ⟨fun q => absurd q px_01, fun _ => ?_⟩⟩
      refine isIn_in (k := 0) (n := 2) (by decide) (by decide) ⟨fun q => absurd q px_01, fun _ => ⟨fun _ => ?_, fun q => absurd rfl q⟩⟩
      rw [px_lit, nI_add, px_cl (by omega), px_cl (by omega)]
      exact ⟨px_in (by omega) (by decide), by rw [(hc4 r h1 h2).1, (m3 r h1 h2).1], hr⟩
    · subst e
      refine ⟨px_in (by omega) (by decide), hma s _ m0 ⟨fun q => absurd q px_01, fun _ => ?_⟩⟩
      refine isIn_in (k := 1) (n := 2) (by decide) (by decide) ⟨fun q => absurd q px_01, fun _ => ⟨fun q => absurd q (by decide), fun _ => ?_⟩⟩
      rw [px_lit, nI_add, px_cl (by omega), px_cl (by omega)]
      exact ⟨px_in (by omega) (by decide), by rw [(hc4 r h1 h2).2, (m3 r h1 h2).2], hr⟩
    · refine rf10 2 (by decide) (by decide) (hma s _ m0 ⟨fun q => absurd q px_01, fun _ => ?_⟩)
      refine isIn_out (n := 2) (by decide) ?_ ⟨fun _ => rf11 2 (by decide) (by decide) ⟨rfl, hr.up 2 (by decide)⟩, fun q => absurd rfl q⟩
      rcases px_cases x2 2 (by decide) with h | ⟨k, hk, rfl⟩ | ⟨k, hk, hk2, rfl⟩
      · exact Or.inl h
      · rcases (show k = 0 ∨ k = 1 by omega) with rfl | rfl
        · exact absurd rfl e0
        · exact absurd rfl e1
      · exact Or.inr ⟨k, hk, hk2, rfl⟩
  · exact hca _ ⟨fun _ => rf10 1 (by decide) (by decide) (hma s _ m0 ⟨fun _ => rf11 1 (by decide) (by decide) ⟨rfl, hr.up 1 (by decide)⟩, fun q => absurd rfl q⟩), fun q => absurd rfl q⟩
