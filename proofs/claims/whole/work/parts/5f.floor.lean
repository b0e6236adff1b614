/-! PURE PART: a floor read sign by sign -/
def gI (σ : Gr) : Nat := σ 0 3
def gD (σ : Gr) : Nat := σ 0 4
def vis (σ : Gr) (y x : Nat) : Prop := (y + 1 < fR σ ∧ x < fC σ) ∨ (y + 1 = fR σ ∧ x < gI σ)
def fOK (σ : Gr) : Prop := (1 ≤ fR σ ∧ fR σ ≤ 5) ∧ fC σ ≤ 5 ∧ gI σ ≤ fC σ ∧ (fR σ = 1 → gI σ = fC σ) ∧ (2 ≤ fR σ → 1 ≤ fC σ) ∧ fN σ 25 = fQ σ ∧ fQ σ ≤ 10 ∧ (∀ k, k < 25 → fS σ k ≤ 2) ∧ (∀ y x, y < 5 → x < 5 → ¬ vis σ y x → fS σ (5 * y + x) = 0) ∧ ((gD σ = 0 ∧ ∀ k, k < 25 → fS σ k ≠ 2) ∨ (gD σ = 1 ∧ ∃ d, d < 25 ∧ fS σ d = 2 ∧ ∀ k, k < 25 → fS σ k = 2 → k = d))
def lim (σ : Gr) : Nat := if fR σ = 1 then 5 else fC σ
abbrev canPut (σ : Gr) (w : Nat) : Prop := gI σ < lim σ ∧ (w = 0 ∨ fQ σ < 10) ∧ (w = 2 → gD σ = 0)
abbrev canNl (σ : Gr) : Prop := gI σ ≠ 0 ∧ ¬ gI σ < fC σ ∧ fR σ < 5
def fput (σ : Gr) (w : Nat) : Gr := fun g k => if g = 0 ∧ k = 1 then (if fC σ < gI σ + 1 then gI σ + 1 else fC σ) else if g = 0 ∧ k = 2 then fQ σ + (if w = 0 then 0 else 1) else if g = 0 ∧ k = 3 then gI σ + 1 else if g = 0 ∧ k = 4 then (if w = 2 then 1 else gD σ) else if g = 1 ∧ k = 5 * (fR σ - 1) + gI σ then w else σ g k
def fnl (σ : Gr) : Gr := fun g k => if g = 0 ∧ k = 0 then fR σ + 1 else if g = 0 ∧ k = 3 then 0 else σ g k
theorem fput_R {σ : Gr} {w : Nat} : fR (fput σ w) = fR σ := by simp [fput, fR]
theorem fput_C {σ : Gr} {w : Nat} : fC (fput σ w) = if fC σ < gI σ + 1 then gI σ + 1 else fC σ := by simp [fput, fC]
theorem fput_Q {σ : Gr} {w : Nat} : fQ (fput σ w) = fQ σ + (if w = 0 then 0 else 1) := by simp [fput, fQ]
theorem fput_I {σ : Gr} {w : Nat} : gI (fput σ w) = gI σ + 1 := by simp [fput, gI]
theorem fput_D {σ : Gr} {w : Nat} : gD (fput σ w) = if w = 2 then 1 else gD σ := by simp [fput, gD]
theorem fput_S {σ : Gr} {w k : Nat} : fS (fput σ w) k = if k = 5 * (fR σ - 1) + gI σ then w else fS σ k := by simp [fput, fS]
theorem fnl_R {σ : Gr} : fR (fnl σ) = fR σ + 1 := by simp [fnl, fR]
theorem fnl_C {σ : Gr} : fC (fnl σ) = fC σ := by simp [fnl, fC]
theorem fnl_Q {σ : Gr} : fQ (fnl σ) = fQ σ := by simp [fnl, fQ]
theorem fnl_I {σ : Gr} : gI (fnl σ) = 0 := by simp [fnl, gI]
theorem fnl_D {σ : Gr} : gD (fnl σ) = gD σ := by simp [fnl, gD]
theorem fnl_S {σ : Gr} {k : Nat} : fS (fnl σ) k = fS σ k := by simp [fnl, fS]
theorem fN_cg {f g : Gr} (h : ∀ k, fS f k = fS g k) : ∀ m, fN f m = fN g m
  | 0 => rfl
  | m + 1 => by rw [fN, fN, fN_cg h m, h m]
theorem fN_one {f g : Gr} {p : Nat} (h : ∀ k, k ≠ p → fS g k = fS f k) (hp : fS f p = 0) : ∀ m, fN g m = fN f m + if p < m ∧ fS g p ≠ 0 then 1 else 0
  | 0 => by simp [fN]
  | m + 1 => by
    rw [fN, fN, fN_one h hp m]
    by_cases e : m = p
    · subst e
      by_cases e2 : fS g m = 0
      · simp [hp, e2]
      · simp [hp, e2]
    · rw [h m e]
      by_cases e2 : fS g p = 0
      · rw [if_neg (show ¬ (p < m ∧ fS g p ≠ 0) from fun x => x.2 e2), if_neg (show ¬ (p < m + 1 ∧ fS g p ≠ 0) from fun x => x.2 e2)]; omega
      · by_cases e3 : p < m
        · rw [if_pos (show p < m ∧ fS g p ≠ 0 from ⟨e3, e2⟩), if_pos (show p < m + 1 ∧ fS g p ≠ 0 from ⟨by omega, e2⟩)]; omega
        · rw [if_neg (show ¬ (p < m ∧ fS g p ≠ 0) from fun x => e3 x.1), if_neg (show ¬ (p < m + 1 ∧ fS g p ≠ 0) from fun x => by omega)]; omega
theorem fput_ok {σ : Gr} {w : Nat} (ho : fOK σ) (hw : w ≤ 2) (hc : canPut σ w) : fOK (fput σ w) := by
  obtain ⟨⟨a1, a2⟩, a3, a4, a5, a6, a7, a8, a9, a10, a11⟩ := ho
  obtain ⟨c1, c2, c3⟩ := hc
  unfold lim at c1
  have i5 : gI σ < 5 := by split at c1 <;> omega
  have ci : (fR σ = 1 → gI σ < 5) ∧ (fR σ ≠ 1 → gI σ < fC σ) := by split at c1 <;> omega
  have nv : ¬ vis σ (fR σ - 1) (gI σ) := by unfold vis; omega
  have z := a10 (fR σ - 1) (gI σ) (by omega) i5 nv
  refine ⟨by rw [fput_R]; omega, by rw [fput_C]; split <;> omega, by rw [fput_C, fput_I]; split <;> omega, fun q => ?_, fun q => ?_, ?_, ?_, fun k hk => ?_, fun y x hy hx hv => ?_, ?_⟩
  · rw [fput_R] at q
    rw [fput_C, fput_I]
    have := a5 q
    split <;> omega
  · rw [fput_R] at q
    rw [fput_C]
    split <;> omega
  · rw [fN_one (f := σ) (p := 5 * (fR σ - 1) + gI σ) (fun k hk => by rw [fput_S, if_neg hk]) z 25, a7, fput_Q, fput_S, if_pos rfl]
    by_cases e : w = 0
    · rw [if_neg (by omega), if_pos e]
    · rw [if_pos (by omega), if_neg e]
  · rw [fput_Q]
    split <;> omega
  · rw [fput_S]
    split
    · exact hw
    · exact a9 k hk
  · rw [fput_S]
    have hpos : ¬ (5 * y + x = 5 * (fR σ - 1) + gI σ) := by
      intro e
      apply hv
      unfold vis
      rw [fput_R, fput_I]
      right
      omega
    rw [if_neg hpos]
    refine a10 y x hy hx (fun q => hv ?_)
    unfold vis at q ⊢
    rw [fput_R, fput_I, fput_C]
    rcases q with q | q
    · left
      split <;> omega
    · right
      omega
  · rw [fput_D]
    by_cases e : w = 2
    · subst e
      rw [if_pos rfl]
      have d0 := c3 rfl
      rcases a11 with ⟨-, q⟩ | ⟨q, -⟩
      · refine Or.inr ⟨rfl, 5 * (fR σ - 1) + gI σ, by omega, by rw [fput_S, if_pos rfl], fun k hk hk2 => ?_⟩
        rw [fput_S] at hk2
        split at hk2
        · rename_i ek; exact ek
        · exact absurd hk2 (q k hk)
      · omega
    · rw [if_neg e]
      rcases a11 with ⟨g, q⟩ | ⟨g, d, hd, hd2, q⟩
      · refine Or.inl ⟨g, fun k hk => ?_⟩
        rw [fput_S]
        split
        · exact e
        · exact q k hk
      · refine Or.inr ⟨g, d, hd, ?_, fun k hk hk2 => ?_⟩
        · rw [fput_S, if_neg (by intro ed; rw [ed] at hd2; omega)]
          exact hd2
        · rw [fput_S] at hk2
          split at hk2
          · exact absurd hk2 e
          · exact q k hk hk2
theorem fnl_ok {σ : Gr} (ho : fOK σ) (hc : canNl σ) : fOK (fnl σ) := by
  obtain ⟨⟨a1, a2⟩, a3, a4, a5, a6, a7, a8, a9, a10, a11⟩ := ho
  obtain ⟨c1, c2, c3⟩ := hc
  refine ⟨by rw [fnl_R]; omega, by rw [fnl_C]; omega, by rw [fnl_I]; omega, fun q => by rw [fnl_R] at q; omega, fun q => by rw [fnl_C]; omega, by rw [fN_cg (g := σ) (fun k => fnl_S), fnl_Q]; exact a7, by rw [fnl_Q]; exact a8, fun k hk => by rw [fnl_S]; exact a9 k hk, fun y x hy hx hv => ?_, ?_⟩
  · rw [fnl_S]
    refine a10 y x hy hx (fun q => hv ?_)
    unfold vis at q ⊢
    rw [fnl_R, fnl_C, fnl_I]
    left
    omega
  · rw [fnl_D]
    simp only [fnl_S]
    exact a11
/-- the floor before a sign is read -/
def f00 : Gr := fun g k => if g = 0 ∧ k = 0 then 1 else 0
theorem f00_ok : fOK f00 := by
  have z : ∀ k, fS f00 k = 0 := fun k => rfl
  refine ⟨⟨by decide, by decide⟩, by decide, by decide, fun _ => rfl, fun q => absurd q (by decide), by decide, by decide, fun k _ => by rw [z]; omega, fun y x _ _ _ => z _, Or.inl ⟨rfl, fun k _ => by rw [z]; omega⟩⟩
theorem fOK.fin {σ : Gr} (ho : fOK σ) (hd : ¬ gD σ = 0) (hi : gI σ = fC σ) : okF σ := by
  obtain ⟨⟨a1, a2⟩, a3, a4, a5, a6, a7, a8, a9, a10, a11⟩ := ho
  obtain ⟨-, d, hd25, hd2, hu⟩ := a11.resolve_left (fun x => hd x.1)
  have q1 : fQ σ ≠ 0 := by
    intro e
    rw [← a7] at e
    have mono : ∀ m, d < m → fN σ m ≠ 0 := by
      intro m
      induction m with
      | zero => intro h; omega
      | succ m ih =>
        intro h
        rw [fN]
        by_cases em : d = m
        · subst em
          rw [if_neg (by omega)]
          omega
        · have := ih (by omega)
          omega
    exact mono 25 hd25 e
  refine ⟨⟨fun e => absurd e q1, fun e => by omega⟩, a2, a3, a9, fun r c hr hc h => a10 r c hr hc (fun v => ?_), a7, a8, fun _ => ⟨d, hd25, hd2, hu⟩⟩
  unfold vis at v
  omega
def vl (x : Int32) : Nat := if x = (35 : Int32) then 0 else if x = (46 : Int32) then 1 else 2
theorem vl_b (x : Int32) : vl x ≤ 2 := by
  unfold vl
  split
  · omega
  · split <;> omega
def fst_ (σ : Gr) (x : Int32) : Option Gr :=
  if x = (47 : Int32) then (if canNl σ then some (fnl σ) else none)
  else if x = (46 : Int32) ∨ x = (35 : Int32) ∨ x = (100 : Int32) then (if canPut σ (vl x) then some (fput σ (vl x)) else none) else none
theorem fst_ok {σ σ' : Gr} {x : Int32} (ho : fOK σ) (h : fst_ σ x = some σ') : fOK σ' := by
  unfold fst_ at h
  split at h
  · split at h
    · rename_i q; cases h; exact fnl_ok ho q
    · cases h
  · split at h
    · split at h
      · rename_i q; cases h; exact fput_ok ho (vl_b x) q
      · cases h
    · cases h
def fr (B : Nat → Int32) (n : Nat) : Nat → Nat → Gr → Option Gr × Nat
  | 0, _, _ => (none, 0)
  | d + 1, a, σ => if n ≤ a then (some σ, 0) else match fst_ σ (B a) with
    | none => (none, a)
    | some σ' => fr B n d (a + 1) σ'
theorem fr_e {B : Nat → Int32} {n d a : Nat} {σ : Gr} (q : n ≤ a) : fr B n (d + 1) a σ = (some σ, 0) := by rw [fr, if_pos q]
theorem fr_n {B : Nat → Int32} {n d a : Nat} {σ : Gr} (q : ¬ n ≤ a) (h : fst_ σ (B a) = none) : fr B n (d + 1) a σ = (none, a) := by rw [fr, if_neg q, h]
theorem fr_s {B : Nat → Int32} {n d a : Nat} {σ σ' : Gr} (q : ¬ n ≤ a) (h : fst_ σ (B a) = some σ') : fr B n (d + 1) a σ = fr B n d (a + 1) σ' := by rw [fr, if_neg q, h]
/-! the class -/
def cG (signs : IA) (rows cols squares hd inr : Int32) (σ : Gr) : Prop := rows = nI (fR σ) ∧ cols = nI (fC σ) ∧ squares = nI (fQ σ) ∧ hd = nI (gD σ) ∧ inr = nI (gI σ) ∧ ∀ y x, y < 5 → x < 5 → vis σ y x → signs (5 * y + x) = nI (fS σ (5 * y + x))
