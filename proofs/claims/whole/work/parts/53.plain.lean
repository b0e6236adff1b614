/-! PURE PART: door, need, set, planks, step, stepOf, clear -/
def isDr (L : Nat → Nat) (a b k : Nat) : Prop := (L (2 * k) = a ∧ L (2 * k + 1) = b) ∨ (L (2 * k) = b ∧ L (2 * k + 1) = a)
theorem isDoor_lp {arr : IA} {L : Nat → Nat} {Dn a b : Nat} {K : Int32 → Prop} (hd : Dn ≤ 12) (h1 : arr 1 = nI Dn) (h2 : ∀ k, k < 2 * Dn → arr (21 + k) = nI (L k)) (hL : ∀ k, k < 2 * Dn → L k < 100) (ha : a < 100) (hb : b < 100) (hK1 : (∃ k, k < Dn ∧ isDr L a b k) → K 1) (hK0 : (∀ k, k < Dn → ¬ isDr L a b k) → K 0) : ∀ d i : Nat, i + d = Dn → (∀ k, k < i → ¬ isDr L a b k) → wp_X11_isDoor_2 (nI a) (nI b) 120 arr K (d + 1) (nI i) := by
  intro d
  induction d with
  | zero =>
    intro i hi hno
    have e : i = Dn := by omega
    subst e
    refine ⟨px_in (k := 1) (by decide) (by decide), fun _ => hK0 hno, fun q => absurd ?_ q⟩
    show arr 1 ≤ _
    rw [h1]; exact nI_le (Nat.le_refl _) (by omega)
  | succ d ih =>
    intro i hi hno
    have e1 : arr (21 + 2 * i) = nI (L (2 * i)) := h2 _ (by omega)
    have e2 : arr (21 + 2 * i + 1) = nI (L (2 * i + 1)) := h2 (2 * i + 1) (by omega)
    have l1 := hL (2 * i) (by omega)
    have l2 := hL (2 * i + 1) (by omega)
    have go : ¬ isDr L a b i → wp_X11_isDoor_2 (nI a) (nI b) 120 arr K (d + 1) (nI i + 1) := by
      intro hn
      rw [nI_1]
      exact ih (i + 1) (by omega) (fun k hk => (by
        by_cases ek : k = i
        · subst ek; exact hn
        · exact hno k (by omega)))
    refine ⟨px_in (k := 1) (by decide) (by decide), fun q => absurd q ?_, fun _ => ?_⟩
    · show ¬ arr 1 ≤ _
      rw [h1, nI_leI (by omega) (by omega)]; omega
    · rw [px_lit, px_lit, px_lit, pk_mul, nI_add, nI_add, px_cl (by omega), px_cl (by omega), e1, e2]
      refine ⟨px_in (by omega) (by decide), fun x4 q4 => ⟨px_in (by omega) (by decide), fun x5 q5 => ?_⟩⟩
      subst q4; subst q5
      have back : wp_X11_isDoor_43 (nI a) (nI b) (nI (L (2 * i))) (nI (L (2 * i + 1))) 120 (fun x => wp_X11_isDoor_2 (nI a) (nI b) 120 arr K (d + 1) x) K (nI i) ∨ (L (2 * i) = a ∧ L (2 * i + 1) = b) := by
        by_cases hh : L (2 * i) = a ∧ L (2 * i + 1) = b
        · exact Or.inr hh
        · refine Or.inl ⟨fun q => ⟨fun q2 => hK1 ⟨i, by omega, Or.inr ⟨(nI_eq (by omega) (by omega)).mp q, (nI_eq (by omega) (by omega)).mp q2⟩⟩, fun q2 => go ?_⟩, fun q => go ?_⟩
          · rintro (x | x)
            · exact hh x
            · exact q2 (by rw [x.2])
          · rintro (x | x)
            · exact hh x
            · exact q (by rw [x.1])
      refine ⟨fun q => ⟨fun q2 => hK1 ⟨i, by omega, Or.inl ⟨(nI_eq (by omega) (by omega)).mp q, (nI_eq (by omega) (by omega)).mp q2⟩⟩, fun q2 => ?_⟩, fun q => ?_⟩
      · rcases back with hb2 | hb2
        · exact hb2
        · exact absurd (by rw [hb2.2]) q2
      · rcases back with hb2 | hb2
        · exact hb2
        · exact absurd (by rw [hb2.1]) q
theorem isDoor_sp {arr : IA} {L : Nat → Nat} {Dn a b : Nat} {K : Int32 → Prop} (hd : Dn ≤ 12) (h1 : arr 1 = nI Dn) (h2 : ∀ k, k < 2 * Dn → arr (21 + k) = nI (L k)) (hL : ∀ k, k < 2 * Dn → L k < 100) (ha : a < 100) (hb : b < 100) (hK1 : (∃ k, k < Dn ∧ isDr L a b k) → K 1) (hK0 : (∀ k, k < Dn → ¬ isDr L a b k) → K 0) : wp_X11_isDoor (nI a) (nI b) 120 arr K := ⟨Dn + 1, isDoor_lp hd h1 h2 hL ha hb hK1 hK0 Dn 0 (by omega) (fun k hk => absurd hk (by omega))⟩
theorem okH.L {h : Gr} (ho : okH h) : ∀ k, k < 2 * hD h → hL h k < 100 := by
  intro k hk
  obtain ⟨⟨h1, h2, h3⟩, -, h4, -⟩ := ho
  have := h4 (k / 2) (by omega)
  rcases Nat.mod_two_eq_zero_or_one k with e | e
  · rw [show 2 * (k / 2) = k by omega] at this; omega
  · rw [show 2 * (k / 2) + 1 = k by omega] at this; omega
theorem okH.Bs {h : Gr} (ho : okH h) {a : Nat} (ha : a < 6) : hB h a < 64 := by
  apply Nat.lt_of_not_le
  intro hge
  obtain ⟨⟨h1, -, -⟩, -, h4, h5, -⟩ := ho
  obtain ⟨i, hi, hb⟩ := Nat.exists_ge_and_testBit_of_ge_two_pow (n := 6) hge
  obtain ⟨k, hk, x | x⟩ := (h5 a ha i).mp hb
  · have := h4 k hk; omega
  · have := h4 k hk; omega
theorem joined_sp {h : Gr} (ho : okH h) {beside : IA} (hb : ∀ a, a < 6 → beside a = nI (hB h a)) {a b : Nat} (ha : a < 6) (hb6 : b < 6) {K : Int32 → Prop} (hK1 : (hB h a).testBit b = true → K 1) (hK0 : (hB h a).testBit b = false → K 0) : wp_X1_joined (nI a) (nI b) beside K := by
  have := ho.Bs ha
  refine ⟨px_in ha (by decide), ?_⟩
  rw [px_cl (by omega), hb a ha]
  refine ⟨fun q => hK0 ((px_bit (by omega) (by omega)).mp q), fun q => hK1 ?_⟩
  cases e : (hB h a).testBit b
  · exact absurd ((px_bit (by omega) (by omega)).mpr e) q
  · rfl
theorem m_door {x1 x2 : Int32} {cr mr s : IA} {rooms doors needs : Int32} {work coats beside np : IA} {h : Gr} (hr : Rref cr mr) (ho : okH h) (hc : cH rooms doors needs work coats beside np h) (hm : mH s h) : wp_X10_door x1 x2 cr rooms beside (fun r cr' => wp_X11_door x1 x2 mr s (fun r' mr' => r = r' ∧ Rref cr' mr')) := by
  obtain ⟨rfl, -, -, -, hcB, -⟩ := hc
  obtain ⟨m0, m1, -, -, m4, -⟩ := hm
  have h5 : hR h ≤ 5 := ho.1.1
  rcases hasPlace_sp x1 h5 with ⟨a, ha, rfl, hca, hma⟩ | ⟨hca, hma⟩
  · refine hca _ ⟨fun q => absurd q px_01, fun _ => ?_⟩
    rcases hasPlace_sp x2 h5 with ⟨b, hb, rfl, hca2, hma2⟩ | ⟨hca2, hma2⟩
    · refine hca2 _ ⟨fun q => absurd q px_01, fun _ => ?_⟩
      have hiff := ho.2.2.2.1 a (by omega) b
      refine joined_sp ho hcB (by omega) (by omega) (fun hb1 => ⟨fun q => absurd q px_01, fun _ => ?_⟩) (fun hb0 => ⟨fun _ => ?_, fun q => absurd rfl q⟩)
      · refine hma s _ m0 ⟨fun q => absurd q px_01, fun _ => hma2 s _ m0 ⟨fun q => absurd q px_01, fun _ => ?_⟩⟩
        refine isDoor_sp ho.1.2.1 m1 m4 ho.L (by omega) (by omega) (fun _ => ⟨fun q => absurd q px_01, fun _ => ⟨rfl, hr⟩⟩) (fun hno => ?_)
        obtain ⟨k, hk, x⟩ := hiff.mp hb1
        exact absurd x (hno k hk)
      · refine hma s _ m0 ⟨fun q => absurd q px_01, fun _ => hma2 s _ m0 ⟨fun q => absurd q px_01, fun _ => ?_⟩⟩
        refine isDoor_sp ho.1.2.1 m1 m4 ho.L (by omega) (by omega) (fun hy => ?_) (fun _ => ⟨fun _ => ⟨rfl, hr⟩, fun q => absurd rfl q⟩)
        rw [hiff.mpr hy] at hb0
        cases hb0
    · exact hca2 _ ⟨fun _ => rf10 1 (by decide) (by decide) (hma s _ m0 ⟨fun q => absurd q px_01, fun _ => hma2 s _ m0 ⟨fun _ => rf11 1 (by decide) (by decide) ⟨rfl, hr.up 1 (by decide)⟩, fun q => absurd rfl q⟩⟩), fun q => absurd rfl q⟩
  · exact hca _ ⟨fun _ => rf10 1 (by decide) (by decide) (hma s _ m0 ⟨fun _ => rf11 1 (by decide) (by decide) ⟨rfl, hr.up 1 (by decide)⟩, fun q => absurd rfl q⟩), fun q => absurd rfl q⟩
theorem m_need {x1 x2 : Int32} {cr mr s : IA} {rooms doors needs : Int32} {work coats beside np : IA} {h : Gr} (hr : Rref cr mr) (ho : okH h) (hc : cH rooms doors needs work coats beside np h) (hm : mH s h) : wp_X10_need x1 x2 cr needs np (fun r cr' => wp_X11_need x1 x2 mr s (fun r' mr' => r = r' ∧ Rref cr' mr')) := by
  obtain ⟨-, -, rfl, -, -, hcP⟩ := hc
  obtain ⟨-, -, m2, -, -, m5⟩ := hm
  have h8 : hN h ≤ 8 := ho.1.2.2
  have no : (x1 < 0 ∨ ∃ k, hN h ≤ k ∧ k < 2 ^ 31 ∧ x1 = nI k) → wp_X10_need_18 (fun r cr' => wp_X11_need x1 x2 mr s (fun r' mr' => r = r' ∧ Rref cr' mr')) cr := by
    intro hx
    refine rf10 1 (by decide) (by decide) ?_
    show wp_X11_isIn x1 (s 2) _
    rw [m2]
    exact isIn_out (by omega) hx ⟨fun _ => rf11 1 (by decide) (by decide) ⟨rfl, hr.up 1 (by decide)⟩, fun q => absurd rfl q⟩
  rcases px_cases x1 (hN h) (by omega) with hx | ⟨i, hi, rfl⟩ | ⟨i, hi, hi2, rfl⟩
  · exact ⟨fun _ => no (Or.inl hx), fun q => absurd hx q⟩
  · refine ⟨fun q => absurd q (nI_pos (by omega)), fun _ => ⟨fun _ => ?_, fun q => absurd (by rw [nI_ltI (by omega) (by omega)]; omega) q⟩⟩
    have no2 : (x2 < 0 ∨ ∃ k, 4 ≤ k ∧ k < 2 ^ 31 ∧ x2 = nI k) → wp_X10_need_33 (fun r cr' => wp_X11_need (nI i) x2 mr s (fun r' mr' => r = r' ∧ Rref cr' mr')) cr := by
      intro hx
      refine rf10 2 (by decide) (by decide) ?_
      show wp_X11_isIn (nI i) (s 2) _
      rw [m2]
      refine isIn_in hi (by omega) ⟨fun q => absurd q px_01, fun _ => isIn_out (n := 4) (by decide) hx ⟨fun _ => rf11 2 (by decide) (by decide) ⟨rfl, hr.up 2 (by decide)⟩, fun q => absurd rfl q⟩⟩
    rcases px_cases x2 4 (by decide) with hx | ⟨j, hj, rfl⟩ | ⟨j, hj, hj2, rfl⟩
    · exact ⟨fun _ => no2 (Or.inl hx), fun q => absurd hx q⟩
    · refine ⟨fun q => absurd q (nI_pos (by omega)), fun _ => ⟨fun _ => ?_, fun q => absurd (by rw [px_lit, nI_ltI (by omega) (by omega)]; omega) q⟩⟩
      unfold wp_X1_needPart
      rw [px_lit, pk_mul, nI_add, px_cl (by omega)]
      refine ⟨px_in (by omega) (by decide), ?_⟩
      show wp_X11_isIn (nI i) (s 2) _
      rw [m2]
      refine isIn_in hi (by omega) ⟨fun q => absurd q px_01, fun _ => isIn_in (n := 4) hj (by decide) ⟨fun q => absurd q px_01, fun _ => ?_⟩⟩
      rw [px_lit, px_lit, pk_mul, nI_add, nI_add, px_cl (by omega)]
      refine ⟨px_in (by omega) (by decide), ?_, hr⟩
      rw [show 45 + 4 * i + j = 45 + (i * 4 + j) by omega, hcP _ (by omega), m5 _ (by omega)]
    · exact ⟨fun q => absurd q (nI_pos (by omega)), fun _ => ⟨fun q => absurd q (by rw [px_lit, nI_ltI (by omega) (by omega)]; omega), fun _ => no2 (Or.inr ⟨j, hj, hj2, rfl⟩)⟩⟩
  · exact ⟨fun q => absurd q (nI_pos (by omega)), fun _ => ⟨fun q => absurd q (by rw [nI_ltI (by omega) (by omega)]; omega), fun _ => no (Or.inr ⟨i, hi, hi2, rfl⟩)⟩⟩
