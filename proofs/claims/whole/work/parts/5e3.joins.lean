/-! PURE PART: joins (class), comes (model) -/
theorem joins_sp {tp p v : IA} {n a e : Nat} {h : Gr} (ho : okH h) (hs : rSt (bt tp n) a = (true, e, v)) (hp : pOK (bt tp n) a v p) {rooms doors needs : Int32} {work coats beside np : IA} (hc : cH rooms doors needs work coats beside np h) {K : Int32 → Int32 → Int32 → Int32 → IA → IA → IA → IA → Prop} (h1 : ∀ h' rooms' doors' needs' work' coats' beside' np', hAdd h (bt tp n a) v = some h' → okH h' → hR h ≤ hR h' → cH rooms' doors' needs' work' coats' beside' np' h' → K 1 rooms' doors' needs' work' coats' beside' np') (h0 : hAdd h (bt tp n a) v = none → ∀ rooms' doors' needs' work' coats' beside' np', K 0 rooms' doors' needs' work' coats' beside' np') : wp_X2_joins (bt tp n a) p rooms doors needs work coats beside np K := by
  obtain ⟨hl, -, -, ⟨d0, b0, e0⟩, ⟨d1, b1, e1⟩, hh⟩ := rSt_ok hs
  obtain ⟨p0, p1, p23⟩ := hp
  have q0 : p (0 : Int32).toNatClampNeg = nI d0 := p0.trans e0
  have q1 : p (1 : Int32).toNatClampNeg = nI d1 := p1.trans e1
  have c0 : (v 0).toNatClampNeg = d0 := by rw [e0, px_cl (by omega)]
  have c1 : (v 1).toNatClampNeg = d1 := by rw [e1, px_cl (by omega)]
  obtain ⟨rfl, rfl, rfl, hc4, hcB, hcP⟩ := hc
  obtain ⟨o1, o2, o3⟩ := ho.1
  rcases hl with hl | hl | hl
  · have hA : hAdd h (bt tp n a) v = if 1 ≤ d0 ∧ 1 ≤ d1 ∧ d1 ≤ 2 ∧ hR h < 5 then some (addR h d0 d1) else none := by unfold hAdd; rw [if_pos hl, c0, c1]
    refine ⟨fun q => absurd (hl.symm.trans q) (by decide), fun _ => ⟨fun q => absurd (hl.symm.trans q) (by decide), fun _ => ⟨fun _ => ?_, fun q => absurd hl q⟩⟩⟩
    rw [q0, q1]
    refine ⟨fun q => ?_, fun q => ⟨fun q2 => ?_, fun _ => ⟨fun q3 => ?_, fun q3 => ⟨fun q4 => ⟨fun q5 => ?_, fun q5 => ?_⟩, fun q4 => ?_⟩⟩⟩⟩
    · rw [px_lit, nI_ltI (by omega) (by omega)] at q
      exact h0 (by rw [hA, if_neg (by omega)]) _ _ _ _ _ _ _
    · rw [px_lit, nI_ltI (by omega) (by omega)] at q2
      omega
    · rw [px_lit, nI_ltI (by omega) (by omega)] at q3
      exact h0 (by rw [hA, if_neg (by omega)]) _ _ _ _ _ _ _
    · rw [px_lit, nI_ltI (by omega) (by omega)] at q q3 q5
      rw [px_lit, nI_leI (by omega) (by omega)] at q4
      rw [nI_1, px_cl (by omega)]
      refine ⟨px_in (by omega) (by decide), h1 (addR h d0 d1) _ _ _ _ _ _ _ (by rw [hA, if_pos (by omega)]) (addR_ok ho (by omega) (by omega) (by omega) (by omega) q5) (by rw [addR_R]; omega) ⟨by rw [addR_R], by rw [addR_D], by rw [addR_N], fun r x y => ?_, fun a x => by rw [addR_B]; exact hcB a x, fun k x => by rw [addR_N] at x; rw [addR_P]; exact hcP k x⟩⟩
      rw [addR_R] at y
      rw [addR_W, addR_C]
      by_cases er : r = hR h + 1
      · subst er
        rw [up_s, up_s, if_pos rfl, if_pos rfl]
        exact ⟨rfl, rfl⟩
      · rw [up_n er, up_n er, if_neg er, if_neg er]
        exact hc4 r x (by omega)
    · rw [px_lit, nI_ltI (by omega) (by omega)] at q5
      exact h0 (by rw [hA, if_neg (by omega)]) _ _ _ _ _ _ _
    · rw [px_lit, nI_leI (by omega) (by omega)] at q4
      exact h0 (by rw [hA, if_neg (by omega)]) _ _ _ _ _ _ _
  · have hA : hAdd h (bt tp n a) v = if d0 ≤ hR h ∧ d1 ≤ hR h ∧ d0 ≠ d1 ∧ (hB h d0).testBit d1 = false ∧ hD h < 12 then some (addD h d0 d1) else none := by unfold hAdd; rw [if_neg (fun q => absurd (hl.symm.trans q) (by decide)), if_pos hl, c0, c1]
    refine ⟨fun _ => ?_, fun q => absurd hl q⟩
    rw [q0, q1]
    refine two_sp o1 b0 b1 (fun y1 y2 y3 => ⟨fun q => absurd q px_01, fun _ => joined_sp ho hcB (by omega) (by omega) (fun t => ⟨fun q => absurd q px_01, fun _ => h0 (by rw [hA, if_neg (fun x => by rw [t] at x; exact absurd x.2.2.2.1 (by decide))]) _ _ _ _ _ _ _⟩) (fun f => ⟨fun _ => ⟨fun q => ?_, fun q => ?_⟩, fun q => absurd rfl q⟩)⟩) (fun no => ⟨fun _ => h0 (by rw [hA, if_neg (fun x => no ⟨x.1, x.2.1, x.2.2.1⟩)]) _ _ _ _ _ _ _, fun q => absurd rfl q⟩)
    · rw [px_lit, nI_ltI (by omega) (by omega)] at q
      refine ⟨px_in (by omega) (by decide), px_in (by omega) (by decide), ?_⟩
      rw [px_cl (by omega), px_cl (by omega), hcB d0 (by omega), px_shl1 _ (by omega), px_or, up_n (by omega), hcB d1 (by omega), px_shl1 _ (by omega), px_or, nI_1]
      refine h1 (addD h d0 d1) _ _ _ _ _ _ _ (by rw [hA, if_pos ⟨y1, y2, y3, f, q⟩]) (addD_ok ho y1 y2 y3 q) (by rw [addD_R]; exact Nat.le_refl _) ⟨by rw [addD_R], by rw [addD_D], by rw [addD_N], fun r x y => by rw [addD_R] at y; rw [addD_W, addD_C]; exact hc4 r x y, fun r x => ?_, fun k x => by rw [addD_N] at x; rw [addD_P]; exact hcP k x⟩
      rw [addD_B]
      by_cases er : r = d1
      · subst er
        rw [up_s, if_neg (by omega), if_pos rfl]
      · rw [up_n er]
        by_cases er2 : r = d0
        · subst er2
          rw [up_s, if_pos rfl]
        · rw [up_n er2, if_neg er2, if_neg er]
          exact hcB r x
    · rw [px_lit, nI_ltI (by omega) (by omega)] at q
      exact h0 (by rw [hA, if_neg (fun x => q x.2.2.2.2)]) _ _ _ _ _ _ _
  · obtain ⟨⟨d2, b2, e2⟩, ⟨d3, b3, e3⟩⟩ := hh hl
    obtain ⟨p2, p3⟩ := p23 hl
    have q2 : p (2 : Int32).toNatClampNeg = nI d2 := p2.trans e2
    have q3 : p (3 : Int32).toNatClampNeg = nI d3 := p3.trans e3
    have c2 : (v 2).toNatClampNeg = d2 := by rw [e2, px_cl (by omega)]
    have c3 : (v 3).toNatClampNeg = d3 := by rw [e3, px_cl (by omega)]
    have hA : hAdd h (bt tp n a) v = if d0 ≤ hR h ∧ d1 ≤ hR h ∧ d0 ≠ d1 ∧ d2 ≤ d3 ∧ hN h < 8 then some (addN h d0 d1 d2 d3) else none := by unfold hAdd; rw [if_neg (fun q => absurd (hl.symm.trans q) (by decide)), if_neg (fun q => absurd (hl.symm.trans q) (by decide)), c0, c1, c2, c3]
    refine ⟨fun q => absurd (hl.symm.trans q) (by decide), fun _ => ⟨fun _ => ?_, fun q => absurd hl q⟩⟩
    rw [q0, q1, q2, q3]
    refine two_sp o1 b0 b1 (fun y1 y2 y3 => ⟨fun q => absurd q px_01, fun _ => ⟨fun q => ?_, fun q => ⟨fun q4 => ?_, fun q4 => ?_⟩⟩⟩) (fun no => ⟨fun _ => h0 (by rw [hA, if_neg (fun x => no ⟨x.1, x.2.1, x.2.2.1⟩)]) _ _ _ _ _ _ _, fun q => absurd rfl q⟩)
    · rw [nI_ltI (by omega) (by omega)] at q
      exact h0 (by rw [hA, if_neg (by omega)]) _ _ _ _ _ _ _
    · rw [nI_ltI (by omega) (by omega)] at q
      rw [px_lit, nI_ltI (by omega) (by omega)] at q4
      intro x5 e5
      rw [px_lit, pk_mul, Nat.mul_comm] at e5
      subst e5
      rw [show (3 : Int32) = nI 3 from rfl, show (2 : Int32) = nI 2 from rfl, nI_1, nI_1, nI_add, nI_add, px_cl (k := 4 * hN h) (by omega), px_cl (k := 4 * hN h + 1) (by omega), px_cl (k := 4 * hN h + 2) (by omega), px_cl (k := 4 * hN h + 3) (by omega)]
      refine ⟨px_in (by omega) (by decide), px_in (by omega) (by decide), px_in (by omega) (by decide), px_in (by omega) (by decide), h1 (addN h d0 d1 d2 d3) _ _ _ _ _ _ _ (by rw [hA, if_pos (by omega)]) (addN_ok ho y1 y2 y3 (by omega) (by omega) q4) (by rw [addN_R]; exact Nat.le_refl _) ⟨by rw [addN_R], by rw [addN_D], by rw [addN_N], fun r x y => by rw [addN_R] at y; rw [addN_W, addN_C]; exact hc4 r x y, fun r x => by rw [addN_B]; exact hcB r x, fun k x => ?_⟩⟩
      rw [addN_N] at x
      rw [addN_P]
      by_cases k3 : k = 4 * hN h + 3
      · rw [k3, up_s, if_neg (by omega), if_neg (by omega), if_neg (by omega), if_pos rfl]
      · rw [up_n k3]
        by_cases k2 : k = 4 * hN h + 2
        · rw [k2, up_s, if_neg (by omega), if_neg (by omega), if_pos rfl]
        · rw [up_n k2]
          by_cases k1 : k = 4 * hN h + 1
          · rw [k1, up_s, if_neg (by omega), if_pos rfl]
          · rw [up_n k1]
            by_cases k0 : k = 4 * hN h
            · rw [k0, up_s, if_pos rfl]
            · rw [up_n k0, if_neg k0, if_neg k1, if_neg k2, if_neg k3]
              exact hcP k (by omega)
    · rw [px_lit, nI_ltI (by omega) (by omega)] at q4
      exact h0 (by rw [hA, if_neg (by omega)]) _ _ _ _ _ _ _
theorem comes277_lp {told read : IA} {N : Nat} (hN8 : N < 8) (hr : read 2 = nI N) {K : Int32 → IA → Prop} (hK : ∀ v : IA, (∀ j, (j < 45 + 4 * N ∨ 45 + 4 * N + 4 ≤ j) → v j = read j) → (∀ t, t < 4 → v (45 + 4 * N + t) = told t) → K 1 (upd v 2 (nI (N + 1)))) : ∀ (d i : Nat) (v : IA), i + d = 4 → (∀ j, (j < 45 + 4 * N ∨ 45 + 4 * N + 4 ≤ j) → v j = read j) → (∀ t, t < i → v (45 + 4 * N + t) = told t) → wp_X11_comes_277 told K (d + 1) (nI i) v := by
  intro d
  induction d with
  | zero =>
    intro i v hi h1 h2
    have e : i = 4 := by omega
    subst e
    have v2 : v (2 : Int32).toNatClampNeg = nI N := (h1 2 (by omega)).trans hr
    refine ⟨fun _ => ?_, fun q => absurd (by decide) q⟩
    rw [v2, nI_1]
    exact hK v h1 h2
  | succ d ih =>
    intro i v hi h1 h2
    have v2 : v (2 : Int32).toNatClampNeg = nI N := (h1 2 (by omega)).trans hr
    refine ⟨fun q => absurd q (by rw [px_lit, nI_leI (by omega) (by omega)]; omega), fun _ => ?_⟩
    rw [v2, show ((45 : Int32) + ((4 : Int32) * nI N)) + nI i = nI (45 + 4 * N + i) by rw [px_lit, px_lit, pk_mul, nI_add, nI_add], px_cl (by omega), px_cl (by omega), nI_1]
    refine ⟨px_in (by omega) (by decide), px_in (by omega) (by decide), ih (i + 1) _ (by omega) (fun j hj => ?_) (fun t ht => ?_)⟩
    · rw [up_n (by omega)]; exact h1 j hj
    · by_cases et : t = i
      · subst et; exact up_s
      · rw [up_n (by omega)]; exact h2 t (by omega)
theorem comes_sp {tp told v read : IA} {n a e : Nat} {h : Gr} (ho : okH h) (hs : rSt (bt tp n) a = (true, e, v)) (hp : pOK (bt tp n) a v told) (hm : mH read h) {K : Int32 → IA → Prop} (h1 : ∀ h' read', hAdd h (bt tp n a) v = some h' → mH read' h' → (∀ j, ((3 ≤ j ∧ j < 9) ∨ 77 ≤ j) → read' j = read j) → K 1 read') (h0 : hAdd h (bt tp n a) v = none → ∀ read', K 0 read') : wp_X11_comes (bt tp n a) read told K := by
  obtain ⟨hl, -, -, ⟨d0, b0, e0⟩, ⟨d1, b1, e1⟩, hh⟩ := rSt_ok hs
  obtain ⟨p0, p1, p23⟩ := hp
  have q0 : told (0 : Int32).toNatClampNeg = nI d0 := p0.trans e0
  have q1 : told (1 : Int32).toNatClampNeg = nI d1 := p1.trans e1
  have c0 : (v 0).toNatClampNeg = d0 := by rw [e0, px_cl (by omega)]
  have c1 : (v 1).toNatClampNeg = d1 := by rw [e1, px_cl (by omega)]
  obtain ⟨m0, m1, m2, m3, m4, m5⟩ := hm
  obtain ⟨o1, o2, o3⟩ := ho.1
  have g0 : read (0 : Int32).toNatClampNeg = nI (hR h + 1) := m0
  have g1 : read (1 : Int32).toNatClampNeg = nI (hD h) := m1
  have g2 : read (2 : Int32).toNatClampNeg = nI (hN h) := m2
  have z0 : (0 : Int32).toNatClampNeg = 0 := rfl
  have z1 : (1 : Int32).toNatClampNeg = 1 := rfl
  rcases hl with hl | hl | hl
  · have hA : hAdd h (bt tp n a) v = if 1 ≤ d0 ∧ 1 ≤ d1 ∧ d1 ≤ 2 ∧ hR h < 5 then some (addR h d0 d1) else none := by unfold hAdd; rw [if_pos hl, c0, c1]
    refine ⟨fun _ => ?_, fun q => absurd hl q⟩
    rw [q0, q1, g0, show (9 : Int32) + nI (hR h + 1) = nI (9 + (hR h + 1)) by rw [px_lit, nI_add], px_cl (by omega)]
    have u0 : upd read (9 + (hR h + 1)) (nI d0) (0 : Int32).toNatClampNeg = nI (hR h + 1) := by rw [z0, up_n (by omega)]; exact m0
    rw [u0, show (15 : Int32) + nI (hR h + 1) = nI (15 + (hR h + 1)) by rw [px_lit, nI_add], px_cl (by omega)]
    have u1 : upd (upd read (9 + (hR h + 1)) (nI d0)) (15 + (hR h + 1)) (nI d1) (0 : Int32).toNatClampNeg = nI (hR h + 1) := by rw [z0, up_n (by omega), up_n (by omega)]; exact m0
    rw [u1, nI_1, z0]
    refine ⟨fun q => ?_, fun q => ⟨fun q2 => ?_, fun q2 => ⟨fun q3 => ?_, fun q3 => ⟨fun q4 => ?_, fun q4 => ?_⟩⟩⟩⟩
    · rw [px_lit, nI_ltI (by omega) (by omega)] at q
      exact h0 (by rw [hA, if_neg (by omega)]) _
    · rw [px_lit, nI_ltI (by omega) (by omega)] at q2
      exact h0 (by rw [hA, if_neg (by omega)]) _
    · rw [px_lit, nI_ltI (by omega) (by omega)] at q3
      exact h0 (by rw [hA, if_neg (by omega)]) _
    · rw [px_lit, nI_eq (by omega) (by omega)] at q4
      exact h0 (by rw [hA, if_neg (by omega)]) _
    · rw [px_lit, nI_ltI (by omega) (by omega)] at q q2 q3
      rw [px_lit, nI_eq (by omega) (by omega)] at q4
      refine ⟨px_in (by omega) (by decide), px_in (by omega) (by decide), h1 (addR h d0 d1) _ (by rw [hA, if_pos (by omega)]) ⟨by rw [up_s, addR_R], by rw [up_n (by omega), up_n (by omega), up_n (by omega), addR_D]; exact m1, by rw [up_n (by omega), up_n (by omega), up_n (by omega), addR_N]; exact m2, fun r x y => ?_, fun k x => ?_, fun k x => ?_⟩ (fun j hj => by rw [up_n (by omega), up_n (by omega), up_n (by omega)])⟩
      · rw [addR_R] at y
        rw [addR_W, addR_C]
        by_cases er : r = hR h + 1
        · subst er
          rw [if_pos rfl, if_pos rfl, up_n (by omega), up_n (by omega), up_s, up_n (by omega), up_s]
          exact ⟨rfl, rfl⟩
        · rw [if_neg er, if_neg er, up_n (by omega), up_n (by omega), up_n (by omega), up_n (by omega), up_n (by omega), up_n (by omega)]
          exact m3 r x (by omega)
      · rw [addR_D] at x
        rw [addR_L, up_n (by omega), up_n (by omega), up_n (by omega)]
        exact m4 k x
      · rw [addR_N] at x
        rw [addR_P, up_n (by omega), up_n (by omega), up_n (by omega)]
        exact m5 k x
  · have hA : hAdd h (bt tp n a) v = if d0 ≤ hR h ∧ d1 ≤ hR h ∧ d0 ≠ d1 ∧ (hB h d0).testBit d1 = false ∧ hD h < 12 then some (addD h d0 d1) else none := by unfold hAdd; rw [if_neg (fun q => absurd (hl.symm.trans q) (by decide)), if_pos hl, c0, c1]
    refine ⟨fun q => absurd (hl.symm.trans q) (by decide), fun _ => ?_⟩
    rw [q0, q1, g0]
    refine ⟨fun q => ?_, fun q => ⟨fun q2 => ?_, fun q2 => ⟨fun q3 => ?_, fun q3 => ⟨fun _ => ?_, fun q => absurd hl q⟩⟩⟩⟩
    · rw [nI_leI (by omega) (by omega)] at q
      exact h0 (by rw [hA, if_neg (by omega)]) _
    · rw [nI_leI (by omega) (by omega)] at q2
      exact h0 (by rw [hA, if_neg (by omega)]) _
    · rw [nI_eq (by omega) (by omega)] at q3
      exact h0 (by rw [hA, if_neg (by omega)]) _
    · rw [nI_leI (by omega) (by omega)] at q q2
      rw [nI_eq (by omega) (by omega)] at q3
      have hiff := ho.2.2.2.1 d0 (by omega) d1
      refine isDoor_sp o2 m1 m4 ho.L (by omega) (by omega) (fun hy => ⟨fun q => absurd q px_01, fun _ => h0 (by rw [hA, if_neg (fun x => by rw [hiff.mpr hy] at x; exact absurd x.2.2.2.1 (by decide))]) _⟩) (fun hno => ⟨fun _ => ⟨fun q4 => ?_, fun q4 => ?_⟩, fun q => absurd rfl q⟩)
      · rw [g1, px_lit, nI_eq (by omega) (by omega)] at q4
        exact h0 (by rw [hA, if_neg (by omega)]) _
      · rw [g1, px_lit, nI_eq (by omega) (by omega)] at q4
        have f : (hB h d0).testBit d1 = false := by
          cases eq : (hB h d0).testBit d1
          · rfl
          · obtain ⟨k, hk, x⟩ := hiff.mp eq
            exact absurd x (hno k hk)
        rw [g1, show (21 : Int32) + ((2 : Int32) * nI (hD h)) = nI (21 + 2 * hD h) by rw [px_lit, px_lit, pk_mul, nI_add], px_cl (by omega)]
        have u0 : upd read (21 + 2 * hD h) (nI d0) (1 : Int32).toNatClampNeg = nI (hD h) := by rw [z1, up_n (by omega)]; exact m1
        rw [u0, show ((21 : Int32) + ((2 : Int32) * nI (hD h))) + (1 : Int32) = nI (21 + 2 * hD h + 1) by rw [show (21 : Int32) = nI 21 from rfl, show (2 : Int32) = nI 2 from rfl, pk_mul, nI_add, nI_1], px_cl (k := 21 + 2 * hD h + 1) (by omega)]
        have u1 : upd (upd read (21 + 2 * hD h) (nI d0)) (21 + 2 * hD h + 1) (nI d1) (1 : Int32).toNatClampNeg = nI (hD h) := by rw [z1, up_n (by omega), up_n (by omega)]; exact m1
        rw [u1, nI_1, z1]
        refine ⟨px_in (by omega) (by decide), px_in (by omega) (by decide), h1 (addD h d0 d1) _ (by rw [hA, if_pos ⟨by omega, by omega, q3, f, by omega⟩]) ⟨by rw [up_n (by omega), up_n (by omega), up_n (by omega), addD_R]; exact m0, by rw [up_s, addD_D], by rw [up_n (by omega), up_n (by omega), up_n (by omega), addD_N]; exact m2, fun r x y => ?_, fun k x => ?_, fun k x => ?_⟩ (fun j hj => by rw [up_n (by omega), up_n (by omega), up_n (by omega)])⟩
        · rw [addD_R] at y
          rw [addD_W, addD_C, up_n (by omega), up_n (by omega), up_n (by omega), up_n (by omega), up_n (by omega), up_n (by omega)]
          exact m3 r x y
        · rw [addD_D] at x
          rw [addD_L, up_n (by omega)]
          by_cases k1 : k = 2 * hD h + 1
          · subst k1
            rw [if_neg (by omega), if_pos rfl, show 21 + (2 * hD h + 1) = 21 + 2 * hD h + 1 by omega, up_s]
          · rw [up_n (by omega)]
            by_cases k0 : k = 2 * hD h
            · subst k0
              rw [up_s, if_pos rfl]
            · rw [up_n (by omega), if_neg k0, if_neg k1]
              exact m4 k (by omega)
        · rw [addD_N] at x
          rw [addD_P, up_n (by omega), up_n (by omega), up_n (by omega)]
          exact m5 k x
  · obtain ⟨⟨d2, b2, e2⟩, ⟨d3, b3, e3⟩⟩ := hh hl
    obtain ⟨p2, p3⟩ := p23 hl
    have q2 : told (2 : Int32).toNatClampNeg = nI d2 := p2.trans e2
    have q3 : told (3 : Int32).toNatClampNeg = nI d3 := p3.trans e3
    have c2 : (v 2).toNatClampNeg = d2 := by rw [e2, px_cl (by omega)]
    have c3 : (v 3).toNatClampNeg = d3 := by rw [e3, px_cl (by omega)]
    have hA : hAdd h (bt tp n a) v = if d0 ≤ hR h ∧ d1 ≤ hR h ∧ d0 ≠ d1 ∧ d2 ≤ d3 ∧ hN h < 8 then some (addN h d0 d1 d2 d3) else none := by unfold hAdd; rw [if_neg (fun q => absurd (hl.symm.trans q) (by decide)), if_neg (fun q => absurd (hl.symm.trans q) (by decide)), c0, c1, c2, c3]
    refine ⟨fun q => absurd (hl.symm.trans q) (by decide), fun _ => ?_⟩
    rw [q0, q1, q2, q3, g0, g2]
    refine ⟨fun q => ?_, fun q => ⟨fun q4 => ?_, fun q4 => ⟨fun q5 => ?_, fun q5 => ⟨fun q => absurd (hl.symm.trans q) (by decide), fun _ => ⟨fun q6 => ?_, fun q6 => ⟨fun q7 => ?_, fun q7 => ?_⟩⟩⟩⟩⟩⟩
    · rw [nI_leI (by omega) (by omega)] at q
      exact h0 (by rw [hA, if_neg (by omega)]) _
    · rw [nI_leI (by omega) (by omega)] at q4
      exact h0 (by rw [hA, if_neg (by omega)]) _
    · rw [nI_eq (by omega) (by omega)] at q5
      exact h0 (by rw [hA, if_neg (by omega)]) _
    · rw [nI_ltI (by omega) (by omega)] at q6
      exact h0 (by rw [hA, if_neg (by omega)]) _
    · rw [px_lit, nI_eq (by omega) (by omega)] at q7
      exact h0 (by rw [hA, if_neg (by omega)]) _
    · rw [nI_leI (by omega) (by omega)] at q q4
      rw [nI_eq (by omega) (by omega)] at q5
      rw [nI_ltI (by omega) (by omega)] at q6
      rw [px_lit, nI_eq (by omega) (by omega)] at q7
      refine ⟨4 + 1, comes277_lp (read := read) (by omega) m2 (fun w k1 k2 => ?_) 4 0 read (by omega) (fun _ _ => rfl) (fun t ht => absurd ht (by omega))⟩
      refine h1 (addN h d0 d1 d2 d3) _ (by rw [hA, if_pos (by omega)]) ⟨by rw [up_n (by omega), k1 _ (by omega), addN_R]; exact m0, by rw [up_n (by omega), k1 _ (by omega), addN_D]; exact m1, by rw [up_s, addN_N], fun r x y => ?_, fun k x => ?_, fun k x => ?_⟩ (fun j hj => by rw [up_n (by omega), k1 _ (by omega)])
      · rw [addN_R] at y
        rw [addN_W, addN_C, up_n (by omega), up_n (by omega), k1 _ (by omega), k1 _ (by omega)]
        exact m3 r x y
      · rw [addN_D] at x
        rw [addN_L, up_n (by omega), k1 _ (by omega)]
        exact m4 k x
      · rw [addN_N] at x
        rw [addN_P, up_n (by omega)]
        by_cases kl : k < 4 * hN h
        · rw [k1 _ (by omega), if_neg (by omega), if_neg (by omega), if_neg (by omega), if_neg (by omega)]
          exact m5 k kl
        · have kk := k2 (k - 4 * hN h) (by omega)
          rw [show 45 + 4 * hN h + (k - 4 * hN h) = 45 + k by omega] at kk
          rw [kk]
          rcases (show k = 4 * hN h ∨ k = 4 * hN h + 1 ∨ k = 4 * hN h + 2 ∨ k = 4 * hN h + 3 by omega) with ek | ek | ek | ek
          · rw [if_pos ek, ek, Nat.sub_self]; exact q0
          · rw [if_neg (by omega), if_pos ek, ek, Nat.add_sub_cancel_left]; exact q1
          · rw [if_neg (by omega), if_neg (by omega), if_pos ek, ek, Nat.add_sub_cancel_left]; exact q2
          · rw [if_neg (by omega), if_neg (by omega), if_neg (by omega), if_pos ek, ek, Nat.add_sub_cancel_left]; exact q3
