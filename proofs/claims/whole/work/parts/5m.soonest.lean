/-! PURE PART: soonest, both sides -/
theorem cS_1 {h : Gr} (ho : okH h) (hR1 : hR h ≠ 0) : 1 ≤ cS h (hR h) := by
  obtain ⟨n, hn⟩ : ∃ n, hR h = n + 1 := ⟨hR h - 1, by omega⟩
  have := (ho.2.1 (hR h) (by omega) (Nat.le_refl _)).2.1
  rw [hn] at this ⊢
  rw [cS]
  omega
theorem rl_y {h : Gr} {b : Nat → Nat} {k T B : Nat} {a' : Nat × Gr} (e : dfs h b k T 8 p00 (some (B, p00)) = some a') : rlA B (dfs h b k T 8 p00 none) a' := by
  obtain ⟨a, g1, g2⟩ := rlA_dfs (h := h) (b := b) (k := k) (T := T) (B := B) 8 p00 none (B, p00) (Or.inl ⟨rfl, rfl⟩)
  rw [e] at g1
  rw [Option.some.inj g1]
  exact g2
theorem soon41_lp {mr met best kept : IA} {soon : Int32} {n : Nat} (hn : n ≤ 8) {s0 : IA} {K : Int32 → IA → IA → IA → IA → IA → Int32 → Int32 → Prop} (hK : ∀ v : IA, (∀ j, j < 2 * n → v (77 + j) = best j) → (∀ j, (j < 77 ∨ 93 ≤ j) → v j = s0 j) → K soon mr v met best kept soon (nI n)) : ∀ (d i : Nat) (v : IA), i + d = 2 * n → (∀ j, j < i → v (77 + j) = best j) → (∀ j, (j < 77 ∨ 93 ≤ j) → v j = s0 j) → wp_X11_soonest_41 mr met best kept soon (nI n) K (d + 1) (nI i) v := by
  intro d
  induction d with
  | zero =>
    intro i v hi hv hv2
    have e : i = 2 * n := by omega
    subst e
    exact ⟨fun _ => hK v hv hv2, fun q => absurd (by rw [px_lit, pk_mul, nI_leI (by omega) (by omega)]; omega) q⟩
  | succ d ih =>
    intro i v hi hv hv2
    refine ⟨fun q => absurd q (by rw [px_lit, pk_mul, nI_leI (by omega) (by omega)]; omega), fun _ => ?_⟩
    rw [show (77 : Int32) + nI i = nI (77 + i) by rw [px_lit, nI_add], px_cl (by omega), px_cl (by omega), nI_1]
    refine ⟨px_in (by omega) (by decide), px_in (by omega) (by decide), ih (i + 1) _ (by omega) (fun j hj => ?_) (fun j hj => ?_)⟩
    · by_cases e : j = i
      · subst e; exact up_s
      · rw [up_n (by omega)]; exact hv j (by omega)
    · rw [up_n (by omega)]; exact hv2 j hj
theorem m_soonest {cr mr s met best kept ct brd rr rh hab : IA} {soon bst rooms doors needs steps planked : Int32} {work coats beside np : IA} {bs : Int32} {bR bH : IA} {ts : Int32} {tr th takes shuts dries cl lb sa aa : IA} {bound any found : Int32} {h p : Gr} {b : Nat → Nat} {k : Nat} (hr : Rref cr mr) (hoh : okH h) (ho : okP h p) (hb : okB b) (hk : okK h k) (hch : cH rooms doors needs work coats beside np h) (hmh : mH s h) (hc : cP steps rr rh p) (hm : mP s p) (hcb : cB hab b) (hmb : mB s b) (hck : planked = nI k) (hmk : s 8 = nI k) (hwy : wOK h ct brd (2 ^ hR h)) (hts : ts = 0) : wp_X10_soonest cr ct brd rooms needs work coats beside np steps rr rh hab planked bs bR bH ts tr th takes shuts dries cl lb sa aa bound any found (fun r cr' steps' rr' rh' _ _ _ ts' _ _ _ _ _ _ _ _ _ _ _ _ => wp_X11_soonest mr s met best kept soon bst (fun r' mr' s' _ _ _ _ _ => r = r' ∧ Rref cr' mr' ∧ ts' = 0 ∧ (∀ j, j < 120 → j ≠ 3 → (j < 77 ∨ 93 ≤ j) → s' j = s j) ∧ ∃ p', okP h p' ∧ cP steps' rr' rh' p' ∧ mP s' p')) := by
  obtain ⟨rfl, -, rfl, hc4, hcB, hnp⟩ := hch
  subst hck
  have h5 := hoh.1.1
  have m0 : s (0 : Int32).toNatClampNeg = nI (hR h + 1) := hmh.1
  have hk6 := hk.b hoh
  have hS := cS_b hoh (hR h) (Nat.le_refl _)
  refine ⟨fun q => ?_, fun q => coats10_sp hoh (fun r a b => (hc4 r a b).2) ⟨fun q6 => ?_, fun q6 => ?_⟩⟩
  · rw [← nI_0, nI_eq (by omega) (by omega)] at q
    refine rf10 3 (by decide) (by decide) ⟨fun _ => ⟨fun z => absurd z (by decide), fun _ => rf11 3 (by decide) (by decide) ⟨rfl, hr.up 3 (by decide), hts, fun _ _ _ _ => rfl, p, ho, hc, hm⟩⟩, fun z => absurd ?_ z⟩
    rw [m0, q]
    rfl
  · have q0 : hR h ≠ 0 := fun z => q (by rw [z]; rfl)
    have m1 : ¬ (s (0 : Int32).toNatClampNeg = (1 : Int32)) := by
      rw [m0, px_lit, nI_eq (by omega) (by omega)]
      omega
    have hT1 := cS_1 hoh q0
    have q6' : cS h (hR h) ≤ 6 := by
      rw [px_lit, nI_leI (by omega) (by omega)] at q6
      exact q6
    have mdl : ∀ K : Int32 → IA → IA → IA → IA → IA → Int32 → Int32 → Prop, (∀ s' met' best' kept' soon' bs', (∀ j, j < 120 → s' j = s j) → mA best' soon' bs' (dfs h b k (cS h (hR h)) 8 p00 none) → (0 ≤ soon' → ∃ n : Nat, wp_X11_soonest_41 mr met' best' kept' soon' bs' K n (0 : Int32) (upd s' (3 : Int32).toNatClampNeg bs')) ∧ (¬ (0 ≤ soon') → K (-9 : Int32) mr s' met' best' kept' soon' bs')) → wp_X11_soonest mr s met best kept soon bst K := fun K hK => ⟨fun z => absurd z m1, fun _ => coats11_sp hoh hmh ⟨fun _ => ⟨fun _ => find_sp hoh hb hk6 hmh hmb hmk q6' hT1 hK, fun z => absurd rfl z⟩, fun z => absurd q6 z⟩⟩
    refine learnNeeds_sp hoh hnp (fun aa' haa => run7_sp (B := 1000) hoh hb hk6 q6' hT1 (by decide) (by decide) (any := (0 : Int32)) (Or.inl rfl) (fun r a b => (hc4 r a b).1) (fun r a b => (hc4 r a b).2) hcB hcb hwy hts haa (fun a' bs' br' bh' ts' tr' th' tk' sh' dr' cl' lb' sa' bound' found' k1 k2 k3 => ?_))
    have hrl := rl_y k1
    rcases k2 with ⟨rfl, -, ea⟩ | ⟨rfl, ha, hz⟩
    · refine ⟨fun _ => ⟨fun _ => mdl _ (fun s' met' best' kept' soon' bs'' e1 e2 => ?_), fun z => absurd rfl z⟩, fun z => absurd rfl z⟩
      rcases hrl with ⟨ex, -⟩ | ⟨⟨t, y⟩, ex, hy⟩
      · rw [ex] at e2
        have e2' : soon' = (-9 : Int32) := e2
        subst e2'
        refine ⟨fun z => absurd z (by decide), fun _ => ⟨rfl, hr, k3, fun j j1 _ _ => e1 j j1, p, ho, hc, hm.ext ho (fun j hj => e1 j (by omega))⟩⟩
      · exfalso
        rw [ex] at e2
        obtain ⟨-, e3, -⟩ := e2
        rcases hy with ⟨y1, y2⟩ | ⟨y1, y2⟩
        · rw [ea] at y2
          have : (1000 : Nat) = t := congrArg Prod.fst y2
          simp only at y1
          omega
        · simp only at y1
          omega
    · obtain ⟨rfl, hz1, hz2, hz3, hz4⟩ := hz rfl
      refine ⟨fun z => absurd z px_01, fun _ => ⟨fun z => absurd z (px_n9 (by omega)), fun _ => mdl _ (fun s' met' best' kept' soon' bs'' e1 e2 => ?_)⟩⟩
      rcases hrl with ⟨-, ey⟩ | ⟨⟨t, y⟩, ex, ⟨y1, y2⟩ | ⟨y1, y2⟩⟩
      · rw [ey] at ha
        exact absurd ha (by decide)
      · rw [ex] at e2
        subst y2
        obtain ⟨rfl, e3, rfl, e5, e6⟩ := e2
        refine ⟨fun _ => ⟨2 * pN y + 1, soon41_lp (s0 := upd s' (3 : Int32).toNatClampNeg (nI (pN y))) e5 (fun v v1 v2 => ⟨rfl, hr, k3, fun j j1 j2 j3 => ?_, y, ⟨e5, fun i hi => ?_⟩, ⟨hz2.1, fun i hi => ?_⟩, ⟨?_, fun i hi => ⟨?_, ?_⟩⟩⟩) (2 * pN y) 0 _ (by omega) (fun j hj => absurd hj (by omega)) (fun _ _ => rfl)⟩, fun z => absurd (nI_pos' (by omega)) z⟩
        · rw [v2 j j3]
          exact (up_n (f := s') (k := 3) j2).trans (e1 j j1)
        · have := hz3 i hi
          exact ⟨this.1.1, this.1.2, Nat.le_trans this.2 (by decide)⟩
        · have := hz2.2 i hi
          have hi' : i < pN y := hi
          rw [cp_in (by omega), cp_in (by omega)]
          exact this
        · rw [v2 3 (by omega)]
          exact up_s
        · have := v1 (2 * i) (by omega)
          rw [this]
          exact (e6 i hi).1
        · have := v1 (2 * i + 1) (by omega)
          rw [show 78 + 2 * i = 77 + (2 * i + 1) by omega, this]
          exact (e6 i hi).2
      · rw [y2] at ha
        exact absurd ha (by decide)
  · have q0 : hR h ≠ 0 := fun z => q (by rw [z]; rfl)
    have m1 : ¬ (s (0 : Int32).toNatClampNeg = (1 : Int32)) := by
      rw [m0, px_lit, nI_eq (by omega) (by omega)]
      omega
    exact rf10 6 (by decide) (by decide) ⟨fun z => absurd z m1, fun _ => coats11_sp hoh hmh ⟨fun z => absurd z q6, fun _ => ⟨fun z => absurd z (by decide), fun _ => rf11 6 (by decide) (by decide) ⟨rfl, hr.up 6 (by decide), hts, fun _ _ _ _ => rfl, p, ho, hc, hm⟩⟩⟩⟩
