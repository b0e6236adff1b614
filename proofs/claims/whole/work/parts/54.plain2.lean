/-! PURE PART: set, planks, step, stepOf, clear -/
def loT (k : Nat) : Nat := if k = 1 then 0 else 1
def hiT (k : Nat) : Nat := if k < 2 then 24 else if k = 2 then 99 else 3
theorem within_sp (x : Int32) {lo hi : Nat} (hl : lo ≤ hi) (hh : hi < 1000) : (∃ v, lo ≤ v ∧ v ≤ hi ∧ x = nI v ∧ ∀ K : Int32 → Prop, K 0 → wp_X11_within x (nI lo) (nI hi) K) ∨ ((¬ nI lo ≤ x) ∧ ∀ K : Int32 → Prop, K (-4) → wp_X11_within x (nI lo) (nI hi) K) ∨ (nI lo ≤ x ∧ (¬ x ≤ nI hi) ∧ ∀ K : Int32 → Prop, K (-6) → wp_X11_within x (nI lo) (nI hi) K) := by
  by_cases h1 : nI lo ≤ x
  · by_cases h2 : x ≤ nI hi
    · rcases px_cases x (hi + 1) (by omega) with h | ⟨v, hv, rfl⟩ | ⟨v, hv, hv2, rfl⟩
      · exact absurd h1 (px_neg_nle h (by omega))
      · rw [nI_leI (by omega) (by omega)] at h1
        exact Or.inl ⟨v, h1, by omega, rfl, fun K hk => ⟨fun _ => ⟨fun _ => hk, fun q => absurd h2 q⟩, fun q => absurd (by rw [nI_leI (by omega) (by omega)]; exact h1) q⟩⟩
      · rw [nI_leI (by omega) (by omega)] at h2; omega
    · exact Or.inr (Or.inr ⟨h1, h2, fun K hk => ⟨fun _ => ⟨fun q => absurd q h2, fun _ => hk⟩, fun q => absurd h1 q⟩⟩)
  · exact Or.inr (Or.inl ⟨h1, fun K hk => ⟨fun q => absurd q h1, fun _ => hk⟩⟩)
theorem m_set {x1 x2 : Int32} {vl vm cr mr s hab : IA} {b : Nat → Nat} (hvl : ∀ k, k < 4 → vl k = nI (loT k)) (hvm : ∀ k, k < 4 → vm k = nI (hiT k)) (hr : Rref cr mr) (ho : okB b) (hc : cB hab b) (hm : mB s b) : wp_X10_set x1 x2 vl vm cr hab (fun r cr' hab' => wp_X11_set x1 x2 mr s (fun r' mr' s' => r = r' ∧ Rref cr' mr' ∧ (∀ j, (j < 4 ∨ 8 ≤ j) → s' j = s j) ∧ ∃ b', okB b' ∧ cB hab' b' ∧ mB s' b')) := by
  have same : (∀ j, (j < 4 ∨ 8 ≤ j) → s j = s j) ∧ ∃ b', okB b' ∧ cB hab b' ∧ mB s b' := ⟨fun _ _ => rfl, b, ho, hc, hm⟩
  have no : (x1 < 0 ∨ ∃ k, 4 ≤ k ∧ k < 2 ^ 31 ∧ x1 = nI k) → wp_X10_set_9 hab (fun r cr' hab' => wp_X11_set x1 x2 mr s (fun r' mr' s' => r = r' ∧ Rref cr' mr' ∧ (∀ j, (j < 4 ∨ 8 ≤ j) → s' j = s j) ∧ ∃ b', okB b' ∧ cB hab' b' ∧ mB s' b')) cr := by
    intro hx
    exact rf10 2 (by decide) (by decide) (isIn_out (n := 4) (by decide) hx ⟨fun _ => rf11 2 (by decide) (by decide) ⟨rfl, hr.up 2 (by decide), same⟩, fun q => absurd rfl q⟩)
  rcases px_cases x1 4 (by decide) with hx | ⟨i, hi, rfl⟩ | ⟨i, hi, hi2, rfl⟩
  · exact ⟨fun _ => no (Or.inl hx), fun q => absurd hx q⟩
  · refine ⟨fun q => absurd q (nI_pos (by omega)), fun _ => ⟨fun _ => ⟨px_in hi (by decide), ?_⟩, fun q => absurd (by rw [px_lit, nI_ltI (by omega) (by omega)]; omega) q⟩⟩
    rw [px_cl (by omega), hvl i hi, hvm i hi]
    have hlh : loT i ≤ hiT i ∧ hiT i < 100 := by
      unfold loT hiT
      rcases (show i = 0 ∨ i = 1 ∨ i = 2 ∨ i = 3 by omega) with rfl | rfl | rfl | rfl <;> decide
    -- the model comes to 'within' with the same limits
    have mdl : ∀ K : Int32 → IA → IA → Prop, wp_X11_set_47 (nI i) x2 K mr s (nI (hiT i)) (nI (loT i)) x2 → wp_X11_set (nI i) x2 mr s K := by
      intro K hk
      refine isIn_in (n := 4) hi (by decide) ⟨fun q => absurd q px_01, fun _ => ?_⟩
      rcases (show i = 0 ∨ i = 1 ∨ i = 2 ∨ i = 3 by omega) with rfl | rfl | rfl | rfl
      · exact ⟨fun q => absurd q (by decide), fun _ => ⟨fun q => absurd q (by decide), fun _ => hk⟩⟩
      · exact ⟨fun _ => ⟨fun q => absurd q (by decide), fun _ => hk⟩, fun q => absurd rfl q⟩
      · exact ⟨fun q => absurd q (by decide), fun _ => ⟨fun _ => ⟨fun _ => hk, fun q => absurd rfl q⟩, fun q => absurd (by decide) q⟩⟩
      · exact ⟨fun q => absurd q (by decide), fun _ => ⟨fun _ => ⟨fun q => absurd q (by decide), fun _ => hk⟩, fun q => absurd (by decide) q⟩⟩
    rcases within_sp x2 hlh.1 (by omega) with ⟨v, hv1, hv2, rfl, hw⟩ | ⟨hn, hw⟩ | ⟨hl, hn, hw⟩
    · refine ⟨fun _ => ⟨fun _ => fun x3 e3 => ?_, fun q => absurd (by rw [nI_leI (by omega) (by omega)]; exact hv2) q⟩, fun q => absurd (by rw [nI_leI (by omega) (by omega)]; exact hv1) q⟩
      subst e3
      refine mdl _ (hw _ ⟨fun _ => ?_, fun q => absurd rfl q⟩)
      rw [px_lit, nI_add, px_cl (by omega)]
      refine ⟨px_in (by omega) (by decide), fun x4 e4 => ?_⟩
      subst e4
      refine ⟨by rw [hc i hi, hm i hi], hr, fun j hj => up_n (by omega), fun j => if j = i then v else b j, ?_, ?_, ?_⟩
      · obtain ⟨o1, o2, o3, o4⟩ := ho
        unfold loT hiT at *
        rcases (show i = 0 ∨ i = 1 ∨ i = 2 ∨ i = 3 by omega) with rfl | rfl | rfl | rfl
        · exact ⟨⟨by simpa using hv1, by simpa using hv2⟩, by simpa using o2, by simpa using o3, by simpa using o4⟩
        · exact ⟨by simpa using o1, by simpa using hv2, by simpa using o3, by simpa using o4⟩
        · exact ⟨by simpa using o1, by simpa using o2, ⟨by simpa using hv1, by simpa using hv2⟩, by simpa using o4⟩
        · exact ⟨by simpa using o1, by simpa using o2, by simpa using o3, by simpa using hv1, by simpa using hv2⟩
      · intro j hj
        by_cases e : j = i
        · subst e; simp [up_s]
        · rw [up_n e]; simp [e, hc j hj]
      · intro j hj
        by_cases e : j = i
        · subst e; simp [up_s]
        · rw [up_n (by omega)]; simp [e, hm j hj]
    · exact ⟨fun q => absurd q hn, fun _ => rf10 4 (by decide) (by decide) (mdl _ (hw _ ⟨fun q => absurd q (by decide), fun _ => rf11 4 (by decide) (by decide) ⟨rfl, hr.up 4 (by decide), same⟩⟩))⟩
    · exact ⟨fun _ => ⟨fun q => absurd q hn, fun _ => rf10 6 (by decide) (by decide) (mdl _ (hw _ ⟨fun q => absurd q (by decide), fun _ => rf11 6 (by decide) (by decide) ⟨rfl, hr.up 6 (by decide), same⟩⟩))⟩, fun q => absurd hl q⟩
  · exact ⟨fun q => absurd q (nI_pos (by omega)), fun _ => ⟨fun q => absurd q (by rw [px_lit, nI_ltI (by omega) (by omega)]; omega), fun _ => no (Or.inr ⟨i, hi, hi2, rfl⟩)⟩⟩
/-- the sets of all places, of all rooms -/
theorem everyPlace_eq : ∀ R, R ≤ 5 → ((1 : Int32) <<< ((nI R + (1 : Int32)) &&& 31)) - (1 : Int32) = nI (2 ^ (R + 1) - 1) := by decide +kernel
theorem openAll_eq : ∀ R, R ≤ 5 → ((1 : Int32) <<< (nI (R + 1) &&& 31)) - (1 : Int32) = nI (2 ^ (R + 1) - 1) := by decide +kernel
theorem everyRoom_eq : ∀ R, R ≤ 5 → (((1 : Int32) <<< ((nI R + (1 : Int32)) &&& 31)) - (1 : Int32)) &&& (-2 : Int32) = nI (2 ^ (R + 1) - 2) := by decide +kernel
theorem allRooms_eq : ∀ R, R ≤ 5 → ((1 : Int32) <<< (nI (R + 1) &&& 31)) - (2 : Int32) = nI (2 ^ (R + 1) - 2) := by decide +kernel
theorem rooms_tb : ∀ R, R ≤ 5 → ∀ i, i < 32 → (2 ^ (R + 1) - 2).testBit i = decide (1 ≤ i ∧ i ≤ R) := by decide +kernel
theorem i32_of (x : Int32) : ∃ n, n < 2 ^ 32 ∧ x = nI n := ⟨x.toBitVec.toNat, x.toBitVec.isLt, by
  apply Int32.toBitVec_inj.1
  show x.toBitVec = BitVec.ofNat 32 x.toBitVec.toNat
  simp⟩
theorem nI_inj32 {a b : Nat} (ha : a < 2 ^ 32) (hb : b < 2 ^ 32) (h : nI a = nI b) : a = b := by
  have := congrArg (fun x : Int32 => x.toBitVec.toNat) h
  simp only [pk_tn ha, pk_tn hb] at this
  exact this
theorem planks_sub {x : Int32} {R : Nat} (hR : R ≤ 5) (h : (x &&& (nI (2 ^ (R + 1) - 2) ^^^ (-1 : Int32))) = 0) : ∃ k, x = nI k ∧ ∀ i, k.testBit i = true → 1 ≤ i ∧ i ≤ R := by
  obtain ⟨n, hn, rfl⟩ := i32_of x
  rw [px_nd, ← nI_0] at h
  have h0 := nI_inj32 (Nat.lt_of_le_of_lt (nd_le _ _) hn) (by decide) h
  refine ⟨n, rfl, fun i hi => ?_⟩
  have hi32 : i < 32 := by
    apply Nat.lt_of_not_le
    intro q
    rw [tb_big hn q] at hi
    cases hi
  have h1 : (nd n (2 ^ (R + 1) - 2)).testBit i = false := by rw [h0]; simp
  rw [nd_tb hn, hi, rooms_tb R hR i hi32] at h1
  simpa using h1
theorem m_planks {x1 : Int32} {cr mr s : IA} {rooms doors needs planked : Int32} {work coats beside np : IA} {h : Gr} {k : Nat} (hr : Rref cr mr) (ho : okH h) (hk : okK h k) (hc : cH rooms doors needs work coats beside np h) (hm : mH s h) (hck : planked = nI k) (hmk : s 8 = nI k) : wp_X10_planks x1 cr rooms planked (fun r cr' pl' => wp_X11_planks x1 mr s (fun r' mr' s' => r = r' ∧ Rref cr' mr' ∧ (∀ j, j ≠ 8 → s' j = s j) ∧ ∃ k', okK h k' ∧ pl' = nI k' ∧ s' 8 = nI k')) := by
  obtain ⟨rfl, -⟩ := hc
  obtain ⟨m0, -⟩ := hm
  have h5 : hR h ≤ 5 := ho.1.1
  show ((x1 &&& ((((1 : Int32) <<< ((nI (hR h) + (1 : Int32)) &&& 31)) - (1 : Int32)) &&& (-2 : Int32) ^^^ (-1 : Int32))) = 0 → _) ∧ _
  rw [everyRoom_eq _ h5]
  have mdl : ∀ K : Int32 → IA → IA → Prop, (((x1 &&& (nI (2 ^ (hR h + 1) - 2) ^^^ (-1 : Int32))) = 0 → K (s 8) mr (upd s 8 x1)) ∧ (¬ ((x1 &&& (nI (2 ^ (hR h + 1) - 2) ^^^ (-1 : Int32))) = 0) → K (-1) (upd mr 1 (mr 1 + 1)) s)) → wp_X11_planks x1 mr s K := by
    intro K hK
    show ((x1 &&& ((((1 : Int32) <<< ((s 0) &&& 31)) - (2 : Int32)) ^^^ (-1 : Int32))) = 0 → ∀ x2_3 : Int32, x2_3 = s 8 → K x2_3 mr (upd s 8 x1)) ∧ (¬ ((x1 &&& ((((1 : Int32) <<< ((s 0) &&& 31)) - (2 : Int32)) ^^^ (-1 : Int32))) = 0) → wp_X11_refuse (-1 : Int32) mr (fun r m => K r m s))
    rw [m0, allRooms_eq _ h5]
    exact ⟨fun q x2 e => by subst e; exact hK.1 q, fun q => rf11 1 (by decide) (by decide) (hK.2 q)⟩
  refine ⟨fun q => mdl _ ⟨fun _ => ?_, fun q2 => absurd q q2⟩, fun q => rf10 1 (by decide) (by decide) (mdl _ ⟨fun q2 => absurd q2 q, fun _ => ⟨rfl, hr.up 1 (by decide), fun _ _ => rfl, k, hk, hck, hmk⟩⟩)⟩
  obtain ⟨k', rfl, hk'⟩ := planks_sub h5 q
  exact ⟨by rw [hck, hmk], hr, fun j hj => up_n hj, k', hk', rfl, up_s⟩
theorem m_stepOf {x1 x2 : Int32} {cr mr s rr rh : IA} {steps : Int32} {h p : Gr} (hr : Rref cr mr) (ho : okP h p) (hc : cP steps rr rh p) (hm : mP s p) : wp_X10_stepOf x1 x2 cr steps rr rh (fun r cr' => wp_X11_stepOf x1 x2 mr s (fun r' mr' => r = r' ∧ Rref cr' mr')) := by
  obtain ⟨rfl, hc2⟩ := hc
  obtain ⟨m3, m4⟩ := hm
  have h8 : pN p ≤ 8 := ho.1
  have no : (x1 < 0 ∨ ∃ k, pN p ≤ k ∧ k < 2 ^ 31 ∧ x1 = nI k) → wp_X10_stepOf_18 (fun r cr' => wp_X11_stepOf x1 x2 mr s (fun r' mr' => r = r' ∧ Rref cr' mr')) cr := by
    intro hx
    refine rf10 1 (by decide) (by decide) ?_
    show wp_X11_isIn x1 (s 3) _
    rw [m3]
    exact isIn_out (by omega) hx ⟨fun _ => rf11 1 (by decide) (by decide) ⟨rfl, hr.up 1 (by decide)⟩, fun q => absurd rfl q⟩
  rcases px_cases x1 (pN p) (by omega) with hx | ⟨i, hi, rfl⟩ | ⟨i, hi, hi2, rfl⟩
  · exact ⟨fun _ => no (Or.inl hx), fun q => absurd hx q⟩
  · refine ⟨fun q => absurd q (nI_pos (by omega)), fun _ => ⟨fun _ => ?_, fun q => absurd (by rw [nI_ltI (by omega) (by omega)]; omega) q⟩⟩
    have mdl : ∀ (j : Nat) (K : Int32 → IA → Prop), j < 2 → K (s (77 + 2 * i + j)) mr → wp_X11_stepOf (nI i) (nI j) mr s K := by
      intro j K hj hK
      show wp_X11_isIn (nI i) (s 3) _
      rw [m3]
      refine isIn_in hi (by omega) ⟨fun q => absurd q px_01, fun _ => isIn_in (n := 2) hj (by decide) ⟨fun q => absurd q px_01, fun _ => ?_⟩⟩
      rw [px_lit, px_lit, pk_mul, nI_add, nI_add, px_cl (by omega)]
      exact ⟨px_in (by omega) (by decide), hK⟩
    refine ⟨fun e => ?_, fun e0 => ⟨fun e => ?_, fun e1 => ?_⟩⟩
    · subst e
      refine ⟨px_in (by omega) (by decide), mdl 0 _ (by decide) ⟨?_, hr⟩⟩
      rw [px_cl (by omega), (hc2 i hi).1]; exact (m4 i hi).1.symm
    · subst e
      refine ⟨px_in (by omega) (by decide), mdl 1 _ (by decide) ⟨?_, hr⟩⟩
      rw [px_cl (by omega), (hc2 i hi).2, show 77 + 2 * i + 1 = 78 + 2 * i by omega]; exact (m4 i hi).2.symm
    · refine rf10 2 (by decide) (by decide) ?_
      show wp_X11_isIn (nI i) (s 3) _
      rw [m3]
      refine isIn_in hi (by omega) ⟨fun q => absurd q px_01, fun _ => isIn_out (n := 2) (by decide) ?_ ⟨fun _ => rf11 2 (by decide) (by decide) ⟨rfl, hr.up 2 (by decide)⟩, fun q => absurd rfl q⟩⟩
      rcases px_cases x2 2 (by decide) with h | ⟨k, hk, rfl⟩ | ⟨k, hk, hk2, rfl⟩
      · exact Or.inl h
      · rcases (show k = 0 ∨ k = 1 by omega) with rfl | rfl
        · exact absurd rfl e0
        · exact absurd rfl e1
      · exact Or.inr ⟨k, hk, hk2, rfl⟩
  · exact ⟨fun q => absurd q (nI_pos (by omega)), fun _ => ⟨fun q => absurd q (by rw [nI_ltI (by omega) (by omega)]; omega), fun _ => no (Or.inr ⟨i, hi, hi2, rfl⟩)⟩⟩
theorem m_clear {s rr rh : IA} {steps : Int32} {h p : Gr} (ho : okP h p) (hc : cP steps rr rh p) (hm : mP s p) : wp_X10_clear steps (fun r st' => wp_X11_clear s (fun r' s' => r = r' ∧ (∀ j, j ≠ 3 → s' j = s j) ∧ ∃ p', okP h p' ∧ cP st' rr rh p' ∧ mP s' p')) := by
  obtain ⟨rfl, hc2⟩ := hc
  obtain ⟨m3, m4⟩ := hm
  have h8 := ho.1
  have fin : ∀ st' : Int32, st' = nI 0 → wp_X11_clear s (fun r' s' => nI (pN p) = r' ∧ (∀ j, j ≠ 3 → s' j = s j) ∧ ∃ p', okP h p' ∧ cP st' rr rh p' ∧ mP s' p') := by
    intro st' e x1 e1
    subst e1
    exact ⟨m3.symm, fun j hj => up_n hj, fun _ _ => 0, ⟨Nat.zero_le _, fun i hi => absurd hi (Nat.not_lt_zero _)⟩, ⟨e, fun i hi => absurd hi (Nat.not_lt_zero _)⟩, up_s, fun i hi => absurd hi (Nat.not_lt_zero _)⟩
  show wp_X5_shorten _ _ _
  refine ⟨fun q => absurd q (by decide), fun _ => ⟨fun q => fin _ ?_, fun q => fin _ rfl⟩⟩
  by_cases h0 : pN p = 0
  · rw [h0]
  · exact absurd q (nI_nle (by omega) (by omega))
theorem refHour_sp (x : Int32) : (∃ v, v ≤ 99 ∧ x = nI v ∧ (∀ K : Int32 → Prop, K 0 → wp_X10_refusalOfHour x K) ∧ ∀ K : Int32 → Prop, K 0 → wp_X11_within x 0 99 K) ∨ ((∀ K : Int32 → Prop, K (-4) → wp_X10_refusalOfHour x K) ∧ ∀ K : Int32 → Prop, K (-4) → wp_X11_within x 0 99 K) ∨ ((∀ K : Int32 → Prop, K (-6) → wp_X10_refusalOfHour x K) ∧ ∀ K : Int32 → Prop, K (-6) → wp_X11_within x 0 99 K) := by
  rcases within_sp x (lo := 0) (hi := 99) (by decide) (by decide) with ⟨v, h1, h2, rfl, hw⟩ | ⟨hn, hw⟩ | ⟨hl, hn, hw⟩
  · exact Or.inl ⟨v, h2, rfl, fun K hk => ⟨fun _ => ⟨fun _ => hk, fun q => absurd (show nI v ≤ nI 99 by rw [nI_leI (by omega) (by omega)]; exact h2) q⟩, fun q => absurd (nI_pos' (by omega)) q⟩, hw⟩
  · exact Or.inr (Or.inl ⟨fun K hk => ⟨fun q => absurd q hn, fun _ => hk⟩, hw⟩)
  · exact Or.inr (Or.inr ⟨fun K hk => ⟨fun _ => ⟨fun q => absurd q hn, fun _ => hk⟩, fun q => absurd hl q⟩, hw⟩)
theorem okP.mono {h h' p : Gr} (ho : okP h p) (e : hR h ≤ hR h') : okP h' p := ⟨ho.1, fun i hi => ⟨(ho.2 i hi).1, Nat.le_trans (ho.2 i hi).2.1 e, (ho.2 i hi).2.2⟩⟩
/-- a plan with one step more -/
def pAdd (p : Gr) (r t : Nat) : Gr := fun a => if a = 0 then (fun _ => pN p + 1) else if a = 1 then (fun i => if i = pN p then r else pR p i) else (fun i => if i = pN p then t else pH p i)
theorem pAdd_N (p : Gr) (r t : Nat) : pN (pAdd p r t) = pN p + 1 := rfl
theorem pAdd_R (p : Gr) (r t i : Nat) : pR (pAdd p r t) i = if i = pN p then r else pR p i := rfl
theorem pAdd_H (p : Gr) (r t i : Nat) : pH (pAdd p r t) i = if i = pN p then t else pH p i := rfl
theorem m_step {x1 x2 : Int32} {cr mr s rr rh : IA} {rooms doors needs steps : Int32} {work coats beside np : IA} {h p : Gr} (hr : Rref cr mr) (hoh : okH h) (ho : okP h p) (hch : cH rooms doors needs work coats beside np h) (hmh : mH s h) (hc : cP steps rr rh p) (hm : mP s p) : wp_X10_step x1 x2 cr rooms steps rr rh (fun r cr' st' rr' rh' => wp_X11_step x1 x2 mr s (fun r' mr' s' => r = r' ∧ Rref cr' mr' ∧ (∀ j, j ≠ 3 → (j < 77 ∨ 93 ≤ j) → s' j = s j) ∧ ∃ p', okP h p' ∧ cP st' rr' rh' p' ∧ mP s' p')) := by
  obtain ⟨rfl, -⟩ := hch
  obtain ⟨m0, -⟩ := hmh
  obtain ⟨rfl, hc2⟩ := hc
  obtain ⟨m3, m4⟩ := hm
  have h8 : pN p ≤ 8 := ho.1
  have h5 : hR h ≤ 5 := hoh.1.1
  have same : (∀ j, j ≠ 3 → (j < 77 ∨ 93 ≤ j) → s j = s j) ∧ ∃ p', okP h p' ∧ cP (nI (pN p)) rr rh p' ∧ mP s p' := ⟨fun _ _ _ => rfl, p, ho, ⟨rfl, hc2⟩, m3, m4⟩
  have no38 : ∀ (k : Nat) (x : Int32) (K : Int32 → IA → IA → Prop), k < 7 → -x = nI k → ¬ x = 0 → K x (upd mr k (mr k + 1)) s → wp_X11_step_38 x1 x2 x K mr s := fun k x K hk hx h0 hK => ⟨fun q => absurd q h0, fun _ => rf11 k hk hx hK⟩
  have no19 : ∀ (k : Nat) (x : Int32) (K : Int32 → IA → IA → Prop), k < 7 → -x = nI k → ¬ x = 0 → K x (upd mr k (mr k + 1)) s → wp_X11_step_19 x1 x2 K mr s x := fun k x K hk hx h0 hK => ⟨fun q => absurd q h0, fun _ => no38 k x K hk hx h0 hK⟩
  rcases hasRoom_sp x1 h5 with ⟨r, h1, h2, rfl, hca, hma⟩ | ⟨hca, hma⟩
  · refine hca _ ⟨fun q => absurd q px_01, fun _ => ?_⟩
    rcases refHour_sp x2 with ⟨v, hv, rfl, hcw, hmw⟩ | ⟨hcw, hmw⟩ | ⟨hcw, hmw⟩
    · refine hcw _ ⟨fun _ => ?_, fun q => absurd rfl q⟩
      by_cases hf : pN p = 8
      · refine ⟨fun q => absurd q (by rw [px_lit, nI_ltI (by omega) (by omega)]; omega), fun _ => ⟨fun q => absurd q px_01, fun _ => rf10 6 (by decide) (by decide) ?_⟩⟩
        refine hma s _ m0 ⟨fun q => absurd q px_01, fun _ => hmw _ ⟨fun _ => ⟨fun _ => no38 6 _ _ (by decide) (by decide) (by decide) ⟨rfl, hr.up 6 (by decide), same⟩, fun q => absurd ?_ q⟩, fun q => absurd rfl q⟩⟩
        show s 3 = _
        rw [m3, hf]; rfl
      · have hlt : nI (pN p) < (8 : Int32) := by rw [px_lit, nI_ltI (by omega) (by omega)]; omega
        refine ⟨fun _ => ⟨fun _ => ⟨fun q => absurd q (by rw [px_lit, nI_leI (by omega) (by omega)]; omega), fun _ => ⟨px_in (by omega) (by decide), ?_⟩⟩, fun q => absurd rfl q⟩, fun q => absurd hlt q⟩
        refine hma s _ m0 ⟨fun q => absurd q px_01, fun _ => hmw _ ⟨fun _ => ⟨fun q => ?_, fun _ => ⟨fun _ => ?_, fun q => absurd rfl q⟩⟩, fun q => absurd rfl q⟩⟩
        · exfalso
          have q : s 3 = (8 : Int32) := q
          rw [m3, px_lit, nI_eq (by omega) (by omega)] at q
          omega
        · have e0 : ((77 : Int32) + ((2 : Int32) * (s (3 : Int32).toNatClampNeg))) = nI (77 + 2 * pN p) := by
            show (77 : Int32) + ((2 : Int32) * (s 3)) = _
            rw [m3, px_lit, px_lit, pk_mul, nI_add]
          have e1 : (upd s (77 + 2 * pN p) (nI r)) (3 : Int32).toNatClampNeg = nI (pN p) := by
            show (upd s (77 + 2 * pN p) (nI r)) 3 = _
            rw [up_n (by omega), m3]
          have e2 : ((77 : Int32) + ((2 : Int32) * nI (pN p))) + (1 : Int32) = nI (78 + 2 * pN p) := by
            rw [px_lit, px_lit, px_lit, pk_mul, nI_add, nI_add, show 77 + 2 * pN p + 1 = 78 + 2 * pN p by omega]
          have e3 : (upd (upd s (77 + 2 * pN p) (nI r)) (78 + 2 * pN p) (nI v)) (3 : Int32).toNatClampNeg = nI (pN p) := by
            show (upd (upd s (77 + 2 * pN p) (nI r)) (78 + 2 * pN p) (nI v)) 3 = _
            rw [up_n (by omega), up_n (by omega), m3]
          rw [e0, px_cl (k := 77 + 2 * pN p) (by omega), e1, e2, px_cl (k := 78 + 2 * pN p) (by omega), e3, nI_1]
          refine ⟨px_in (by omega) (by decide), px_in (by omega) (by decide), ?_⟩
          show _ = upd _ 3 _ 3 ∧ _ ∧ (∀ j, _ → _ → upd _ 3 _ j = _) ∧ _
          refine ⟨up_s.symm, hr, fun j hj hj2 => by rw [up_n hj, up_n (by omega), up_n (by omega)], pAdd p r v, ⟨by rw [pAdd_N]; omega, fun i hi => ?_⟩, ⟨by rw [pAdd_N], fun i hi => ?_⟩, ?_, fun i hi => ?_⟩
          · rw [pAdd_N] at hi
            rw [pAdd_R, pAdd_H]
            by_cases e : i = pN p
            · simp [e, h1, h2, hv]
            · simp [e]; exact ho.2 i (by omega)
          · rw [pAdd_N] at hi
            rw [pAdd_R, pAdd_H, px_cl (by omega)]
            by_cases e : i = pN p
            · subst e; simp [up_s]
            · rw [up_n e, up_n e]; simp [e]; exact hc2 i (by omega)
          · show upd _ 3 _ 3 = _
            rw [up_s, pAdd_N]
          · rw [pAdd_N] at hi
            rw [pAdd_R, pAdd_H]
            show upd _ 3 _ _ = _ ∧ upd _ 3 _ _ = _
            by_cases e : i = pN p
            · subst e
              refine ⟨?_, ?_⟩
              · rw [up_n (k := 3) (by omega), up_n (k := 78 + 2 * pN p) (by omega), up_s]; simp
              · rw [up_n (k := 3) (by omega), up_s]; simp
            · refine ⟨?_, ?_⟩
              · rw [up_n (k := 3) (by omega), up_n (k := 78 + 2 * pN p) (by omega), up_n (k := 77 + 2 * pN p) (by omega)]; simp [e]; exact (m4 i (by omega)).1
              · rw [up_n (k := 3) (by omega), up_n (k := 78 + 2 * pN p) (by omega), up_n (k := 77 + 2 * pN p) (by omega)]; simp [e]; exact (m4 i (by omega)).2
    · exact hcw _ ⟨fun q => absurd q (by decide), fun _ => rf10 4 (by decide) (by decide) (hma s _ m0 ⟨fun q => absurd q px_01, fun _ => hmw _ (no19 4 _ _ (by decide) (by decide) (by decide) ⟨rfl, hr.up 4 (by decide), same⟩)⟩)⟩
    · exact hcw _ ⟨fun q => absurd q (by decide), fun _ => rf10 6 (by decide) (by decide) (hma s _ m0 ⟨fun q => absurd q px_01, fun _ => hmw _ (no19 6 _ _ (by decide) (by decide) (by decide) ⟨rfl, hr.up 6 (by decide), same⟩)⟩)⟩
  · exact hca _ ⟨fun _ => rf10 1 (by decide) (by decide) (hma s _ m0 ⟨fun _ => no19 1 _ _ (by decide) (by decide) (by decide) ⟨rfl, hr.up 1 (by decide), same⟩, fun q => absurd rfl q⟩), fun q => absurd rfl q⟩
