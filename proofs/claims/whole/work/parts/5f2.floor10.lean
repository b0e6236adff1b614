/-! PURE PART: floor, the class -/
theorem gD_01 {σ : Gr} (ho : fOK σ) : gD σ = 0 ∨ gD σ = 1 := by
  obtain ⟨-, -, -, -, -, -, -, -, -, a11⟩ := ho
  rcases a11 with ⟨h, -⟩ | ⟨h, -⟩
  · exact Or.inl h
  · exact Or.inr h
theorem put_sp {x : Int32} {signs : IA} {rows cols squares hd inr : Int32} {σ : Gr} (ho : fOK σ) (hc : cG signs rows cols squares hd inr σ) (hx : ¬ x = (47 : Int32)) {K : Int32 → IA → Int32 → Int32 → Int32 → Int32 → Prop} (h1 : ∀ signs' cols' sq' hd' in' σ', fst_ σ x = some σ' → cG signs' rows cols' sq' hd' in' σ' → K 1 signs' cols' sq' hd' in') (h0 : fst_ σ x = none → ∀ signs' cols' sq' hd' in', K 0 signs' cols' sq' hd' in') : wp_X0_put x signs rows cols squares hd inr K := by
  obtain ⟨rfl, rfl, rfl, rfl, rfl, hsg⟩ := hc
  have hD := gD_01 ho
  have hok := ho
  obtain ⟨⟨a1, a2⟩, a3, a4, a5, a6, a7, a8, a9, a10, a11⟩ := ho
  have core : (x = (46 : Int32) ∨ x = (35 : Int32) ∨ x = (100 : Int32)) → wp_X0_put_18 x (nI (fR σ)) K signs (nI (fC σ)) (nI (fQ σ)) (nI (gD σ)) (nI (gI σ)) := by
    intro hx3
    have hA : fst_ σ x = if canPut σ (vl x) then some (fput σ (vl x)) else none := by unfold fst_; rw [if_neg hx, if_pos hx3]
    have w0 : vl x = 0 ↔ x = (35 : Int32) := by
      unfold vl
      constructor
      · intro q
        split at q
        · rename_i e; exact e
        · split at q <;> omega
      · intro q; rw [if_pos q]
    have w2 : vl x = 2 ↔ x = (100 : Int32) := by
      unfold vl
      constructor
      · intro q
        split at q
        · omega
        · split at q
          · omega
          · rename_i e1 e2
            exact (hx3.resolve_left e2).resolve_left e1
      · intro q; rw [if_neg (by rw [q]; decide), if_neg (by rw [q]; decide)]
    have limb : lim σ ≤ 5 := by unfold lim; split <;> omega
    have fin : canPut σ (vl x) → ∀ s' d', s' = nI (fQ (fput σ (vl x))) → d' = nI (gD (fput σ (vl x))) → wp_X0_put_151 (upd signs (5 * (fR σ - 1) + gI σ) (nI (vl x))) s' K (nI (fC σ)) (nI (gD σ)) (nI (gI σ)) d' := by
      intro hcp s' d' es ed
      have c1 := hcp.1
      unfold lim at c1
      have ci : (fR σ = 1 → gI σ < 5) ∧ (fR σ ≠ 1 → gI σ < fC σ) := by split at c1 <;> omega
      have dd := gD_01 (fput_ok hok (vl_b x) hcp)
      refine ⟨?_, fun y e => ?_⟩
      · rw [ed]
        rcases dd with q | q
        · rw [q]; exact nz0
        · rw [q]; exact nz1
      · have ey : y = nI (fC (fput σ (vl x))) := by
          rw [e, fput_C, nI_1]
          by_cases q : fC σ < gI σ + 1
          · rw [if_pos (by rw [nI_ltI (by omega) (by omega)]; exact q), if_pos q]
          · rw [if_neg (by rw [nI_ltI (by omega) (by omega)]; exact q), if_neg q]
        refine h1 _ _ _ _ _ (fput σ (vl x)) (by rw [hA, if_pos hcp]) ⟨by rw [fput_R], ey, es, ed, by rw [fput_I, nI_1], fun y x' hy hx' hv => ?_⟩
        rw [fput_S]
        by_cases ep : 5 * y + x' = 5 * (fR σ - 1) + gI σ
        · rw [if_pos ep, ep, up_s]
        · rw [if_neg ep, up_n ep]
          refine hsg y x' hy hx' ?_
          unfold vis at hv ⊢
          rw [fput_R, fput_I, fput_C] at hv
          rcases hv with hv | hv
          · left
            have h2 := hv.2
            split at h2
            · have := ci.2 (by omega)
              omega
            · omega
          · right
            omega
    have p111 : canPut σ (vl x) → wp_X0_put_111 x K signs (nI (fC σ)) (nI (fQ σ)) (nI (gD σ)) (nI (gI σ)) (nI (vl x)) (((nI (fR σ) - (1 : Int32)) * (5 : Int32)) + nI (gI σ)) := by
      intro hcp
      have c1 := hcp.1
      have ep : ((nI (fR σ) - (1 : Int32)) * (5 : Int32)) + nI (gI σ) = nI (5 * (fR σ - 1) + gI σ) := by
        rw [show (1 : Int32) = nI 1 from rfl, pk_sub (by omega), show (5 : Int32) = nI 5 from rfl, pk_mul, nI_add, Nat.mul_comm]
      rw [ep]
      unfold wp_X0_put_111
      rw [px_cl (by omega)]
      have p128 : ∀ u, nI (fQ σ) + u = nI (fQ (fput σ (vl x))) → wp_X0_put_128 x (upd signs (5 * (fR σ - 1) + gI σ) (nI (vl x))) K (nI (fC σ)) (nI (fQ σ)) (nI (gD σ)) (nI (gI σ)) u (nI (fQ σ)) := by
        intro u hu
        refine ⟨fun q => ⟨fun q2 => fin hcp _ _ hu ?_, fun q2 => fin hcp _ _ hu ?_⟩, fun q => fin hcp _ _ hu ?_⟩
        · rw [fput_D, if_pos (w2.mpr q2)]; rfl
        · rw [fput_D, if_neg (fun z => q2 (w2.mp z))]; exact q.symm
        · rw [fput_D]
          split
          · rfl
          · rcases hD with z | z
            · exact absurd (by rw [z]; rfl) q
            · rw [z]; rfl
      refine ⟨px_in (by omega) (by decide), fun q => p128 _ ?_, fun q => p128 _ ?_⟩
      · rw [fput_Q, if_pos (w0.mpr q), show (0 : Int32) = nI 0 from rfl, nI_add]
      · rw [fput_Q, if_neg (fun z => q (w0.mp z)), nI_1]
    have p73 : canPut σ (vl x) → wp_X0_put_73 x (nI (fR σ)) K signs (nI (fC σ)) (nI (fQ σ)) (nI (gD σ)) (nI (gI σ)) := by
      intro hcp
      have := p111 hcp
      refine ⟨fun q => ?_, fun q => ⟨fun q2 => ?_, fun q2 => ?_⟩⟩
      · rw [w0.mpr q] at this; exact this
      · rw [show vl x = 1 by unfold vl; rw [if_neg q, if_pos q2]] at this; exact this
      · rw [show vl x = 2 by unfold vl; rw [if_neg q, if_neg q2]] at this; exact this
    have p58 : gI σ < lim σ → (vl x = 0 ∨ fQ σ < 10) → wp_X0_put_58 x (nI (fR σ)) K signs (nI (fC σ)) (nI (fQ σ)) (nI (gD σ)) (nI (gI σ)) := by
      intro y1 y2
      refine ⟨fun q => ⟨fun q2 => p73 ⟨y1, y2, fun _ => ?_⟩, fun q2 => h0 (by rw [hA, if_neg (fun z => q2 (by rw [z.2.2 (w2.mpr q)]; rfl))]) _ _ _ _ _⟩, fun q => p73 ⟨y1, y2, fun z => absurd (w2.mp z) q⟩⟩
      rw [← nI_0, nI_eq (by omega) (by omega)] at q2
      exact q2
    have p38 : wp_X0_put_38 x (nI (fR σ)) K signs (nI (fC σ)) (nI (fQ σ)) (nI (gD σ)) (nI (gI σ)) (nI (lim σ)) (nI (gI σ)) := by
      refine ⟨fun q => ?_, fun q => ?_⟩
      · rw [nI_ltI (by omega) (by omega)] at q
        refine ⟨fun q2 => p58 q (Or.inl (w0.mpr q2)), fun q2 => ⟨fun q3 => ?_, fun q3 => ?_⟩⟩
        · rw [px_lit, nI_leI (by omega) (by omega)] at q3
          exact h0 (by rw [hA, if_neg (fun z => by rcases z.2.1 with z | z; exact q2 (w0.mp z); omega)]) _ _ _ _ _
        · rw [px_lit, nI_leI (by omega) (by omega)] at q3
          exact p58 q (Or.inr (by omega))
      · rw [nI_ltI (by omega) (by omega)] at q
        exact h0 (by rw [hA, if_neg (fun z => q z.1)]) _ _ _ _ _
    unfold lim at p38
    refine ⟨fun q => ?_, fun q => ?_⟩
    · rw [px_lit, nI_eq (by omega) (by omega)] at q
      rw [if_pos q] at p38
      exact p38
    · rw [px_lit, nI_eq (by omega) (by omega)] at q
      rw [if_neg q] at p38
      exact p38
  refine ⟨fun q => core (Or.inl q), fun q => ⟨fun q2 => core (Or.inr (Or.inl q2)), fun q2 => ⟨fun q3 => core (Or.inr (Or.inr q3)), fun q3 => h0 ?_ _ _ _ _ _⟩⟩⟩
  unfold fst_
  rw [if_neg hx, if_neg (fun z => by rcases z with z | z | z; exact q z; exact q2 z; exact q3 z)]
theorem read27_lp {tb : IA} {n : Nat} (hn : n ≤ 48) {E : IA → Int32 → Int32 → Int32 → Int32 → Int32 → Prop} {K : Int32 → IA → Int32 → Int32 → Int32 → Int32 → Int32 → Prop} : ∀ (d a : Nat) (σ : Gr) (signs : IA) (rows cols squares hd inr : Int32), n - a < d → a ≤ n → fOK σ → cG signs rows cols squares hd inr σ → (∀ σ' signs rows cols squares hd inr, fr (bt tb n) n d a σ = (some σ', 0) → fOK σ' → cG signs rows cols squares hd inr σ' → E signs rows cols squares hd inr) → (∀ i signs rows cols squares hd inr, fr (bt tb n) n d a σ = (none, i) → i < 48 → K (nI i) signs rows cols squares hd inr) → wp_X0_read_27 tb (nI n) E K d (nI a) signs rows cols squares hd inr := by
  intro d
  induction d with
  | zero => intro a σ _ _ _ _ _ _ h1; omega
  | succ d ih =>
    intro a σ signs rows cols squares hd inr h1 h2 ho hc hE hK
    refine ⟨fun q => ?_, fun q => byteAt_sp hn (by omega) ⟨fun q2 => ?_, fun q2 => ?_⟩⟩
    · rw [nI_leI (by omega) (by omega)] at q
      exact hE σ _ _ _ _ _ _ (fr_e q) ho hc
    · rw [nI_leI (by omega) (by omega)] at q
      have hA : fst_ σ (bt tb n a) = if canNl σ then some (fnl σ) else none := by unfold fst_; rw [if_pos q2]
      obtain ⟨rfl, rfl, rfl, rfl, rfl, hsg⟩ := hc
      have hok := ho
      obtain ⟨⟨a1, a2⟩, a3, a4, a5, a6, -⟩ := ho
      have no : ¬ canNl σ → ∀ signs rows cols squares hd inr, K (nI a) signs rows cols squares hd inr := fun hno s1 s2 s3 s4 s5 s6 => hK a s1 s2 s3 s4 s5 s6 (fr_n q (by rw [hA, if_neg hno])) (by omega)
      refine ⟨fun q3 => ⟨fun _ => no (fun z => z.1 ?_) _ _ _ _ _ _, fun z => absurd rfl z⟩, fun q3 => ⟨fun q4 => ⟨fun _ => no (fun z => z.2.1 ?_) _ _ _ _ _ _, fun z => absurd rfl z⟩, fun q4 => ⟨fun q5 => ⟨fun z => absurd z px_01, fun _ => ?_⟩, fun q5 => ⟨fun _ => no (fun z => q5 ?_) _ _ _ _ _ _, fun z => absurd rfl z⟩⟩⟩⟩
      · rw [← nI_0, nI_eq (by omega) (by omega)] at q3; exact q3
      · rw [nI_ltI (by omega) (by omega)] at q4; exact q4
      · rw [← nI_0, nI_eq (by omega) (by omega)] at q3
        rw [nI_ltI (by omega) (by omega)] at q4
        rw [px_lit, nI_ltI (by omega) (by omega)] at q5
        have hcn : canNl σ := ⟨q3, q4, q5⟩
        rw [fr_s q (show fst_ σ (bt tb n a) = some (fnl σ) by rw [hA, if_pos hcn])] at hE hK
        rw [nI_1, nI_1]
        refine ih (a + 1) (fnl σ) _ _ _ _ _ _ (by omega) (by omega) (fnl_ok hok hcn) ⟨by rw [fnl_R], by rw [fnl_C], by rw [fnl_Q], by rw [fnl_D], by rw [fnl_I]; rfl, fun y x hy hx hv => ?_⟩ hE hK
        rw [fnl_S]
        refine hsg y x hy hx ?_
        unfold vis at hv ⊢
        rw [fnl_R, fnl_C, fnl_I] at hv
        omega
      · rw [px_lit, nI_ltI (by omega) (by omega)]; exact z.2.2
    · rw [nI_leI (by omega) (by omega)] at q
      refine put_sp ho hc q2 (fun signs' cols' sq' hd' in' σ' hs hc' => ⟨fun z => absurd z px_01, fun _ => ?_⟩) (fun hs _ _ _ _ _ => ⟨fun _ => hK a _ _ _ _ _ _ (fr_n q hs) (by omega), fun z => absurd rfl z⟩)
      rw [fr_s q hs] at hE hK
      rw [nI_1]
      exact ih (a + 1) σ' _ _ _ _ _ _ (by omega) (by omega) (fst_ok ho hs) hc' hE hK
/-- what comes out of a floor's reading -/
def fo (B : Nat → Int32) (n : Nat) : Option Gr × Nat := match fr B n (n + 1) 0 f00 with
  | (none, i) => (none, i)
  | (some σ, _) => if gD σ ≠ 0 ∧ gI σ = fC σ then (some σ, 0) else (none, n)
theorem fo_n {B : Nat → Int32} {n i : Nat} (h : fr B n (n + 1) 0 f00 = (none, i)) : fo B n = (none, i) := by unfold fo; rw [h]
theorem fo_s {B : Nat → Int32} {n i : Nat} {σ : Gr} (h : fr B n (n + 1) 0 f00 = (some σ, i)) : fo B n = if gD σ ≠ 0 ∧ gI σ = fC σ then (some σ, 0) else (none, n) := by unfold fo; rw [h]
theorem read10_sp {tb signs : IA} {n : Nat} (hn : n ≤ 48) {rows cols squares hd inr : Int32} {K : Int32 → IA → Int32 → Int32 → Int32 → Int32 → Int32 → Prop} (hF : ∀ i signs rows cols squares hd inr, fo (bt tb n) n = (none, i) → i ≤ 48 → K (nI i) signs rows cols squares hd inr) (hT : ∀ σ signs rows cols squares hd inr, fo (bt tb n) n = (some σ, 0) → okF σ → cF signs rows cols squares hd σ → K (-9 : Int32) signs rows cols squares hd inr) : wp_X0_read signs rows cols squares hd inr tb (nI n) K := by
  refine ⟨n + 1, read27_lp hn (n + 1) 0 f00 signs _ _ _ _ _ (by omega) (by omega) f00_ok ⟨rfl, rfl, rfl, rfl, rfl, fun y x hy hx hv => ?_⟩ (fun σ s1 s2 s3 s4 s5 s6 hfr ho hc => ?_) (fun i s1 s2 s3 s4 s5 s6 hfr hi => hF i _ _ _ _ _ _ (fo_n hfr) (by omega))⟩
  · unfold vis at hv
    have r : fR f00 = 1 := rfl
    have g : gI f00 = 0 := rfl
    omega
  · obtain ⟨rfl, rfl, rfl, rfl, rfl, hsg⟩ := hc
    have hD := gD_01 ho
    have bad : ¬ (gD σ ≠ 0 ∧ gI σ = fC σ) → K (nI n) s1 (nI (fR σ)) (nI (fC σ)) (nI (fQ σ)) (nI (gD σ)) (nI (gI σ)) := fun z => hF n _ _ _ _ _ _ (by rw [fo_s hfr, if_neg z]) hn
    have hb := ho
    obtain ⟨⟨a1, a2⟩, a3, a4, a5, a6, -⟩ := hb
    refine ⟨fun q => bad (fun z => z.1 ?_), fun q => ⟨fun q2 => ?_, fun q2 => bad (fun z => q2 (by rw [z.2]))⟩⟩
    · rw [← nI_0, nI_eq (by omega) (by omega)] at q; exact q
    · rw [nI_eq (by omega) (by omega)] at q2
      have d0 : gD σ ≠ 0 := fun z => q (by rw [z]; rfl)
      refine hT σ _ _ _ _ _ _ (by rw [fo_s hfr, if_pos ⟨d0, q2⟩]) (ho.fin d0 q2) ⟨rfl, rfl, rfl, ?_, fun r c hr hc => hsg r c (by omega) (by omega) ?_⟩
      · rcases hD with z | z
        · exact absurd z d0
        · rw [z]; exact nz1
      · unfold vis
        omega
