/-! PURE PART: fewest, both sides -/
def bcX (x0 : Int32) : Int32 :=
  let x1 := x0 - (((x0.toUInt32 >>> ((1 : Int32).toUInt32 &&& Int32.toUInt32 31)).toInt32) &&& (1431655765 : Int32))
  let x2 := (x1 &&& (858993459 : Int32)) + (((x1.toUInt32 >>> ((2 : Int32).toUInt32 &&& Int32.toUInt32 31)).toInt32) &&& (858993459 : Int32))
  let x3 := (x2 + ((x2.toUInt32 >>> ((4 : Int32).toUInt32 &&& Int32.toUInt32 31)).toInt32)) &&& (252645135 : Int32)
  let x4 := x3 + ((x3.toUInt32 >>> ((8 : Int32).toUInt32 &&& Int32.toUInt32 31)).toInt32)
  let x5 := x4 + ((x4.toUInt32 >>> ((16 : Int32).toUInt32 &&& Int32.toUInt32 31)).toInt32)
  x5 &&& (63 : Int32)
theorem bcX_eq : ∀ e, e < 32 → bcX (nI e) = nI (cnt e) := by decide +kernel
theorem bitCount_sp {e : Nat} (he : e < 32) {K : Int32 → Prop} (hK : K (nI (cnt e))) : wp_J6_bitCount_0f7a4 (nI e) K := by
  intro x1 e1 x2 e2 x3 e3 x4 e4 x5 e5
  subst e1
  subst e2
  subst e3
  subst e4
  subst e5
  have : K (bcX (nI e)) := by rw [bcX_eq e he]; exact hK
  exact this
def pop : Nat → Nat → Nat
  | 0, _ => 0
  | d + 1, v => v % 2 + pop d (v / 2)
theorem pop_0 : ∀ d, pop d 0 = 0
  | 0 => rfl
  | d + 1 => by rw [pop, pop_0 d]
theorem pop_eq : ∀ e, e < 32 → pop 6 (2 * e) = cnt e := by decide +kernel
theorem bits_lp {K : Int32 → Prop} : ∀ (d v c : Nat), v < 2 ^ d → v < 64 → K (nI (c + pop d v)) → wp_X11_bits_4 K (d + 1) (nI c) (nI v) := by
  intro d
  induction d with
  | zero =>
    intro v c hv _ hK
    have e : v = 0 := by
      have : v < 1 := hv
      omega
    subst e
    exact ⟨fun _ => hK, fun q => absurd (by decide) q⟩
  | succ d ih =>
    intro v c hv h64 hK
    by_cases e : v = 0
    · subst e
      rw [pop_0] at hK
      exact ⟨fun _ => hK, fun q => absurd (by decide) q⟩
    · refine ⟨fun q => absurd q (nI_nle (by omega) (by omega)), fun _ x1 e1 x2 e2 => ?_⟩
      rw [px_and1, nI_add] at e1
      have e2' : x2 = nI (v / 2 ^ 1) := e2.trans (px_shr (k := 1) (by omega) (by decide))
      subst e1
      subst e2'
      refine ih (v / 2 ^ 1) (c + v % 2) ?_ (by omega) ?_
      · rw [Nat.pow_succ] at hv
        omega
      · rw [pop] at hK
        rw [Nat.add_assoc]
        exact hK
theorem bits_sp {e : Nat} (he : e < 32) {K : Int32 → Prop} (hK : K (nI (cnt e))) : wp_X11_bits (nI (2 * e)) K := ⟨6 + 1, bits_lp 6 (2 * e) 0 (by omega) (by omega) (by rw [pop_eq e he, Nat.zero_add]; exact hK)⟩
theorem inAll : ∀ R, R ≤ 5 → ∀ e, e < 32 → ((nI (2 * e) &&& (nI (2 ^ (R + 1) - 2) ^^^ (-1 : Int32))) = 0 ↔ e < 2 ^ R) := by decide +kernel
theorem cnt_R : ∀ R, R ≤ 5 → ∀ e, e < 32 → e < 2 ^ R → cnt e ≤ R := by decide +kernel
theorem pow_R : ∀ R, R ≤ 5 → 2 ^ R ≤ 32 := by decide
def pw (h : Gr) (b : Nat → Nat) (hour e : Nat) : Prop := ∃ y, dfs h b (2 * e) (cS h (hR h)) 8 p00 none = some y ∧ y.1 ≤ hour
def fwR (h : Gr) (b : Nat → Nat) (hour : Nat) (r : Int32) : Prop := (∃ e, e < 2 ^ hR h ∧ pw h b hour e ∧ (∀ e', e' < 2 ^ hR h → pw h b hour e' → cnt e < cnt e' ∨ (cnt e = cnt e' ∧ e ≤ e')) ∧ r = nI (2 * e)) ∨ ((∀ e, e < 2 ^ hR h → ¬ pw h b hour e) ∧ r = (-9 : Int32))
theorem fwR_uq {h : Gr} {b : Nat → Nat} {hour : Nat} {r r' : Int32} (h1 : fwR h b hour r) (h2 : fwR h b hour r') : r = r' := by
  rcases h1 with ⟨e, a1, a2, a3, rfl⟩ | ⟨a1, rfl⟩
  · rcases h2 with ⟨e', c1, c2, c3, rfl⟩ | ⟨c1, rfl⟩
    · have x1 := a3 e' c1 c2
      have x2 := c3 e a1 a2
      have : e = e' := by omega
      rw [this]
    · exact absurd a2 (c1 e a1)
  · rcases h2 with ⟨e', c1, c2, c3, rfl⟩ | ⟨c1, rfl⟩
    · exact absurd c2 (a1 e' c1)
    · rfl
theorem fwR_y {h : Gr} {b : Nat → Nat} {hour e n : Nat} (h1 : e < 2 ^ hR h) (h2 : cnt e = n) (h3 : pw h b hour e) (h4 : ∀ e', e' < 2 ^ hR h → cnt e' < n → ¬ pw h b hour e') (h5 : ∀ e', e' < e → e' < 2 ^ hR h → cnt e' = n → ¬ pw h b hour e') : fwR h b hour (nI (2 * e)) := by
  refine Or.inl ⟨e, h1, h3, fun e' g1 g2 => ?_, rfl⟩
  by_cases q : cnt e' < n
  · exact absurd g2 (h4 e' g1 q)
  · by_cases q2 : cnt e' = n
    · right
      refine ⟨by omega, ?_⟩
      apply Nat.le_of_not_lt
      intro hl
      exact h5 e' hl g1 q2 g2
    · left
      omega
theorem few25_lp {h : Gr} {b : Nat → Nat} {hour n : Nat} (ho : okH h) (hb : okB b) (hh : hour ≤ 99) (hT6 : cS h (hR h) ≤ 6) (hT1 : 1 ≤ cS h (hR h)) (hn : n ≤ 5) {work coats beside hab ct brd aa : IA} (hw : ∀ r, 1 ≤ r → r ≤ hR h → work r = nI (hW h r)) (hco : ∀ r, 1 ≤ r → r ≤ hR h → coats r = nI (hC h r)) (hbe : ∀ a, a < 6 → beside a = nI (hB h a)) (hcb : cB hab b) (hwy : wOK h ct brd (2 ^ hR h)) (haa : ∀ u, u ≤ 99 → aa u = nI (nA h u (hN h))) {E : Int32 → Int32 → IA → IA → Int32 → IA → IA → IA → IA → IA → IA → IA → IA → Int32 → Int32 → Int32 → Prop} {K : Int32 → Int32 → IA → IA → Int32 → IA → IA → IA → IA → IA → IA → IA → IA → IA → Int32 → Int32 → Int32 → Prop} (hE : ∀ bs br bh ts tr th tk' sh' dr cl lb sa bound any found, ts = 0 → (∀ e', e' < 2 ^ hR h → cnt e' = n → ¬ pw h b hour e') → E (nI (n + 1)) bs br bh ts tr th tk' sh' dr cl lb sa bound any found) (hK : ∀ e bs br bh ts tr th tk' sh' dr cl lb sa bound any found, ts = 0 → e < 2 ^ hR h → cnt e = n → pw h b hour e → (∀ e', e' < e → e' < 2 ^ hR h → cnt e' = n → ¬ pw h b hour e') → K (nI (2 * e)) bs br bh ts tr th tk' sh' dr cl lb sa aa bound any found) : ∀ (d e : Nat) (bs : Int32) (br bh : IA) (ts : Int32) (tr th tk' sh' dr cl lb sa : IA) (bound any found : Int32), e + d = 2 ^ hR h → ts = 0 → (∀ e', e' < e → e' < 2 ^ hR h → cnt e' = n → ¬ pw h b hour e') → wp_X7_fewestPlanksBy_25 (nI hour) (nI (hR h)) (nI (hR h)) work coats beside hab ct brd aa E K (d + 1) (nI n) (nI e) bs br bh ts tr th tk' sh' dr cl lb sa bound any found := by
  have h5 := ho.1.1
  have h32 := pow_R (hR h) h5
  intro d
  induction d with
  | zero =>
    intro e bs br bh ts tr th tk' sh' dr cl lb sa bound any found he hts hno
    refine ⟨fun _ => ?_, fun q => absurd ?_ q⟩
    · rw [nI_1]
      exact hE _ _ _ _ _ _ _ _ _ _ _ _ _ _ _ hts (fun e' g1 g2 => hno e' (by omega) g1 g2)
    · rw [px_shl1 _ (by omega), nI_leI (by omega) (by omega)]
      omega
  | succ d ih =>
    intro e bs br bh ts tr th tk' sh' dr cl lb sa bound any found he hts hno
    have hcn := cnt_6 e (by omega)
    have e2 : nI e <<< ((1 : Int32) &&& 31) = nI (2 * e) := (px_shl (a := e) (k := 1) (by decide) (by omega)).trans (by rw [Nat.mul_comm])
    refine ⟨fun q => ?_, fun _ => bitCount_sp (by omega) ⟨fun q => ?_, fun q => ?_⟩⟩
    · rw [px_shl1 _ (by omega), nI_leI (by omega) (by omega)] at q
      omega
    · rw [nI_eq (by omega) (by omega)] at q
      rw [e2, nI_1]
      refine run7_sp (k := 2 * e) (B := hour + 1) ho hb (by omega) hT6 hT1 (by omega) (by omega) (any := (1 : Int32)) (Or.inr rfl) hw hco hbe hcb hwy hts haa (fun a' bs' br' bh' ts' tr' th' tk'' sh'' dr' cl' lb' sa' bound' found' k1 k2 k3 => ?_)
      have hrl := rl_y k1
      rcases k2 with ⟨rfl, -, ea⟩ | ⟨rfl, ha, -⟩
      · refine ⟨fun _ => ?_, fun z => absurd rfl z⟩
        rw [nI_1]
        refine ih (e + 1) _ _ _ _ _ _ _ _ _ _ _ _ _ _ _ (by omega) k3 (fun e' g1 g2 g3 => ?_)
        by_cases ee : e' = e
        · subst ee
          rintro ⟨y, y1, y2⟩
          rcases hrl with ⟨ex, -⟩ | ⟨y', ex, hy⟩
          · rw [ex] at y1
            cases y1
          · rw [ex] at y1
            have ey : y' = y := Option.some.inj y1
            subst ey
            rcases hy with ⟨z1, z2⟩ | ⟨z1, z2⟩
            · rw [ea] at z2
              rw [← z2] at z1
              exact absurd z1 (by simp)
            · omega
        · exact hno e' (by omega) g2 g3
      · refine ⟨fun z => absurd z px_01, fun _ => ?_⟩
        refine hK e _ _ _ _ _ _ _ _ _ _ _ _ _ _ _ k3 (by omega) q ?_ hno
        rcases hrl with ⟨-, ey⟩ | ⟨y', ex, ⟨z1, z2⟩ | ⟨z1, z2⟩⟩
        · rw [ey] at ha
          exact absurd ha (by simp)
        · exact ⟨y', ex, by omega⟩
        · rw [z2] at ha
          exact absurd ha (by simp)
    · rw [nI_eq (by omega) (by omega)] at q
      rw [nI_1]
      refine ih (e + 1) _ _ _ _ _ _ _ _ _ _ _ _ _ _ _ (by omega) hts (fun e' g1 g2 g3 => ?_)
      by_cases ee : e' = e
      · subst ee
        exact absurd g3 q
      · exact hno e' (by omega) g2 g3
theorem few17_lp {h : Gr} {b : Nat → Nat} {hour : Nat} (ho : okH h) (hb : okB b) (hh : hour ≤ 99) (hT6 : cS h (hR h) ≤ 6) (hT1 : 1 ≤ cS h (hR h)) {work coats beside hab ct brd aa : IA} (hw : ∀ r, 1 ≤ r → r ≤ hR h → work r = nI (hW h r)) (hco : ∀ r, 1 ≤ r → r ≤ hR h → coats r = nI (hC h r)) (hbe : ∀ a, a < 6 → beside a = nI (hB h a)) (hcb : cB hab b) (hwy : wOK h ct brd (2 ^ hR h)) (haa : ∀ u, u ≤ 99 → aa u = nI (nA h u (hN h))) {K : Int32 → Int32 → IA → IA → Int32 → IA → IA → IA → IA → IA → IA → IA → IA → IA → Int32 → Int32 → Int32 → Prop} (hK : ∀ r bs br bh ts tr th tk' sh' dr cl lb sa bound any found, ts = 0 → fwR h b hour r → K r bs br bh ts tr th tk' sh' dr cl lb sa aa bound any found) : ∀ (d n : Nat) (bs : Int32) (br bh : IA) (ts : Int32) (tr th tk' sh' dr cl lb sa : IA) (bound any found : Int32), n + d = hR h + 1 → ts = 0 → (∀ e', e' < 2 ^ hR h → cnt e' < n → ¬ pw h b hour e') → wp_X7_fewestPlanksBy_17 (nI hour) (nI (hR h)) (nI (hR h)) work coats beside hab ct brd aa K (d + 1) (nI n) bs br bh ts tr th tk' sh' dr cl lb sa bound any found := by
  have h5 := ho.1.1
  have h32 := pow_R (hR h) h5
  intro d
  induction d with
  | zero =>
    intro n bs br bh ts tr th tk' sh' dr cl lb sa bound any found he hts hno
    refine ⟨fun _ => hK _ _ _ _ _ _ _ _ _ _ _ _ _ _ _ _ hts (Or.inr ⟨fun e ge => hno e ge ?_, rfl⟩), fun q => absurd ?_ q⟩
    · have := cnt_R (hR h) h5 e (by omega) ge
      omega
    · rw [nI_ltI (by omega) (by omega)]
      omega
  | succ d ih =>
    intro n bs br bh ts tr th tk' sh' dr cl lb sa bound any found he hts hno
    refine ⟨fun q => ?_, fun _ => ⟨2 ^ hR h + 1, few25_lp ho hb hh hT6 hT1 (by omega) hw hco hbe hcb hwy haa (fun bs br bh ts tr th tk' sh' dr cl lb sa bound any found g1 g2 => ih (n + 1) _ _ _ _ _ _ _ _ _ _ _ _ _ _ _ (by omega) g1 (fun e' k1 k2 => ?_)) (fun e bs br bh ts tr th tk' sh' dr cl lb sa bound any found g1 g2 g3 g4 g5 => hK _ _ _ _ _ _ _ _ _ _ _ _ _ _ _ _ g1 (fwR_y g2 g3 g4 hno g5)) (2 ^ hR h) 0 _ _ _ _ _ _ _ _ _ _ _ _ _ _ _ (by omega) hts (fun e' k1 => absurd k1 (by omega))⟩⟩
    · rw [nI_ltI (by omega) (by omega)] at q
      omega
    · by_cases q : cnt e' = n
      · exact g2 e' k1 q
      · exact hno e' k1 (by omega)
def sO (s0 s : IA) : Prop := ∀ j, j < 120 → j ≠ 8 → s j = s0 j
theorem few72_lp {h : Gr} {b : Nat → Nat} {hour n : Nat} {s0 : IA} (ho : okH h) (hb : okB b) (hmh : mH s0 h) (hmb : mB s0 b) (hh : hour ≤ 99) (hT6 : cS h (hR h) ≤ 6) (hT1 : 1 ≤ cS h (hR h)) (hn : n ≤ 5) {E : Int32 → Int32 → IA → IA → IA → IA → Int32 → Int32 → Prop} {K : Int32 → IA → IA → IA → IA → IA → Int32 → Int32 → Prop} (hE0 : ∀ s met best kept soon bst, sO s0 s → (∀ e', e' < 2 ^ hR h → cnt e' = n → ¬ pw h b hour e') → E (-9 : Int32) (nI (n + 1)) s met best kept soon bst) (hE1 : ∀ e s met best kept soon bst, sO s0 s → e < 2 ^ hR h → cnt e = n → pw h b hour e → (∀ e', e' < e → e' < 2 ^ hR h → cnt e' = n → ¬ pw h b hour e') → E (nI (2 * e)) (nI (n + 1)) s met best kept soon bst) : ∀ (d e : Nat) (s met best kept : IA) (soon bst : Int32), e + d = 32 → sO s0 s → (∀ e', e' < e → e' < 2 ^ hR h → cnt e' = n → ¬ pw h b hour e') → wp_X11_fewest_72 (nI hour) E K (d + 2) (-9 : Int32) (nI n) (nI (2 * e)) s met best kept soon bst := by
  have h5 := ho.1.1
  have h32 := pow_R (hR h) h5
  intro d
  induction d with
  | zero =>
    intro e s met best kept soon bst he hs hno
    obtain rfl : e = 32 := by omega
    refine ⟨fun _ => ?_, fun q => absurd (by decide) q⟩
    rw [nI_1]
    exact hE0 _ _ _ _ _ _ hs (fun e' g1 g2 => hno e' (by omega) g1 g2)
  | succ d ih =>
    intro e s met best kept soon bst he hs hno
    have hcn := cnt_6 e (by omega)
    have e2 : nI (2 * e) + (2 : Int32) = nI (2 * (e + 1)) := by rw [px_lit, nI_add, Nat.mul_add]
    have m0 : s (0 : Int32).toNatClampNeg = nI (hR h + 1) := (hs 0 (by decide) (by decide)).trans hmh.1
    refine ⟨fun q => ?_, fun _ => ⟨fun q => absurd q (by decide), fun _ => bits_sp (by omega) ⟨fun q => ?_, fun q => ?_⟩⟩⟩
    · rw [px_lit, nI_leI (by omega) (by omega)] at q
      omega
    · rw [nI_eq (by omega) (by omega)] at q
      show ((nI (2 * e) &&& ((((1 : Int32) <<< ((s (0 : Int32).toNatClampNeg) &&& 31)) - (2 : Int32)) ^^^ (-1 : Int32))) = 0 → _) ∧ _
      rw [m0, allRooms_eq _ h5]
      refine ⟨fun q2 => ?_, fun q2 => ?_⟩
      · rw [inAll (hR h) h5 e (by omega)] at q2
        have u : ∀ j, j ≠ 8 → upd s (8 : Int32).toNatClampNeg (nI (2 * e)) j = s j := fun j z => up_n (f := s) (k := 8) z
        refine find_sp (k := 2 * e) ho hb (by omega) (hmh.ext ho (fun j z => (u j (by omega)).trans (hs j (by omega) (by omega)))) (hmb.ext (fun j z1 z2 => (u j (by omega)).trans (hs j (by omega) (by omega)))) up_s hT6 hT1 (fun s' met' best' kept' soon' bs' k1 k2 => ?_)
        have hs' : sO s0 s' := fun j z1 z2 => (k1 j z1).trans ((u j z2).trans (hs j z1 z2))
        have nx : ¬ pw h b hour e → wp_X11_fewest_72 (nI hour) E K (d + 2) (-9 : Int32) (nI n) (nI (2 * e) + (2 : Int32)) s' met' best' kept' soon' bs' := by
          intro hp
          rw [e2]
          refine ih (e + 1) _ _ _ _ _ _ (by omega) hs' (fun e' g1 g2 g3 => ?_)
          by_cases ee : e' = e
          · subst ee; exact hp
          · exact hno e' (by omega) g2 g3
        cases ed : dfs h b (2 * e) (cS h (hR h)) 8 p00 none with
        | none =>
          rw [ed] at k2
          have k2' : soon' = (-9 : Int32) := k2
          subst k2'
          refine ⟨fun _ => nx ?_, fun z => absurd (by decide) z⟩
          rintro ⟨y, y1, -⟩
          rw [ed] at y1
          cases y1
        | some y =>
          obtain ⟨t, y⟩ := y
          rw [ed] at k2
          obtain ⟨rfl, k3, -⟩ := k2
          refine ⟨fun z => absurd z (nI_pos (by omega)), fun _ => ⟨fun z => nx ?_, fun z => ?_⟩⟩
          · rw [nI_ltI (by omega) (by omega)] at z
            rintro ⟨y', y1, y2⟩
            rw [ed] at y1
            have := Option.some.inj y1
            subst this
            exact absurd y2 (by show ¬ t ≤ hour; omega)
          · rw [nI_ltI (by omega) (by omega)] at z
            have hE := fun E5 => hE1 e s' met' best' kept' (nI t) bs' hs' q2 q ⟨(t, y), ed, E5⟩ hno
            have hE' := hE (by show t ≤ hour; omega)
            refine ⟨fun _ => ?_, fun _ => ⟨fun _ => ?_, fun z => absurd (nI_pos' (by omega)) z⟩⟩
            · rw [nI_1]; exact hE'
            · rw [nI_1]; exact hE'
      · rw [inAll (hR h) h5 e (by omega)] at q2
        rw [e2]
        refine ih (e + 1) _ _ _ _ _ _ (by omega) hs (fun e' g1 g2 g3 => ?_)
        by_cases ee : e' = e
        · subst ee; exact absurd g2 q2
        · exact hno e' (by omega) g2 g3
    · rw [nI_eq (by omega) (by omega)] at q
      rw [e2]
      refine ih (e + 1) _ _ _ _ _ _ (by omega) hs (fun e' g1 g2 g3 => ?_)
      by_cases ee : e' = e
      · subst ee; exact absurd g3 q
      · exact hno e' (by omega) g2 g3
theorem few57_lp {h : Gr} {b : Nat → Nat} {hour : Nat} {s0 mr : IA} (ho : okH h) (hb : okB b) (hmh : mH s0 h) (hmb : mB s0 b) (hh : hour ≤ 99) (hT6 : cS h (hR h) ≤ 6) (hT1 : 1 ≤ cS h (hR h)) {K : Int32 → IA → IA → IA → IA → IA → Int32 → Int32 → Prop} (hK : ∀ r s met best kept soon bst, fwR h b hour r → (∀ j, j < 120 → s j = s0 j) → K r mr s met best kept soon bst) : ∀ (d n : Nat) (s met best kept : IA) (soon bst : Int32), n + d = 6 → sO s0 s → (∀ e', e' < 2 ^ hR h → cnt e' < n → ¬ pw h b hour e') → wp_X11_fewest_57 (nI hour) (s0 8) mr K (d + 2) (-9 : Int32) (nI n) s met best kept soon bst := by
  have h5 := ho.1.1
  have h32 := pow_R (hR h) h5
  have back : ∀ s, sO s0 s → ∀ j, j < 120 → upd s (8 : Int32).toNatClampNeg (s0 8) j = s0 j := by
    intro s hs j hj
    by_cases e : j = 8
    · subst e; exact up_s
    · exact (up_n (f := s) (k := 8) e).trans (hs j hj e)
  intro d
  induction d with
  | zero =>
    intro n s met best kept soon bst hn hs hno
    obtain rfl : n = 6 := by omega
    refine ⟨fun _ => hK _ _ _ _ _ _ _ (Or.inr ⟨fun e ge => hno e ge ?_, rfl⟩) (back s hs), fun q => absurd (by decide) q⟩
    have := cnt_R (hR h) h5 e (by omega) ge
    omega
  | succ d ih =>
    intro n s met best kept soon bst hn hs hno
    refine ⟨fun q => ?_, fun _ => ⟨fun q => absurd q (by decide), fun _ => ⟨32 + 2, few72_lp ho hb hmh hmb hh hT6 hT1 (by omega) (fun s met best kept soon bst g1 g2 => ih (n + 1) _ _ _ _ _ _ (by omega) g1 (fun e' k1 k2 => ?_)) (fun e s met best kept soon bst g1 g2 g3 g4 g5 => ?_) 32 0 _ _ _ _ _ _ (by omega) hs (fun e' k1 => absurd k1 (by omega))⟩⟩⟩
    · rw [px_lit, nI_leI (by omega) (by omega)] at q
      omega
    · by_cases q : cnt e' = n
      · exact g2 e' k1 q
      · exact hno e' k1 (by omega)
    · have fin := fun r => hK r (upd s (8 : Int32).toNatClampNeg (s0 8)) met best kept soon bst
      have f2 := fin _ (fwR_y g2 g3 g4 hno g5) (back s g1)
      exact ⟨fun _ => f2, fun _ => ⟨fun _ => f2, fun z => absurd (nI_pos' (by omega)) z⟩⟩
theorem m_fewest {x1 : Int32} {cr mr s met best kept ct brd hab : IA} {soon bst rooms doors needs : Int32} {work coats beside np : IA} {bs : Int32} {bR bH : IA} {ts : Int32} {tr th takes shuts dries cl lb sa aa : IA} {bound any found : Int32} {h : Gr} {b : Nat → Nat} (hr : Rref cr mr) (hoh : okH h) (hb : okB b) (hch : cH rooms doors needs work coats beside np h) (hmh : mH s h) (hcb : cB hab b) (hmb : mB s b) (hwy : wOK h ct brd (2 ^ hR h)) (hts : ts = 0) : wp_X10_fewest x1 cr ct brd rooms needs work coats beside np hab bs bR bH ts tr th takes shuts dries cl lb sa aa bound any found (fun r cr' _ _ _ ts' _ _ _ _ _ _ _ _ _ _ _ _ => wp_X11_fewest x1 mr s met best kept soon bst (fun r' mr' s' _ _ _ _ _ => r = r' ∧ Rref cr' mr' ∧ ts' = 0 ∧ ∀ j, j < 120 → s' j = s j)) := by
  obtain ⟨rfl, -, rfl, hc4, hcB, hnp⟩ := hch
  have h5 := hoh.1.1
  have m0 : s (0 : Int32).toNatClampNeg = nI (hR h + 1) := hmh.1
  have hS := cS_b hoh (hR h) (Nat.le_refl _)
  refine ⟨fun q => ?_, fun q => ?_⟩
  · rw [← nI_0, nI_eq (by omega) (by omega)] at q
    refine rf10 3 (by decide) (by decide) ⟨fun _ => ⟨fun z => absurd z (by decide), fun _ => ⟨fun z => absurd z (by decide), fun _ => rf11 3 (by decide) (by decide) ⟨rfl, hr.up 3 (by decide), hts, fun _ _ => rfl⟩⟩⟩, fun z => absurd ?_ z⟩
    rw [m0, q]
    rfl
  · have q0 : hR h ≠ 0 := fun z => q (by rw [z]; rfl)
    have m1 : ¬ (s (0 : Int32).toNatClampNeg = (1 : Int32)) := by
      rw [m0, px_lit, nI_eq (by omega) (by omega)]
      omega
    have hT1 := cS_1 hoh q0
    rcases refHour_sp x1 with ⟨hour, hh, rfl, hc, hm⟩ | ⟨hc, hm⟩ | ⟨hc, hm⟩
    · refine hc _ ⟨fun _ => coats10_sp hoh (fun r a b => (hc4 r a b).2) ⟨fun q6 => ?_, fun q6 => ?_⟩, fun z => absurd rfl z⟩
      · have q6' : cS h (hR h) ≤ 6 := by
          rw [px_lit, nI_leI (by omega) (by omega)] at q6
          exact q6
        refine learnNeeds_sp hoh hnp (fun aa' haa => ⟨(hR h + 1) + 1, few17_lp hoh hb hh q6' hT1 (fun r a b => (hc4 r a b).1) (fun r a b => (hc4 r a b).2) hcB hcb hwy haa (fun r bs br bh ts tr th tk' sh' dr cl lb sa bound any found g1 g2 => ?_) (hR h + 1) 0 _ _ _ _ _ _ _ _ _ _ _ _ _ _ _ (by omega) hts (fun e' _ k => absurd k (by omega))⟩)
        refine ⟨fun z => absurd z m1, fun _ => hm _ ⟨fun _ => ⟨fun z => absurd z m1, fun _ => coats11_sp hoh hmh ⟨fun _ => ⟨fun _ x3 e3 => ?_, fun z => absurd rfl z⟩, fun z => absurd q6 z⟩⟩, fun z => absurd rfl z⟩⟩
        have e3' : x3 = s 8 := e3
        subst e3'
        exact ⟨6 + 2, few57_lp hoh hb hmh hmb hh q6' hT1 (fun r' s' met' best' kept' soon' bst' k1 k2 => ⟨fwR_uq g2 k1, hr, g1, k2⟩) 6 0 _ _ _ _ _ _ (by omega) (fun _ _ _ => rfl) (fun e' _ k => absurd k (by omega))⟩
      · exact rf10 6 (by decide) (by decide) ⟨fun z => absurd z m1, fun _ => hm _ ⟨fun _ => ⟨fun z => absurd z m1, fun _ => coats11_sp hoh hmh ⟨fun z => absurd z q6, fun _ => ⟨fun z => absurd z (by decide), fun _ => rf11 6 (by decide) (by decide) ⟨rfl, hr.up 6 (by decide), hts, fun _ _ => rfl⟩⟩⟩⟩, fun z => absurd rfl z⟩⟩
    · exact hc _ ⟨fun z => absurd z (by decide), fun _ => rf10 4 (by decide) (by decide) ⟨fun z => absurd z m1, fun _ => hm _ ⟨fun z => absurd z (by decide), fun _ => ⟨fun z => absurd z (by decide), fun _ => rf11 4 (by decide) (by decide) ⟨rfl, hr.up 4 (by decide), hts, fun _ _ => rfl⟩⟩⟩⟩⟩
    · exact hc _ ⟨fun z => absurd z (by decide), fun _ => rf10 6 (by decide) (by decide) ⟨fun z => absurd z m1, fun _ => hm _ ⟨fun z => absurd z (by decide), fun _ => ⟨fun z => absurd z (by decide), fun _ => rf11 6 (by decide) (by decide) ⟨rfl, hr.up 6 (by decide), hts, fun _ _ => rfl⟩⟩⟩⟩⟩
