/-! PURE PART: the class's search from an empty plan; soonest -/
theorem fill_sp {x : Int32} {n : Nat} (hn : n < 2 ^ 31) {v : IA} {K : IA → Prop} (hK : ∀ v' : IA, (∀ j, j < n → v' j = x) → K v') : wp_J7_fill_53178 x n v K := by
  intro x3 e
  subst e
  have lp : ∀ (d i : Nat) (v' : IA), i + d = n → (∀ j, j < i → v' j = x) → wp_J7_fill_53178_5 x (nI n) n K (d + 1) (nI i) v' := by
    intro d
    induction d with
    | zero =>
      intro i v' hi hv
      obtain rfl : i = n := by omega
      refine ⟨fun _ => hK v' hv, fun q => absurd ?_ q⟩
      rw [nI_leI hn hn]
      exact Nat.le_refl _
    | succ d ih =>
      intro i v' hi hv
      refine ⟨fun q => ?_, fun _ => ⟨px_in (by omega) hn, ?_⟩⟩
      · rw [nI_leI hn (by omega)] at q
        omega
      · rw [px_cl (by omega), nI_1]
        refine ih (i + 1) _ (by omega) (fun j hj => ?_)
        by_cases e : j = i
        · subst e; exact up_s
        · rw [up_n e]; exact hv j (by omega)
  exact ⟨n + 1, lp n 0 v (by omega) (fun j hj => absurd hj (by omega))⟩
theorem learnNeeds_sp {h : Gr} (ho : okH h) {np aa : IA} (hnp : ∀ k, k < 4 * hN h → np k = nI (hP h k)) {K : IA → Prop} (hK : ∀ v : IA, (∀ u, u ≤ 99 → v u = nI (nA h u (hN h))) → K v) : wp_X7_learnNeeds (nI (hN h)) np aa K := by
  have lp : ∀ (d i : Nat) (v : IA), i + d = 100 → (∀ u, u < i → v u = nI (nA h u (hN h))) → wp_X7_learnNeeds_2 (nI (hN h)) np K (d + 1) (nI i) v := by
    intro d
    induction d with
    | zero =>
      intro i v hi hv
      obtain rfl : i = 100 := by omega
      exact ⟨fun _ => hK v (fun u hu => hv u (by omega)), fun q => absurd (by decide) q⟩
    | succ d ih =>
      intro i v hi hv
      refine ⟨fun q => ?_, fun _ => needsAt3_sp ho hnp (by omega) ⟨px_in (by omega) (by decide), ?_⟩⟩
      · rw [px_lit, nI_ltI (by omega) (by omega)] at q
        omega
      · rw [px_cl (by omega), nI_1]
        refine ih (i + 1) _ (by omega) (fun j hj => ?_)
        by_cases e : j = i
        · subst e; exact up_s
        · rw [up_n e]; exact hv j (by omega)
  exact ⟨100 + 1, lp 100 0 aa (by omega) (fun j hj => absurd hj (by omega))⟩
/-! more open rooms, more ways -/
theorem it_mono_o {h : Gr} {o o' : Nat} (ho : subM o o') : ∀ n S T, subM S T → subM (it h o n S) (it h o' n T)
  | 0, _, _, hs => hs
  | n + 1, S, T, hs => it_mono_o ho n _ _ (fun i hi => by
    have g := gr_mono (h := h) (o := o) hs i hi
    have g1 := gr_sub i g
    unfold gr at g ⊢
    rw [tb_and, Bool.and_eq_true] at g ⊢
    exact ⟨g.1, ho i g1⟩)
theorem rc_mono {h : Gr} {o o' a c : Nat} (ho : subM o o') (hh : rc h o a c = true) : rc h o' a c = true := it_mono_o ho 5 _ _ (fun i hi => by
  unfold one at hi ⊢
  rw [tb_and, Bool.and_eq_true] at hi ⊢
  exact ⟨hi.1, ho i hi.2⟩) c hh
theorem nA_in {h : Gr} {t i : Nat} {n : Nat} (hi : i < n) (h1 : hP h (4 * i + 2) ≤ t) (h2 : t ≤ hP h (4 * i + 3)) : (nA h t n).testBit i = true := by
  induction n with
  | zero => omega
  | succ n ih =>
    rw [nA, tb_or]
    by_cases e : i = n
    · subst e
      rw [if_pos ⟨h1, h2⟩, tb_pow]
      simp
    · rw [ih (by omega)]
      rfl
theorem dfs_barred {h : Gr} {b : Nat → Nat} {k T d : Nat} (ho : okH h) (hT : 1 ≤ T) (hb : bar h (nd (allP h) 0) (hN h) ≠ 0) (acc : Acc) : dfs h b k T (d + 1) p00 acc = acc := by
  have hno : ∀ r, fh h b k p00 r = none := by
    intro r
    cases e : fh h b k p00 r with
    | none => rfl
    | some t =>
      exfalso
      obtain ⟨-, -, g3, -⟩ := fhF_s _ _ e
      obtain ⟨i, hi⟩ := Nat.exists_testBit_of_ne_zero hb
      rw [bar_tb, Bool.and_eq_true, decide_eq_true_iff] at hi
      obtain ⟨hi1, hi2⟩ := hi
      obtain ⟨n1, n2, n3, n4, n5⟩ := ho.2.2.2.2 i hi1
      have g := g3.2.2.2.2 (hP h (4 * i + 2)) (Nat.zero_le _) (by omega) (by show hP h (4 * i + 2) ≤ 99; omega)
      have gb : (fl h b k (ex p00 r t) (hP h (4 * i + 2)) (pN p00 + 1)).testBit i = true := by
        unfold fl
        rw [tb_and, Bool.and_eq_true]
        constructor
        · exact nA_in hi1 (Nat.le_refl _) n4
        · rw [bar_tb, Bool.and_eq_true, decide_eq_true_iff]
          refine ⟨hi1, ?_⟩
          cases er : rc h (opn h b k (ex p00 r t) (hP h (4 * i + 2)) (pN p00 + 1)) (hP h (4 * i)) (hP h (4 * i + 1)) with
          | false => rfl
          | true =>
            have := rc_mono (o' := nd (allP h) 0) (fun j hj => by
              have hA := allP_b ho
              rw [opn_tb ho, Bool.and_eq_true] at hj
              rw [nd_0 (by omega), allP_tb]
              exact hj.1) er
            rw [this] at hi2
            cases hi2
      rw [g] at gb
      simp at gb
  rw [dfs, if_neg (by show ¬ (0 = T); omega)]
  have loop : ∀ c r, rmF h b k (dfs h b k T d) p00 c r acc = acc := by
    intro c
    induction c with
    | zero => intro r; rfl
    | succ c ih => intro r; rw [rmF_s, rmS_n (hno r)]; exact ih (r + 1)
  exact loop _ _
theorem gp00 {h : Gr} {b : Nat → Nat} {k : Nat} (hb : bar h (nd (allP h) 0) (hN h) = 0) : gp h b k p00 := by
  refine ⟨fun i hi => absurd hi (Nat.not_lt_zero i), fun r _ _ => Nat.zero_le _, fun u _ => ?_, fun i j _ hj => absurd hj (Nat.not_lt_zero j)⟩
  show nA h u (hN h) &&& bar h (nd (allP h) 0) (hN h) = 0
  rw [hb, Nat.and_zero]
theorem run37_lp {h : Gr} {b : Nat → Nat} {k : Nat} (ho : okH h) (hb : okB b) (hk : k < 64) {work coats hab : IA} (hw : ∀ r, 1 ≤ r → r ≤ hR h → work r = nI (hW h r)) (hco : ∀ r, 1 ≤ r → r ≤ hR h → coats r = nI (hC h r)) (hcb : cB hab b) {E : Int32 → IA → IA → IA → IA → IA → Prop} {K : Int32 → IA → IA → Int32 → IA → IA → IA → IA → IA → IA → IA → IA → Int32 → Int32 → Int32 → Prop} (hE : ∀ tk' sh' dr' cl' lb' : IA, (∀ r, 1 ≤ r → r ≤ hR h → (tk' r = nI (tk h b r) ∧ sh' r = nI (sh h b k r) ∧ dr' r = nI (tk h b r + b 0 + b 1)) ∧ cl' r = nI (hC h r) ∧ lb' r = (-1 : Int32)) → E (nI (rst h b p00)) tk' sh' dr' cl' lb') : ∀ (d m : Nat) (tk' sh' dr' cl' lb' : IA), m + d = hR h → (∀ r, 1 ≤ r → r ≤ m → (tk' r = nI (tk h b r) ∧ sh' r = nI (sh h b k r) ∧ dr' r = nI (tk h b r + b 0 + b 1)) ∧ cl' r = nI (hC h r) ∧ lb' r = (-1 : Int32)) → wp_X7_run_37 (nI k) (nI (hR h)) work coats hab E K (d + 1) (nI (rsF h b p00 m)) (nI (m + 1)) tk' sh' dr' cl' lb' := by
  have h5 := ho.1.1
  intro d
  induction d with
  | zero =>
    intro m tk' sh' dr' cl' lb' hm hv
    obtain rfl : m = hR h := by omega
    refine ⟨fun _ => hE tk' sh' dr' cl' lb' hv, fun q => absurd ?_ q⟩
    rw [nI_ltI (by omega) (by omega)]
    omega
  | succ d ih =>
    intro m tk' sh' dr' cl' lb' hm hv
    refine ⟨fun q => ?_, fun _ => coatHours_sp ho hb hw hcb (by omega) (by omega) ⟨px_in (by omega) (by decide), shutHours_sp ho hb hw hcb hk (by omega) (by omega) (dryHours_sp ho hb hw hcb (by omega) (by omega) (fun x4 e4 => ?_))⟩⟩
    · rw [nI_ltI (by omega) (by omega)] at q
      omega
    · rw [px_cl (by omega), up_s, up_s, hco (m + 1) (by omega) (by omega), pk_mul, nI_add] at e4
      subst e4
      rw [px_cl (by omega), nI_1, hco (m + 1) (by omega) (by omega), Nat.mul_comm (tk h b (m + 1))]
      refine ih (m + 1) _ _ _ _ _ (by omega) (fun r q1 q2 => ?_)
      by_cases er : r = m + 1
      · subst er
        rw [up_s, up_s, up_s, up_s, up_s]
        exact ⟨⟨rfl, rfl, rfl⟩, rfl, rfl⟩
      · rw [up_n er, up_n er, up_n er, up_n er, up_n er]
        exact hv r q1 (by omega)
theorem run7_sp {h : Gr} {b : Nat → Nat} {k B : Nat} (ho : okH h) (hb : okB b) (hk : k < 64) (hT6 : cS h (hR h) ≤ 6) (hT1 : 1 ≤ cS h (hR h)) (hB1 : 1 ≤ B) (hBk : B ≤ 1000) {any : Int32} (hany : nz any) {work coats beside hab ct brd : IA} (hw : ∀ r, 1 ≤ r → r ≤ hR h → work r = nI (hW h r)) (hco : ∀ r, 1 ≤ r → r ≤ hR h → coats r = nI (hC h r)) (hbe : ∀ a, a < 6 → beside a = nI (hB h a)) (hcb : cB hab b) (hwy : wOK h ct brd (2 ^ hR h)) {bs : Int32} {br bh : IA} {ts : Int32} {tr th takes shuts dries cl lb sa aa : IA} {bound any0 found : Int32} (hts : ts = 0) (haa : ∀ u, u ≤ 99 → aa u = nI (nA h u (hN h))) {K : Int32 → IA → IA → Int32 → IA → IA → IA → IA → IA → IA → IA → IA → Int32 → Int32 → Int32 → Prop} (hK : ∀ a' bs' br' bh' ts' tr' th' tk' sh' dr' cl' lb' sa' bound' found', dfs h b k (cS h (hR h)) 8 p00 (some (B, p00)) = some a' → CA h any B a' bs' br' bh' bound' found' → ts' = 0 → K bs' br' bh' ts' tr' th' tk' sh' dr' cl' lb' sa' bound' any found') : wp_X7_run (nI k) (nI B) any (nI (hR h)) work coats beside hab ct brd bs br bh ts tr th takes shuts dries cl lb sa aa bound any0 found K := by
  have h5 := ho.1.1
  subst hts
  refine ⟨hany, fun q => absurd q (by decide), fun _ => ⟨fun _ => ?_, fun q => absurd (by decide) q⟩⟩
  refine fill_sp (by decide) (fun v hv => ⟨hR h + 1, run37_lp ho hb hk hw hco hcb (fun tk' sh' dr' cl' lb' hr => ?_) (hR h) 0 takes shuts dries cl lb (by omega) (fun r q1 q2 => absurd q1 (by omega))⟩)
  have hbb := bar_b (h := h) (o := nd (allP h) 0) (hN h) ho.1.2.2
  refine barredNeeds_sp (S := 0) ho hwy ⟨by decide, by simp, fun i hi => by simp at hi⟩ ⟨fun q => ?_, fun q => ?_⟩
  · rw [← nI_0, nI_eq (by omega) (by omega)] at q
    refine goOn7_sp ho hb hT6 hT1 hB1 hBk hwy hbe hcb ⟨fun r q1 q2 => (hr r q1 q2).1, haa⟩ 8 p00 (B, p00) _ _ _ _ _ _ _ _ _ _ _ _ _ _ _ _ rfl rfl ?_ rfl (gp00 q) (by show _ - 0 < 8; omega) (Or.inr rfl) (Or.inl ⟨rfl, rfl, rfl⟩) (fun e => absurd e (by show ¬ (0 = _); omega)) ⟨rfl, fun i hi => absurd hi (Nat.not_lt_zero i), fun r q1 q2 => ⟨(hr r q1 q2).2.1, (hr r q1 q2).2.2⟩, fun u hu => hv u (by omega)⟩ (fun a' bs' br' bh' ts' tr' th' cl' lb' sa' bound' found' k1 k2 k3 => hK a' _ _ _ _ _ _ _ _ _ _ _ _ _ _ k1 k2 k3.1)
    unfold stH
    rw [if_pos (show pN p00 = 0 from rfl)]
    rfl
  · refine hK (B, p00) _ _ _ _ _ _ _ _ _ _ _ _ _ _ (dfs_barred ho hT1 (fun z => q ?_) _) (Or.inl ⟨rfl, rfl, rfl⟩) rfl
    rw [z]
    rfl
/-! from nothing, or from a bound -/
def rlA (B : Nat) (x : Acc) (a : Nat × Gr) : Prop := (x = none ∧ a = (B, p00)) ∨ ∃ y, x = some y ∧ ((y.1 < B ∧ a = y) ∨ (B ≤ y.1 ∧ a = (B, p00)))
theorem rlA_put {B : Nat} {x : Acc} {a : Nat × Gr} {t : Nat} {p : Gr} (hr : rlA B x a) : ∃ a', putA t p (some a) = some a' ∧ rlA B (putA t p x) a' := by
  rcases hr with ⟨ex, ea⟩ | ⟨y, ex, ⟨h1, ea⟩ | ⟨h1, ea⟩⟩ <;> rw [ex, ea]
  · by_cases q : t < B
    · exact ⟨(t, p), if_pos q, Or.inr ⟨(t, p), rfl, Or.inl ⟨q, rfl⟩⟩⟩
    · exact ⟨(B, p00), if_neg q, Or.inr ⟨(t, p), rfl, Or.inr ⟨Nat.le_of_not_lt q, rfl⟩⟩⟩
  · by_cases q : t < y.1
    · exact ⟨(t, p), if_pos q, Or.inr ⟨(t, p), if_pos q, Or.inl ⟨Nat.lt_trans q h1, rfl⟩⟩⟩
    · exact ⟨y, if_neg q, Or.inr ⟨y, if_neg q, Or.inl ⟨h1, rfl⟩⟩⟩
  · by_cases q : t < B
    · exact ⟨(t, p), if_pos q, Or.inr ⟨(t, p), if_pos (Nat.lt_of_lt_of_le q h1), Or.inl ⟨q, rfl⟩⟩⟩
    · by_cases q2 : t < y.1
      · exact ⟨(B, p00), if_neg q, Or.inr ⟨(t, p), if_pos q2, Or.inr ⟨Nat.le_of_not_lt q, rfl⟩⟩⟩
      · exact ⟨(B, p00), if_neg q, Or.inr ⟨y, if_neg q2, Or.inr ⟨h1, rfl⟩⟩⟩
theorem rlA_rm {h : Gr} {b : Nat → Nat} {k B : Nat} {G : Gr → Acc → Acc} (hG : ∀ p x a, rlA B x a → ∃ a', G p (some a) = some a' ∧ rlA B (G p x) a') (p : Gr) : ∀ (c r : Nat) (x : Acc) (a : Nat × Gr), rlA B x a → ∃ a', rmF h b k G p c r (some a) = some a' ∧ rlA B (rmF h b k G p c r x) a'
  | 0, _, x, a, hr => ⟨a, rfl, hr⟩
  | c + 1, r, x, a, hr => by
    have st : ∃ a', rmS h b k G p r (some a) = some a' ∧ rlA B (rmS h b k G p r x) a' := by
      by_cases hc : cO p r (pN p) = hC h r
      · exact ⟨a, rmS_e hc, by rw [rmS_e hc]; exact hr⟩
      · cases e : fh h b k p r with
        | none => exact ⟨a, rmS_n e, by rw [rmS_n e]; exact hr⟩
        | some t =>
          obtain ⟨a', g1, g2⟩ := hG (ex p r t) x a hr
          exact ⟨a', (rmS_y hc e).trans g1, by rw [rmS_y hc e]; exact g2⟩
    obtain ⟨a1, g1, g2⟩ := st
    obtain ⟨a2, g3, g4⟩ := rlA_rm hG p c (r + 1) _ a1 g2
    exact ⟨a2, by rw [rmF_s, g1, g3], by rw [rmF_s]; exact g4⟩
theorem rlA_dfs {h : Gr} {b : Nat → Nat} {k T B : Nat} : ∀ (d : Nat) (p : Gr) (x : Acc) (a : Nat × Gr), rlA B x a → ∃ a', dfs h b k T d p (some a) = some a' ∧ rlA B (dfs h b k T d p x) a'
  | 0, _, x, a, hr => ⟨a, rfl, hr⟩
  | d + 1, p, x, a, hr => by
    rw [dfs, dfs]
    split
    · exact rlA_put hr
    · exact rlA_rm (fun p x a hr => rlA_dfs d p x a hr) p _ _ x a hr
