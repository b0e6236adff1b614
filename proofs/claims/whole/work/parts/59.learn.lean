/-! PURE PART: the class's table of ways is reachability; needs that fail -/
def wjM (M : Nat → Nat) (k a : Nat) : Nat := if (M a).testBit k then M a ||| M k else M a
def wM (M0 : Nat → Nat) : Nat → Nat → Nat
  | 0, a => M0 a
  | k + 1, a => wjM (wM M0 k) k a
theorem wjM_tb (M : Nat → Nat) (k a c : Nat) : (wjM M k a).testBit c = ((M a).testBit c || ((M a).testBit k && (M k).testBit c)) := by
  unfold wjM
  split
  · rename_i h; rw [tb_or, h]; simp
  · rename_i h; simp [h]
theorem wjM_self (M : Nat → Nat) (k : Nat) : wjM M k k = M k := by
  apply tb_ext
  intro i
  rw [wjM_tb]
  cases (M k).testBit i <;> simp
theorem wM_b {R : Nat} {M0 : Nat → Nat} (h0 : ∀ a, a ≤ R → M0 a < 64) : ∀ k, k ≤ R + 1 → ∀ a, a ≤ R → wM M0 k a < 64
  | 0, _, a, ha => h0 a ha
  | k + 1, hk, a, ha => by
    rw [wM]
    unfold wjM
    split
    · exact or_lt (n := 6) (wM_b h0 k (by omega) a ha) (wM_b h0 k (by omega) k (by omega))
    · exact wM_b h0 k (by omega) a ha
theorem wM_ge {M0 : Nat → Nat} {a c : Nat} (h : (M0 a).testBit c = true) : ∀ k, (wM M0 k a).testBit c = true
  | 0 => h
  | k + 1 => by rw [wM, wjM_tb, wM_ge h k]; rfl
theorem wM_sd {h : Gr} {o : Nat} (h6 : o < 64) {M0 : Nat → Nat} (h0 : ∀ a c, a ≤ hR h → (M0 a).testBit c = true → rc h o a c = true) : ∀ k, k ≤ hR h + 1 → ∀ a c, a ≤ hR h → (wM M0 k a).testBit c = true → rc h o a c = true
  | 0, _, a, c, ha, hc => h0 a c ha hc
  | k + 1, hk, a, c, ha, hc => by
    rw [wM, wjM_tb, Bool.or_eq_true, Bool.and_eq_true] at hc
    rcases hc with hc | ⟨h1, h2⟩
    · exact wM_sd h6 h0 k (by omega) a c ha hc
    · exact rc_trans h6 (wM_sd h6 h0 k (by omega) a k ha h1) (wM_sd h6 h0 k (by omega) k c (by omega) h2)
theorem wM_tr {M0 : Nat → Nat} : ∀ k, ∀ a b c, b < k → (wM M0 k a).testBit b = true → (wM M0 k b).testBit c = true → (wM M0 k a).testBit c = true
  | 0, _, _, _, hb, _, _ => by omega
  | k + 1, a, b, c, hb, h1, h2 => by
    have ih := wM_tr (M0 := M0) k
    rw [wM, wjM_tb, Bool.or_eq_true, Bool.and_eq_true] at h1 h2 ⊢
    by_cases e : b = k
    · subst e
      have h1 : (wM M0 b a).testBit b = true := by
        rcases h1 with h1 | h1
        · exact h1
        · exact h1.1
      have h2 : (wM M0 b b).testBit c = true := by
        rcases h2 with h2 | h2
        · exact h2
        · exact h2.2
      exact Or.inr ⟨h1, h2⟩
    · have hb : b < k := by omega
      rcases h1 with h1 | ⟨h1, h3⟩
      · rcases h2 with h2 | ⟨h2, h4⟩
        · exact Or.inl (ih a b c hb h1 h2)
        · exact Or.inr ⟨ih a b k hb h1 h2, h4⟩
      · rcases h2 with h2 | ⟨h2, h4⟩
        · exact Or.inr ⟨h1, ih k b c hb h3 h2⟩
        · exact Or.inr ⟨h1, h4⟩
/-- the doors of open rooms -/
def dM (h : Gr) (o a : Nat) : Nat := if o.testBit a then (hB h a ||| 2 ^ a) &&& o else 0
theorem dM_b {h : Gr} {o : Nat} (h6 : o < 64) (a : Nat) : dM h o a < 64 := by
  unfold dM
  split
  · exact Nat.lt_of_le_of_lt Nat.and_le_right h6
  · decide
theorem dM_tb {h : Gr} {o a c : Nat} : (dM h o a).testBit c = true ↔ o.testBit a = true ∧ o.testBit c = true ∧ ((hB h a).testBit c = true ∨ a = c) := by
  unfold dM
  split
  · rename_i hh
    rw [tb_and, tb_or, tb_pow, Bool.and_eq_true, Bool.or_eq_true]
    simp [hh]
    exact And.comm
  · rename_i hh
    simp [hh]
theorem wM_rc {h : Gr} {o : Nat} (ho : okH h) (h6 : o < 64) (hoR : ∀ i, o.testBit i = true → i ≤ hR h) {a c : Nat} (ha : a ≤ hR h) : (wM (dM h o) (hR h + 1) a).testBit c = rc h o a c := by
  refine rc_table ho h6 hoR (fun a ha hoa => wM_ge (dM_tb.mpr ⟨hoa, hoa, Or.inr rfl⟩) _) (fun a c ha hoa hb hoc => wM_ge (dM_tb.mpr ⟨hoa, hoc, Or.inl hb⟩) _) (fun a b c ha hb => wM_tr _ a b c (by omega)) (fun a c ha hc => wM_sd h6 (fun a c ha hc => ?_) _ (Nat.le_refl _) a c ha hc) ha
  obtain ⟨h1, h2, h3 | h3⟩ := dM_tb.mp hc
  · exact rc_step h6 ha h1 h3 h2
  · subst h3; exact rc_self h6 h1
theorem learnDoors_lp {h : Gr} (ho : okH h) {beside : IA} (hb : ∀ a, a < 6 → beside a = nI (hB h a)) {o base : Nat} (h6 : o < 64) (hbase : base ≤ 186) {v0 : IA} {K : IA → Prop} (hK : ∀ v : IA, (∀ a, a ≤ hR h → v (base + a) = nI (dM h o a)) → (∀ j, j < base → v j = v0 j) → K v) : ∀ (d i : Nat) (v : IA), i + d = hR h + 1 → (∀ a, a < i → v (base + a) = nI (dM h o a)) → (∀ j, j < base → v j = v0 j) → wp_X9_learnDoors_3 (nI base) (nI o) (nI (hR h)) beside K (d + 1) (nI i) v := by
  have h5 := ho.1.1
  intro d
  induction d with
  | zero =>
    intro i v hi h1 h2
    refine ⟨fun _ => hK v (fun a ha => h1 a (by omega)) h2, fun q => absurd (by rw [nI_ltI (by omega) (by omega)]; omega) q⟩
  | succ d ih =>
    intro i v hi h1 h2
    have stepv : ∀ x : Int32, x = nI (dM h o i) → wp_X9_learnDoors_3 (nI base) (nI o) (nI (hR h)) beside K (d + 1) (nI (i + 1)) (upd v (base + i) x) := by
      intro x hx
      refine ih (i + 1) _ (by omega) (fun a ha => ?_) (fun j hj => by rw [up_n (by omega)]; exact h2 j hj)
      by_cases e : a = i
      · subst e; rw [up_s]; exact hx
      · rw [up_n (by omega)]; exact h1 a (by omega)
    refine ⟨fun q => absurd q (by rw [nI_ltI (by omega) (by omega)]; omega), fun _ => ⟨fun q => ?_, fun q => ?_⟩⟩
    · rw [px_bit (by omega) (by omega)] at q
      refine ⟨fun _ => ?_, fun q => absurd rfl q⟩
      rw [nI_add, px_cl (by omega), nI_1]
      refine ⟨px_in (by omega) (by decide), stepv _ ?_⟩
      unfold dM; rw [q]; rfl
    · rw [px_bit (by omega) (by omega)] at q
      have q : o.testBit i = true := by
        cases e : o.testBit i
        · exact absurd e q
        · rfl
      refine ⟨fun q => absurd q px_01, fun _ => ⟨px_in (by omega) (by decide), ?_⟩⟩
      rw [nI_add, px_cl (k := base + i) (by omega), nI_1, px_cl (by omega), hb i (by omega), px_shl1 _ (by omega), px_or, px_and]
      refine ⟨px_in (by omega) (by decide), stepv _ ?_⟩
      unfold dM; rw [q]; rfl
theorem joinIn_lp {R base k : Nat} {M : Nat → Nat} (hR : R ≤ 5) (hbase : base ≤ 186) (hk : k ≤ R) (hM : ∀ a, a ≤ R → M a < 64) {v0 : IA} {K : IA → Prop} {E : Int32 → IA → Prop} (hE : ∀ v : IA, (∀ a, a ≤ R → v (base + a) = nI (wjM M k a)) → (∀ j, j < base → v j = v0 j) → E (nI (k + 1)) v) : ∀ (d i : Nat) (v : IA), i + d = R + 1 → (∀ a, a ≤ R → v (base + a) = nI (if a < i then wjM M k a else M a)) → (∀ j, j < base → v j = v0 j) → wp_X9_joinWays_10 (nI R) (nI base) E K (d + 1) (nI k) (nI i) v := by
  intro d
  induction d with
  | zero =>
    intro i v hi h1 h2
    refine ⟨fun _ => ?_, fun q => absurd (by rw [nI_ltI (by omega) (by omega)]; omega) q⟩
    rw [nI_1]
    refine hE v (fun a ha => ?_) h2
    rw [h1 a ha, if_pos (by omega)]
  | succ d ih =>
    intro i v hi h1 h2
    have e1 : v (base + i) = nI (M i) := by rw [h1 i (by omega), if_neg (by omega)]
    have ek : v (base + k) = nI (M k) := by
      rw [h1 k hk]
      split
      · rw [wjM_self]
      · rfl
    have stepv : ∀ x : Int32, x = nI (wjM M k i) → wp_X9_joinWays_10 (nI R) (nI base) E K (d + 1) (nI k) (nI (i + 1)) (upd v (base + i) x) := by
      intro x hx
      refine ih (i + 1) _ (by omega) (fun a ha => ?_) (fun j hj => by rw [up_n (by omega)]; exact h2 j hj)
      by_cases e : a = i
      · subst e; rw [up_s, if_pos (by omega)]; exact hx
      · rw [up_n (by omega), h1 a ha]
        by_cases e2 : a < i
        · rw [if_pos e2, if_pos (by omega)]
        · rw [if_neg e2, if_neg (by omega)]
    have hMi := hM i (by omega)
    refine ⟨fun q => absurd q (by rw [nI_ltI (by omega) (by omega)]; omega), fun _ => ?_⟩
    rw [nI_add, px_cl (by omega), e1, nI_1]
    refine ⟨px_in (by omega) (by decide), fun q => ?_, fun q => ?_⟩
    · rw [px_bit (by omega) (by omega)] at q
      have := stepv (nI (M i)) (by unfold wjM; rw [q]; rfl)
      have eu : upd v (base + i) (nI (M i)) = v := by
        funext j
        by_cases e : j = base + i
        · subst e; rw [up_s, e1]
        · rw [up_n e]
      rw [eu] at this
      exact this
    · rw [px_bit (by omega) (by omega)] at q
      have q : (M i).testBit k = true := by
        cases e : (M i).testBit k
        · exact absurd e q
        · rfl
      rw [nI_add, px_cl (by omega), ek, px_or]
      refine ⟨px_in (by omega) (by decide), stepv _ ?_⟩
      unfold wjM; rw [q]; rfl
theorem joinWays_lp {R base : Nat} {M0 : Nat → Nat} (hR : R ≤ 5) (hbase : base ≤ 186) (hM : ∀ a, a ≤ R → M0 a < 64) {v0 : IA} {K : IA → Prop} (hK : ∀ v : IA, (∀ a, a ≤ R → v (base + a) = nI (wM M0 (R + 1) a)) → (∀ j, j < base → v j = v0 j) → K v) : ∀ (d k : Nat) (v : IA), k + d = R + 1 → (∀ a, a ≤ R → v (base + a) = nI (wM M0 k a)) → (∀ j, j < base → v j = v0 j) → wp_X9_joinWays_2 (nI R) (nI base) K (d + 1) (nI k) v := by
  intro d
  induction d with
  | zero =>
    intro k v hk h1 h2
    have e : k = R + 1 := by omega
    subst e
    exact ⟨fun _ => hK v h1 h2, fun q => absurd (by rw [nI_ltI (by omega) (by omega)]; omega) q⟩
  | succ d ih =>
    intro k v hk h1 h2
    refine ⟨fun q => absurd q (by rw [nI_ltI (by omega) (by omega)]; omega), fun _ => ⟨R + 1 + 1, ?_⟩⟩
    refine joinIn_lp (M := wM M0 k) hR hbase (by omega) (wM_b hM k (by omega)) (v0 := v0) (fun v' h3 h4 => ih (k + 1) v' (by omega) h3 h4) (R + 1) 0 v (by omega) (fun a ha => ?_) h2
    rw [if_neg (by omega)]; exact h1 a ha
/-- needs (bits) whose ends one does not come from each other; and those that are met -/
def bar (h : Gr) (o : Nat) : Nat → Nat
  | 0 => 0
  | i + 1 => bar h o i ||| if rc h o (hP h (4 * i)) (hP h (4 * i + 1)) then 0 else 2 ^ i
theorem bar_tb {h : Gr} {o i : Nat} : ∀ n, (bar h o n).testBit i = (decide (i < n) && !rc h o (hP h (4 * i)) (hP h (4 * i + 1)))
  | 0 => by simp [bar]
  | n + 1 => by
    rw [bar, tb_or, bar_tb n]
    by_cases e : i = n
    · subst e
      split
      · rename_i hh; simp [hh]
      · rename_i hh; rw [tb_pow]; simp [hh]
    · have e1 : decide (i < n + 1) = decide (i < n) := by
        apply decide_eq_decide.mpr; omega
      rw [e1]
      split
      · simp
      · rw [tb_pow]; simp [show ¬ n = i by omega]
theorem bar_b {h : Gr} {o : Nat} : ∀ n, n ≤ 8 → bar h o n < 256
  | 0, _ => by simp [bar]
  | n + 1, hn => by
    rw [bar]
    refine or_lt (n := 8) (bar_b n (by omega)) ?_
    split
    · decide
    · exact Nat.pow_lt_pow_right (by decide) (by omega)
theorem barredIn_lp {h : Gr} (ho : okH h) {np ct : IA} (hnp : ∀ k, k < 4 * hN h → np k = nI (hP h k)) {o base : Nat} (hbase : base ≤ 186) (hct : ∀ a, a ≤ hR h → ∃ m, m < 64 ∧ ct (base + a) = nI m ∧ ∀ c, m.testBit c = rc h o a c) {K : Int32 → Prop} (hK : K (nI (bar h o (hN h)))) : ∀ d i : Nat, i + d = hN h → wp_X9_barredIn_5 (nI base) ct (nI (hN h)) np K (d + 1) (nI (bar h o i)) (nI i) := by
  have h8 := ho.1.2.2
  have h5 := ho.1.1
  intro d
  induction d with
  | zero =>
    intro i hi
    have e : i = hN h := by omega
    subst e
    exact ⟨fun _ => hK, fun q => absurd (nI_le (Nat.le_refl _) (by omega)) q⟩
  | succ d ih =>
    intro i hi
    obtain ⟨p1, p2, -, -, -⟩ := ho.2.2.2.2 i (by omega)
    obtain ⟨m, hm, em, hmc⟩ := hct _ p1
    have nxt := ih (i + 1) (by omega)
    rw [bar] at nxt
    have g : ∀ j, j < 4 → (nI i * (4 : Int32)) + nI j = nI (4 * i + j) := by
      intro j hj
      rw [px_lit, pk_mul, nI_add, Nat.mul_comm]
    refine ⟨fun q => absurd q (by rw [nI_leI (by omega) (by omega)]; omega), fun _ => ?_⟩
    show wp_X1_needPart (nI i) (nI 0) np _
    unfold wp_X1_needPart
    rw [g 0 (by omega), px_cl (by omega), hnp (4 * i + 0) (by omega), Nat.add_zero]
    dsimp only
    rw [nI_add, px_cl (by omega), em]
    refine ⟨px_in (by omega) (by decide), px_in (by omega) (by decide), fun x5 e5 => ?_⟩
    subst e5
    show vp_in ((nI i * (4 : Int32)) + nI 1) 32 ∧ _
    rw [g 1 (by omega)]
    refine ⟨px_in (by omega) (by decide), ?_⟩
    rw [show ((nI i * (4 : Int32)) + (1 : Int32)).toNatClampNeg = 4 * i + 1 by rw [show (1 : Int32) = nI 1 from rfl, g 1 (by omega), px_cl (by omega)], hnp _ (by omega), nI_1]
    refine ⟨fun q => fun x3 e3 => ?_, fun q => ?_⟩
    · rw [px_bit (by omega) (by omega), hmc] at q
      rw [q] at nxt
      rw [px_shl1 _ (by omega), px_or] at e3
      rw [e3]
      exact nxt
    · rw [px_bit (by omega) (by omega), hmc] at q
      have q : rc h o (hP h (4 * i)) (hP h (4 * i + 1)) = true := by
        cases e : rc h o (hP h (4 * i)) (hP h (4 * i + 1))
        · exact absurd e q
        · rfl
      rw [q] at nxt
      simpa using nxt
def opS (h : Gr) (e : Nat) : Nat := nd (allP h) (2 * e)
def wOK (h : Gr) (ct br : IA) (n : Nat) : Prop := ∀ e, e < n → (∀ a, a ≤ hR h → ∃ m, m < 64 ∧ ct (6 * e + a) = nI m ∧ ∀ c, m.testBit c = rc h (opS h e) a c) ∧ br e = nI (bar h (opS h e) (hN h))
theorem learn_lp {h : Gr} (ho : okH h) {beside np : IA} (hb : ∀ a, a < 6 → beside a = nI (hB h a)) (hnp : ∀ k, k < 4 * hN h → np k = nI (hP h k)) {K : IA → IA → Prop} (hK : ∀ ct br : IA, wOK h ct br (2 ^ hR h) → K ct br) : ∀ (d e : Nat) (ct br : IA), e + d = 2 ^ hR h → wOK h ct br e → wp_X9_learn_9 (nI (2 ^ hR h)) (nI (hR h)) (nI (hN h)) beside np K (d + 1) (nI e) ct br := by
  have h5 := ho.1.1
  have h32 : 2 ^ hR h ≤ 32 := Nat.pow_le_pow_right (n := 2) (by decide) h5
  intro d
  induction d with
  | zero =>
    intro e ct br he hw
    have e1 : e = 2 ^ hR h := by omega
    subst e1
    exact ⟨fun _ => hK ct br hw, fun q => absurd (nI_le (Nat.le_refl _) (by omega)) q⟩
  | succ d ih =>
    intro e ct br he hw
    have h6 : opS h e < 64 := Nat.lt_of_le_of_lt (nd_le _ _) (allP_b ho)
    have hoR : ∀ i, (opS h e).testBit i = true → i ≤ hR h := by
      intro i hi
      unfold opS at hi
      rw [nd_tb (by have := allP_b ho; omega), allP_tb, Bool.and_eq_true] at hi
      simpa using hi.1
    refine ⟨fun q => absurd q (by rw [nI_leI (by omega) (by omega)]; omega), fun _ => ⟨fun q => absurd q (by rw [px_lit, nI_leI (by omega) (by omega)]; omega), fun _ => fun x4 e4 => ?_⟩⟩
    rw [px_lit, pk_mul, Nat.mul_comm] at e4
    subst e4
    show wp_X9_learnDoors _ _ _ _ _ _
    have eo : (((1 : Int32) <<< ((nI (hR h) + (1 : Int32)) &&& 31)) - (1 : Int32)) &&& ((nI e <<< ((1 : Int32) &&& 31)) ^^^ (-1 : Int32)) = nI (opS h e) := by
      rw [everyPlace_eq _ h5, show nI e <<< ((1 : Int32) &&& 31) = nI (e * 2 ^ 1) from px_shl (k := 1) (by decide) (by omega), px_nd, Nat.mul_comm e]; rfl
    rw [eo]
    refine ⟨hR h + 1 + 1, learnDoors_lp (v0 := ct) ho hb h6 (by omega) (fun v1 h1 h2 => ?_) (hR h + 1) 0 ct (by omega) (fun a ha => absurd ha (by omega)) (fun _ _ => rfl)⟩
    refine ⟨hR h + 1 + 1, joinWays_lp (v0 := ct) (M0 := dM h (opS h e)) h5 (by omega) (fun a _ => dM_b h6 a) (fun v2 h3 h4 => ?_) (hR h + 1) 0 v1 (by omega) h1 h2⟩
    have rows : ∀ a, a ≤ hR h → ∃ m, m < 64 ∧ v2 (6 * e + a) = nI m ∧ ∀ c, m.testBit c = rc h (opS h e) a c := fun a ha => ⟨_, wM_b (fun a _ => dM_b h6 a) _ (Nat.le_refl _) a ha, h3 a ha, fun c => wM_rc ho h6 hoR ha⟩
    refine ⟨hN h + 1, barredIn_lp ho hnp (by omega) rows ⟨px_in (by omega) (by decide), ?_⟩ (hN h) 0 (by omega)⟩
    rw [px_cl (by omega), nI_1]
    refine ih (e + 1) _ _ (by omega) (fun e' he' => ?_)
    by_cases e1 : e' = e
    · subst e1
      exact ⟨rows, up_s⟩
    · obtain ⟨w1, w2⟩ := hw e' (by omega)
      refine ⟨fun a ha => ?_, by rw [up_n e1]; exact w2⟩
      rw [h4 _ (by omega)]
      exact w1 a ha
theorem learn_sp {h : Gr} (ho : okH h) {ct br beside np : IA} (hb : ∀ a, a < 6 → beside a = nI (hB h a)) (hnp : ∀ k, k < 4 * hN h → np k = nI (hP h k)) {K : IA → IA → Prop} (hK : ∀ ct br : IA, wOK h ct br (2 ^ hR h) → K ct br) : wp_X9_learn ct br (nI (hR h)) (nI (hN h)) beside np K := by
  have h5 := ho.1.1
  intro x2 e2
  rw [px_shl1 _ (by omega)] at e2
  subst e2
  exact ⟨2 ^ hR h + 1, learn_lp ho hb hnp hK (2 ^ hR h) 0 ct br (by omega) (fun e he => absurd he (by omega))⟩
/-- a set of shut rooms -/
def shOK (h : Gr) (S : Nat) : Prop := S < 64 ∧ S.testBit 0 = false ∧ ∀ i, S.testBit i = true → i ≤ hR h
theorem shOK.half {h : Gr} {S : Nat} (ho : okH h) (hs : shOK h S) : S / 2 < 2 ^ hR h ∧ 2 * (S / 2) = S := by
  obtain ⟨h1, h2, h3⟩ := hs
  have ev : S % 2 = 0 := by
    rw [Nat.testBit_zero] at h2
    simpa using h2
  refine ⟨?_, by omega⟩
  have hlt : S < 2 ^ (hR h + 1) := by
    apply Nat.lt_of_not_le
    intro hge
    obtain ⟨i, hi, hb⟩ := Nat.exists_ge_and_testBit_of_ge_two_pow hge
    have := h3 i hb
    omega
  rw [Nat.pow_succ] at hlt
  omega
theorem half_eq {S : Nat} (hS : S < 64) : (nI S >>> ((1 : Int32) &&& 31)) &&& (31 : Int32) = nI (S / 2) := by
  rw [show (1 : Int32) = nI 1 from rfl, px_shr (k := 1) (by omega) (by decide), show (31 : Int32) = nI (2 ^ 5 - 1) from rfl, px_and, Nat.and_two_pow_sub_one_eq_mod, Nat.mod_eq_of_lt (by omega)]
theorem leads_sp {h : Gr} (ho : okH h) {ct br : IA} (hw : wOK h ct br (2 ^ hR h)) {a c S : Nat} (ha : a ≤ hR h) (hc : c < 6) (hs : shOK h S) {K : Int32 → Prop} (hK1 : rc h (nd (allP h) S) a c = true → K 1) (hK0 : rc h (nd (allP h) S) a c = false → K 0) : wp_X9_leads (nI a) (nI c) (nI S) ct K := by
  have h5 := ho.1.1
  obtain ⟨q1, q2⟩ := hs.half ho
  have hS := hs.1
  obtain ⟨m, hm, em, hmc⟩ := (hw _ q1).1 a ha
  unfold opS at hmc
  rw [q2] at hmc
  intro x4 e4
  rw [half_eq hS] at e4
  subst e4
  refine ⟨fun q => absurd q (nI_pos (by omega)), fun _ => ⟨fun q => absurd q (by rw [px_lit, nI_leI (by omega) (by omega)]; omega), fun _ => ?_⟩⟩
  rw [px_lit, pk_mul, nI_add, px_cl (by omega), Nat.mul_comm (S / 2), em]
  refine ⟨px_in (by omega) (by decide), fun q => hK0 ?_, fun q => hK1 ?_⟩
  · rw [px_bit (by omega) (by omega), hmc] at q; exact q
  · rw [px_bit (by omega) (by omega), hmc] at q
    cases e : rc h (nd (allP h) S) a c
    · exact absurd e q
    · rfl
theorem barredNeeds_sp {h : Gr} (ho : okH h) {ct br : IA} (hw : wOK h ct br (2 ^ hR h)) {S : Nat} (hs : shOK h S) {K : Int32 → Prop} (hK : K (nI (bar h (nd (allP h) S) (hN h)))) : wp_X9_barredNeeds (nI S) br K := by
  obtain ⟨q1, q2⟩ := hs.half ho
  have hS := hs.1
  have := (hw _ q1).2
  unfold opS at this
  rw [q2] at this
  unfold wp_X9_barredNeeds
  rw [half_eq hS, px_cl (by omega), this]
  exact ⟨px_in (by omega) (by decide), hK⟩
