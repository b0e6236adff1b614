/-! PURE PART: what one comes to -/
def it (h : Gr) (o : Nat) : Nat → Nat → Nat
  | 0, S => S
  | n + 1, S => it h o n (gr h o S)
/-- c is reached from a through open rooms -/
def rc (h : Gr) (o a c : Nat) : Bool := (it h o 5 (one a o)).testBit c
theorem gr_ge {h : Gr} {o S : Nat} (hs : subM S o) : subM S (gr h o S) := fun i hi => by
  unfold gr
  rw [tb_and, tb_or, hi, hs i hi]; rfl
theorem gr_mono {h : Gr} {o S T : Nat} (hs : subM S T) : subM (gr h o S) (gr h o T) := fun i hi => by
  unfold gr at *
  rw [tb_and, tb_or, Bool.and_eq_true, Bool.or_eq_true] at hi
  rw [tb_and, tb_or, hi.2, Bool.and_true, Bool.or_eq_true]
  rcases hi.1 with h1 | h1
  · exact Or.inl (hs i h1)
  · right
    obtain ⟨a, h2, h3, h4⟩ := (nb_tb _).mp h1
    exact (nb_tb _).mpr ⟨a, h2, hs a h3, h4⟩
theorem it_sub {h : Gr} {o : Nat} : ∀ n S, subM S o → subM (it h o n S) o
  | 0, _, hs => hs
  | n + 1, S, _ => it_sub n (gr h o S) gr_sub
theorem it_ge {h : Gr} {o : Nat} : ∀ n S, subM S o → subM S (it h o n S)
  | 0, _, _ => fun _ hi => hi
  | n + 1, S, hs => fun i hi => it_ge n (gr h o S) gr_sub i (gr_ge hs i hi)
theorem it_mono {h : Gr} {o : Nat} : ∀ n S T, subM S T → subM (it h o n S) (it h o n T)
  | 0, _, _, hs => hs
  | n + 1, _, _, hs => it_mono n _ _ (gr_mono hs)
theorem it_add {h : Gr} {o : Nat} : ∀ m n S, it h o (m + n) S = it h o n (it h o m S)
  | 0, n, S => by rw [Nat.zero_add]; rfl
  | m + 1, n, S => by
    rw [show m + 1 + n = (m + n) + 1 by omega, it, it_add m n]; rfl
theorem it_b {h : Gr} {o : Nat} (h6 : o < 64) : ∀ n S, S < 64 → it h o n S < 64
  | 0, _, hs => hs
  | n + 1, S, _ => it_b h6 n (gr h o S) (gr_b h6)
theorem it_fix {h : Gr} {o S : Nat} (e : gr h o S = S) : ∀ n, it h o n S = S
  | 0 => rfl
  | n + 1 => by rw [it, e]; exact it_fix e n
def cnt (S : Nat) : Nat := (if S.testBit 0 then 1 else 0) + (if S.testBit 1 then 1 else 0) + (if S.testBit 2 then 1 else 0) + (if S.testBit 3 then 1 else 0) + (if S.testBit 4 then 1 else 0) + (if S.testBit 5 then 1 else 0)
theorem cnt_lt : ∀ S, S < 64 → ∀ T, T < 64 → S &&& T = S → S ≠ T → cnt S < cnt T := by decide +kernel
theorem cnt_6 : ∀ S, S < 64 → cnt S ≤ 6 := by decide +kernel
theorem cnt_1 : ∀ S, S < 64 → S ≠ 0 → 1 ≤ cnt S := by decide +kernel
theorem sub_and {S T : Nat} (h : subM S T) : S &&& T = S := by
  apply tb_ext
  intro i
  rw [tb_and]
  cases e : S.testBit i
  · rfl
  · rw [h i e]; rfl
theorem it_soon {h : Gr} {o : Nat} (h6 : o < 64) : ∀ (d S : Nat), 6 - cnt S ≤ d → S < 64 → subM S o → ∀ n c, (it h o n S).testBit c = true → ∃ m, m ≤ 6 - cnt S ∧ (it h o m S).testBit c = true := by
  intro d
  induction d with
  | zero =>
    intro S hd hS hs n c hc
    by_cases e : gr h o S = S
    · rw [it_fix e] at hc
      exact ⟨0, Nat.zero_le _, hc⟩
    · have := cnt_lt S hS _ (gr_b h6) (sub_and (gr_ge hs)) (fun q => e q.symm)
      have := cnt_6 _ (gr_b (h := h) (S := S) h6)
      omega
  | succ d ih =>
    intro S hd hS hs n c hc
    by_cases e : gr h o S = S
    · rw [it_fix e] at hc
      exact ⟨0, Nat.zero_le _, hc⟩
    · have h1 := cnt_lt S hS _ (gr_b h6) (sub_and (gr_ge hs)) (fun q => e q.symm)
      have h2 := cnt_6 _ (gr_b (h := h) (S := S) h6)
      cases n with
      | zero => exact ⟨0, Nat.zero_le _, hc⟩
      | succ n =>
        obtain ⟨m, hm, hb⟩ := ih (gr h o S) (by omega) (gr_b h6) gr_sub n c hc
        exact ⟨m + 1, by omega, hb⟩
theorem it_0 {h : Gr} {o : Nat} : ∀ n, it h o n 0 = 0
  | 0 => rfl
  | n + 1 => by
    have e : gr h o 0 = 0 := by
      apply tb_ext
      intro i
      unfold gr
      have : (nb h 0 (hR h + 1)).testBit i = false := by
        cases e : (nb h 0 (hR h + 1)).testBit i
        · rfl
        · obtain ⟨a, -, h2, -⟩ := (nb_tb _).mp e
          simp at h2
      rw [tb_and, tb_or, this]; simp
    rw [it, e]; exact it_0 n
theorem rc_iff {h : Gr} {o a c : Nat} (h6 : o < 64) : rc h o a c = true ↔ ∃ n, (it h o n (one a o)).testBit c = true := by
  constructor
  · exact fun hh => ⟨5, hh⟩
  · rintro ⟨n, hn⟩
    have hS : one a o < 64 := Nat.lt_of_le_of_lt Nat.and_le_right h6
    by_cases e : one a o = 0
    · rw [e, it_0] at hn; simp at hn
    · obtain ⟨m, hm, hb⟩ := it_soon h6 6 (one a o) (by omega) hS (one_sub a o) n c hn
      have := cnt_1 _ hS e
      unfold rc
      rw [show 5 = m + (5 - m) by omega, it_add]
      exact it_ge _ _ (it_sub _ _ (one_sub a o)) c hb
theorem wr_neg {h : Gr} {o to : Nat} : ∀ d n S, n + d < 1000 → (wr h o to d n S < 0 ↔ ∀ m, m < d → (it h o m S).testBit to = false)
  | 0, n, S, _ => by
    constructor
    · intro _ m hm; omega
    · intro _; exact px_neg9
  | d + 1, n, S, hb => by
    rw [wr]
    cases e : S.testBit to
    · simp only [Bool.false_eq_true, if_false]
      rw [wr_neg d (n + 1) (gr h o S) (by omega)]
      constructor
      · intro hh m hm
        cases m with
        | zero => exact e
        | succ m => exact hh m (by omega)
      · intro hh m hm
        exact hh (m + 1) (by omega)
    · simp only [if_true]
      constructor
      · intro q; exact absurd q (nI_pos (by omega))
      · intro hh
        have := hh 0 (by omega)
        rw [it, e] at this; cases this
theorem wy_neg {h : Gr} {o a c : Nat} (h6 : o < 64) : (wy h o a c < 0) ↔ rc h o a c = false := by
  unfold wy
  rw [wr_neg 6 0 _ (by omega)]
  constructor
  · intro hh; exact hh 5 (by omega)
  · intro hh m hm
    cases e : (it h o m (one a o)).testBit c
    · rfl
    · rw [(rc_iff h6).mpr ⟨m, e⟩] at hh; cases hh
theorem comesTo_sp {h : Gr} (ho : okH h) {s : IA} (hm : mH s h) {a o to : Nat} (h6 : o < 64) (ha : a < 6) (ht : to < 6) {K : Int32 → Prop} (hK1 : rc h o a to = true → K 1) (hK0 : rc h o a to = false → K 0) : wp_X11_comesTo (nI a) (nI to) (nI o) s K := by
  refine wayOf_sp ho hm h6 ha ht ⟨fun q => hK0 ((wy_neg h6).mp q), fun q => hK1 ?_⟩
  cases e : rc h o a to
  · exact absurd ((wy_neg h6).mpr e) q
  · rfl
theorem rc_trans {h : Gr} {o a b c : Nat} (h6 : o < 64) (h1 : rc h o a b = true) (h2 : rc h o b c = true) : rc h o a c = true := by
  obtain ⟨m, hm⟩ := (rc_iff h6).mp h1
  obtain ⟨n, hn⟩ := (rc_iff h6).mp h2
  refine (rc_iff h6).mpr ⟨m + n, ?_⟩
  rw [it_add]
  refine it_mono n (one b o) _ (fun i hi => ?_) c hn
  unfold one at hi
  rw [tb_and, tb_pow, Bool.and_eq_true] at hi
  have e : b = i := by simpa using hi.1
  rw [← e]; exact hm
theorem rc_open {h : Gr} {o a c : Nat} (hh : rc h o a c = true) : o.testBit c = true := it_sub 5 _ (one_sub a o) c hh
theorem rc_self {h : Gr} {o a : Nat} (h6 : o < 64) (ha : o.testBit a = true) : rc h o a a = true := (rc_iff h6).mpr ⟨0, by
  unfold it one
  rw [tb_and, tb_pow, ha]; simp⟩
theorem rc_step {h : Gr} {o a c : Nat} (h6 : o < 64) (hR6 : a ≤ hR h) (ha : o.testBit a = true) (hb : (hB h a).testBit c = true) (hc : o.testBit c = true) : rc h o a c = true := (rc_iff h6).mpr ⟨1, by
  show (gr h o (one a o)).testBit c = true
  unfold gr
  rw [tb_and, hc, tb_or, Bool.and_true, Bool.or_eq_true]
  right
  refine (nb_tb _).mpr ⟨a, by omega, ?_, hb⟩
  unfold one
  rw [tb_and, tb_pow, ha]; simp⟩
/-- a table that is reflexive, steps, is transitive and sound is reachability -/
theorem rc_table {h : Gr} {o : Nat} (ho : okH h) (h6 : o < 64) (hoR : ∀ i, o.testBit i = true → i ≤ hR h) {M : Nat → Nat} (hself : ∀ a, a ≤ hR h → o.testBit a = true → (M a).testBit a = true) (hstep : ∀ a c, a ≤ hR h → o.testBit a = true → (hB h a).testBit c = true → o.testBit c = true → (M a).testBit c = true) (htr : ∀ a b c, a ≤ hR h → b ≤ hR h → (M a).testBit b = true → (M b).testBit c = true → (M a).testBit c = true) (hsd : ∀ a c, a ≤ hR h → (M a).testBit c = true → rc h o a c = true) {a c : Nat} (ha : a ≤ hR h) : (M a).testBit c = rc h o a c := by
  cases e : rc h o a c
  · cases e2 : (M a).testBit c
    · rfl
    · rw [hsd a c ha e2] at e; cases e
  · obtain ⟨n, hn⟩ := (rc_iff h6).mp e
    have key : ∀ n S, subM S o → (∀ x, S.testBit x = true → (M a).testBit x = true) → ∀ x, (it h o n S).testBit x = true → (M a).testBit x = true := by
      intro n
      induction n with
      | zero => intro S _ hS x hx; exact hS x hx
      | succ n ih =>
        intro S hs hS x hx
        refine ih (gr h o S) gr_sub (fun y hy => ?_) x hx
        have hyo := gr_sub y hy
        unfold gr at hy
        rw [tb_and, tb_or, Bool.and_eq_true, Bool.or_eq_true] at hy
        rcases hy.1 with h1 | h1
        · exact hS y h1
        · obtain ⟨z, h2, h3, h4⟩ := (nb_tb _).mp h1
          exact htr a z y ha (by omega) (hS z h3) (hstep z y (by omega) (hs z h3) h4 hyo)
    refine key n (one a o) (one_sub a o) (fun x hx => ?_) c hn
    have hxo := one_sub a o x hx
    unfold one at hx
    rw [tb_and, tb_pow, Bool.and_eq_true] at hx
    have e : a = x := by simpa using hx.1
    subst e
    exact hself a ha hxo
