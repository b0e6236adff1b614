/-! PURE PART: house -/
def p1 (B : Nat → Int32) (n : Nat) : Nat → Nat → Nat → Bool × Nat
  | 0, _, _ => (false, 0)
  | d + 1, a, c => match rSt B a with
    | (false, e, _) => (false, e)
    | (true, e, _) => if e < n then p1 B n d e (c + 1) else (true, c + 1)
theorem p1_f {B : Nat → Int32} {n d a c e : Nat} {v : IA} (h : rSt B a = (false, e, v)) : p1 B n (d + 1) a c = (false, e) := by
  rw [p1, h]
theorem p1_t {B : Nat → Int32} {n d a c e : Nat} {v : IA} (h : rSt B a = (true, e, v)) : p1 B n (d + 1) a c = if e < n then p1 B n d e (c + 1) else (true, c + 1) := by
  rw [p1, h]
theorem rSt_e {B : Nat → Int32} {a : Nat} : (rSt B a).2.1 ≤ a + 12 := by
  have b1 := he_b (B := B) (a := a + 4)
  have b2 := he_b (B := B) (a := he B (a + 4) + 1)
  unfold rSt
  repeat' split
  all_goals (dsimp only; omega)
theorem p1_b {tp : IA} {n e : Nat} : ∀ d a c, a ≤ n → p1 (bt tp n) n d a c = (false, e) → e ≤ n + 12
  | 0, a, c, _, h => by cases h; omega
  | d + 1, a, c, ha, h => by
    cases hs : rSt (bt tp n) a with
    | mk r x => cases x with
      | mk e' v =>
        cases r with
        | false =>
          rw [p1_f hs] at h
          cases h
          have := rSt_e (B := bt tp n) (a := a)
          rw [hs] at this
          dsimp only at this
          omega
        | true =>
          rw [p1_t hs] at h
          split at h
          · rename_i q
            exact p1_b d e' (c + 1) (by omega) h
          · cases h
theorem stray10_lp {tb : IA} {n : Nat} (hn : n ≤ 48) {K E : Int32 → IA → Int32 → Prop} : ∀ (d a c : Nat) (p : IA), n - a < d → a < n → c ≤ a → (∀ p e, p1 (bt tb n) n d a c = (false, e) → K (nI e) p (nI e)) → (∀ p e cc, p1 (bt tb n) n d a c = (true, cc) → 1 ≤ cc → cc < 1000 → E (nI cc) p (nI e)) → wp_X2_firstStrayByte_7 tb (nI n) E K (d + 1) (nI c) p (nI a) := by
  intro d
  induction d with
  | zero => intro a c p h1; omega
  | succ d ih =>
    intro a c p h1 h2 h3 hK hE
    refine ⟨fun q => absurd q (by rw [px_lit, nI_leI (by omega) (by omega)]; omega), fun _ => ⟨fun q => absurd q (by rw [nI_leI (by omega) (by omega)]; omega), fun _ => rst10 hn (by omega) (fun p' e v hs hp => ⟨fun q => absurd q px_01, fun _ => ?_⟩) (fun p' e v hs => ⟨fun _ => hK p' e (p1_f hs), fun q => absurd rfl q⟩)⟩⟩
    obtain ⟨-, ae, en, -⟩ := rSt_ok hs
    rw [nI_1]
    by_cases q : e < n
    · have e1 : p1 (bt tb n) n (d + 1) a c = p1 (bt tb n) n d e (c + 1) := by rw [p1_t hs, if_pos q]
      rw [e1] at hK hE
      exact ih e (c + 1) p' (by omega) q (by omega) hK hE
    · have e1 : p1 (bt tb n) n (d + 1) a c = (true, c + 1) := by rw [p1_t hs, if_neg q]
      have := hE p' e (c + 1) e1 (by omega) (by omega)
      exact ⟨fun _ => this, fun _ => ⟨fun _ => this, fun q2 => absurd (by rw [nI_leI (by omega) (by omega)]; omega) q2⟩⟩
theorem reads7_lp {s read mt : IA} {n : Nat} (hn : n ≤ 48) {K : Int32 → IA → IA → IA → Int32 → Prop} {E : Int32 → Int32 → IA → Int32 → Prop} : ∀ (d a c : Nat) (t : IA), n - a < d → a ≤ n → (∀ t e, p1 (bt mt n) n d a c = (false, e) → K ((-1000 : Int32) - nI e) s read t (nI e)) → (∀ t e cc, p1 (bt mt n) n d a c = (true, cc) → E (nI cc) 0 t (nI e)) → wp_X11_reads_7 s read mt (nI n) E K d (nI c) t (nI a) := by
  intro d
  induction d with
  | zero => intro a c p h1; omega
  | succ d ih =>
    intro a c t h1 h2 hK hE
    refine rst11 hn (by omega) (fun p' e v hs hp => ⟨fun q => absurd q px_01, fun _ => ?_⟩) (fun p' e v hs => ⟨fun _ => hK p' e (p1_f hs), fun q => absurd rfl q⟩)
    obtain ⟨-, ae, en, -⟩ := rSt_ok hs
    rw [nI_1]
    refine ⟨fun q => ?_, fun q => ?_⟩
    · rw [nI_ltI (by omega) (by omega)] at q
      have e1 : p1 (bt mt n) n (d + 1) a c = p1 (bt mt n) n d e (c + 1) := by rw [p1_t hs, if_pos q]
      rw [e1] at hK hE
      exact ih e (c + 1) p' (by omega) (by omega) hK hE
    · rw [nI_ltI (by omega) (by omega)] at q
      exact hE p' e (c + 1) (by rw [p1_t hs, if_neg q])
def sq (B : Nat → Int32) (n a c cc : Nat) : Prop := (n ≤ a ∧ c = cc) ∨ (a < n ∧ ∃ d, p1 B n d a c = (true, cc))
theorem sq_step {tp : IA} {n a c cc : Nat} (h : sq (bt tp n) n a c cc) (hl : ¬ n ≤ a) : ∃ e v, rSt (bt tp n) a = (true, e, v) ∧ a < e ∧ e ≤ n ∧ sq (bt tp n) n e (c + 1) cc := by
  rcases h with h | ⟨-, d, h⟩
  · exact absurd h.1 hl
  · cases d with
    | zero => cases h
    | succ d =>
      cases hs : rSt (bt tp n) a with
      | mk r x => cases x with
        | mk e v =>
          cases r with
          | false => rw [p1_f hs] at h; cases h
          | true =>
            obtain ⟨-, ae, en, -⟩ := rSt_ok hs
            refine ⟨e, v, rfl, ae, en, ?_⟩
            rw [p1_t hs] at h
            split at h
            · rename_i q
              exact Or.inr ⟨q, d, h⟩
            · rename_i q
              cases h
              exact Or.inl ⟨by omega, rfl⟩
def p2 (B : Nat → Int32) (n : Nat) : Nat → Nat → Gr → Option Gr × Nat
  | 0, _, _ => (none, 0)
  | d + 1, a, h => if n ≤ a then (some h, 0) else match hAdd h (B a) (rSt B a).2.2 with
    | none => (none, a)
    | some h' => p2 B n d (rSt B a).2.1 h'
theorem p2_e {B : Nat → Int32} {n d a : Nat} {h : Gr} (q : n ≤ a) : p2 B n (d + 1) a h = (some h, 0) := by rw [p2, if_pos q]
theorem p2_n {B : Nat → Int32} {n d a e : Nat} {h : Gr} {v : IA} (q : ¬ n ≤ a) (hs : rSt B a = (true, e, v)) (hA : hAdd h (B a) v = none) : p2 B n (d + 1) a h = (none, a) := by
  rw [p2, if_neg q, hs]
  dsimp only
  rw [hA]
theorem p2_s {B : Nat → Int32} {n d a e : Nat} {h h' : Gr} {v : IA} (q : ¬ n ≤ a) (hs : rSt B a = (true, e, v)) (hA : hAdd h (B a) v = some h') : p2 B n (d + 1) a h = p2 B n d e h' := by
  rw [p2, if_neg q, hs]
  dsimp only
  rw [hA]
theorem take10_lp {tb : IA} {n cc : Nat} (hn : n ≤ 48) {K : Int32 → IA → Int32 → Int32 → Int32 → Int32 → IA → IA → IA → IA → Prop} : ∀ (d a c : Nat) (h : Gr) (p : IA) (rooms doors needs : Int32) (work coats beside np : IA), n - a < d → a ≤ n → c ≤ a → okH h → cH rooms doors needs work coats beside np h → sq (bt tb n) n a c cc → (∀ p e h' rooms doors needs work coats beside np, p2 (bt tb n) n d a h = (some h', 0) → okH h' → hR h ≤ hR h' → cH rooms doors needs work coats beside np h' → K (nI cc) p (nI e) rooms doors needs work coats beside np) → (∀ p e i rooms doors needs work coats beside np, p2 (bt tb n) n d a h = (none, i) → i < 48 → K ((-2000 : Int32) - nI i) p (nI e) rooms doors needs work coats beside np) → wp_X2_takeStatements_7 tb (nI n) K d (nI c) p (nI a) rooms doors needs work coats beside np := by
  intro d
  induction d with
  | zero => intro a c h p _ _ _ _ _ _ _ h1; omega
  | succ d ih =>
    intro a c h p rooms doors needs work coats beside np h1 h2 h3 ho hc hq hS hN
    by_cases q : n ≤ a
    · have ec : c = cc := by
        rcases hq with hq | hq
        · exact hq.2
        · omega
      subst ec
      have fin := hS p a h rooms doors needs work coats beside np (p2_e q) ho (Nat.le_refl _) hc
      exact ⟨fun _ => fin, fun _ => ⟨fun _ => fin, fun q2 => absurd (by rw [nI_leI (by omega) (by omega)]; exact q) q2⟩⟩
    · obtain ⟨e0, v0, hs0, ae, en, hq'⟩ := sq_step hq q
      refine ⟨fun q => absurd q (by rw [px_lit, nI_leI (by omega) (by omega)]; omega), fun _ => ⟨fun q2 => absurd q2 (by rw [nI_leI (by omega) (by omega)]; omega), fun _ => rst10 hn (by omega) (fun p' e v hs hp => ⟨fun q => absurd q px_01, fun _ => byteAt_sp hn (by omega) ?_⟩) (fun p' e v hs => by rw [hs0] at hs; cases hs)⟩⟩
      have hs' := hs
      rw [hs0] at hs'
      cases hs'
      refine joins_sp ho hs hp hc (fun h' rooms' doors' needs' work' coats' beside' np' hA ho' hR' hc' => ⟨fun q => absurd q px_01, fun _ => ?_⟩) (fun hA _ _ _ _ _ _ _ => ⟨fun _ => hN _ _ a _ _ _ _ _ _ _ (p2_n q hs hA) (by omega), fun q => absurd rfl q⟩)
      rw [p2_s q hs hA] at hS hN
      rw [nI_1]
      exact ih e0 (c + 1) h' p' _ _ _ _ _ _ _ (by omega) en (by omega) ho' hc' hq' (fun p e h'' r1 r2 r3 r4 r5 r6 r7 g1 g2 g3 g4 => hS p e h'' r1 r2 r3 r4 r5 r6 r7 g1 g2 (by omega) g4) hN
theorem reads68_lp {s mt : IA} {n cc : Nat} (hn : n ≤ 48) {K : Int32 → IA → IA → IA → Int32 → Prop} {E : Int32 → IA → IA → Int32 → Prop} : ∀ (d a c : Nat) (h : Gr) (read t : IA), n - a < d → a ≤ n → okH h → mH read h → sq (bt mt n) n a c cc → (∀ h' read' t e, p2 (bt mt n) n d a h = (some h', 0) → okH h' → mH read' h' → (∀ j, ((3 ≤ j ∧ j < 9) ∨ 77 ≤ j) → read' j = read j) → E 0 read' t (nI e)) → (∀ i read' t e, p2 (bt mt n) n d a h = (none, i) → K ((-2000 : Int32) - nI i) s read' t (nI e)) → (∀ a e v h', okH h' → rSt (bt mt n) a = (true, e, v) → ∀ g, hAdd h' (bt mt n a) v = some g → okH g) → wp_X11_reads_68 s mt (nI n) E K d read t (nI a) := by
  intro d
  induction d with
  | zero => intro a c h read t h1; omega
  | succ d ih =>
    intro a c h read t h1 h2 ho hm hq hS hN hg
    by_cases q : n ≤ a
    · exact ⟨fun _ => hS h read t a (p2_e q) ho hm (fun _ _ => rfl), fun q2 => absurd (by rw [nI_leI (by omega) (by omega)]; exact q) q2⟩
    · obtain ⟨e0, v0, hs0, ae, en, hq'⟩ := sq_step hq q
      refine ⟨fun q2 => absurd q2 (by rw [nI_leI (by omega) (by omega)]; omega), fun _ => sign_sp hn (by omega) (rst11 hn (by omega) (fun p' e v hs hp => ?_) (fun p' e v hs => by rw [hs0] at hs; cases hs))⟩
      have hs' := hs
      rw [hs0] at hs'
      cases hs'
      refine comes_sp ho hs hp hm (fun h' read' hA hm' hj => ⟨fun q => absurd q px_01, fun _ => ?_⟩) (fun hA read' => ⟨fun _ => hN a _ _ _ (p2_n q hs hA), fun q => absurd rfl q⟩)
      rw [p2_s q hs hA] at hS hN
      exact ih e0 (c + 1) h' read' p' (by omega) en (hg _ _ _ _ ho hs _ hA) hm' hq' (fun h'' r t e g1 g0 g2 g3 => hS h'' r t e g1 g0 g2 (fun j jj => (g3 j jj).trans (hj j jj))) hN hg
theorem reads39_lp {s : IA} {K : Int32 → IA → IA → IA → Int32 → Prop} {E : IA → Int32 → Prop} (hE : ∀ v : IA, (∀ j, j < 120 → v j = s j) → E v 0) {at_ : Int32} : ∀ (d i : Nat) (v : IA), i + d = 120 → (∀ j, j < i → v j = s j) → wp_X11_reads_39 s E K (d + 1) (nI i) v at_ := by
  intro d
  induction d with
  | zero =>
    intro i v hi hv
    have e : i = 120 := by omega
    subst e
    exact ⟨fun _ => hE v hv, fun q => absurd (by decide) q⟩
  | succ d ih =>
    intro i v hi hv
    refine ⟨fun q => absurd q (by rw [px_lit, nI_leI (by omega) (by omega)]; omega), fun _ => ⟨px_in (by omega) (by decide), ?_⟩⟩
    rw [px_cl (by omega), nI_1]
    refine ih (i + 1) _ (by omega) (fun j hj => ?_)
    by_cases e : j = i
    · subst e; exact up_s
    · rw [up_n e]; exact hv j (by omega)
theorem reads114_lp {x1 at_ : Int32} {read told : IA} {K : Int32 → IA → IA → IA → Int32 → Prop} (hK : ∀ v : IA, (∀ j, j < 120 → v j = read j) → K x1 v read told at_) : ∀ (d i : Nat) (v : IA), i + d = 120 → (∀ j, j < i → v j = read j) → wp_X11_reads_114 x1 read told at_ K (d + 1) (nI i) v := by
  intro d
  induction d with
  | zero =>
    intro i v hi hv
    have e : i = 120 := by omega
    subst e
    exact ⟨fun _ => hK v hv, fun q => absurd (by decide) q⟩
  | succ d ih =>
    intro i v hi hv
    refine ⟨fun q => absurd q (by rw [px_lit, nI_leI (by omega) (by omega)]; omega), fun _ => ⟨px_in (by omega) (by decide), ?_⟩⟩
    rw [px_cl (by omega), nI_1]
    refine ih (i + 1) _ (by omega) (fun j hj => ?_)
    by_cases e : j = i
    · subst e; exact up_s
    · rw [up_n e]; exact hv j (by omega)
theorem cH_cp {rooms doors needs : Int32} {work coats beside np w1 w2 w3 w4 : IA} {h : Gr} (ho : okH h) (hc : cH rooms doors needs work coats beside np h) : cH rooms doors needs (va_cpy work w1 0 0 6) (va_cpy coats w2 0 0 6) (va_cpy beside w3 0 0 6) (va_cpy np w4 0 0 32) h := by
  obtain ⟨a1, a2, a3, a4, a5, a6⟩ := hc
  obtain ⟨h5, h12, h8⟩ := ho.1
  refine ⟨a1, a2, a3, fun r x y => ⟨?_, ?_⟩, fun a x => ?_, fun j x => ?_⟩
  · rw [cp_in (by omega)]; exact (a4 r x y).1
  · rw [cp_in (by omega)]; exact (a4 r x y).2
  · rw [cp_in x]; exact a5 a x
  · rw [cp_in (by omega)]; exact a6 j x
theorem hAdd_ok {tp v : IA} {n a e : Nat} {h g : Gr} (ho : okH h) (hs : rSt (bt tp n) a = (true, e, v)) (hA : hAdd h (bt tp n a) v = some g) : okH g := by
  obtain ⟨hl, -, -, ⟨d0, b0, e0⟩, ⟨d1, b1, e1⟩, hh⟩ := rSt_ok hs
  have c0 : (v 0).toNatClampNeg = d0 := by rw [e0, px_cl (by omega)]
  have c1 : (v 1).toNatClampNeg = d1 := by rw [e1, px_cl (by omega)]
  unfold hAdd at hA
  rw [c0, c1] at hA
  rcases hl with hl | hl | hl
  · rw [if_pos hl] at hA
    split at hA
    · rename_i q
      cases hA
      exact addR_ok ho q.1 b0 q.2.1 q.2.2.1 q.2.2.2
    · cases hA
  · rw [if_neg (fun q => absurd (hl.symm.trans q) (by decide)), if_pos hl] at hA
    split at hA
    · rename_i q
      cases hA
      exact addD_ok ho q.1 q.2.1 q.2.2.1 q.2.2.2.2
    · cases hA
  · obtain ⟨⟨d2, b2, e2⟩, ⟨d3, b3, e3⟩⟩ := hh hl
    have c2 : (v 2).toNatClampNeg = d2 := by rw [e2, px_cl (by omega)]
    have c3 : (v 3).toNatClampNeg = d3 := by rw [e3, px_cl (by omega)]
    rw [if_neg (fun q => absurd (hl.symm.trans q) (by decide)), if_neg (fun q => absurd (hl.symm.trans q) (by decide)), c2, c3] at hA
    split at hA
    · rename_i q
      cases hA
      exact addN_ok ho q.1 q.2.1 q.2.2.1 q.2.2.2.1 b3 q.2.2.2.2
    · cases hA
theorem neg1000 : ∀ e, e < 100 → ((-1000 : Int32) - nI e) ≤ 0 := by decide +kernel
theorem neg2000 : ∀ e, e < 100 → ((-2000 : Int32) - nI e) ≤ 0 := by decide +kernel
/-- the model's whole reading -/
theorem house11_sp {s read mt told : IA} {n : Nat} {at0 : Int32} (hn : n ≤ 48) {h : Gr} (ho : okH h) (hm : mH s h) {K : Int32 → IA → IA → IA → Int32 → Int32 → Prop} (hA : ∀ e r t a, p1 (bt mt n) n (n + 1) 0 0 = (false, e) → K ((-1000 : Int32) - nI e) s r t 0 a) (hB : ∀ cc i r t a, p1 (bt mt n) n (n + 1) 0 0 = (true, cc) → p2 (bt mt n) n (n + 1) 0 h = (none, i) → K ((-2000 : Int32) - nI i) s r t 0 a) (hC : ∀ cc h' s' r t a, p1 (bt mt n) n (n + 1) 0 0 = (true, cc) → p2 (bt mt n) n (n + 1) 0 h = (some h', 0) → mH s' h' → (∀ j, ((3 ≤ j ∧ j < 9) ∨ (77 ≤ j ∧ j < 120)) → s' j = s j) → K (nI cc) s' r t 0 a) : wp_X11_house s read mt told (nI n) at0 K := by
  refine ⟨n + 1, reads7_lp hn (n + 1) 0 0 told (by omega) (by omega) (fun t e h1 => hA e _ _ _ h1) (fun t e cc h1 => ⟨120 + 1, reads39_lp (fun rd hrd => ⟨n + 1, ?_⟩) 120 0 read (by omega) (fun j hj => absurd hj (by omega))⟩)⟩
  have hq : sq (bt mt n) n 0 0 cc := by
    by_cases q : 0 < n
    · exact Or.inr ⟨q, n + 1, h1⟩
    · have en : n = 0 := by omega
      subst en
      have hs : rSt (bt mt 0) 0 = (false, 0, vv 0 0 0 0) := by
        have b0 : bt mt 0 0 = (-1 : Int32) := rfl
        unfold rSt
        rw [b0]
        rfl
      rw [p1_f hs] at h1
      cases h1
  refine reads68_lp hn (n + 1) 0 0 h rd t (by omega) (by omega) ho (hm.ext ho (fun j hj => hrd j (by omega))) hq (fun h' rd' t e g1 g0 g2 g3 => ⟨120 + 1, reads114_lp (fun s' hs' => hC cc h' s' _ _ _ h1 g1 (g2.ext g0 (fun j hj => hs' j (by omega))) (fun j hj => ?_)) 120 0 s (by omega) (fun j hj => absurd hj (by omega))⟩) (fun i rd' t e g1 => hB cc i _ _ _ h1 g1) (fun a e v h' ho' hs g hA => hAdd_ok ho' hs hA)
  rw [hs' j (by omega), g3 j (by omega), hrd j (by omega)]
theorem m_house {tb mt s read told parts ct br : IA} {tl ml at1 at2 : Int32} {dr dd dn : Int32} {dw dc db dp : IA} {rooms doors needs : Int32} {work coats beside np : IA} {h p : Gr} {b : Nat → Nat} {k : Nat} {f : Gr} (ht : Rtape tb tl mt ml) (hS : SC s h p b k f) (hc : cH rooms doors needs work coats beside np h) (hw : wOK h ct br (2 ^ hR h)) : wp_X10_house tb tl parts at1 dr dd dn dw dc db dp ct br rooms doors needs work coats beside np (fun r tl' _ _ _ _ _ _ _ _ _ ct' br' rooms' doors' needs' work' coats' beside' np' => wp_X11_house s read mt told ml at2 (fun r' s' _ _ ml' _ => r = r' ∧ Rtape tb tl' mt ml' ∧ ∃ h', SC s' h' p b k f ∧ cH rooms' doors' needs' work' coats' beside' np' h' ∧ wOK h' ct' br' (2 ^ hR h'))) := by
  obtain ⟨n, hn, rfl, rfl, hb⟩ := ht
  have eB : bt tb n = bt mt n := bt_cg hb
  obtain ⟨ho, hop, hob, hok, hof, hmh, hmp, hmb, hmk, hmf⟩ := hS
  have tz : Rtape tb 0 mt 0 := ⟨0, by omega, rfl, rfl, fun k hk => absurd hk (by omega)⟩
  have same : ∃ h', SC s h' p b k f ∧ cH rooms doors needs work coats beside np h' ∧ wOK h' ct br (2 ^ hR h') := ⟨h, ⟨ho, hop, hob, hok, hof, hmh, hmp, hmb, hmk, hmf⟩, hc, hw⟩
  have fst : ∀ K' : Int32 → IA → Int32 → Prop, (∀ p e, p1 (bt tb n) n (n + 1) 0 0 = (false, e) → K' (nI e) p (nI e)) → (∀ p e cc, p1 (bt tb n) n (n + 1) 0 0 = (true, cc) → 1 ≤ cc → cc < 1000 → K' (-9 : Int32) p (nI e)) → wp_X2_firstStrayByte tb (nI n) parts at1 K' := by
    intro K' h1 h2
    by_cases q : 0 < n
    · exact ⟨n + 1 + 1, stray10_lp hn (n + 1) 0 0 parts (by omega) q (by omega) h1 (fun p e cc g1 g2 g3 => ⟨fun q => absurd q (nI_ne0 (by omega) (by omega)), fun _ => h2 p e cc g1 g2 g3⟩)⟩
    · have en : n = 0 := by omega
      subst en
      have hs : rSt (bt tb 0) 0 = (false, 0, vv 0 0 0 0) := by
        have b0 : bt tb 0 0 = (-1 : Int32) := rfl
        unfold rSt
        rw [b0]
        rfl
      exact ⟨1, ⟨fun q => absurd q (by decide), fun _ => ⟨fun _ => ⟨fun _ => h1 parts 0 (p1_f hs), fun q => absurd rfl q⟩, fun q => absurd (by decide) q⟩⟩⟩
  show wp_X2_read tb (nI n) parts at1 rooms doors needs (va_cpy work dw 0 0 6) (va_cpy coats dc 0 0 6) (va_cpy beside db 0 0 6) (va_cpy np dp 0 0 32) _
  refine fst _ (fun pp e g => ⟨fun q => ?_, fun _ => ?_⟩) (fun pp e cc g g1 g2 => ⟨fun _ => ⟨n + 1, ?_⟩, fun q => absurd rfl q⟩)
  · have := p1_b _ _ _ (by omega) g
    exact absurd q (px_n9 (by omega))
  · have eb := p1_b _ _ _ (by omega) g
    rw [eB] at g
    refine ⟨fun _ => house11_sp hn ho hmh (fun e' r t a g' => ?_) (fun cc i r t a g' => ?_) (fun cc h' s' r t a g' => ?_), fun q => absurd (neg1000 e (by omega)) q⟩
    · rw [g] at g'
      cases g'
      exact ⟨rfl, tz, same⟩
    · rw [g] at g'
      cases g'
    · rw [g] at g'
      cases g'
  · have hq : sq (bt tb n) n 0 0 cc := by
      by_cases q : 0 < n
      · exact Or.inr ⟨q, n + 1, g⟩
      · have en : n = 0 := by omega
        subst en
        have hs : rSt (bt tb 0) 0 = (false, 0, vv 0 0 0 0) := by
          have b0 : bt tb 0 0 = (-1 : Int32) := rfl
          unfold rSt
          rw [b0]
          rfl
        rw [p1_f hs] at g
        cases g
    rw [eB] at g
    refine take10_lp hn (n + 1) 0 0 h pp _ _ _ _ _ _ _ (by omega) (by omega) (by omega) ho (cH_cp ho hc) hq (fun p' e' h' rooms' doors' needs' work' coats' beside' np' g3 ho' hR' hc' => ⟨fun q => absurd q (nI_nle (by omega) (by omega)), fun _ => ?_⟩) (fun p' e' i rooms' doors' needs' work' coats' beside' np' g3 hi => ⟨fun _ => ?_, fun q => absurd (neg2000 i (by omega)) q⟩)
    · have hc2 := cH_cp (w1 := work) (w2 := coats) (w3 := beside) (w4 := np) ho' hc'
      obtain ⟨r1, r2, r3, -⟩ := hc'
      subst r1 r2 r3
      rw [eB] at g3
      show wp_X9_learn ct br (nI (hR h')) (nI (hN h')) _ _ _
      refine learn_sp ho' hc2.2.2.2.2.1 hc2.2.2.2.2.2 (fun ct' br' hw' => house11_sp hn ho hmh (fun e' r t a g' => ?_) (fun cc i r t a g' g4 => ?_) (fun cc' h2 s' r t a g' g4 hm' hj => ?_))
      · rw [g] at g'
        cases g'
      · rw [g3] at g4
        cases g4
      · rw [g] at g'
        rw [g3] at g4
        cases g'
        cases g4
        refine ⟨rfl, tz, h', ⟨ho', ⟨hop.1, fun i hi => ⟨(hop.2 i hi).1, Nat.le_trans (hop.2 i hi).2.1 hR', (hop.2 i hi).2.2⟩⟩, hob, fun i hi => ⟨(hok i hi).1, Nat.le_trans (hok i hi).2 hR'⟩, hof, hm', hmp.ext hop (fun j q => hj j (by omega)), hmb.ext (fun j q1 q2 => hj j (by omega)), (hj 8 (by omega)).trans hmk, hmf.ext (fun j q1 q2 => hj j (by omega))⟩, hc2, hw'⟩
    · rw [eB] at g3
      refine house11_sp hn ho hmh (fun e' r t a g' => ?_) (fun cc i r t a g' g4 => ?_) (fun cc' h2 s' r t a g' g4 hm' hj => ?_)
      · rw [g] at g'
        cases g'
      · rw [g3] at g4
        cases g4
        exact ⟨rfl, tz, same⟩
      · rw [g3] at g4
        cases g4
