/-! PURE PART: the model's out -/
theorem sqM_z {f : Gr} {sq : IA} {k : Nat} (h : sqM f sq k) (e : fS f k = 0) : sqM f sq (k + 1) := fun j h1 h2 => by
  by_cases ej : j = k
  · subst ej; exact absurd e h2
  · exact h j (by omega) h2
theorem sqM_s {f : Gr} {sq : IA} {k : Nat} (h : sqM f sq k) : sqM f (upd sq (fN f k) (nI k)) (k + 1) := fun j h1 h2 => by
  by_cases ej : j = k
  · subst ej; exact up_s
  · have := fN_lt (f := f) (show j < k by omega) h2
    rw [up_n (by omega)]
    exact h j (by omega) h2
theorem out23_lp {f : Gr} {d : Nat} (hf : okF f) (hd1 : d < 25) (hd : ∀ k, k < 25 → fS f k = 2 → k = d) (hd2 : fS f d = 2) {s : IA} (hs : ∀ k, k < 25 → s (95 + k) = nI (fS f k)) {E : Int32 → Int32 → IA → Prop} {K : Int32 → IA → IA → IA → IA → Prop} (hE : ∀ sq, sqM f sq 25 → E (nI (fQ f)) (nI (fN f d)) sq) : ∀ (dd k : Nat) (sq : IA), k + dd = 25 → sqM f sq k → wp_X11_out_23 s E K (dd + 1) (nI (fN f k)) (nI (drN f d k)) (nI k) sq := by
  have f10 := hf.2.2.2.2.2.2.1
  intro dd
  induction dd with
  | zero =>
    intro k sq hk hq
    obtain rfl : k = 25 := by omega
    rw [hf.2.2.2.2.2.1, show drN f d 25 = fN f d from if_pos hd1]
    exact ⟨fun _ => hE sq hq, fun z => absurd (by decide) z⟩
  | succ dd ih =>
    intro k sq hk hq
    have ek : (95 : Int32) + nI k = nI (95 + k) := by rw [px_lit, nI_add]
    have hf2 := hf.2.2.2.1 k (by omega)
    have hle : fN f k ≤ 10 := by
      have := fN_mono (f := f) (show k ≤ 25 by omega)
      rw [hf.2.2.2.2.2.1] at this
      omega
    refine ⟨fun q => ?_, fun _ => ?_⟩
    · rw [px_lit, nI_leI (by omega) (by omega)] at q
      omega
    · rw [ek, px_cl (by omega), hs k (by omega)]
      refine ⟨px_in (by omega) (by decide), fun q => ?_, fun q => ⟨fun q2 => ?_, fun q2 => ?_⟩⟩
      · rw [← nI_0, nI_eq (by omega) (by omega)] at q
        have := ih (k + 1) sq (by omega) (sqM_z hq q)
        rw [fN_z q, drN_n (fun z => by rw [z] at hd2; omega)] at this
        rw [nI_1]
        exact this
      · have hq0 : fS f k ≠ 0 := fun z => q (by rw [z]; rfl)
        rw [px_lit, nI_eq (by omega) (by omega)] at q2
        have ed := hd k (by omega) q2
        have hlt := fN_q hf (show k < 25 by omega) hq0
        have := ih (k + 1) _ (by omega) (sqM_s hq)
        rw [fN_s hq0, show drN f d (k + 1) = fN f k by unfold drN; rw [if_pos (by omega), ed]] at this
        rw [px_cl (by omega), nI_1, nI_1]
        exact ⟨px_in (by omega) (by decide), this⟩
      · have hq0 : fS f k ≠ 0 := fun z => q (by rw [z]; rfl)
        rw [px_lit, nI_eq (by omega) (by omega)] at q2
        have hlt := fN_q hf (show k < 25 by omega) hq0
        have := ih (k + 1) _ (by omega) (sqM_s hq)
        rw [fN_s hq0, drN_n (fun z => q2 (by rw [← z]; exact hd2))] at this
        rw [px_cl (by omega), nI_1, nI_1]
        exact ⟨px_in (by omega) (by decide), this⟩
theorem out94_lp {E : IA → Prop} {K : Int32 → IA → IA → IA → IA → Prop} (hE : ∀ far, FA far (fun _ => none) → E far) : ∀ (d k : Nat) (far : IA), k + d = 10240 → (∀ q, q < k → far q = (-9 : Int32)) → wp_X11_out_94 E K (d + 1) (nI k) far := by
  intro d
  induction d with
  | zero =>
    intro k far hk h
    obtain rfl : k = 10240 := by omega
    exact ⟨fun _ => hE far (fun q hq => h q hq), fun z => absurd (by decide) z⟩
  | succ d ih =>
    intro k far hk h
    refine ⟨fun q => ?_, fun _ => ⟨px_in (by omega) (by decide), ?_⟩⟩
    · rw [px_lit, nI_leI (by omega) (by omega)] at q
      omega
    · rw [px_cl (by omega), nI_1]
      refine ih (k + 1) _ (by omega) (fun q hq => ?_)
      by_cases e : q = k
      · subst e; exact up_s
      · rw [up_n e]; exact h q (by omega)
theorem FA_put {far : IA} {fm : Nat → Option Nat} {q v : Nat} (h : FA far fm) : FA (upd far q (nI v)) (ptF fm q v) := fun p hp => by
  by_cases e : p = q
  · subst e; rw [up_s, ptF_s]; rfl
  · rw [up_n e, ptF_n e]; exact h p hp
theorem QU_put {queue : IA} {qu : Nat → Nat} {sz q : Nat} (h : QU queue qu sz) : QU (upd queue sz (nI q)) (ptQ qu sz q) (sz + 1) := fun j hj => by
  by_cases e : j = sz
  · subst e; rw [up_s, ptQ_s]
  · rw [up_n e, ptQ_n e]; exact h j (by omega)
theorem oI_neg {o : Option Nat} (h : ∀ v, o = some v → v < 2 ^ 31) : oI o < 0 ↔ o = none := by
  cases o with
  | none => exact ⟨fun _ => rfl, fun _ => by decide⟩
  | some v => exact ⟨fun q => absurd q (nI_pos (h v rfl)), fun q => by cases q⟩
theorem st240 {A : Nat → Nat → Prop} {n D g k q0 v y ps q N : Nat} {fm : Nat → Option Nat} {qu : Nat → Nat} {sz : Nat} {Dn : Nat → Prop} {far queue : IA} {E : Int32 → Int32 → IA → IA → Prop} {K : Int32 → IA → IA → IA → IA → Prop} (hps : ps < 2) (hq : q < 10240) (hx : (((1024 : Int32) * nI y) + (nI (q0 % 1024) ||| (nI ps <<< (nI (q0 / 1024) &&& 31)))) = nI q) (hm : mR A n D (v + 1) (q / 1024) (q % 1024)) (hF : FA far fm) (hQ : QU queue qu sz) (hb : bQ A n D g k q0 v fm qu sz Dn) (hK : ∀ far' queue' fm' qu' sz', FA far' fm' → QU queue' qu' sz' → bQ A n D g k q0 v fm' qu' sz' (fun p => Dn p ∨ p = q) → wp_X11_out_240 (nI k) (nI (q0 / 1024)) (nI (q0 % 1024)) E K N (nI sz') (nI y) (nI (ps + 1)) far' queue') : wp_X11_out_240 (nI k) (nI (q0 / 1024)) (nI (q0 % 1024)) E K (N + 1) (nI sz) (nI y) (nI ps) far queue := by
  have hsz := bQ_sz hb
  obtain ⟨hv1, hv2, hv3⟩ := bQ_v hb
  have hk := hb.1.1
  refine ⟨fun z => ?_, fun _ x10 e10 => ?_⟩
  · rw [px_lit, nI_leI (by omega) (by omega)] at z
    omega
  · rw [hx] at e10
    subst e10
    rw [px_cl (by omega), hF q hq]
    have hval : ∀ w, fm q = some w → w < 2 ^ 31 := by
      intro w hw
      obtain ⟨j, j1, j2⟩ := hb.2.2.1 q w hq hw
      obtain ⟨-, u, u1, u2, -⟩ := hb.2.2.2.1 j j1
      rw [j2, hw] at u1
      cases u1
      omega
    refine ⟨px_in hq (by decide), fun z => ?_, fun z => ?_⟩
    · rw [oI_neg hval] at z
      have hlt := ctF_lt z 10240 hq
      rw [hb.2.1] at hlt
      have hqk := hQ k hk
      rw [hb.2.2.2.2.2.2.2.1.1] at hqk
      have hfk : far q0 = nI v := by
        rw [hF q0 hv2, hb.2.2.2.2.2.2.2.1.2]
        rfl
      rw [px_cl (show k < 2 ^ 31 by omega), hqk, px_cl (show q0 < 2 ^ 31 by omega), hfk, px_cl (show sz < 2 ^ 31 by omega), nI_1, nI_1, nI_1]
      exact ⟨px_in (by omega) (by decide), px_in hv2 (by decide), px_in hlt (by decide), hK _ _ _ _ _ (FA_put hF) (QU_put hQ) (bQ_push hb hq z hm)⟩
    · have hne : fm q ≠ none := fun e => z ((oI_neg hval).mpr e)
      cases e : fm q with
      | none => exact absurd e hne
      | some c =>
        rw [nI_1]
        exact hK _ _ _ _ _ hF hQ (bQ_skip hb hq e)
def sY (A : Nat → Nat → Prop) (q0 y q : Nat) : Prop := A (q0 / 1024) y ∧ (q0 % 1024).testBit y = false ∧ (q = 1024 * y + q0 % 1024 ∨ q = 1024 * y + (q0 % 1024 ||| 2 ^ (q0 / 1024)))
theorem out206_lp {f : Gr} (hf : okF f) {sq : IA} (hs : sqM f sq 25) {D g k q0 v : Nat} (hD : D < fQ f) {E : Int32 → Int32 → IA → IA → Prop} {K : Int32 → IA → IA → IA → IA → Prop} (hE : ∀ far queue fm qu sz, FA far fm → QU queue qu sz → bQ (jn f 25) (fQ f) D g k q0 v fm qu sz (fun q => ∃ y, y < fQ f ∧ sY (jn f 25) q0 y q) → E (nI sz) (nI (k + 1)) far queue) : ∀ (d y : Nat) (far queue : IA) (fm : Nat → Option Nat) (qu : Nat → Nat) (sz : Nat), y + d = fQ f → FA far fm → QU queue qu sz → bQ (jn f 25) (fQ f) D g k q0 v fm qu sz (fun q => ∃ y', y' < y ∧ sY (jn f 25) q0 y' q) → wp_X11_out_206 (nI (fQ f)) (nI (q0 / 1024)) (nI (q0 % 1024)) sq E K (d + 1) (nI sz) (nI k) (nI y) far queue := by
  have f10 := hf.2.2.2.2.2.2.1
  intro d
  induction d with
  | zero =>
    intro y far queue fm qu sz hy hF hQ hb
    obtain rfl : y = fQ f := by omega
    refine ⟨fun _ => ?_, fun z => absurd ?_ z⟩
    · rw [nI_1]
      exact hE far queue fm qu sz hF hQ hb
    · rw [nI_leI (by omega) (by omega)]
      exact Nat.le_refl _
  | succ d ih =>
    intro y far queue fm qu sz hy hF hQ hb
    obtain ⟨hv1, hv2, hv3⟩ := bQ_v hb
    have hxq := (mR_b hD _ _ _ hv3).1
    have hPn := (mR_b hD _ _ _ hv3).2
    have nx : ¬ (jn f 25 (q0 / 1024) y ∧ (q0 % 1024).testBit y = false) → wp_X11_out_206 (nI (fQ f)) (nI (q0 / 1024)) (nI (q0 % 1024)) sq E K (d + 1) (nI sz) (nI k) (nI y + (1 : Int32)) far queue := by
      intro hno
      rw [nI_1]
      refine ih (y + 1) far queue fm qu sz (by omega) hF hQ (bQ_cg hb (fun q hq => ?_))
      obtain ⟨y', y1, y2⟩ := hq
      by_cases e : y' = y
      · subst e; exact absurd ⟨y2.1, y2.2.1⟩ hno
      · exact ⟨y', by omega, y2⟩
    refine ⟨fun z => ?_, fun _ => isBeside_sp hf hs hxq (by omega) (fun hA => ⟨fun z => absurd z px_01, fun _ => ⟨fun z => ?_, fun z => ?_⟩⟩) (fun hA => ⟨fun _ => nx (fun w => hA w.1), fun z => absurd rfl z⟩)⟩
    · rw [nI_leI (by omega) (by omega)] at z
      omega
    · rw [px_bit1 (by omega) (by omega)] at z
      exact nx (fun w => by rw [z] at w; cases w.2)
    · have ht : (q0 % 1024).testBit y = false := by
        rw [px_bit1 (by omega) (by omega)] at z
        cases e : (q0 % 1024).testBit y with
        | false => rfl
        | true => exact absurd e z
      have hP10 : q0 % 1024 < 2 ^ 10 := by omega
      have hx10 : q0 / 1024 < 10 := by omega
      have h2x : 2 ^ (q0 / 1024) < 2 ^ 10 := Nat.pow_lt_pow_right (by decide) hx10
      have hor := or_lt hP10 h2x
      have m0 : mR (jn f 25) (fQ f) D (v + 1) y (q0 % 1024) := ⟨q0 / 1024, q0 % 1024, hv3, by omega, hA, ht, Or.inl rfl⟩
      have m1 : mR (jn f 25) (fQ f) D (v + 1) y (q0 % 1024 ||| 2 ^ (q0 / 1024)) := ⟨q0 / 1024, q0 % 1024, hv3, by omega, hA, ht, Or.inr rfl⟩
      obtain ⟨-, -, a1, a2⟩ := mR_code f10 hD m0
      obtain ⟨-, -, b1, b2⟩ := mR_code f10 hD m1
      refine ⟨2 + 1, st240 (ps := 0) (q := 1024 * y + q0 % 1024) (by decide) (by omega) ?_ (by rw [a1, a2]; exact m0) hF hQ hb (fun far1 queue1 fm1 qu1 sz1 hF1 hQ1 hb1 => st240 (ps := 1) (q := 1024 * y + (q0 % 1024 ||| 2 ^ (q0 / 1024))) (by decide) (by omega) ?_ (by rw [b1, b2]; exact m1) hF1 hQ1 hb1 (fun far2 queue2 fm2 qu2 sz2 hF2 hQ2 hb2 => ⟨fun _ => ?_, fun z => absurd (by decide) z⟩))⟩
      · rw [show nI 0 <<< (nI (q0 / 1024) &&& 31) = nI 0 from (px_shl (by omega) (by rw [Nat.zero_mul]; decide)).trans (by rw [Nat.zero_mul]), px_or, Nat.or_zero, px_lit, pk_mul, nI_add]
      · rw [show nI 1 <<< (nI (q0 / 1024) &&& 31) = nI (2 ^ (q0 / 1024)) from px_shl1 _ (by omega), px_or, px_lit, pk_mul, nI_add]
      · rw [nI_1]
        refine ih (y + 1) far2 queue2 fm2 qu2 sz2 (by omega) hF2 hQ2 (bQ_cg hb2 (fun q hq => ?_))
        obtain ⟨y', y1, y2⟩ := hq
        by_cases e : y' = y
        · subst e
          rcases y2.2.2 with w | w
          · exact Or.inl (Or.inr w)
          · exact Or.inr w
        · exact Or.inl (Or.inl ⟨y', by omega, y2⟩)
theorem out145_lp {f : Gr} (hf : okF f) {sq mr : IA} (hs : sqM f sq 25) {D G : Nat} (hD : D < fQ f) (hG : ∀ i, G.testBit i = (decide (i < fQ f) && decide (i ≠ D))) (hG2 : G < 1024) {K : Int32 → IA → IA → IA → IA → Prop} (hK : ∀ r far queue, oR (jn f 25) (fQ f) D r → K r mr sq far queue) : ∀ (d k : Nat) (far queue : IA) (fm : Nat → Option Nat) (qu : Nat → Nat) (sz : Nat), k + d = 10240 → FA far fm → QU queue qu sz → ((k < sz ∧ ∃ q0 v, bQ (jn f 25) (fQ f) D (1024 * D + G) k q0 v fm qu sz (fun _ => False)) ∨ (k = sz ∧ bE (jn f 25) (fQ f) D (1024 * D + G) fm qu sz)) → wp_X11_out_145 (nI (fQ f)) (nI D) (nI G) mr sq K (d + 1) (nI sz) (nI k) far queue := by
  have f10 := hf.2.2.2.2.2.2.1
  have hsym : ∀ x y, jn f 25 x y → jn f 25 y x := fun x y z => jn_s z
  have oiff := fun m => out_iff (A := jn f 25) hsym hD hG m
  have exit : ∀ (k sz : Nat) (far queue : IA) (fm : Nat → Option Nat) (qu : Nat → Nat), k = sz → bE (jn f 25) (fQ f) D (1024 * D + G) fm qu sz → K (-9 : Int32) mr sq far queue := by
    intro k sz far queue fm qu e hb
    exact hK _ _ _ (Or.inr ⟨fun m hm => bE_no f10 hD hb ((oiff m).mpr hm), rfl⟩)
  intro d
  induction d with
  | zero =>
    intro k far queue fm qu sz hk hF hQ hb
    rcases hb with ⟨h1, q0, v, hb⟩ | ⟨h1, hb⟩
    · have := bQ_sz hb
      omega
    · refine ⟨fun _ => exit k sz _ _ _ _ h1 hb, fun z => absurd ?_ z⟩
      rw [nI_leI (by omega) (by omega)]
      omega
  | succ d ih =>
    intro k far queue fm qu sz hk hF hQ hb
    rcases hb with ⟨h1, q0, v, hb⟩ | ⟨h1, hb⟩
    · have hsz := bQ_sz hb
      obtain ⟨hv1, hv2, hv3⟩ := bQ_v hb
      have hqk := hQ k h1
      rw [hb.2.2.2.2.2.2.2.1.1] at hqk
      refine ⟨fun z => ?_, fun _ => ⟨px_in (by omega) (by decide), fun x6 e6 x7 e7 => ?_⟩⟩
      · rw [nI_leI (by omega) (by omega)] at z
        omega
      · rw [px_cl (by omega), hqk] at e6 e7
        have e6' : x6 = nI (q0 / 1024) := e6.trans (pk_div (d := 1024) (by omega) (by decide) (by decide))
        have e7' : x7 = nI (q0 % 1024) := e7.trans (pk_rem (d := 1024) (by omega) (by decide) (by decide))
        subst e6'
        subst e7'
        have go : q0 ≠ 1024 * D + G → ∃ N : Nat, wp_X11_out_206 (nI (fQ f)) (nI (q0 / 1024)) (nI (q0 % 1024)) sq (fun x4 x5 far queue => wp_X11_out_145 (nI (fQ f)) (nI D) (nI G) mr sq K (d + 1) x4 x5 far queue) K N (nI sz) (nI k) (0 : Int32) far queue := by
          intro hne
          refine ⟨fQ f + 1, out206_lp hf hs hD (fun far' queue' fm' qu' sz' hF' hQ' hb' => ih (k + 1) far' queue' fm' qu' sz' (by omega) hF' hQ' (bQ_next hb' (fun q hq => ?_) hne)) (fQ f) 0 far queue fm qu sz (by omega) hF hQ (bQ_cg hb (fun q hq => ?_))⟩
          · obtain ⟨y, Q, y1, y2, y3, y4, y5⟩ := hq
            refine ⟨y, y1, y2, y3, ?_⟩
            rcases y4 with w | w
            · left; rw [y5, w]
            · right; rw [y5, w]
          · obtain ⟨y', y1, -⟩ := hq
            exact absurd y1 (by omega)
        refine ⟨fun z => ⟨fun z2 => ?_, fun z2 => go (fun e => z2 ?_)⟩, fun z => go (fun e => z ?_)⟩
        · rw [nI_eq (by omega) (by omega)] at z z2
          have eq0 : q0 = 1024 * D + G := by omega
          rw [z, z2] at hv3
          rw [px_cl (by omega), hqk, px_cl (by omega), hF q0 hv2, hb.2.2.2.2.2.2.2.1.2]
          refine ⟨px_in hv2 (by decide), hK _ _ _ (Or.inl ⟨v, (oiff v).mp hv3, fun m' hm' hc => ?_, rfl⟩)⟩
          obtain ⟨c, c1, c2⟩ := bQ_min f10 hD hb m' D G ((oiff m').mpr hc) (by omega)
          rw [← eq0, hb.2.2.2.2.2.2.2.1.2] at c1
          cases c1
          omega
        · rw [e, show (1024 * D + G) % 1024 = G by omega]
        · rw [e, show (1024 * D + G) / 1024 = D by omega]
    · refine ⟨fun _ => exit k sz _ _ _ _ h1 hb, fun z => absurd ?_ z⟩
      rw [nI_leI (by omega) (by omega)]
      omega
theorem out11_sp {f : Gr} {d : Nat} (hf : okF f) (hq : fQ f ≠ 0) (hd1 : d < 25) (hd : ∀ k, k < 25 → fS f k = 2 → k = d) (hd2 : fS f d = 2) {s mr sq0 far0 queue0 : IA} (hm : mF s f) {K : Int32 → IA → IA → IA → IA → Prop} (hK : ∀ r sq far queue, oR (jn f 25) (fQ f) (fN f d) r → K r mr sq far queue) : wp_X11_out mr s sq0 far0 queue0 K := by
  have f10 := hf.2.2.2.2.2.2.1
  have hD : fN f d < fQ f := fN_q hf hd1 (by omega)
  have h10 := pw10 f10
  have p1 := Nat.two_pow_pos (fQ f)
  have hr0 : fR f ≠ 0 := fun z => hq (hf.1.mpr z)
  refine ⟨fun z => ?_, fun _ => ⟨25 + 1, out23_lp hf hd1 hd hd2 hm.2.2 (fun sq hsq x3 e3 => ?_) 25 0 sq0 (by omega) (fun j hj => absurd hj (by omega))⟩⟩
  · exfalso
    have z' : s 93 = 0 := z
    rw [hm.1, ← nI_0, nI_eq (by have := hf.2.1; omega) (by omega)] at z'
    exact hr0 z'
  · have es : ∀ a, 1 ≤ a → nI a - (1 : Int32) = nI (a - 1) := fun a ha => by rw [px_lit, pk_sub ha]
    rw [px_shl1 (fQ f) (by omega), px_shl1 (fN f d) (by omega), es _ (by omega), px_nd] at e3
    subst e3
    have hb := nd_le (2 ^ fQ f - 1) (2 ^ fN f d)
    have hGt : ∀ i, (nd (2 ^ fQ f - 1) (2 ^ fN f d)).testBit i = (decide (i < fQ f) && decide (i ≠ fN f d)) := by
      intro i
      rw [nd_tb (by omega), tb_m1, tb_pow]
      by_cases e : fN f d = i
      · subst e; simp
      · have : i ≠ fN f d := fun z => e z.symm
        simp [e, this]
    have e4 : (1024 : Int32) * nI (fN f d) = nI (1024 * fN f d) := by rw [px_lit, pk_mul]
    refine ⟨10240 + 1, out94_lp (fun far hfar => ?_) 10240 0 far0 (by omega) (fun q hq => absurd hq (by omega))⟩
    rw [e4, px_cl (by omega)]
    refine ⟨px_in (by omega) (by decide), 10240 + 1, out145_lp hf hsq hD hGt (by omega) (fun r far queue hr => hK r sq far queue hr) 10240 0 _ _ (ptF (fun _ => none) (1024 * fN f d) 0) (ptQ (fun _ => 0) 0 (1024 * fN f d)) 1 (by omega) (FA_put hfar) (QU_put (sz := 0) (qu := fun _ => 0) (fun j hj => absurd hj (by omega))) (Or.inl ⟨by omega, 1024 * fN f d, 0, ⟨by omega, ptF_s⟩, ?_, fun q w q1 q2 => ?_, fun j hj => ?_, fun i j a c hij hj ha hc => ?_, fun j a q hj => absurd hj (by omega), fun j hj => absurd hj (by omega), ⟨ptQ_s, ptF_s⟩, fun q z => z.elim⟩)⟩
    · rw [ctF_put rfl, ctF_0, if_pos (by omega)]
    · refine ⟨0, by omega, ?_⟩
      rw [ptQ_s]
      by_cases e : q = 1024 * fN f d
      · exact e.symm
      · rw [ptF_n e] at q2
        cases q2
    · obtain rfl : j = 0 := by omega
      rw [ptQ_s]
      refine ⟨by omega, 0, ptF_s, Nat.le_refl _, by omega, ?_, ?_⟩
      · omega
      · omega
    · obtain rfl : j = 0 := by omega
      obtain rfl : i = 0 := by omega
      rw [ha] at hc
      cases hc
      exact Nat.le_refl _
