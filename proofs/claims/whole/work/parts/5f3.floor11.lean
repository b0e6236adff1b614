/-! PURE PART: floor, the model; floor -/
def mG (read : IA) (σ : Gr) : Prop := ∀ k, k < 25 → read (95 + k) = nI (fS σ k)
def sgn (x : Int32) : Prop := x = (46 : Int32) ∨ x = (35 : Int32) ∨ x = (100 : Int32)
theorem inner_lp {mt : IA} {n : Nat} (hn : n ≤ 48) {x2 : Int32} {E : Int32 → Int32 → Int32 → IA → Int32 → Prop} {K : Int32 → IA → Int32 → Prop} : ∀ (d a : Nat) (σ : Gr) (read : IA), n - a < d → a ≤ n → fOK σ → mG read σ → (fR σ ≠ 1 → x2 = nI (fC σ)) → (∀ d' a' σ' read', fOK σ' → fR σ' = fR σ → (fR σ ≠ 1 → fC σ' = fC σ) → mG read' σ' → a' ≤ n → d' ≤ d → n - a' < d' → fr (bt mt n) n d a σ = fr (bt mt n) n d' a' σ' → ¬ sgn (bt mt n a') → E (nI (fQ σ')) (nI (gD σ')) (nI (gI σ')) read' (nI a')) → (∀ i read', fr (bt mt n) n d a σ = (none, i) → i ≤ 48 → K 0 read' (nI i)) → wp_X11_readsFloor_41 (nI (fR σ - 1)) x2 mt (nI n) E K d (nI (fQ σ)) (nI (gD σ)) (nI (gI σ)) read (nI a) := by
  intro d
  induction d with
  | zero => intro a σ read h1; omega
  | succ d ih =>
    intro a σ read h1 h2 ho hm hx2 hE hK
    have hD := gD_01 ho
    have hok := ho
    obtain ⟨⟨a1, a2⟩, a3, a4, a5, a6, a7, a8, -⟩ := ho
    by_cases hs : sgn (bt mt n a)
    · have aln : a < n := by
        rcases hs with q | q | q
        · exact chr_lt (x := 46) (by decide) q
        · exact chr_lt (x := 35) (by decide) q
        · exact chr_lt (x := 100) (by decide) q
      have q : ¬ n ≤ a := by omega
      have n47 : ¬ bt mt n a = (47 : Int32) := by
        rcases hs with z | z | z <;> (rw [z]; decide)
      have hA : fst_ σ (bt mt n a) = if canPut σ (vl (bt mt n a)) then some (fput σ (vl (bt mt n a))) else none := by unfold fst_; rw [if_neg n47]; exact if_pos hs
      have bad : ¬ canPut σ (vl (bt mt n a)) → ∀ read', K 0 read' (nI a) := fun z read' => hK a read' (fr_n q (by rw [hA, if_neg z])) (by omega)
      have w0 : vl (bt mt n a) = 0 ↔ bt mt n a = (35 : Int32) := by
        unfold vl
        constructor
        · intro q
          split at q
          · rename_i e; exact e
          · split at q <;> omega
        · intro q; rw [if_pos q]
      have w2 : vl (bt mt n a) = 2 ↔ bt mt n a = (100 : Int32) := by
        unfold vl
        constructor
        · intro q
          split at q
          · omega
          · split at q
            · omega
            · rename_i e1 e2
              exact (hs.resolve_left e2).resolve_left e1
        · intro q; rw [if_neg (by rw [q]; decide), if_neg (by rw [q]; decide)]
      -- the store
      have p151 : canPut σ (vl (bt mt n a)) → ∀ t0 x3, t0 = nI (gD (fput σ (vl (bt mt n a)))) → x3 = nI (fQ (fput σ (vl (bt mt n a)))) → wp_X11_readsFloor_151 (nI (fR σ - 1)) mt (nI n) (fun x4 x5 r at_ => wp_X11_readsFloor_41 (nI (fR σ - 1)) x2 mt (nI n) E K d x3 x4 x5 r at_) K (nI (gI σ)) read (nI a) t0 := by
        intro hcp t0 x3 et e3
        have c1 := hcp.1
        unfold lim at c1
        have ci : (fR σ = 1 → gI σ < 5) ∧ (fR σ ≠ 1 → gI σ < fC σ) := by split at c1 <;> omega
        have i5 : gI σ < 5 := by omega
        have ep : ((95 : Int32) + ((5 : Int32) * nI (fR σ - 1))) + nI (gI σ) = nI (95 + (5 * (fR σ - 1) + gI σ)) := by
          rw [show (95 : Int32) = nI 95 from rfl, show (5 : Int32) = nI 5 from rfl, pk_mul, nI_add, nI_add, Nat.add_assoc]
        have nxt : ∀ u : Int32, u = nI (vl (bt mt n a)) → wp_X11_readsFloor_41 (nI (fR σ - 1)) x2 mt (nI n) E K d x3 t0 (nI (gI σ) + (1 : Int32)) (upd read (95 + (5 * (fR σ - 1) + gI σ)) u) (nI a + (1 : Int32)) := by
          intro u eu
          have hfr := fr_s (d := d) q (show fst_ σ (bt mt n a) = some (fput σ (vl (bt mt n a))) by rw [hA, if_pos hcp])
          rw [hfr] at hE hK
          have := ih (a + 1) (fput σ (vl (bt mt n a))) (upd read (95 + (5 * (fR σ - 1) + gI σ)) u) (by omega) (by omega) (fput_ok hok (vl_b _) hcp) (fun k hk => ?_) (fun z => ?_) (fun d' a' σ' read' g1 g2 g3 g4 g5 g6 g7 g8 g9 => hE d' a' σ' read' g1 (by rw [g2, fput_R]) (fun z => ?_) g4 g5 (by omega) g7 g8 g9) hK
          · rw [fput_R, fput_I] at this
            rw [et, e3, nI_1, nI_1]
            exact this
          · rw [fput_S]
            by_cases ek : k = 5 * (fR σ - 1) + gI σ
            · rw [if_pos ek, ek, up_s, eu]
            · rw [if_neg ek, up_n (by omega)]
              exact hm k hk
          · rw [fput_R] at z
            rw [fput_C, if_neg (by have := ci.2 z; omega)]
            exact hx2 z
          · rw [fput_R] at g3
            rw [g3 z, fput_C, if_neg (by have := ci.2 z; omega)]
        unfold wp_X11_readsFloor_151
        rw [ep, px_cl (by omega)]
        refine sign_sp hn (by omega) ⟨fun z => ⟨px_in (by omega) (by decide), nxt _ ?_⟩, fun z => sign_sp hn (by omega) ⟨fun z2 => ⟨px_in (by omega) (by decide), nxt _ ?_⟩, fun z2 => ⟨px_in (by omega) (by decide), nxt _ ?_⟩⟩⟩
        · unfold vl; rw [if_neg (by rw [z]; decide), if_pos z]; rfl
        · rw [w2.mpr z2]; rfl
        · rw [w0.mpr ((hs.resolve_left z).resolve_right z2)]; rfl
      have p130 : canPut σ (vl (bt mt n a)) → ∀ t0, nI (fQ σ) + t0 = nI (fQ (fput σ (vl (bt mt n a)))) → wp_X11_readsFloor_130 (nI (fR σ - 1)) mt (nI n) (fun x3 x4 x5 r at_ => wp_X11_readsFloor_41 (nI (fR σ - 1)) x2 mt (nI n) E K d x3 x4 x5 r at_) K (nI (gD σ)) (nI (gI σ)) read (nI a) t0 (nI (fQ σ)) := by
        intro hcp t0 et x3 e3
        refine ⟨fun z => sign_sp hn (by omega) ⟨fun z2 => p151 hcp _ _ ?_ (e3.trans et), fun z2 => p151 hcp _ _ ?_ (e3.trans et)⟩, fun z => p151 hcp _ _ ?_ (e3.trans et)⟩
        · rw [fput_D, if_pos (w2.mpr z2)]; rfl
        · rw [fput_D, if_neg (fun y => z2 (w2.mp y))]; exact z.symm
        · rw [fput_D]
          split
          · rfl
          · rcases hD with y | y
            · exact absurd (by rw [y]; rfl) z
            · rw [y]; rfl
      have p115 : canPut σ (vl (bt mt n a)) → wp_X11_readsFloor_115 (nI (fR σ - 1)) mt (nI n) (fun x3 x4 x5 r at_ => wp_X11_readsFloor_41 (nI (fR σ - 1)) x2 mt (nI n) E K d x3 x4 x5 r at_) K (nI (fQ σ)) (nI (gD σ)) (nI (gI σ)) read (nI a) := by
        intro hcp
        refine sign_sp hn (by omega) ⟨fun z => p130 hcp _ ?_, fun z => p130 hcp _ ?_⟩
        · rw [fput_Q, if_pos (w0.mpr z), show (0 : Int32) = nI 0 from rfl, nI_add]
        · rw [fput_Q, if_neg (fun y => z (w0.mp y)), nI_1]
      have p98 : gI σ < lim σ → (vl (bt mt n a) = 2 → gD σ = 0) → wp_X11_readsFloor_98 (nI (fR σ - 1)) mt (nI n) (fun x3 x4 x5 r at_ => wp_X11_readsFloor_41 (nI (fR σ - 1)) x2 mt (nI n) E K d x3 x4 x5 r at_) K (nI (fQ σ)) (nI (gD σ)) (nI (gI σ)) read (nI a) := by
        intro y1 y2
        refine sign_sp hn (by omega) ⟨fun z => p115 ⟨y1, Or.inl (w0.mpr z), y2⟩, fun z => ⟨fun z2 => bad (fun y => ?_) _, fun z2 => p115 ⟨y1, Or.inr ?_, y2⟩⟩⟩
        · rw [px_lit, nI_eq (by omega) (by omega)] at z2
          rcases y.2.1 with y | y
          · exact z (w0.mp y)
          · omega
        · rw [px_lit, nI_eq (by omega) (by omega)] at z2
          omega
      have p84 : gI σ < lim σ → wp_X11_readsFloor_84 (nI (fR σ - 1)) mt (nI n) (fun x3 x4 x5 r at_ => wp_X11_readsFloor_41 (nI (fR σ - 1)) x2 mt (nI n) E K d x3 x4 x5 r at_) K (nI (fQ σ)) (nI (gD σ)) (nI (gI σ)) read (nI a) := by
        intro y1
        refine sign_sp hn (by omega) ⟨fun z => ⟨fun z2 => p98 y1 (fun _ => ?_), fun z2 => bad (fun y => z2 (by rw [y.2.2 (w2.mpr z)]; rfl)) _⟩, fun z => p98 y1 (fun y => absurd (w2.mp y) z)⟩
        rw [← nI_0, nI_eq (by omega) (by omega)] at z2
        exact z2
      have p68 : wp_X11_readsFloor_68 (nI (fR σ - 1)) x2 mt (nI n) (fun x3 x4 x5 r at_ => wp_X11_readsFloor_41 (nI (fR σ - 1)) x2 mt (nI n) E K d x3 x4 x5 r at_) K (nI (fQ σ)) (nI (gD σ)) (nI (gI σ)) read (nI a) := by
        refine ⟨fun z => bad (fun y => ?_) _, fun z => ⟨fun z2 => p84 ?_, fun z2 => ⟨fun z3 => bad (fun y => ?_) _, fun z3 => p84 ?_⟩⟩⟩
        · rw [px_lit, nI_eq (by omega) (by omega)] at z
          have := y.1
          unfold lim at this
          split at this <;> omega
        · rw [px_lit, nI_eq (by omega) (by omega)] at z
          rw [← nI_0, nI_leI (by omega) (by omega)] at z2
          unfold lim
          rw [if_pos (by omega)]
          omega
        · rw [← nI_0, nI_leI (by omega) (by omega)] at z2
          rw [hx2 (by omega), nI_eq (by omega) (by omega)] at z3
          have := y.1
          unfold lim at this
          rw [if_neg (by omega)] at this
          omega
        · rw [← nI_0, nI_leI (by omega) (by omega)] at z2
          rw [hx2 (by omega), nI_eq (by omega) (by omega)] at z3
          unfold lim
          rw [if_neg (by omega)]
          omega
      exact sign_sp hn (by omega) ⟨fun _ => p68, fun _ => sign_sp hn (by omega) ⟨fun _ => p68, fun _ => sign_sp hn (by omega) ⟨fun _ => p68, fun z => absurd hs (fun y => by rcases y with y | y | y; rename_i u1 u2; exact u1 y; rename_i u1 u2; exact u2 y; exact z y)⟩⟩⟩
    · have fin := hE (d + 1) a σ read hok rfl (fun _ => rfl) hm h2 (Nat.le_refl _) h1 rfl hs
      exact sign_sp hn (by omega) ⟨fun z => absurd (Or.inl z) hs, fun _ => sign_sp hn (by omega) ⟨fun z => absurd (Or.inr (Or.inl z)) hs, fun _ => sign_sp hn (by omega) ⟨fun z => absurd (Or.inr (Or.inr z)) hs, fun _ => fin⟩⟩⟩
theorem outer_lp {mt : IA} {n : Nat} (hn : n ≤ 48) {E : Int32 → Int32 → Int32 → Int32 → IA → Int32 → Prop} {K : Int32 → IA → Int32 → Prop} : ∀ (N d a : Nat) (σ : Gr) (read : IA) (x2 : Int32), d ≤ N → n - a < d → a ≤ n → fOK σ → gI σ = 0 → mG read σ → (fR σ ≠ 1 → x2 = nI (fC σ)) → (∀ i read', fr (bt mt n) n d a σ = (none, i) → i ≤ 48 → K 0 read' (nI i)) → (∀ σ' read', fr (bt mt n) n d a σ = (some σ', 0) → ¬ (gD σ' ≠ 0 ∧ gI σ' = fC σ') → K 0 read' (nI n)) → (∀ σ' read', fr (bt mt n) n d a σ = (some σ', 0) → fOK σ' → mG read' σ' → gI σ' = fC σ' → E (nI (fR σ')) (nI (gI σ')) (nI (fQ σ')) (nI (gD σ')) read' (nI n)) → (∀ i x1 x2 x3 x4 read', fr (bt mt n) n d a σ = (none, i) → i < n → E x1 x2 x3 x4 read' (nI i)) → wp_X11_readsFloor_38 mt (nI n) E K N (nI (fR σ - 1)) x2 (nI (fQ σ)) (nI (gD σ)) read (nI a) := by
  intro N
  induction N with
  | zero => intro d a σ read x2 h0 h1; omega
  | succ N ih =>
    intro d a σ read x2 h0 h1 h2 ho hI hm hx2 hN hS0 hE1 hE2
    refine ⟨d, ?_⟩
    have inn := inner_lp (mt := mt) hn (x2 := x2) (K := K) (E := fun x3 x4 x5 r at_ => (x5 = 0 → K (0 : Int32) r at_) ∧ (¬ (x5 = 0) → (nI (fR σ - 1) ≤ 0 → wp_X11_readsFloor_227 x5 mt (nI n) (fun a1 a2 a3 => E a1 a2 x3 x4 r a3) (fun a1 a2 a3 => wp_X11_readsFloor_38 mt (nI n) E K N a1 a2 x3 x4 r a3) K (nI (fR σ - 1)) at_) ∧ (¬ (nI (fR σ - 1) ≤ 0) → (x2 ≤ x5 → wp_X11_readsFloor_227 x5 mt (nI n) (fun a1 a2 a3 => E a1 a2 x3 x4 r a3) (fun a1 a2 a3 => wp_X11_readsFloor_38 mt (nI n) E K N a1 a2 x3 x4 r a3) K (nI (fR σ - 1)) at_) ∧ (¬ (x2 ≤ x5) → K (0 : Int32) r at_)))) d a σ read h1 h2 ho hm hx2 (fun d' a' σ' read' g1 g2 g3 g4 g5 g6 g7 g8 g9 => ?_) hN
    · rw [hI] at inn
      exact inn
    · rw [g8] at hN hS0 hE1 hE2
      have hok := g1
      obtain ⟨⟨a1, a2⟩, a3, a4, a5, a6, a7, a8, a9, a10, a11⟩ := g1
      obtain ⟨dd, rfl⟩ : ∃ dd, d' = dd + 1 := ⟨d' - 1, by omega⟩
      have hA : fst_ σ' (bt mt n a') = if bt mt n a' = (47 : Int32) then (if canNl σ' then some (fnl σ') else none) else none := by
        unfold fst_
        by_cases q : bt mt n a' = (47 : Int32)
        · rw [if_pos q, if_pos q]
        · rw [if_neg q, if_neg q]; exact if_neg g9
      -- the row cannot end here
      have stop : (gI σ' = 0 ∨ gI σ' < fC σ') → K 0 read' (nI a') := by
        intro hc
        by_cases q : n ≤ a'
        · have e : a' = n := by omega
          subst e
          refine hS0 σ' read' (fr_e q) (fun z => ?_)
          rcases hc with hc | hc
          · have c0 : fC σ' = 0 := by omega
            have r1 : fR σ' = 1 := by
              apply Decidable.byContradiction
              intro hr
              have := a6 (by omega)
              omega
            rcases a11 with ⟨y, -⟩ | ⟨-, k, hk, hk2, -⟩
            · exact z.1 y
            · have := a10 (k / 5) (k % 5) (by omega) (by omega) (fun v => by unfold vis at v; omega)
              rw [show 5 * (k / 5) + k % 5 = k by omega] at this
              omega
          · omega
        · refine hN a' read' (fr_n q ?_) (by omega)
          rw [hA]
          split
          · rw [if_neg (fun z => by have := z.1; have := z.2.1; omega)]
          · rfl
      have p227 : gI σ' ≠ 0 → ¬ gI σ' < fC σ' → wp_X11_readsFloor_227 (nI (gI σ')) mt (nI n) (fun a1 a2 a3 => E a1 a2 (nI (fQ σ')) (nI (gD σ')) read' a3) (fun a1 a2 a3 => wp_X11_readsFloor_38 mt (nI n) E K N a1 a2 (nI (fQ σ')) (nI (gD σ')) read' a3) K (nI (fR σ - 1)) (nI a') := by
        intro y1 y2
        have er : nI (fR σ - 1) + (1 : Int32) = nI (fR σ') := by rw [nI_1, g2]; congr 1; omega
        unfold wp_X11_readsFloor_227
        rw [er]
        have e247 : ¬ (bt mt n a' = (47 : Int32) ∧ fR σ' < 5) → E (nI (fR σ')) (nI (gI σ')) (nI (fQ σ')) (nI (gD σ')) read' (nI a') := by
          intro hno
          by_cases q : n ≤ a'
          · have e : a' = n := by omega
            subst e
            exact hE1 σ' read' (fr_e q) hok g4 (by omega)
          · refine hE2 a' _ _ _ _ _ (fr_n q ?_) (by omega)
            rw [hA]
            split
            · rename_i z
              rw [if_neg (fun y => hno ⟨z, y.2.2⟩)]
            · rfl
        refine ⟨fun z => e247 (fun y => ?_), fun z => rc11 (x := 47) hn (by omega) (fun z2 => ⟨fun y => absurd y px_01, fun _ => ?_⟩) (fun z2 => ⟨fun _ => e247 (fun y => z2 y.1), fun y => absurd rfl y⟩)⟩
        · rw [px_lit, nI_leI (by omega) (by omega)] at z
          omega
        · rw [px_lit, nI_leI (by omega) (by omega)] at z
          have aln := chr_lt (x := 47) (by decide) z2
          have hcn : canNl σ' := ⟨y1, y2, by omega⟩
          have hfr := fr_s (d := dd) (show ¬ n ≤ a' by omega) (show fst_ σ' (bt mt n a') = some (fnl σ') by rw [hA, if_pos (show bt mt n a' = (47 : Int32) from z2), if_pos hcn])
          rw [hfr] at hN hS0 hE1 hE2
          have := ih dd (a' + 1) (fnl σ') read' (nI (gI σ')) (by omega) (by omega) (by omega) (fnl_ok hok hcn) fnl_I (fun k hk => by rw [fnl_S]; exact g4 k hk) (fun _ => by rw [fnl_C]; congr 1; omega) hN hS0 hE1 hE2
          rw [fnl_R, fnl_Q, fnl_D, Nat.add_sub_cancel] at this
          exact this
      refine ⟨fun z => stop (Or.inl ?_), fun z => ?_⟩
      · rw [← nI_0, nI_eq (by omega) (by omega)] at z; exact z
      · have y1 : gI σ' ≠ 0 := fun y => z (by rw [y]; rfl)
        refine ⟨fun z2 => p227 y1 ?_, fun z2 => ?_⟩
        · rw [← nI_0, nI_leI (by omega) (by omega)] at z2
          have := a5 (by omega)
          omega
        · rw [← nI_0, nI_leI (by omega) (by omega)] at z2
          rw [hx2 (by omega), ← g3 (by omega)]
          refine ⟨fun z3 => p227 y1 ?_, fun z3 => stop (Or.inr ?_)⟩
          · rw [nI_leI (by omega) (by omega)] at z3
            omega
          · rw [nI_leI (by omega) (by omega)] at z3
            omega
theorem rf7_lp {E : Int32 → Int32 → Int32 → Int32 → IA → Prop} {K : Int32 → IA → Int32 → Prop} (hE : ∀ v : IA, (∀ k, k < 25 → v (95 + k) = nI 0) → E 0 0 0 0 v) : ∀ (d i : Nat) (v : IA), i + d = 25 → (∀ k, k < i → v (95 + k) = nI 0) → wp_X11_readsFloor_7 E K (d + 1) (nI i) v := by
  intro d
  induction d with
  | zero =>
    intro i v hi hv
    have e : i = 25 := by omega
    subst e
    exact ⟨fun _ => hE v hv, fun q => absurd (by decide) q⟩
  | succ d ih =>
    intro i v hi hv
    refine ⟨fun q => absurd q (by rw [px_lit, nI_leI (by omega) (by omega)]; omega), fun _ => ?_⟩
    rw [show (95 : Int32) + nI i = nI (95 + i) by rw [px_lit, nI_add], px_cl (by omega), nI_1]
    refine ⟨px_in (by omega) (by decide), ih (i + 1) _ (by omega) (fun k hk => ?_)⟩
    by_cases e : k = i
    · subst e; exact up_s
    · rw [up_n (by omega)]; exact hv k (by omega)
theorem fl25_lp {read s : IA} {tl at_ : Int32} {K : Int32 → IA → IA → Int32 → Int32 → Prop} (hK : ∀ v : IA, (∀ j, j < 93 → v j = s j) → (∀ j, 93 ≤ j → j < 120 → v j = read j) → K (read 0) v read tl at_) : ∀ (d i : Nat) (v : IA), i + d = 120 → 93 ≤ i → (∀ j, j < 93 → v j = s j) → (∀ j, 93 ≤ j → j < i → v j = read j) → wp_X11_floor_25 read tl at_ K (d + 1) (nI i) v := by
  intro d
  induction d with
  | zero =>
    intro i v hi h93 hv hv2
    have e : i = 120 := by omega
    subst e
    exact ⟨fun _ => hK v hv hv2, fun q => absurd (by decide) q⟩
  | succ d ih =>
    intro i v hi h93 hv hv2
    refine ⟨fun q => absurd q (by rw [px_lit, nI_leI (by omega) (by omega)]; omega), fun _ => ⟨px_in (by omega) (by decide), ?_⟩⟩
    rw [px_cl (by omega), nI_1]
    refine ih (i + 1) _ (by omega) (by omega) (fun j hj => by rw [up_n (by omega)]; exact hv j hj) (fun j h1 h2 => ?_)
    by_cases e : j = i
    · subst e; exact up_s
    · rw [up_n e]; exact hv2 j h1 (by omega)
theorem floor11_sp {s read mt : IA} {n : Nat} {at0 : Int32} (hn : n ≤ 48) {K : Int32 → IA → IA → Int32 → Int32 → Prop} (hF : ∀ i r a, fo (bt mt n) n = (none, i) → K ((-20 : Int32) - nI i) s r 0 a) (hT : ∀ σ s' r a, fo (bt mt n) n = (some σ, 0) → mF s' σ → (∀ j, j < 93 → s' j = s j) → K (nI (fQ σ)) s' r 0 a) : wp_X11_floor s read mt (nI n) at0 K := by
  have bad : ∀ i (r : IA), fo (bt mt n) n = (none, i) → ((0 : Int32) = 0 → K ((-20 : Int32) - nI i) s r 0 (nI i)) ∧ (¬ ((0 : Int32) = 0) → ∃ n7 : Nat, wp_X11_floor_25 r (0 : Int32) (nI i) K n7 (93 : Int32) s) := fun i r h => ⟨fun _ => hF i r _ h, fun q => absurd rfl q⟩
  refine ⟨25 + 1, rf7_lp (fun rd hrd => ⟨n + 1, ?_⟩) 25 0 read (by omega) (fun k hk => absurd hk (by omega))⟩
  have z : ∀ k, fS f00 k = 0 := fun k => rfl
  refine outer_lp hn (n + 1) (n + 1) 0 f00 rd 0 (Nat.le_refl _) (by omega) (by omega) f00_ok rfl (fun k hk => by rw [z]; exact hrd k hk) (fun q => absurd rfl q) (fun i r h _ => bad i r (fo_n h)) (fun σ r h hno => bad n r (by rw [fo_s h, if_neg hno])) (fun σ r h ho hm hi => ?_) (fun i x1 x2 x3 x4 r h hi => ?_)
  · have hD := gD_01 ho
    have hfo := fo_s h
    refine ⟨fun _ => ⟨fun q => ?_, fun q => ?_⟩, fun q => absurd rfl q⟩
    · rw [← nI_0, nI_eq (by omega) (by omega)] at q
      rw [if_neg (fun y => y.1 q)] at hfo
      exact bad n _ hfo
    · have d0 : gD σ ≠ 0 := fun y => q (by rw [y]; rfl)
      rw [if_pos ⟨d0, hi⟩] at hfo
      refine ⟨fun y => absurd y px_01, fun _ => ⟨27 + 1, fl25_lp (fun v h1 h2 => ?_) 27 93 s (by omega) (by omega) (fun _ _ => rfl) (fun j y1 y2 => absurd y1 (by omega))⟩⟩
      have e0 : (upd (upd (upd r (93 : Int32).toNatClampNeg (nI (fR σ))) (94 : Int32).toNatClampNeg (nI (gI σ))) (0 : Int32).toNatClampNeg (nI (fQ σ))) 0 = nI (fQ σ) := up_s
      rw [e0]
      have g : ∀ j, 93 ≤ j → j < 120 → v j = upd (upd r 93 (nI (fR σ))) 94 (nI (gI σ)) j := fun j y1 y2 => (h2 j y1 y2).trans (up_n (f := upd (upd r 93 (nI (fR σ))) 94 (nI (gI σ))) (k := 0) (by omega))
      refine hT σ v _ _ hfo ⟨?_, ?_, fun k hk => ?_⟩ h1
      · rw [g 93 (by omega) (by omega), up_n (by omega), up_s]
      · rw [g 94 (by omega) (by omega), up_s, hi]
      · rw [g (95 + k) (by omega) (by omega), up_n (by omega), up_n (by omega)]
        exact hm k hk
  · have hfo := fo_n h
    exact ⟨fun q => absurd ((nI_eq (by omega) (by omega)).mp q) (by omega), fun _ => bad i _ hfo⟩
theorem m_floor {tb mt s read : IA} {tl ml at2 : Int32} {ds : IA} {dr dc dq dh di : Int32} {signs : IA} {rows cols squares hd inr : Int32} {h p : Gr} {b : Nat → Nat} {k : Nat} {f : Gr} (ht : Rtape tb tl mt ml) (hS : SC s h p b k f) (hc : cF signs rows cols squares hd f) : wp_X10_floor tb tl ds dr dc dq dh di signs rows cols squares hd inr (fun r tl' _ _ _ _ _ _ signs' rows' cols' squares' hd' _ => wp_X11_floor s read mt ml at2 (fun r' s' _ ml' _ => r = r' ∧ Rtape tb tl' mt ml' ∧ ∃ f', SC s' h p b k f' ∧ cF signs' rows' cols' squares' hd' f')) := by
  obtain ⟨n, hn, rfl, rfl, hb⟩ := ht
  have eB : bt tb n = bt mt n := bt_cg hb
  obtain ⟨ho, hop, hob, hok, hof, hmh, hmp, hmb, hmk, hmf⟩ := hS
  have tz : Rtape tb 0 mt 0 := ⟨0, by omega, rfl, rfl, fun k hk => absurd hk (by omega)⟩
  refine read10_sp hn (fun i s1 s2 s3 s4 s5 s6 g hi => ⟨fun q => absurd q (px_n9 (by omega)), fun _ => ?_⟩) (fun σ s1 s2 s3 s4 s5 s6 g hoF hcF => ⟨fun _ => ?_, fun q => absurd rfl q⟩)
  · rw [eB] at g
    refine floor11_sp hn (fun i' r a g' => ?_) (fun σ s' r a g' => ?_)
    · rw [g] at g'
      cases g'
      exact ⟨rfl, tz, f, ⟨ho, hop, hob, hok, hof, hmh, hmp, hmb, hmk, hmf⟩, hc⟩
    · rw [g] at g'
      cases g'
  · rw [eB] at g
    obtain ⟨c1, c2, c3, c4, c5⟩ := hcF
    have r5 := hoF.2.1
    have k5 := hoF.2.2.1
    refine ⟨c4, floor11_sp hn (fun i' r a g' => ?_) (fun σ' s' r a g' hm' hj => ?_)⟩
    · rw [g] at g'
      cases g'
    · rw [g] at g'
      cases g'
      exact ⟨c3, tz, σ, ⟨ho, hop, hob, hok, hoF, hmh.ext ho (fun j q => hj j (by omega)), hmp.ext hop (fun j q => hj j (by omega)), hmb.ext (fun j q1 q2 => hj j (by omega)), (hj 8 (by omega)).trans hmk, hm'⟩, c1, c2, c3, c4, fun r c y1 y2 => by rw [cp_in (by omega)]; exact c5 r c y1 y2⟩
