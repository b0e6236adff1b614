/-! PURE PART: floor, the model; floor -/
def mG (read : IA) (σ : Gr) : Prop := ∀ k, k < 25 → read (95 + k) = nI (fS σ k)
def sgn (x : Int32) : Prop := x = (46 : Int32) ∨ x = (35 : Int32) ∨ x = (100 : Int32)
theorem inner_lp {mt : IA} {n : Nat} (hn : n ≤ 48) {x2 : Int32} {E : Int32 → Int32 → Int32 → IA → Int32 → Prop} {K : Int32 → IA → Int32 → Prop} : ∀ (d a : Nat) (σ : Gr) (read : IA), n - a < d → a ≤ n → fOK σ → mG read σ → (fR σ ≠ 1 → x2 = nI (fC σ)) → (∀ d' a' σ' read', fOK σ' → fR σ' = fR σ → (fR σ ≠ 1 → fC σ' = fC σ) → mG read' σ' → a' ≤ n → d' ≤ d → n - a' < d' → fr (bt mt n) n d a σ = fr (bt mt n) n d' a' σ' → ¬ sgn (bt mt n a') → E (nI (fQ σ')) (nI (gD σ')) (nI (gI σ')) read' (nI a')) → (∀ i read', fr (bt mt n) n d a σ = (none, i) → i ≤ 48 → K 0 read' (nI i)) → wp_X11_readsFloor_41 (nI (fR σ - 1)) x2 mt (nI n) E K d (nI (fQ σ)) (nI (gD σ)) (nI (gI σ)) read (nI a) := by
  intro d
  induction d with
  | zero => intro a σ read h1; omega
  | succ d ih =>
    intro a σ read h1 h2 ho hm hx2 hE hK
    have hD := gD_01 ho
    have hok := ho
    obtain ⟨⟨a1, a2⟩, a3, a4, a5, a6, a7, a8, -⟩ := ho
    by_cases hs : sgn (bt mt n a)
    · have aln : a < n := by
        rcases hs with q | q | q
        · exact chr_lt (x := 46) (by decide) q
        · exact chr_lt (x := 35) (by decide) q
        · exact chr_lt (x := 100) (by decide) q
      have q : ¬ n ≤ a := by omega
      have n47 : ¬ bt mt n a = (47 : Int32) := by
        rcases hs with z | z | z <;> (rw [z]; decide)
      have hA : fst_ σ (bt mt n a) = if canPut σ (vl (bt mt n a)) then some (fput σ (vl (bt mt n a))) else none := by unfold fst_; rw [if_neg n47, if_pos hs]
      have bad : ¬ canPut σ (vl (bt mt n a)) → ∀ read', K 0 read' (nI a) := fun z read' => hK a read' (fr_n q (by rw [hA, if_neg z])) (by omega)
      have w0 : vl (bt mt n a) = 0 ↔ bt mt n a = (35 : Int32) := by
        unfold vl
        constructor
        · intro q
          split at q
          · rename_i e; exact e
          · split at q <;> omega
        · intro q; rw [if_pos q]
      have w2 : vl (bt mt n a) = 2 ↔ bt mt n a = (100 : Int32) := by
        unfold vl
        constructor
        · intro q
          split at q
          · omega
          · split at q
            · omega
            · rename_i e1 e2
              exact (hs.resolve_left e2).resolve_left e1
        · intro q; rw [if_neg (by rw [q]; decide), if_neg (by rw [q]; decide)]
      -- the store
      have p151 : canPut σ (vl (bt mt n a)) → ∀ t0 x3, t0 = nI (gD (fput σ (vl (bt mt n a)))) → x3 = nI (fQ (fput σ (vl (bt mt n a)))) → wp_X11_readsFloor_151 (nI (fR σ - 1)) mt (nI n) (fun x4 x5 r at_ => wp_X11_readsFloor_41 (nI (fR σ - 1)) x2 mt (nI n) E K d x3 x4 x5 r at_) K (nI (gI σ)) read (nI a) t0 := by
        intro hcp t0 x3 et e3
        have c1 := hcp.1
        unfold lim at c1
        have ci : (fR σ = 1 → gI σ < 5) ∧ (fR σ ≠ 1 → gI σ < fC σ) := by split at c1 <;> omega
        have i5 : gI σ < 5 := by omega
        have ep : ((95 : Int32) + ((5 : Int32) * nI (fR σ - 1))) + nI (gI σ) = nI (95 + (5 * (fR σ - 1) + gI σ)) := by
          rw [show (95 : Int32) = nI 95 from rfl, show (5 : Int32) = nI 5 from rfl, pk_mul, nI_add, nI_add, Nat.add_assoc]
        have nxt : ∀ u : Int32, u = nI (vl (bt mt n a)) → wp_X11_readsFloor_41 (nI (fR σ - 1)) x2 mt (nI n) E K d x3 t0 (nI (gI σ) + (1 : Int32)) (upd read (95 + (5 * (fR σ - 1) + gI σ)) u) (nI a + (1 : Int32)) := by
          intro u eu
          have hfr := fr_s (d := d) q (show fst_ σ (bt mt n a) = some (fput σ (vl (bt mt n a))) by rw [hA, if_pos hcp])
          rw [hfr] at hE hK
          have := ih (a + 1) (fput σ (vl (bt mt n a))) (upd read (95 + (5 * (fR σ - 1) + gI σ)) u) (by omega) (by omega) (fput_ok hok (vl_b _) hcp) (fun k hk => ?_) (fun z => ?_) (fun d' a' σ' read' g1 g2 g3 g4 g5 g6 g7 g8 g9 => hE d' a' σ' read' g1 (by rw [g2, fput_R]) (fun z => ?_) g4 g5 (by omega) g7 g8 g9) hK
          · rw [fput_R, fput_I] at this
            rw [et, e3, nI_1, nI_1]
            exact this
          · rw [fput_S]
            by_cases ek : k = 5 * (fR σ - 1) + gI σ
            · rw [if_pos ek, ek, up_s, eu]
            · rw [if_neg ek, up_n (by omega)]
              exact hm k hk
          · rw [fput_R] at z
            rw [fput_C, if_neg (by have := ci.2 z; omega)]
            exact hx2 z
          · rw [fput_R] at g3
            rw [g3 z, fput_C, if_neg (by have := ci.2 z; omega)]
        unfold wp_X11_readsFloor_151
        rw [ep, px_cl (by omega)]
        refine sign_sp hn (by omega) ⟨fun z => ⟨px_in (by omega) (by decide), nxt _ ?_⟩, fun z => sign_sp hn (by omega) ⟨fun z2 => ⟨px_in (by omega) (by decide), nxt _ ?_⟩, fun z2 => ⟨px_in (by omega) (by decide), nxt _ ?_⟩⟩⟩
        · unfold vl; rw [if_neg (by rw [z]; decide), if_pos z]; rfl
        · rw [w2.mpr z2]; rfl
        · rw [w0.mpr ((hs.resolve_left z).resolve_right z2)]; rfl
      have p130 : canPut σ (vl (bt mt n a)) → ∀ t0, nI (fQ σ) + t0 = nI (fQ (fput σ (vl (bt mt n a)))) → wp_X11_readsFloor_130 (nI (fR σ - 1)) mt (nI n) (fun x3 x4 x5 r at_ => wp_X11_readsFloor_41 (nI (fR σ - 1)) x2 mt (nI n) E K d x3 x4 x5 r at_) K (nI (gD σ)) (nI (gI σ)) read (nI a) t0 (nI (fQ σ)) := by
        intro hcp t0 et x3 e3
        refine ⟨fun z => sign_sp hn (by omega) ⟨fun z2 => p151 hcp _ _ ?_ (e3.trans et), fun z2 => p151 hcp _ _ ?_ (e3.trans et)⟩, fun z => p151 hcp _ _ ?_ (e3.trans et)⟩
        · rw [fput_D, if_pos (w2.mpr z2)]; rfl
        · rw [fput_D, if_neg (fun y => z2 (w2.mp y))]; exact z.symm
        · rw [fput_D]
          split
          · rfl
          · rcases hD with y | y
            · exact absurd (by rw [y]; rfl) z
            · rw [y]; rfl
      have p115 : canPut σ (vl (bt mt n a)) → wp_X11_readsFloor_115 (nI (fR σ - 1)) mt (nI n) (fun x3 x4 x5 r at_ => wp_X11_readsFloor_41 (nI (fR σ - 1)) x2 mt (nI n) E K d x3 x4 x5 r at_) K (nI (fQ σ)) (nI (gD σ)) (nI (gI σ)) read (nI a) := by
        intro hcp
        refine sign_sp hn (by omega) ⟨fun z => p130 hcp _ ?_, fun z => p130 hcp _ ?_⟩
        · rw [fput_Q, if_pos (w0.mpr z), show (0 : Int32) = nI 0 from rfl, nI_add]
        · rw [fput_Q, if_neg (fun y => z (w0.mp y)), nI_1]
      have p98 : gI σ < lim σ → (vl (bt mt n a) = 2 → gD σ = 0) → wp_X11_readsFloor_98 (nI (fR σ - 1)) mt (nI n) (fun x3 x4 x5 r at_ => wp_X11_readsFloor_41 (nI (fR σ - 1)) x2 mt (nI n) E K d x3 x4 x5 r at_) K (nI (fQ σ)) (nI (gD σ)) (nI (gI σ)) read (nI a) := by
        intro y1 y2
        refine sign_sp hn (by omega) ⟨fun z => p115 ⟨y1, Or.inl (w0.mpr z), y2⟩, fun z => ⟨fun z2 => bad (fun y => ?_) _, fun z2 => p115 ⟨y1, Or.inr ?_, y2⟩⟩⟩
        · rw [px_lit, nI_eq (by omega) (by omega)] at z2
          rcases y.2.1 with y | y
          · exact z (w0.mp y)
          · omega
        · rw [px_lit, nI_eq (by omega) (by omega)] at z2
          omega
      have p84 : gI σ < lim σ → wp_X11_readsFloor_84 (nI (fR σ - 1)) mt (nI n) (fun x3 x4 x5 r at_ => wp_X11_readsFloor_41 (nI (fR σ - 1)) x2 mt (nI n) E K d x3 x4 x5 r at_) K (nI (fQ σ)) (nI (gD σ)) (nI (gI σ)) read (nI a) := by
        intro y1
        refine sign_sp hn (by omega) ⟨fun z => ⟨fun z2 => p98 y1 (fun _ => ?_), fun z2 => bad (fun y => z2 (by rw [y.2.2 (w2.mpr z)]; rfl)) _⟩, fun z => p98 y1 (fun y => absurd (w2.mp y) z)⟩
        rw [← nI_0, nI_eq (by omega) (by omega)] at z2
        exact z2
      have p68 : wp_X11_readsFloor_68 (nI (fR σ - 1)) x2 mt (nI n) (fun x3 x4 x5 r at_ => wp_X11_readsFloor_41 (nI (fR σ - 1)) x2 mt (nI n) E K d x3 x4 x5 r at_) K (nI (fQ σ)) (nI (gD σ)) (nI (gI σ)) read (nI a) := by
        refine ⟨fun z => bad (fun y => ?_) _, fun z => ⟨fun z2 => p84 ?_, fun z2 => ⟨fun z3 => bad (fun y => ?_) _, fun z3 => p84 ?_⟩⟩⟩
        · rw [px_lit, nI_eq (by omega) (by omega)] at z
          have := y.1
          unfold lim at this
          split at this <;> omega
        · rw [px_lit, nI_eq (by omega) (by omega)] at z
          rw [← nI_0, nI_leI (by omega) (by omega)] at z2
          unfold lim
          rw [if_pos (by omega)]
          omega
        · rw [← nI_0, nI_leI (by omega) (by omega)] at z2
          rw [hx2 (by omega), nI_eq (by omega) (by omega)] at z3
          have := y.1
          unfold lim at this
          rw [if_neg (by omega)] at this
          omega
        · rw [← nI_0, nI_leI (by omega) (by omega)] at z2
          rw [hx2 (by omega), nI_eq (by omega) (by omega)] at z3
          unfold lim
          rw [if_neg (by omega)]
          omega
      exact sign_sp hn (by omega) ⟨fun _ => p68, fun _ => sign_sp hn (by omega) ⟨fun _ => p68, fun _ => sign_sp hn (by omega) ⟨fun _ => p68, fun z => absurd hs (fun y => by rcases y with y | y | y; rename_i u1 u2; exact u1 y; rename_i u1 u2; exact u2 y; exact z y)⟩⟩⟩
    · have fin := hE (d + 1) a σ read hok rfl (fun _ => rfl) hm h2 (Nat.le_refl _) h1 rfl hs
      exact sign_sp hn (by omega) ⟨fun z => absurd (Or.inl z) hs, fun _ => sign_sp hn (by omega) ⟨fun z => absurd (Or.inr (Or.inl z)) hs, fun _ => sign_sp hn (by omega) ⟨fun z => absurd (Or.inr (Or.inr z)) hs, fun _ => fin⟩⟩⟩
