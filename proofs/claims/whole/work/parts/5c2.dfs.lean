/-! PURE PART: all orders, the model's way -/
abbrev Acc : Type := Option (Nat × Gr)
def putA (t : Nat) (p : Gr) : Acc → Acc
  | none => some (t, p)
  | some a => if t < a.1 then some (t, p) else some a
noncomputable def rmF (h : Gr) (b : Nat → Nat) (k : Nat) (G : Gr → Acc → Acc) (p : Gr) : Nat → Nat → Acc → Acc
  | 0, _, acc => acc
  | c + 1, r, acc => rmF h b k G p c (r + 1) (if cO p r (pN p) = hC h r then acc else match fh h b k p r with
    | none => acc
    | some t => G (ex p r t) acc)
noncomputable def dfs (h : Gr) (b : Nat → Nat) (k T : Nat) : Nat → Gr → Acc → Acc
  | 0, _, acc => acc
  | d + 1, p, acc => if pN p = T then putA (stH h b p) p acc else rmF h b k (dfs h b k T d) p (hR h) 1 acc
def mA (best : IA) (soon bs : Int32) : Acc → Prop
  | none => soon = (-9 : Int32)
  | some (t, q) => soon = nI t ∧ t < 1000 ∧ bs = nI (pN q) ∧ pN q ≤ 8 ∧ ∀ i, i < pN q → best (2 * i) = nI (pR q i) ∧ best (2 * i + 1) = nI (pH q i)
def ot (s s0 : IA) : Prop := ∀ j, j < 120 → j ≠ 3 → (j < 77 ∨ 93 ≤ j) → s j = s0 j
theorem copy54_lp {G : Int32 → IA → IA → IA → Int32 → Int32 → (IA → IA → Int32 → Int32 → Prop) → Prop} {T : Nat} (hT : T ≤ 8) {s : IA} {soon bs : Int32} {K : IA → IA → Int32 → Int32 → Prop} (hK : ∀ v : IA, (∀ j, j < 2 * T → v j = s (77 + j)) → K s v soon bs) : ∀ (d i : Nat) (v : IA), i + d = 2 * T → (∀ j, j < i → v j = s (77 + j)) → wp_X11_goesOn_54 G (nI T) s soon bs K (d + 1) (nI i) v := by
  intro d
  induction d with
  | zero =>
    intro i v hi hv
    have e : i = 2 * T := by omega
    subst e
    exact ⟨fun _ => hK v hv, fun q => absurd (by rw [px_lit, pk_mul, nI_leI (by omega) (by omega)]; omega) q⟩
  | succ d ih =>
    intro i v hi hv
    refine ⟨fun q => absurd q (by rw [px_lit, pk_mul, nI_leI (by omega) (by omega)]; omega), fun _ => ?_⟩
    rw [show (77 : Int32) + nI i = nI (77 + i) by rw [px_lit, nI_add], px_cl (by omega), px_cl (by omega), nI_1]
    refine ⟨px_in (by omega) (by decide), px_in (by omega) (by decide), ih (i + 1) _ (by omega) (fun j hj => ?_)⟩
    by_cases e : j = i
    · subst e; exact up_s
    · rw [up_n e]; exact hv j (by omega)
theorem goesOn_sp {h : Gr} {b : Nat → Nat} {k T : Nat} {met : IA} (ho : okH h) (hb : okB b) (hk : k < 64) (hT : T ≤ 6) (hT1 : 1 ≤ T) (hmet : metOK h met 64) : ∀ (d : Nat) (p : Gr) (acc : Acc) (s best : IA) (soon bs : Int32) (K : IA → IA → Int32 → Int32 → Prop), T - pN p < d → pN p ≤ T → plOK h p → mS s h b k p → mA best soon bs acc → (∀ s' best' soon' bs', mS s' h b k p → ot s' s → mA best' soon' bs' (dfs h b k T d p acc) → K s' best' soon' bs') → wp_X11_goesOn d (nI T) s met best soon bs K := by
  have h5 := ho.1.1
  intro d
  induction d with
  | zero => intro p acc s best soon bs K h1; omega
  | succ d ih =>
    intro p acc s best soon bs K hd hp hpl hm ha hK
    have m1 := hm.1
    have m3 : s (3 : Int32).toNatClampNeg = nI (pN p) := hm.2.2.2.1
    have m5 := hm.2.2.2.2
    refine ⟨fun q => ?_, fun q => ?_⟩
    · rw [m3, nI_eq (by omega) (by omega)] at q
      have hq := hpl (pN p - 1) (by omega)
      have ht := tk_b ho hb hq.1.1 hq.1.2
      have e : stH h b p = en h b p (pN p - 1) := by unfold stH; rw [if_neg (by omega)]
      have hen2 : en h b p (pN p - 1) ≤ 69 := by unfold en; omega
      have hdf : dfs h b k T (d + 1) p acc = putA (en h b p (pN p - 1)) p acc := by rw [dfs, if_pos q, e]
      rw [hdf] at hK
      refine ⟨fun z => absurd z (nI_ne0 (by omega) (by omega)), fun _ => ?_⟩
      rw [show nI T - (1 : Int32) = nI (pN p - 1) by rw [px_lit, pk_sub (by omega), q]]
      have put : mA best soon bs acc → (∃ n : Nat, wp_X11_goesOn_54 (wp_X11_goesOn d) (nI T) s (nI (en h b p (pN p - 1))) (nI T) (fun s' best' soon' bs' => ∀ a', a' = some (en h b p (pN p - 1), p) → mA best' soon' bs' a' ∧ s' = s) n (0 : Int32) best) := fun _ => ⟨2 * T + 1, copy54_lp (by omega) (fun v hv a' ea => by
        subst ea
        exact ⟨⟨rfl, by omega, by rw [q], by omega, fun i hi => ⟨(hv (2 * i) (by omega)).trans (m5 i hi).1, by rw [hv (2 * i + 1) (by omega), show 77 + (2 * i + 1) = 78 + 2 * i by omega]; exact (m5 i hi).2⟩⟩, rfl⟩) (2 * T) 0 best (by omega) (fun j hj => absurd hj (by omega))⟩
      have keep : (putA (en h b p (pN p - 1)) p acc = some (en h b p (pN p - 1), p)) → ∃ n : Nat, wp_X11_goesOn_54 (wp_X11_goesOn d) (nI T) s (nI (en h b p (pN p - 1))) (nI T) K n (0 : Int32) best := fun ep => ⟨2 * T + 1, copy54_lp (by omega) (fun v hv => hK _ _ _ _ hm (fun _ _ _ _ => rfl) (by
        rw [ep]
        exact ⟨rfl, by omega, by rw [q], by omega, fun i hi => ⟨(hv (2 * i) (by omega)).trans (m5 i hi).1, by rw [hv (2 * i + 1) (by omega), show 77 + (2 * i + 1) = 78 + 2 * i by omega]; exact (m5 i hi).2⟩⟩)) (2 * T) 0 best (by omega) (fun j hj => absurd hj (by omega))⟩
      refine endOf_sp (n := pN p) ho hb m1 hm.2.1 m5 (by omega) (by omega) hq.1.1 hq.1.2 ?_
      cases acc with
      | none =>
        have es : soon = (-9 : Int32) := ha
        subst es
        exact ⟨fun _ => keep rfl, fun z => absurd px_neg9 z⟩
      | some a =>
        obtain ⟨t0, q0⟩ := a
        obtain ⟨es, a1, a2⟩ := ha
        subst es
        refine ⟨fun z => absurd z (nI_pos (by omega)), fun _ => ⟨fun z => ?_, fun z => ?_⟩⟩
        · rw [nI_ltI (by omega) (by omega)] at z
          exact keep (if_pos z)
        · rw [nI_ltI (by omega) (by omega)] at z
          refine hK _ _ _ _ hm (fun _ _ _ _ => rfl) ?_
          rw [show putA (en h b p (pN p - 1)) p (some (t0, q0)) = some (t0, q0) from if_neg z]
          exact ⟨rfl, a1, a2⟩
    · rw [m3, nI_eq (by omega) (by omega)] at q
      have hdf : dfs h b k T (d + 1) p acc = rmF h b k (dfs h b k T d) p (hR h) 1 acc := by rw [dfs, if_neg q]
      rw [hdf] at hK
      have loop : ∀ (c r : Nat) (acc : Acc) (s1 best : IA) (soon bs : Int32), r + c = hR h + 1 → 1 ≤ r → mS s1 h b k p → ot s1 s → mA best soon bs acc → (∀ s' best' soon' bs', mS s' h b k p → ot s' s → mA best' soon' bs' (rmF h b k (dfs h b k T d) p c r acc) → K s' best' soon' bs') → wp_X11_goesOn_85 (wp_X11_goesOn d) (nI T) met K (c + 1) (nI r) s1 best soon bs := by
        intro c
        induction c with
        | zero =>
          intro r acc s1 best soon bs hr hr1 hm1 hot ha hK
          have e0 : s1 (0 : Int32).toNatClampNeg = nI (hR h + 1) := hm1.1.1
          exact ⟨fun _ => hK _ _ _ _ hm1 hot ha, fun z => absurd (by rw [e0, nI_leI (by omega) (by omega)]; omega) z⟩
        | succ c ihc =>
          intro r acc s1 best soon bs hr hr1 hm1 hot ha hK
          have e0 : s1 (0 : Int32).toNatClampNeg = nI (hR h + 1) := hm1.1.1
          have e3 : s1 (3 : Int32).toNatClampNeg = nI (pN p) := hm1.2.2.2.1
          have hcC := (ho.2.1 r hr1 (by omega)).2
          have hcb := cO_b (p := p) (r := r) (pN p)
          refine ⟨fun z => absurd z (by rw [e0, nI_leI (by omega) (by omega)]; omega), fun _ => ?_⟩
          rw [e3, show (15 : Int32) + nI r = nI (15 + r) by rw [px_lit, nI_add], px_cl (by omega), (hm1.1.2.2.2.1 r hr1 (by omega)).2, nI_1]
          refine coatsOf_sp (n := pN p) ho (by omega) hm1.2.2.2.2 (Nat.le_refl _) (by omega) (fun i hi => ⟨(hpl i hi).1, by have := (hpl i hi).2; omega⟩) ⟨px_in (by omega) (by decide), fun z => ?_, fun z => ?_⟩
          · rw [nI_eq (by omega) (by omega)] at z
            rw [rmF, if_pos z] at hK
            exact ihc (r + 1) acc s1 best soon bs (by omega) (by omega) hm1 hot ha hK
          · rw [nI_eq (by omega) (by omega)] at z
            rw [rmF, if_neg z] at hK
            refine canB_sp ho hb hk (by omega) hpl hr1 (by omega) hmet hm1 (fun t' s' g1 g2 g3 g4 g5 => ⟨fun y => absurd y px_01, fun _ => ?_⟩) (fun g1 s' g4 g5 => ⟨fun _ => ?_, fun y => absurd rfl y⟩)
            · rw [g1] at hK
              refine ih (ex p r t') acc s' best soon bs _ (by rw [ex_N]; omega) (by rw [ex_N]; omega) (fun i hi => ?_) g4 ha (fun s'' best' soon' bs' k1 k2 k3 => ?_)
              · rw [ex_N] at hi
                by_cases ei : i = pN p
                · subst ei
                  rw [ex_Rn, ex_Hn]
                  exact ⟨⟨hr1, by omega⟩, g3⟩
                · rw [ex_R ei, ex_H ei]
                  exact hpl i (by omega)
              · obtain ⟨n1, n2, n3, n4, n5⟩ := k1
                rw [ex_N] at n4 n5
                have e3' : s'' (3 : Int32).toNatClampNeg - (1 : Int32) = nI (pN p) := by
                  show s'' 3 - (1 : Int32) = _
                  rw [n4, px_lit, pk_sub (by omega)]; rfl
                rw [e3']
                refine ihc (r + 1) _ _ best' soon' bs' (by omega) (by omega) ⟨n1.ext ho (fun j hj => up_n (f := s'') (k := 3) (by omega)), n2.ext (fun j q1 q2 => up_n (f := s'') (k := 3) (by omega)), (up_n (f := s'') (k := 3) (by omega)).trans n3, up_s, fun i hi => ?_⟩ (fun j q1 q2 q3 => (up_n (f := s'') (k := 3) (by omega)).trans ((k2 j q1 q2 q3).trans ((g5 j q1 q2 q3).trans (hot j q1 q2 q3)))) k3 hK
                have := n5 i (by omega)
                rw [ex_R (by omega), ex_H (by omega)] at this
                exact ⟨(up_n (f := s'') (k := 3) (by omega)).trans this.1, (up_n (f := s'') (k := 3) (by omega)).trans this.2⟩
            · rw [g1] at hK
              exact ihc (r + 1) acc s' best soon bs (by omega) (by omega) g4 (fun j q1 q2 q3 => (g5 j q1 q2 q3).trans (hot j q1 q2 q3)) ha hK
      exact ⟨hR h + 1, loop (hR h) 1 acc s best soon bs (by omega) (by omega) hm (fun _ _ _ _ => rfl) ha hK⟩
