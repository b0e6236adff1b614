/-! PURE PART: the model's search from an empty plan -/
def p00 : Gr := fun _ _ => 0
theorem keep9_lp {s : IA} {E : IA → Prop} {K : IA → IA → IA → IA → Int32 → Int32 → Prop} (hE : ∀ v : IA, (∀ j, j < 16 → v j = s (77 + j)) → E v) : ∀ (d i : Nat) (v : IA), i + d = 16 → (∀ j, j < i → v j = s (77 + j)) → wp_X11_findSoonest_9 s E K (d + 1) (nI i) v := by
  intro d
  induction d with
  | zero =>
    intro i v hi hv
    have e : i = 16 := by omega
    subst e
    exact ⟨fun _ => hE v hv, fun q => absurd (by decide) q⟩
  | succ d ih =>
    intro i v hi hv
    refine ⟨fun q => absurd q (by rw [px_lit, nI_leI (by omega) (by omega)]; omega), fun _ => ?_⟩
    rw [show (77 : Int32) + nI i = nI (77 + i) by rw [px_lit, nI_add], px_cl (by omega), px_cl (by omega), nI_1]
    refine ⟨px_in (by omega) (by decide), px_in (by omega) (by decide), ih (i + 1) _ (by omega) (fun j hj => ?_)⟩
    by_cases e : j = i
    · subst e; exact up_s
    · rw [up_n e]; exact hv j (by omega)
theorem back70_lp {s0 met best kept : IA} {soon bs : Int32} {K : IA → IA → IA → IA → Int32 → Int32 → Prop} (hK : ∀ v : IA, (∀ j, j < 16 → v (77 + j) = kept j) → (∀ j, (j < 77 ∨ 93 ≤ j) → v j = s0 j) → K v met best kept soon bs) : ∀ (d i : Nat) (v : IA), i + d = 16 → (∀ j, j < i → v (77 + j) = kept j) → (∀ j, (j < 77 ∨ 93 ≤ j) → v j = s0 j) → wp_X11_findSoonest_70 met best kept soon bs K (d + 1) (nI i) v := by
  intro d
  induction d with
  | zero =>
    intro i v hi hv hv2
    have e : i = 16 := by omega
    subst e
    exact ⟨fun _ => hK v hv hv2, fun q => absurd (by decide) q⟩
  | succ d ih =>
    intro i v hi hv hv2
    refine ⟨fun q => absurd q (by rw [px_lit, nI_leI (by omega) (by omega)]; omega), fun _ => ?_⟩
    rw [show (77 : Int32) + nI i = nI (77 + i) by rw [px_lit, nI_add], px_cl (by omega), px_cl (by omega), nI_1]
    refine ⟨px_in (by omega) (by decide), px_in (by omega) (by decide), ih (i + 1) _ (by omega) (fun j hj => ?_) (fun j hj => ?_)⟩
    · by_cases e : j = i
      · subst e; exact up_s
      · rw [up_n (by omega)]; exact hv j (by omega)
    · rw [up_n (by omega)]; exact hv2 j hj
theorem find_sp {s met best kept : IA} {soon bs : Int32} {h : Gr} {b : Nat → Nat} {k : Nat} (ho : okH h) (hb : okB b) (hk : k < 64) (hm : mH s h) (hmb : mB s b) (hmk : s 8 = nI k) (hT : cS h (hR h) ≤ 6) (hT1 : 1 ≤ cS h (hR h)) {K : IA → IA → IA → IA → Int32 → Int32 → Prop} (hK : ∀ s' met' best' kept' soon' bs', (∀ j, j < 120 → s' j = s j) → mA best' soon' bs' (dfs h b k (cS h (hR h)) 8 p00 none) → K s' met' best' kept' soon' bs') : wp_X11_findSoonest s met best kept soon bs K := by
  intro x1 e1
  have e1' : x1 = s 3 := e1
  subst e1'
  have u : ∀ j, j ≠ 3 → upd s (3 : Int32).toNatClampNeg (0 : Int32) j = s j := fun j q => up_n (f := s) (k := 3) q
  have u3 : upd s (3 : Int32).toNatClampNeg (0 : Int32) 3 = nI 0 := up_s
  have hm' : mH (upd s (3 : Int32).toNatClampNeg (0 : Int32)) h := hm.ext ho (fun j q => u j (by omega))
  refine ⟨16 + 1, keep9_lp (fun kp hkp => findMet_sp ho hm' (fun mt' hmt => coats11_sp ho hm' ?_)) 16 0 kept (by omega) (fun j hj => absurd hj (by omega))⟩
  refine goesOn_sp ho hb hk hT hT1 hmt 8 p00 none _ best (-9 : Int32) bs _ (by show _ - 0 < 8; omega) (Nat.zero_le _) (fun i hi => absurd hi (by show ¬ i < 0; omega)) ⟨hm', hmb.ext (fun j q1 q2 => u j (by omega)), (u 8 (by omega)).trans hmk, u3, fun i hi => absurd hi (by show ¬ i < 0; omega)⟩ rfl (fun s' best' soon' bs' k1 k2 k3 => ⟨16 + 1, back70_lp (s0 := upd s' (3 : Int32).toNatClampNeg (s 3)) (fun v hv hv2 => hK _ _ _ _ _ _ (fun j hj => ?_) k3) 16 0 _ (by omega) (fun j hj => absurd hj (by omega)) (fun _ _ => rfl)⟩)
  by_cases q : j < 77 ∨ 93 ≤ j
  · rw [hv2 j q]
    by_cases e3 : j = 3
    · subst e3; exact up_s
    · exact (up_n (f := s') (k := 3) e3).trans ((k2 j hj e3 q).trans (u j e3))
  · have e := hv (j - 77) (by omega)
    rw [show 77 + (j - 77) = j by omega] at e
    rw [e, hkp (j - 77) (by omega), show 77 + (j - 77) = j by omega]
