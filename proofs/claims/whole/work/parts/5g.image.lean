/-! PURE PART: square, image, on -/
def cSc (rooms doors needs : Int32) (work coats beside np : IA) (steps : Int32) (rr rh : IA) (signs : IA) (rows cols squares hd : Int32) (hab : IA) (planked : Int32) (h p : Gr) (b : Nat → Nat) (k : Nat) (f : Gr) : Prop := cH rooms doors needs work coats beside np h ∧ cP steps rr rh p ∧ cF signs rows cols squares hd f ∧ cB hab b ∧ planked = nI k
theorem SC.ext {s s' : IA} {h p : Gr} {b : Nat → Nat} {k : Nat} {f : Gr} (hs : SC s h p b k f) (e : ∀ j, j < 120 → s' j = s j) : SC s' h p b k f := by
  obtain ⟨o1, o2, o3, o4, o5, m1, m2, m3, m4, m5⟩ := hs
  exact ⟨o1, o2, o3, o4, o5, m1.ext o1 (fun j hj => e j (by omega)), m2.ext o2 (fun j hj => e j (by omega)), m3.ext (fun j h1 h2 => e j (by omega)), (e 8 (by omega)).trans m4, m5.ext (fun j h1 h2 => e j (by omega))⟩
theorem become_sp {rooms doors needs : Int32} {work coats beside np : IA} {steps : Int32} {rr rh : IA} {signs : IA} {rows cols squares hd inr : Int32} {hab : IA} {planked : Int32} {rooms1 doors1 needs1 : Int32} {work1 coats1 beside1 np1 : IA} {steps1 : Int32} {rr1 rh1 : IA} {signs1 : IA} {rows1 cols1 squares1 hd1 inr1 : Int32} {hab1 : IA} {planked1 : Int32} {h p : Gr} {b : Nat → Nat} {k : Nat} {f : Gr} (ho : okH h) (hp : okP h p) (hf : okF f) (hs : cSc rooms1 doors1 needs1 work1 coats1 beside1 np1 steps1 rr1 rh1 signs1 rows1 cols1 squares1 hd1 hab1 planked1 h p b k f) {K : Int32 → Int32 → Int32 → IA → IA → IA → IA → Int32 → IA → IA → IA → Int32 → Int32 → Int32 → Int32 → Int32 → IA → Int32 → Prop} (hK : ∀ work' coats' beside' np' rr' rh' signs' hab', cSc rooms1 doors1 needs1 work' coats' beside' np' steps1 rr' rh' signs' rows1 cols1 squares1 hd1 hab' planked1 h p b k f → K rooms1 doors1 needs1 work' coats' beside' np' steps1 rr' rh' signs' rows1 cols1 squares1 hd1 inr1 hab' planked1) : wp_X6_become rooms doors needs work coats beside np steps rr rh signs rows cols squares hd inr hab planked rooms1 doors1 needs1 work1 coats1 beside1 np1 steps1 rr1 rh1 signs1 rows1 cols1 squares1 hd1 inr1 hab1 planked1 K := by
  obtain ⟨⟨a1, a2, a3, a4, a5, a6⟩, ⟨p1, p2⟩, ⟨f1, f2, f3, f4, f5⟩, hb, hk⟩ := hs
  obtain ⟨h5, h12, h8⟩ := ho.1
  have p8 := hp.1
  have r5 := hf.2.1
  have c5 := hf.2.2.1
  refine ⟨f4, hK _ _ _ _ _ _ _ _ ⟨⟨a1, a2, a3, fun r x y => ⟨?_, ?_⟩, fun a x => ?_, fun j x => ?_⟩, ⟨p1, fun i x => ⟨?_, ?_⟩⟩, ⟨f1, f2, f3, f4, fun r c x y => ?_⟩, fun j x => ?_, hk⟩⟩
  · rw [cp_in (by omega)]; exact (a4 r x y).1
  · rw [cp_in (by omega)]; exact (a4 r x y).2
  · rw [cp_in x]; exact a5 a x
  · rw [cp_in (by omega)]; exact a6 j x
  · rw [cp_in (by omega)]; exact (p2 i x).1
  · rw [cp_in (by omega)]; exact (p2 i x).2
  · rw [cp_in (by omega)]; exact f5 r c x y
  · rw [cp_in x]; exact hb j x
theorem image11_lp {s : IA} {K : Int32 → IA → Int32 → Prop} {isI : Int32} (hK : ∀ v : IA, (∀ j, j < 120 → v j = s j) → K (s 0 - 1) v 1) : ∀ (d i : Nat) (v : IA), i + d = 120 → (∀ j, j < i → v j = s j) → wp_X11_image_2 s K (d + 1) (nI i) v isI := by
  intro d
  induction d with
  | zero =>
    intro i v hi hv
    have e : i = 120 := by omega
    subst e
    exact ⟨fun _ => hK v hv, fun q => absurd (by decide) q⟩
  | succ d ih =>
    intro i v hi hv
    refine ⟨fun q => absurd q (by rw [px_lit, nI_leI (by omega) (by omega)]; omega), fun _ => ⟨px_in (by omega) (by decide), ?_⟩⟩
    rw [px_cl (by omega), nI_1]
    refine ih (i + 1) _ (by omega) (fun j hj => ?_)
    by_cases e : j = i
    · subst e; exact up_s
    · rw [up_n e]; exact hv j (by omega)
theorem on11_lp {mr img : IA} {K : Int32 → IA → IA → Prop} (hK : ∀ v : IA, (∀ j, j < 120 → v j = img j) → K (v 0 - 1) mr v) : ∀ (d i : Nat) (v : IA), i + d = 120 → (∀ j, j < i → v j = img j) → wp_X11_on_16 mr img K (d + 1) (nI i) v := by
  intro d
  induction d with
  | zero =>
    intro i v hi hv
    have e : i = 120 := by omega
    subst e
    exact ⟨fun _ => hK v hv, fun q => absurd (by decide) q⟩
  | succ d ih =>
    intro i v hi hv
    refine ⟨fun q => absurd q (by rw [px_lit, nI_leI (by omega) (by omega)]; omega), fun _ => ⟨px_in (by omega) (by decide), ?_⟩⟩
    rw [px_cl (by omega), nI_1]
    refine ih (i + 1) _ (by omega) (fun j hj => ?_)
    by_cases e : j = i
    · subst e; exact up_s
    · rw [up_n e]; exact hv j (by omega)
theorem m_image {s img : IA} {isI it : Int32} {rooms doors needs : Int32} {work coats beside np : IA} {steps : Int32} {rr rh : IA} {signs : IA} {rows cols squares hd inr : Int32} {hab : IA} {planked : Int32} {rooms1 doors1 needs1 : Int32} {work1 coats1 beside1 np1 : IA} {steps1 : Int32} {rr1 rh1 : IA} {signs1 : IA} {rows1 cols1 squares1 hd1 inr1 : Int32} {hab1 : IA} {planked1 : Int32} {h p : Gr} {b : Nat → Nat} {k : Nat} {f : Gr} (hS : SC s h p b k f) (hc : cSc rooms doors needs work coats beside np steps rr rh signs rows cols squares hd hab planked h p b k f) : wp_X10_image rooms doors needs work coats beside np steps rr rh signs rows cols squares hd inr hab planked rooms1 doors1 needs1 work1 coats1 beside1 np1 steps1 rr1 rh1 signs1 rows1 cols1 squares1 hd1 inr1 hab1 planked1 it (fun r rooms' doors' needs' work' coats' beside' np' steps' rr' rh' signs' rows' cols' squares' hd' _ hab' planked' it' => wp_X11_image s img isI (fun r' img' isI' => r = r' ∧ it' = 1 ∧ isI' = 1 ∧ SC img' h p b k f ∧ cSc rooms' doors' needs' work' coats' beside' np' steps' rr' rh' signs' rows' cols' squares' hd' hab' planked' h p b k f)) := by
  have ho := hS.1
  have h5 := ho.1.1
  refine become_sp hS.1 hS.2.1 hS.2.2.2.2.1 hc (fun work' coats' beside' np' rr' rh' signs' hab' hc' => ⟨120 + 1, image11_lp (fun v hv => ⟨?_, rfl, rfl, hS.ext hv, hc'⟩) 120 0 img (by omega) (fun j hj => absurd hj (by omega))⟩)
  rw [hc.1.1, hS.2.2.2.2.2.1.1, px_lit, pk_sub (by omega)]
  rfl
def Rimg (it isI : Int32) (img : IA) (rooms doors needs : Int32) (work coats beside np : IA) (steps : Int32) (rr rh : IA) (signs : IA) (rows cols squares hd : Int32) (hab : IA) (planked : Int32) : Prop := (it = 0 ∧ isI = 0) ∨ (it = 1 ∧ isI = 1 ∧ ∃ h p b k f, SC img h p b k f ∧ cSc rooms doors needs work coats beside np steps rr rh signs rows cols squares hd hab planked h p b k f)
theorem m_on {cr mr s img ct br : IA} {isI it : Int32} {rooms doors needs : Int32} {work coats beside np : IA} {steps : Int32} {rr rh : IA} {signs : IA} {rows cols squares hd inr : Int32} {hab : IA} {planked : Int32} {rooms1 doors1 needs1 : Int32} {work1 coats1 beside1 np1 : IA} {steps1 : Int32} {rr1 rh1 : IA} {signs1 : IA} {rows1 cols1 squares1 hd1 inr1 : Int32} {hab1 : IA} {planked1 : Int32} {h p : Gr} {b : Nat → Nat} {k : Nat} {f : Gr} (hr : Rref cr mr) (hS : SC s h p b k f) (hc : cSc rooms doors needs work coats beside np steps rr rh signs rows cols squares hd hab planked h p b k f) (hwy : wOK h ct br (2 ^ hR h)) (hi : Rimg it isI img rooms1 doors1 needs1 work1 coats1 beside1 np1 steps1 rr1 rh1 signs1 rows1 cols1 squares1 hd1 hab1 planked1) : wp_X10_on cr ct br rooms doors needs work coats beside np steps rr rh signs rows cols squares hd inr hab planked rooms1 doors1 needs1 work1 coats1 beside1 np1 steps1 rr1 rh1 signs1 rows1 cols1 squares1 hd1 inr1 hab1 planked1 it (fun r cr' ct' br' rooms' doors' needs' work' coats' beside' np' steps' rr' rh' signs' rows' cols' squares' hd' _ hab' planked' => wp_X11_on mr s img isI (fun r' mr' s' => r = r' ∧ Rref cr' mr' ∧ ∃ h p b k f, SC s' h p b k f ∧ cSc rooms' doors' needs' work' coats' beside' np' steps' rr' rh' signs' rows' cols' squares' hd' hab' planked' h p b k f ∧ wOK h ct' br' (2 ^ hR h))) := by
  rcases hi with ⟨rfl, rfl⟩ | ⟨rfl, rfl, h1, p1, b1, k1, f1, hS1, hc1⟩
  · exact ⟨fun _ => rf10 3 (by decide) (by decide) ⟨fun _ => rf11 3 (by decide) (by decide) ⟨rfl, hr.up 3 (by decide), h, p, b, k, f, hS, hc, hwy⟩, fun q => absurd rfl q⟩, fun q => absurd rfl q⟩
  · refine ⟨fun q => absurd q px_01, fun _ => become_sp hS1.1 hS1.2.1 hS1.2.2.2.2.1 hc1 (fun work' coats' beside' np' rr' rh' signs' hab' hc' => ?_)⟩
    have h5 := hS1.1.1.1
    have e1 : rooms1 = nI (hR h1) := hc1.1.1
    have e2 : needs1 = nI (hN h1) := hc1.1.2.2.1
    rw [e1, e2] at hc' ⊢
    refine learn_sp hS1.1 hc'.1.2.2.2.2.1 hc'.1.2.2.2.2.2 (fun ct' br' hw' => ⟨fun q => absurd q px_01, fun _ => ⟨120 + 1, on11_lp (fun v hv => ⟨?_, hr, h1, p1, b1, k1, f1, hS1.ext hv, hc', hw'⟩) 120 0 s (by omega) (fun j hj => absurd hj (by omega))⟩⟩)
    rw [hv 0 (by omega), hS1.2.2.2.2.2.1.1, px_lit, pk_sub (by omega)]
    rfl
theorem m_square {x1 x2 : Int32} {cr mr s signs : IA} {rows cols squares hd : Int32} {f : Gr} (hr : Rref cr mr) (hf : okF f) (hc : cF signs rows cols squares hd f) (hm : mF s f) : wp_X10_square x1 x2 cr signs rows cols squares (fun r cr' => wp_X11_square x1 x2 mr s (fun r' mr' => r = r' ∧ Rref cr' mr')) := by
  obtain ⟨rfl, rfl, rfl, -, f5⟩ := hc
  obtain ⟨g1, r5, c5, -, -, -, q10, -⟩ := hf
  obtain ⟨m1, m2, m3⟩ := hm
  have e93 : s (93 : Int32).toNatClampNeg = nI (fR f) := m1
  have e94 : s (94 : Int32).toNatClampNeg = nI (fC f) := m2
  by_cases h0 : fQ f = 0
  · have hr0 := g1.mp h0
    refine ⟨fun _ => rf10 3 (by decide) (by decide) ⟨fun _ => rf11 3 (by decide) (by decide) ⟨rfl, hr.up 3 (by decide)⟩, fun q => absurd (by rw [e93, hr0]; rfl) q⟩, fun q => absurd (by rw [h0]; rfl) q⟩
  · have hr0 : ¬ fR f = 0 := fun e => h0 (g1.mpr e)
    have n93 : ¬ nI (fR f) = 0 := nI_ne0 (by omega) (by omega)
    have no1 : (x1 < 0 ∨ ∃ k, fR f ≤ k ∧ k < 2 ^ 31 ∧ x1 = nI k) → wp_X10_square_56 (fun r cr' => wp_X11_square x1 x2 mr s (fun r' mr' => r = r' ∧ Rref cr' mr')) cr := by
      intro hx
      refine rf10 1 (by decide) (by decide) ⟨fun q => absurd (by rw [e93] at q; exact q) n93, fun _ => ?_⟩
      rw [e93]
      exact isIn_out (by omega) hx ⟨fun _ => rf11 1 (by decide) (by decide) ⟨rfl, hr.up 1 (by decide)⟩, fun q => absurd rfl q⟩
    refine ⟨fun q => absurd q (nI_ne0 (by omega) (by omega)), fun _ => ?_⟩
    rcases px_cases x1 (fR f) (by omega) with hx | ⟨i, hi, rfl⟩ | ⟨i, hi, hi2, rfl⟩
    · exact ⟨fun _ => no1 (Or.inl hx), fun q => absurd hx q⟩
    · have no2 : (x2 < 0 ∨ ∃ k, fC f ≤ k ∧ k < 2 ^ 31 ∧ x2 = nI k) → wp_X10_square_56 (fun r cr' => wp_X11_square (nI i) x2 mr s (fun r' mr' => r = r' ∧ Rref cr' mr')) cr := by
        intro hx
        refine rf10 1 (by decide) (by decide) ⟨fun q => absurd (by rw [e93] at q; exact q) n93, fun _ => ?_⟩
        rw [e93, e94]
        exact isIn_in hi (by omega) ⟨fun q => absurd q px_01, fun _ => isIn_out (by omega) hx ⟨fun _ => rf11 1 (by decide) (by decide) ⟨rfl, hr.up 1 (by decide)⟩, fun q => absurd rfl q⟩⟩
      have a0 : ¬ nI i < 0 := nI_pos (by omega)
      have a1 : ¬ nI (fR f) ≤ nI i := by rw [nI_leI (by omega) (by omega)]; omega
      refine ⟨fun q => absurd q a0, fun _ => ⟨fun q => absurd q a1, fun _ => ?_⟩⟩
      rcases px_cases x2 (fC f) (by omega) with hx | ⟨j, hj, rfl⟩ | ⟨j, hj, hj2, rfl⟩
      · exact ⟨fun _ => no2 (Or.inl hx), fun q => absurd hx q⟩
      · have b0 : ¬ nI j < 0 := nI_pos (by omega)
        have b1 : ¬ nI (fC f) ≤ nI j := by rw [nI_leI (by omega) (by omega)]; omega
        refine ⟨fun q => absurd q b0, fun _ => ⟨fun _ => ?_, fun q => absurd (by rw [nI_ltI (by omega) (by omega)]; omega) q⟩⟩
        refine ⟨fun q => absurd q a0, fun _ => ⟨fun q => absurd q a1, fun _ => ⟨fun q => absurd q b0, fun _ => ⟨fun q => absurd q b1, fun _ => ⟨fun q => absurd q px_01, fun _ => ?_⟩⟩⟩⟩⟩
        rw [show (nI i * (5 : Int32)) + nI j = nI (5 * i + j) by rw [px_lit, pk_mul, nI_add, Nat.mul_comm], px_cl (by omega), f5 i j hi hj]
        refine ⟨px_in (by omega) (by decide), ⟨fun q => absurd (by rw [e93] at q; exact q) n93, fun _ => ?_⟩⟩
        rw [e93, e94]
        refine isIn_in hi (by omega) ⟨fun q => absurd q px_01, fun _ => isIn_in hj (by omega) ⟨fun q => absurd q px_01, fun _ => ?_⟩⟩
        rw [show ((95 : Int32) + ((5 : Int32) * nI i)) + nI j = nI (95 + (5 * i + j)) by rw [px_lit, px_lit, pk_mul, nI_add, nI_add, Nat.add_assoc], px_cl (by omega), m3 _ (by omega)]
        exact ⟨px_in (by omega) (by decide), rfl, hr⟩
      · exact ⟨fun q => absurd q (nI_pos (by omega)), fun _ => ⟨fun q => absurd q (by rw [nI_ltI (by omega) (by omega)]; omega), fun _ => no2 (Or.inr ⟨j, hj, hj2, rfl⟩)⟩⟩
    · exact ⟨fun q => absurd q (nI_pos (by omega)), fun _ => ⟨fun _ => no1 (Or.inr ⟨i, hi, hi2, rfl⟩), fun q => absurd (by rw [nI_leI (by omega) (by omega)]; omega) q⟩⟩
