/-! PURE PART: out, both sides -/
theorem outc_sp {signs num bes been : IA} {rows cols squares hd sqs dr : Int32} {f : Gr} (hf : okF f) (hc : cF signs rows cols squares hd f) (hq : fQ f ≠ 0) {K : Int32 → IA → IA → IA → Int32 → Int32 → Prop} (hK : ∀ d r num bes been sqs dr, d < 25 → fS f d = 2 → (∀ k, k < 25 → fS f k = 2 → k = d) → oR (jn f 25) (fQ f) (fN f d) r → K r num bes been sqs dr) : wp_X4_leastMoves num bes been sqs dr signs rows cols K := by
  obtain ⟨rfl, rfl, -, -, hsg⟩ := hc
  obtain ⟨d, d1, d2, d3⟩ := hf.2.2.2.2.2.2.2 hq
  exact number_sp hf d1 d3 d2 hsg (fun num' hn => join_sp hf hsg hn (fun bes' hb => least26_sp hf.2.2.2.2.2.2.1 (fun x y z => jn_s z) (fN_q hf d1 (by omega)) hb (fun r been' hr => hK d r num' bes' been' _ _ d1 d2 d3 hr)))
theorem outn_sp {signs num bes : IA} {rows cols squares hd sqs dr : Int32} {f : Gr} (hf : okF f) (hc : cF signs rows cols squares hd f) (hq : fQ f ≠ 0) {K : Int32 → IA → IA → IA → Int32 → Int32 → Prop} (hK : ∀ d r num bes been sqs dr, d < 25 → fS f d = 2 → (∀ k, k < 25 → fS f k = 2 → k = d) → oR (jn f 25) (fQ f) (fN f d) r → K r num bes been sqs dr) : wp_X4_leastMoves_n num bes sqs dr signs rows cols K := by
  obtain ⟨rfl, rfl, -, -, hsg⟩ := hc
  obtain ⟨d, d1, d2, d3⟩ := hf.2.2.2.2.2.2.2 hq
  exact number_sp hf d1 d3 d2 hsg (fun num' hn => join_sp hf hsg hn (fun bes' hb => least26_sp hf.2.2.2.2.2.2.1 (fun x y z => jn_s z) (fN_q hf d1 (by omega)) hb (fun r been' hr => hK d r num' bes' been' _ _ d1 d2 d3 hr)))
theorem out11_r {s mr cr sq far queue : IA} {f : Gr} (hr : Rref cr mr) (hf : okF f) (hm : mF s f) (hq : fQ f = 0) : wp_X11_out mr s sq far queue (fun r' mr' _ _ _ => (-3 : Int32) = r' ∧ Rref (upd cr 3 (cr 3 + 1)) mr') := by
  have e : s (93 : Int32).toNatClampNeg = nI 0 := by
    have := hm.1
    rw [hf.1.mp hq] at this
    exact this
  refine ⟨fun _ => rf11 3 (by decide) (by decide) ⟨rfl, hr.up 3 (by decide)⟩, fun z => absurd ?_ z⟩
  rw [e]
  rfl
theorem m_out {cr mr s sq far queue signs num bes been : IA} {rows cols squares hd sqs dr : Int32} {f : Gr} (hr : Rref cr mr) (hf : okF f) (hc : cF signs rows cols squares hd f) (hm : mF s f) : wp_X10_out cr num bes been sqs dr signs rows cols squares (fun r cr' _ _ _ _ _ => wp_X11_out mr s sq far queue (fun r' mr' _ _ _ => r = r' ∧ Rref cr' mr')) := by
  have f10 := hf.2.2.2.2.2.2.1
  have hsq := hc.2.2.1
  refine ⟨fun q => rf10 3 (by decide) (by decide) (out11_r hr hf hm ?_), fun q => outc_sp hf hc (fun z => q (by rw [hsq, z]; rfl)) (fun d r num bes been sqs dr d1 d2 d3 ho => out11_sp hf (fun z => q (by rw [hsq, z]; rfl)) d1 d3 d2 hm (fun r' sq far queue ho' => ⟨oR_uq ho ho', hr⟩))⟩
  rw [hsq, ← nI_0, nI_eq (by omega) (by omega)] at q
  exact q
theorem m_out_r {cr mr s sq far queue signs : IA} {rows cols squares hd : Int32} {f : Gr} (hr : Rref cr mr) (hf : okF f) (hc : cF signs rows cols squares hd f) (hm : mF s f) (h0 : squares = 0) : wp_X10_out_r cr squares (fun r cr' => wp_X11_out mr s sq far queue (fun r' mr' _ _ _ => r = r' ∧ Rref cr' mr')) := by
  have f10 := hf.2.2.2.2.2.2.1
  have hsq := hc.2.2.1
  refine ⟨h0, rf10 3 (by decide) (by decide) (out11_r hr hf hm ?_)⟩
  rw [hsq, ← nI_0, nI_eq (by omega) (by omega)] at h0
  exact h0
theorem m_out_n {cr mr s sq far queue signs num bes : IA} {rows cols squares hd sqs dr : Int32} {f : Gr} (hr : Rref cr mr) (hf : okF f) (hc : cF signs rows cols squares hd f) (hm : mF s f) (h0 : ¬ (squares = 0)) : wp_X10_out_n num bes sqs dr signs rows cols squares (fun r _ _ _ _ _ => wp_X11_out mr s sq far queue (fun r' mr' _ _ _ => r = r' ∧ Rref cr mr')) := by
  have hsq := hc.2.2.1
  exact ⟨h0, outn_sp hf hc (fun z => h0 (by rw [hsq, z]; rfl)) (fun d r num bes been sqs dr d1 d2 d3 ho => out11_sp hf (fun z => h0 (by rw [hsq, z]; rfl)) d1 d3 d2 hm (fun r' sq far queue ho' => ⟨oR_uq ho ho', hr⟩))⟩
