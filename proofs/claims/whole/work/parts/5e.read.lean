/-! PURE PART: one statement of a house, read from the tape -/
def bt (tp : IA) (n a : Nat) : Int32 := if a < n then tp a else (-1 : Int32)
abbrev dig (x : Int32) : Prop := ¬ x < (48 : Int32) ∧ ¬ (57 : Int32) < x
theorem bt_cg {tb mt : IA} {n : Nat} (h : ∀ k, k < n → tb k = mt k) : bt tb n = bt mt n := by
  funext a
  unfold bt
  split
  · rename_i q; exact h a q
  · rfl
theorem bt_out {tp : IA} {n a : Nat} (h : ¬ a < n) : bt tp n a = (-1 : Int32) := if_neg h
theorem dig_lt {tp : IA} {n a : Nat} (h : dig (bt tp n a)) : a < n := by
  apply Decidable.byContradiction
  intro q
  rw [bt_out q] at h
  exact absurd h (by decide)
theorem chr_lt {tp : IA} {n a x : Nat} (hx : x < 1000) (h : bt tp n a = nI x) : a < n := by
  apply Decidable.byContradiction
  intro q
  rw [bt_out q] at h
  exact px_neg_ne (x := (-1 : Int32)) (by decide) (by omega) h
theorem dig_n {x : Int32} (h : dig x) : ∃ d, d ≤ 9 ∧ x = nI (48 + d) ∧ x - (48 : Int32) = nI d := by
  obtain ⟨h1, h2⟩ := h
  rcases px_cases x 58 (by decide) with q | ⟨k, hk, rfl⟩ | ⟨k, hk, hk2, rfl⟩
  · exact absurd (px_neg_lt (k := 48) q (by decide)) h1
  · rw [px_lit, nI_ltI (by omega) (by omega)] at h1
    refine ⟨k - 48, by omega, by rw [show 48 + (k - 48) = k by omega], ?_⟩
    rw [px_lit, pk_sub (by omega)]
  · exact absurd (by rw [px_lit, nI_ltI (by omega) (by omega)]; omega) h2
theorem byteAt_sp {tp : IA} {n a : Nat} (hn : n ≤ 48) (ha : a < 1000) {K : Int32 → Prop} (hK : K (bt tp n a)) : wp_X8_byteAt (nI a) tp (nI n) K := by
  refine ⟨fun q => absurd q (nI_pos (by omega)), fun _ => ⟨fun q => ?_, fun q => ?_⟩⟩
  · rw [nI_leI (by omega) (by omega)] at q
    rw [bt_out (by omega)] at hK
    exact hK
  · rw [nI_leI (by omega) (by omega)] at q
    rw [px_cl (by omega)]
    unfold bt at hK
    rw [if_pos (by omega)] at hK
    exact ⟨px_in (by omega) (by decide), hK⟩
theorem sign_sp {tp : IA} {n a : Nat} (hn : n ≤ 48) (ha : a < 1000) {K : Int32 → Prop} (hK : K (bt tp n a)) : wp_X11_sign tp (nI n) (nI a) K := by
  refine ⟨fun q => ?_, fun q => ?_⟩
  · rw [nI_ltI (by omega) (by omega)] at q
    rw [px_cl (by omega)]
    unfold bt at hK
    rw [if_pos (by omega)] at hK
    exact ⟨px_in (by omega) (by decide), hK⟩
  · rw [nI_ltI (by omega) (by omega)] at q
    rw [bt_out (by omega)] at hK
    exact hK
theorem rc10 {tp : IA} {n a x : Nat} (hn : n ≤ 48) (ha : a < 500) {K : Int32 → Int32 → Prop} (h1 : bt tp n a = nI x → K 1 (nI (a + 1))) (h0 : ¬ bt tp n a = nI x → K 0 (nI a)) : wp_X2_reads (nI x) tp (nI n) (nI a) K := byteAt_sp hn (by omega) ⟨fun q => by rw [nI_1]; exact h1 q, fun q => h0 q⟩
theorem rc11 {tp : IA} {n a x : Nat} (hn : n ≤ 48) (ha : a < 500) {K : Int32 → Int32 → Prop} (h1 : bt tp n a = nI x → K 1 (nI (a + 1))) (h0 : ¬ bt tp n a = nI x → K 0 (nI a)) : wp_X11_takes (nI x) tp (nI n) (nI a) K := sign_sp hn (by omega) ⟨fun q => by rw [nI_1]; exact h1 q, fun q => h0 q⟩
theorem dg10 {tp : IA} {n a : Nat} (hn : n ≤ 48) (ha : a < 500) {K : Int32 → Prop} (h1 : dig (bt tp n a) → K (bt tp n a - 48)) (h0 : ¬ dig (bt tp n a) → K (-9)) : wp_X2_digitHere tp (nI n) (nI a) K := byteAt_sp hn (by omega) ⟨fun q => h0 (fun x => x.1 q), fun q => ⟨fun q2 => h0 (fun x => x.2 q2), fun q2 => h1 ⟨q, q2⟩⟩⟩
theorem dg11 {tp : IA} {n a : Nat} (hn : n ≤ 48) (ha : a < 500) {K : Int32 → Prop} (h1 : dig (bt tp n a) → K 1) (h0 : ¬ dig (bt tp n a) → K 0) : wp_X11_isDigit tp (nI n) (nI a) K := sign_sp hn (by omega) ⟨fun q => h0 (fun x => x.1 q), fun q => sign_sp hn (by omega) ⟨fun q2 => h0 (fun x => x.2 q2), fun q2 => h1 ⟨q, q2⟩⟩⟩
theorem dig_9 {x : Int32} (h : dig x) : ¬ x - (48 : Int32) = (-9 : Int32) := by
  obtain ⟨d, hd, -, e⟩ := dig_n h
  rw [e]
  exact px_n9 (by omega)
theorem rd10 {tp p : IA} {n m a : Nat} (hn : n ≤ 48) (ha : a < 500) (hm : m < 4) {K : Int32 → IA → Int32 → Prop} (h1 : dig (bt tp n a) → K 1 (upd p m (bt tp n a - 48)) (nI (a + 1))) (h0 : ¬ dig (bt tp n a) → K 0 p (nI a)) : wp_X2_readsDigit (nI m) tp (nI n) p (nI a) K := by
  refine dg10 hn ha (fun q => ⟨fun q2 => absurd q2 (dig_9 q), fun _ => ⟨px_in hm (by decide), ?_⟩⟩) (fun q => ⟨fun _ => h0 q, fun q2 => absurd rfl q2⟩)
  rw [px_cl (by omega), nI_1]
  exact h1 q
theorem rd11 {tp p : IA} {n m a : Nat} (hn : n ≤ 48) (ha : a < 500) (hm : m < 4) {K : Int32 → IA → Int32 → Prop} (h1 : dig (bt tp n a) → K 1 (upd p m (bt tp n a - 48)) (nI (a + 1))) (h0 : ¬ dig (bt tp n a) → K 0 p (nI a)) : wp_X11_readsDigit (nI m) tp p (nI n) (nI a) K := by
  refine dg11 hn ha (fun q => ⟨fun q2 => absurd q2 px_01, fun _ => sign_sp hn (by omega) ⟨px_in hm (by decide), ?_⟩⟩) (fun q => ⟨fun _ => h0 q, fun q2 => absurd rfl q2⟩)
  rw [px_cl (by omega), nI_1]
  exact h1 q
theorem up_up {f : IA} {k : Nat} {x y : Int32} : upd (upd f k x) k y = upd f k y := by
  funext j
  by_cases e : j = k
  · subst e; rw [up_s, up_s]
  · rw [up_n e, up_n e, up_n e]
def hv (B : Nat → Int32) (a : Nat) : Int32 := if dig (B (a + 1)) then (B a - 48) * 10 + (B (a + 1) - 48) else B a - 48
def he (B : Nat → Int32) (a : Nat) : Nat := if dig (B (a + 1)) then a + 2 else a + 1
theorem rh10 {tp p : IA} {n m a : Nat} (hn : n ≤ 48) (ha : a < 400) (hm : m < 4) {K : Int32 → IA → Int32 → Prop} (h1 : dig (bt tp n a) → K 1 (upd p m (hv (bt tp n) a)) (nI (he (bt tp n) a))) (h0 : ¬ dig (bt tp n a) → K 0 p (nI a)) : wp_X2_readsHour (nI m) tp (nI n) p (nI a) K := by
  refine rd10 hn (by omega) hm (fun q => ⟨fun q2 => absurd q2 px_01, fun _ => dg10 hn (by omega) (fun q2 => ⟨fun q3 => absurd q3 (dig_9 q2), fun _ => ⟨px_in hm (by decide), ?_⟩⟩) (fun q2 => ⟨fun _ => ?_, fun q3 => absurd rfl q3⟩)⟩) (fun q => ⟨fun _ => h0 q, fun q2 => absurd rfl q2⟩)
  · have := h1 q
    unfold hv he at this
    rw [if_pos q2, if_pos q2] at this
    rw [px_cl (by omega), up_s, up_up, nI_1]
    exact this
  · have := h1 q
    unfold hv he at this
    rw [if_neg q2, if_neg q2] at this
    exact this
theorem rh11 {tp p : IA} {n m a : Nat} (hn : n ≤ 48) (ha : a < 400) (hm : m < 4) {K : Int32 → IA → Int32 → Prop} (h1 : dig (bt tp n a) → K 1 (upd p m (hv (bt tp n) a)) (nI (he (bt tp n) a))) (h0 : ¬ dig (bt tp n a) → K 0 p (nI a)) : wp_X11_readsHour (nI m) tp p (nI n) (nI a) K := by
  refine rd11 hn (by omega) hm (fun q => ⟨fun q2 => absurd q2 px_01, fun _ => dg11 hn (by omega) (fun q2 => ⟨fun q3 => absurd q3 px_01, fun _ => ⟨px_in hm (by decide), sign_sp hn (by omega) ?_⟩⟩) (fun q2 => ⟨fun _ => ?_, fun q3 => absurd rfl q3⟩)⟩) (fun q => ⟨fun _ => h0 q, fun q2 => absurd rfl q2⟩)
  · have := h1 q
    unfold hv he at this
    rw [if_pos q2, if_pos q2] at this
    rw [px_cl (by omega), up_s, up_up, nI_1, Int32.mul_comm, Int32.sub_eq_add_neg (_ + _), Int32.add_assoc, ← Int32.sub_eq_add_neg]
    exact this
  · have := h1 q
    unfold hv he at this
    rw [if_neg q2, if_neg q2] at this
    exact this
def vv (a b c d : Int32) : IA := fun j => if j = 0 then a else if j = 1 then b else if j = 2 then c else d
def rSt (B : Nat → Int32) (a : Nat) : Bool × Nat × IA :=
  if B a = (114 : Int32) then (if dig (B (a + 1)) then (if B (a + 2) = (42 : Int32) then (if dig (B (a + 3)) then (if B (a + 4) = (59 : Int32) then (true, a + 5, vv (B (a + 1) - 48) (B (a + 3) - 48) 0 0) else (false, a + 4, vv 0 0 0 0)) else (false, a + 3, vv 0 0 0 0)) else (false, a + 2, vv 0 0 0 0)) else (false, a + 1, vv 0 0 0 0))
  else if B a = (100 : Int32) then (if dig (B (a + 1)) then (if dig (B (a + 2)) then (if B (a + 3) = (59 : Int32) then (true, a + 4, vv (B (a + 1) - 48) (B (a + 2) - 48) 0 0) else (false, a + 3, vv 0 0 0 0)) else (false, a + 2, vv 0 0 0 0)) else (false, a + 1, vv 0 0 0 0))
  else if B a = (110 : Int32) then (if dig (B (a + 1)) then (if dig (B (a + 2)) then (if B (a + 3) = (64 : Int32) then (if dig (B (a + 4)) then (if B (he B (a + 4)) = (45 : Int32) then (if dig (B (he B (a + 4) + 1)) then (if B (he B (he B (a + 4) + 1)) = (59 : Int32) then (true, he B (he B (a + 4) + 1) + 1, vv (B (a + 1) - 48) (B (a + 2) - 48) (hv B (a + 4)) (hv B (he B (a + 4) + 1))) else (false, he B (he B (a + 4) + 1), vv 0 0 0 0)) else (false, he B (a + 4) + 1, vv 0 0 0 0)) else (false, he B (a + 4), vv 0 0 0 0)) else (false, a + 4, vv 0 0 0 0)) else (false, a + 3, vv 0 0 0 0)) else (false, a + 2, vv 0 0 0 0)) else (false, a + 1, vv 0 0 0 0))
  else (false, a, vv 0 0 0 0)
theorem he_b {B : Nat → Int32} {a : Nat} : a + 1 ≤ he B a ∧ he B a ≤ a + 2 := by
  unfold he
  split <;> omega
/-- what holds of the row of parts behind a statement that stands -/
def pOK (B : Nat → Int32) (a : Nat) (v p : IA) : Prop := p 0 = v 0 ∧ p 1 = v 1 ∧ (B a = (110 : Int32) → p 2 = v 2 ∧ p 3 = v 3)
theorem vv_4 {a b c d : Int32} : vv a b c d 0 = a ∧ vv a b c d 1 = b ∧ vv a b c d 2 = c ∧ vv a b c d 3 = d := ⟨rfl, rfl, rfl, rfl⟩
theorem pOK2 {B : Nat → Int32} {a : Nat} {p : IA} {x y : Int32} (h : ¬ B a = (110 : Int32)) : pOK B a (vv x y 0 0) (upd (upd p 0 x) 1 y) := ⟨by rw [up_n (by decide), up_s]; rfl, by rw [up_s]; rfl, fun q => absurd q h⟩
theorem pOK4 {B : Nat → Int32} {a : Nat} {p : IA} {x y z w : Int32} : pOK B a (vv x y z w) (upd (upd (upd (upd p 0 x) 1 y) 2 z) 3 w) := ⟨by rw [up_n (by decide), up_n (by decide), up_n (by decide), up_s]; rfl, by rw [up_n (by decide), up_n (by decide), up_s]; rfl, fun _ => ⟨by rw [up_n (by decide), up_s]; rfl, by rw [up_s]; rfl⟩⟩
theorem rst10 {tp p : IA} {n a : Nat} (hn : n ≤ 48) (ha : a ≤ 48) {K : Int32 → IA → Int32 → Prop} (h1 : ∀ p' e v, rSt (bt tp n) a = (true, e, v) → pOK (bt tp n) a v p' → K 1 p' (nI e)) (h0 : ∀ p' e v, rSt (bt tp n) a = (false, e, v) → K 0 p' (nI e)) : wp_X2_readStatement tp (nI n) p (nI a) K := by
  have b1 := he_b (B := bt tp n) (a := a + 1 + 1 + 1 + 1)
  have b2 := he_b (B := bt tp n) (a := he (bt tp n) (a + 1 + 1 + 1 + 1) + 1)
  refine rc10 (x := 114) hn (by omega) (fun c1 => ⟨fun q => absurd q px_01, fun _ => ?_⟩) (fun c1 => ⟨fun _ => rc10 (x := 100) hn (by omega) (fun c2 => ⟨fun q => absurd q px_01, fun _ => ?_⟩) (fun c2 => ⟨fun _ => rc10 (x := 110) hn (by omega) (fun c3 => ⟨fun q => absurd q px_01, fun _ => ?_⟩) (fun c3 => ⟨fun _ => ?_, fun q => absurd rfl q⟩), fun q => absurd rfl q⟩), fun q => absurd rfl q⟩)
  · have c1 : bt tp n a = (114 : Int32) := c1
    refine rd10 (m := 0) hn (by omega) (by decide) (fun d1 => ⟨fun q => absurd q px_01, fun _ => rc10 (x := 42) hn (by omega) (fun d2 => ⟨fun q => absurd q px_01, fun _ => rd10 (m := 1) hn (by omega) (by decide) (fun d3 => ⟨fun q => absurd q px_01, fun _ => rc10 (x := 59) hn (by omega) (fun d4 => ⟨fun q => absurd q px_01, fun _ => ?_⟩) (fun d4 => ⟨fun _ => ?_, fun q => absurd rfl q⟩)⟩) (fun d3 => ⟨fun _ => ?_, fun q => absurd rfl q⟩)⟩) (fun d2 => ⟨fun _ => ?_, fun q => absurd rfl q⟩)⟩) (fun d1 => ⟨fun _ => ?_, fun q => absurd rfl q⟩)
    · exact h1 _ _ _ (by unfold rSt; exact (Eq.trans (if_pos c1) (Eq.trans (if_pos d1) (Eq.trans (if_pos d2) (Eq.trans (if_pos d3) (if_pos d4)))))) (pOK2 (by rw [c1]; decide))
    · exact h0 _ _ (vv 0 0 0 0) (by unfold rSt; exact (Eq.trans (if_pos c1) (Eq.trans (if_pos d1) (Eq.trans (if_pos d2) (Eq.trans (if_pos d3) (if_neg d4))))))
    · exact h0 _ _ (vv 0 0 0 0) (by unfold rSt; exact (Eq.trans (if_pos c1) (Eq.trans (if_pos d1) (Eq.trans (if_pos d2) (if_neg d3)))))
    · exact h0 _ _ (vv 0 0 0 0) (by unfold rSt; exact (Eq.trans (if_pos c1) (Eq.trans (if_pos d1) (if_neg d2))))
    · exact h0 _ _ (vv 0 0 0 0) (by unfold rSt; exact (Eq.trans (if_pos c1) (if_neg d1)))
  · have c2 : bt tp n a = (100 : Int32) := c2
    refine rd10 (m := 0) hn (by omega) (by decide) (fun d1 => ⟨fun q => absurd q px_01, fun _ => rd10 (m := 1) hn (by omega) (by decide) (fun d3 => ⟨fun q => absurd q px_01, fun _ => rc10 (x := 59) hn (by omega) (fun d4 => ⟨fun q => absurd q px_01, fun _ => ?_⟩) (fun d4 => ⟨fun _ => ?_, fun q => absurd rfl q⟩)⟩) (fun d3 => ⟨fun _ => ?_, fun q => absurd rfl q⟩)⟩) (fun d1 => ⟨fun _ => ?_, fun q => absurd rfl q⟩)
    · exact h1 _ _ _ (by unfold rSt; exact (Eq.trans (if_neg c1) (Eq.trans (if_pos c2) (Eq.trans (if_pos d1) (Eq.trans (if_pos d3) (if_pos d4)))))) (pOK2 (by rw [c2]; decide))
    · exact h0 _ _ (vv 0 0 0 0) (by unfold rSt; exact (Eq.trans (if_neg c1) (Eq.trans (if_pos c2) (Eq.trans (if_pos d1) (Eq.trans (if_pos d3) (if_neg d4))))))
    · exact h0 _ _ (vv 0 0 0 0) (by unfold rSt; exact (Eq.trans (if_neg c1) (Eq.trans (if_pos c2) (Eq.trans (if_pos d1) (if_neg d3)))))
    · exact h0 _ _ (vv 0 0 0 0) (by unfold rSt; exact (Eq.trans (if_neg c1) (Eq.trans (if_pos c2) (if_neg d1))))
  · have c3 : bt tp n a = (110 : Int32) := c3
    refine rd10 (m := 0) hn (by omega) (by decide) (fun d1 => ⟨fun q => absurd q px_01, fun _ => rd10 (m := 1) hn (by omega) (by decide) (fun d2 => ⟨fun q => absurd q px_01, fun _ => rc10 (x := 64) hn (by omega) (fun d3 => ⟨fun q => absurd q px_01, fun _ => rh10 (m := 2) hn (by omega) (by decide) (fun d4 => ⟨fun q => absurd q px_01, fun _ => rc10 (x := 45) hn (by omega) (fun d5 => ⟨fun q => absurd q px_01, fun _ => rh10 (m := 3) hn (by omega) (by decide) (fun d6 => ⟨fun q => absurd q px_01, fun _ => rc10 (x := 59) hn (by omega) (fun d7 => ⟨fun q => absurd q px_01, fun _ => ?_⟩) (fun d7 => ⟨fun _ => ?_, fun q => absurd rfl q⟩)⟩) (fun d6 => ⟨fun _ => ?_, fun q => absurd rfl q⟩)⟩) (fun d5 => ⟨fun _ => ?_, fun q => absurd rfl q⟩)⟩) (fun d4 => ⟨fun _ => ?_, fun q => absurd rfl q⟩)⟩) (fun d3 => ⟨fun _ => ?_, fun q => absurd rfl q⟩)⟩) (fun d2 => ⟨fun _ => ?_, fun q => absurd rfl q⟩)⟩) (fun d1 => ⟨fun _ => ?_, fun q => absurd rfl q⟩)
    · exact h1 _ _ _ (by unfold rSt; exact (Eq.trans (if_neg c1) (Eq.trans (if_neg c2) (Eq.trans (if_pos c3) (Eq.trans (if_pos d1) (Eq.trans (if_pos d2) (Eq.trans (if_pos d3) (Eq.trans (if_pos d4) (Eq.trans (if_pos d5) (Eq.trans (if_pos d6) (if_pos d7))))))))))) pOK4
    · exact h0 _ _ (vv 0 0 0 0) (by unfold rSt; exact (Eq.trans (if_neg c1) (Eq.trans (if_neg c2) (Eq.trans (if_pos c3) (Eq.trans (if_pos d1) (Eq.trans (if_pos d2) (Eq.trans (if_pos d3) (Eq.trans (if_pos d4) (Eq.trans (if_pos d5) (Eq.trans (if_pos d6) (if_neg d7)))))))))))
    · exact h0 _ _ (vv 0 0 0 0) (by unfold rSt; exact (Eq.trans (if_neg c1) (Eq.trans (if_neg c2) (Eq.trans (if_pos c3) (Eq.trans (if_pos d1) (Eq.trans (if_pos d2) (Eq.trans (if_pos d3) (Eq.trans (if_pos d4) (Eq.trans (if_pos d5) (if_neg d6))))))))))
    · exact h0 _ _ (vv 0 0 0 0) (by unfold rSt; exact (Eq.trans (if_neg c1) (Eq.trans (if_neg c2) (Eq.trans (if_pos c3) (Eq.trans (if_pos d1) (Eq.trans (if_pos d2) (Eq.trans (if_pos d3) (Eq.trans (if_pos d4) (if_neg d5)))))))))
    · exact h0 _ _ (vv 0 0 0 0) (by unfold rSt; exact (Eq.trans (if_neg c1) (Eq.trans (if_neg c2) (Eq.trans (if_pos c3) (Eq.trans (if_pos d1) (Eq.trans (if_pos d2) (Eq.trans (if_pos d3) (if_neg d4))))))))
    · exact h0 _ _ (vv 0 0 0 0) (by unfold rSt; exact (Eq.trans (if_neg c1) (Eq.trans (if_neg c2) (Eq.trans (if_pos c3) (Eq.trans (if_pos d1) (Eq.trans (if_pos d2) (if_neg d3)))))))
    · exact h0 _ _ (vv 0 0 0 0) (by unfold rSt; exact (Eq.trans (if_neg c1) (Eq.trans (if_neg c2) (Eq.trans (if_pos c3) (Eq.trans (if_pos d1) (if_neg d2))))))
    · exact h0 _ _ (vv 0 0 0 0) (by unfold rSt; exact (Eq.trans (if_neg c1) (Eq.trans (if_neg c2) (Eq.trans (if_pos c3) (if_neg d1)))))
  · exact h0 _ _ (vv 0 0 0 0) (by unfold rSt; exact (Eq.trans (if_neg c1) (Eq.trans (if_neg c2) (if_neg c3))))
theorem rst11 {tp p : IA} {n a : Nat} (hn : n ≤ 48) (ha : a ≤ 48) {K : Int32 → IA → Int32 → Prop} (h1 : ∀ p' e v, rSt (bt tp n) a = (true, e, v) → pOK (bt tp n) a v p' → K 1 p' (nI e)) (h0 : ∀ p' e v, rSt (bt tp n) a = (false, e, v) → K 0 p' (nI e)) : wp_X11_readsStatement tp p (nI n) (nI a) K := by
  have b1 := he_b (B := bt tp n) (a := a + 1 + 1 + 1 + 1)
  have b2 := he_b (B := bt tp n) (a := he (bt tp n) (a + 1 + 1 + 1 + 1) + 1)
  refine sign_sp hn (by omega) ⟨fun c1 => ?_, fun c1 => ⟨fun c2 => ?_, fun c2 => ⟨fun c3 => ?_, fun c3 => ?_⟩⟩⟩
  · unfold wp_X11_readsStatement_25
    rw [nI_1, c1]
    refine rd11 (m := 0) hn (by omega) (by decide) (fun d1 => ⟨fun q => absurd q px_01, fun _ => ⟨fun _ => rc11 (x := 42) hn (by omega) (fun d2 => ⟨fun q => absurd q px_01, fun _ => rd11 (m := 1) hn (by omega) (by decide) (fun d3 => ⟨fun q => absurd q px_01, fun _ => ⟨fun q => absurd q (by decide), fun _ => rc11 (x := 59) hn (by omega) (fun d4 => ?_) (fun d4 => ?_)⟩⟩) (fun d3 => ⟨fun _ => ?_, fun q => absurd rfl q⟩)⟩) (fun d2 => ⟨fun _ => ?_, fun q => absurd rfl q⟩), fun q => absurd rfl q⟩⟩) (fun d1 => ⟨fun _ => ?_, fun q => absurd rfl q⟩)
    · exact h1 _ _ _ (by unfold rSt; exact (Eq.trans (if_pos c1) (Eq.trans (if_pos d1) (Eq.trans (if_pos d2) (Eq.trans (if_pos d3) (if_pos d4)))))) (pOK2 (by rw [c1]; decide))
    · exact h0 _ _ (vv 0 0 0 0) (by unfold rSt; exact (Eq.trans (if_pos c1) (Eq.trans (if_pos d1) (Eq.trans (if_pos d2) (Eq.trans (if_pos d3) (if_neg d4))))))
    · exact h0 _ _ (vv 0 0 0 0) (by unfold rSt; exact (Eq.trans (if_pos c1) (Eq.trans (if_pos d1) (Eq.trans (if_pos d2) (if_neg d3)))))
    · exact h0 _ _ (vv 0 0 0 0) (by unfold rSt; exact (Eq.trans (if_pos c1) (Eq.trans (if_pos d1) (if_neg d2))))
    · exact h0 _ _ (vv 0 0 0 0) (by unfold rSt; exact (Eq.trans (if_pos c1) (if_neg d1)))
  · unfold wp_X11_readsStatement_25
    rw [nI_1, c2]
    refine rd11 (m := 0) hn (by omega) (by decide) (fun d1 => ⟨fun q => absurd q px_01, fun _ => ⟨fun q => absurd q (by decide), fun _ => rd11 (m := 1) hn (by omega) (by decide) (fun d3 => ⟨fun q => absurd q px_01, fun _ => ⟨fun q => absurd q (by decide), fun _ => rc11 (x := 59) hn (by omega) (fun d4 => ?_) (fun d4 => ?_)⟩⟩) (fun d3 => ⟨fun _ => ?_, fun q => absurd rfl q⟩)⟩⟩) (fun d1 => ⟨fun _ => ?_, fun q => absurd rfl q⟩)
    · exact h1 _ _ _ (by unfold rSt; exact (Eq.trans (if_neg c1) (Eq.trans (if_pos c2) (Eq.trans (if_pos d1) (Eq.trans (if_pos d3) (if_pos d4)))))) (pOK2 (by rw [c2]; decide))
    · exact h0 _ _ (vv 0 0 0 0) (by unfold rSt; exact (Eq.trans (if_neg c1) (Eq.trans (if_pos c2) (Eq.trans (if_pos d1) (Eq.trans (if_pos d3) (if_neg d4))))))
    · exact h0 _ _ (vv 0 0 0 0) (by unfold rSt; exact (Eq.trans (if_neg c1) (Eq.trans (if_pos c2) (Eq.trans (if_pos d1) (if_neg d3)))))
    · exact h0 _ _ (vv 0 0 0 0) (by unfold rSt; exact (Eq.trans (if_neg c1) (Eq.trans (if_pos c2) (if_neg d1))))
  · unfold wp_X11_readsStatement_25
    rw [nI_1, c3]
    refine rd11 (m := 0) hn (by omega) (by decide) (fun d1 => ⟨fun q => absurd q px_01, fun _ => ⟨fun q => absurd q (by decide), fun _ => rd11 (m := 1) hn (by omega) (by decide) (fun d2 => ⟨fun q => absurd q px_01, fun _ => ⟨fun _ => rc11 (x := 64) hn (by omega) (fun d3 => ⟨fun q => absurd q px_01, fun _ => rh11 (m := 2) hn (by omega) (by decide) (fun d4 => ⟨fun q => absurd q px_01, fun _ => rc11 (x := 45) hn (by omega) (fun d5 => ⟨fun q => absurd q px_01, fun _ => rh11 (m := 3) hn (by omega) (by decide) (fun d6 => ⟨fun q => absurd q px_01, fun _ => rc11 (x := 59) hn (by omega) (fun d7 => ?_) (fun d7 => ?_)⟩) (fun d6 => ⟨fun _ => ?_, fun q => absurd rfl q⟩)⟩) (fun d5 => ⟨fun _ => ?_, fun q => absurd rfl q⟩)⟩) (fun d4 => ⟨fun _ => ?_, fun q => absurd rfl q⟩)⟩) (fun d3 => ⟨fun _ => ?_, fun q => absurd rfl q⟩), fun q => absurd rfl q⟩⟩) (fun d2 => ⟨fun _ => ?_, fun q => absurd rfl q⟩)⟩⟩) (fun d1 => ⟨fun _ => ?_, fun q => absurd rfl q⟩)
    · exact h1 _ _ _ (by unfold rSt; exact (Eq.trans (if_neg c1) (Eq.trans (if_neg c2) (Eq.trans (if_pos c3) (Eq.trans (if_pos d1) (Eq.trans (if_pos d2) (Eq.trans (if_pos d3) (Eq.trans (if_pos d4) (Eq.trans (if_pos d5) (Eq.trans (if_pos d6) (if_pos d7))))))))))) pOK4
    · exact h0 _ _ (vv 0 0 0 0) (by unfold rSt; exact (Eq.trans (if_neg c1) (Eq.trans (if_neg c2) (Eq.trans (if_pos c3) (Eq.trans (if_pos d1) (Eq.trans (if_pos d2) (Eq.trans (if_pos d3) (Eq.trans (if_pos d4) (Eq.trans (if_pos d5) (Eq.trans (if_pos d6) (if_neg d7)))))))))))
    · exact h0 _ _ (vv 0 0 0 0) (by unfold rSt; exact (Eq.trans (if_neg c1) (Eq.trans (if_neg c2) (Eq.trans (if_pos c3) (Eq.trans (if_pos d1) (Eq.trans (if_pos d2) (Eq.trans (if_pos d3) (Eq.trans (if_pos d4) (Eq.trans (if_pos d5) (if_neg d6))))))))))
    · exact h0 _ _ (vv 0 0 0 0) (by unfold rSt; exact (Eq.trans (if_neg c1) (Eq.trans (if_neg c2) (Eq.trans (if_pos c3) (Eq.trans (if_pos d1) (Eq.trans (if_pos d2) (Eq.trans (if_pos d3) (Eq.trans (if_pos d4) (if_neg d5)))))))))
    · exact h0 _ _ (vv 0 0 0 0) (by unfold rSt; exact (Eq.trans (if_neg c1) (Eq.trans (if_neg c2) (Eq.trans (if_pos c3) (Eq.trans (if_pos d1) (Eq.trans (if_pos d2) (Eq.trans (if_pos d3) (if_neg d4))))))))
    · exact h0 _ _ (vv 0 0 0 0) (by unfold rSt; exact (Eq.trans (if_neg c1) (Eq.trans (if_neg c2) (Eq.trans (if_pos c3) (Eq.trans (if_pos d1) (Eq.trans (if_pos d2) (if_neg d3)))))))
    · exact h0 _ _ (vv 0 0 0 0) (by unfold rSt; exact (Eq.trans (if_neg c1) (Eq.trans (if_neg c2) (Eq.trans (if_pos c3) (Eq.trans (if_pos d1) (if_neg d2))))))
    · exact h0 _ _ (vv 0 0 0 0) (by unfold rSt; exact (Eq.trans (if_neg c1) (Eq.trans (if_neg c2) (Eq.trans (if_pos c3) (if_neg d1)))))
  · exact h0 _ _ (vv 0 0 0 0) (by unfold rSt; exact (Eq.trans (if_neg c1) (Eq.trans (if_neg c2) (if_neg c3))))
theorem hv_n {B : Nat → Int32} {a : Nat} (h : dig (B a)) : ∃ d, d ≤ 99 ∧ hv B a = nI d := by
  obtain ⟨d, hd, -, e⟩ := dig_n h
  unfold hv
  split
  · rename_i h2
    obtain ⟨d2, hd2, -, e2⟩ := dig_n h2
    rw [e, e2]
    exact ⟨d * 10 + d2, by omega, by rw [px_lit, pk_mul, nI_add]⟩
  · exact ⟨d, by omega, e⟩
/-- a statement that stands: its letter, its numbers, where it ends -/
theorem rSt_ok {tp : IA} {n a e : Nat} {v : IA} (h : rSt (bt tp n) a = (true, e, v)) : (bt tp n a = (114 : Int32) ∨ bt tp n a = (100 : Int32) ∨ bt tp n a = (110 : Int32)) ∧ a < e ∧ e ≤ n ∧ (∃ d, d ≤ 9 ∧ v 0 = nI d) ∧ (∃ d, d ≤ 9 ∧ v 1 = nI d) ∧ (bt tp n a = (110 : Int32) → (∃ d, d ≤ 99 ∧ v 2 = nI d) ∧ ∃ d, d ≤ 99 ∧ v 3 = nI d) := by
  have hd : ∀ x, dig x → ∃ d, d ≤ 9 ∧ x - (48 : Int32) = nI d := fun x hx => by
    obtain ⟨d, h1, -, h2⟩ := dig_n hx
    exact ⟨d, h1, h2⟩
  have b1 := he_b (B := bt tp n) (a := a + 4)
  have b2 := he_b (B := bt tp n) (a := he (bt tp n) (a + 4) + 1)
  unfold rSt at h
  by_cases c1 : bt tp n a = (114 : Int32)
  · rw [if_pos c1] at h
    by_cases d1 : dig (bt tp n (a + 1))
    · rw [if_pos d1] at h
      by_cases d2 : bt tp n (a + 2) = (42 : Int32)
      · rw [if_pos d2] at h
        by_cases d3 : dig (bt tp n (a + 3))
        · rw [if_pos d3] at h
          by_cases d4 : bt tp n (a + 4) = (59 : Int32)
          · rw [if_pos d4] at h
            cases h
            have := chr_lt (x := 59) (by decide) d4
            exact ⟨Or.inl c1, by omega, by omega, hd _ d1, hd _ d3, fun q => absurd q (by rw [c1]; decide)⟩
          · rw [if_neg d4] at h; cases h
        · rw [if_neg d3] at h; cases h
      · rw [if_neg d2] at h; cases h
    · rw [if_neg d1] at h; cases h
  · rw [if_neg c1] at h
    by_cases c2 : bt tp n a = (100 : Int32)
    · rw [if_pos c2] at h
      by_cases d1 : dig (bt tp n (a + 1))
      · rw [if_pos d1] at h
        by_cases d3 : dig (bt tp n (a + 2))
        · rw [if_pos d3] at h
          by_cases d4 : bt tp n (a + 3) = (59 : Int32)
          · rw [if_pos d4] at h
            cases h
            have := chr_lt (x := 59) (by decide) d4
            exact ⟨Or.inr (Or.inl c2), by omega, by omega, hd _ d1, hd _ d3, fun q => absurd q (by rw [c2]; decide)⟩
          · rw [if_neg d4] at h; cases h
        · rw [if_neg d3] at h; cases h
      · rw [if_neg d1] at h; cases h
    · rw [if_neg c2] at h
      by_cases c3 : bt tp n a = (110 : Int32)
      · rw [if_pos c3] at h
        by_cases d1 : dig (bt tp n (a + 1))
        · rw [if_pos d1] at h
          by_cases d2 : dig (bt tp n (a + 2))
          · rw [if_pos d2] at h
            by_cases d3 : bt tp n (a + 3) = (64 : Int32)
            · rw [if_pos d3] at h
              by_cases d4 : dig (bt tp n (a + 4))
              · rw [if_pos d4] at h
                by_cases d5 : bt tp n (he (bt tp n) (a + 4)) = (45 : Int32)
                · rw [if_pos d5] at h
                  by_cases d6 : dig (bt tp n (he (bt tp n) (a + 4) + 1))
                  · rw [if_pos d6] at h
                    by_cases d7 : bt tp n (he (bt tp n) (he (bt tp n) (a + 4) + 1)) = (59 : Int32)
                    · rw [if_pos d7] at h
                      cases h
                      have := chr_lt (x := 59) (by decide) d7
                      exact ⟨Or.inr (Or.inr c3), by omega, by omega, hd _ d1, hd _ d2, fun _ => ⟨hv_n d4, hv_n d6⟩⟩
                    · rw [if_neg d7] at h; cases h
                  · rw [if_neg d6] at h; cases h
                · rw [if_neg d5] at h; cases h
              · rw [if_neg d4] at h; cases h
            · rw [if_neg d3] at h; cases h
          · rw [if_neg d2] at h; cases h
        · rw [if_neg d1] at h; cases h
      · rw [if_neg c3] at h; cases h
