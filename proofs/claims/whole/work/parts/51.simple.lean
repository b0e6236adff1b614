/-! PURE PART: refusals, the tape, feed -/
def Rref (cr mr : IA) : Prop := ∀ k, k < 7 → cr k = mr k
theorem Rref.up {cr mr : IA} (h : Rref cr mr) (k : Nat) (hk : k < 7) : Rref (upd cr k (cr k + 1)) (upd mr k (mr k + 1)) := by
  intro j hj
  by_cases e : j = k
  · subst e; rw [up_s, up_s, h j hj]
  · rw [up_n e, up_n e, h j hj]
theorem rf10 {x : Int32} {cr : IA} {K : Int32 → IA → Prop} (k : Nat) (hk : k < 7) (hx : -x = nI k) (h : K x (upd cr k (cr k + 1))) : wp_X10_refuse x cr K := by
  intro x2 e
  subst e
  rw [hx, px_cl (by omega)]
  exact ⟨fun q => absurd q (nI_pos (by omega)), fun _ => ⟨fun q => absurd q (by rw [px_lit, nI_leI (by omega) (by omega)]; omega), fun _ => ⟨px_in hk (by decide), h⟩⟩⟩
theorem rf11 {x : Int32} {cr : IA} {K : Int32 → IA → Prop} (k : Nat) (hk : k < 7) (hx : -x = nI k) (h : K x (upd cr k (cr k + 1))) : wp_X11_refuse x cr K := by
  unfold wp_X11_refuse
  rw [hx, px_cl (by omega)]
  exact ⟨px_in hk (by decide), h⟩
def Rtape (tb : IA) (tl : Int32) (mt : IA) (ml : Int32) : Prop := ∃ n, n ≤ 48 ∧ tl = nI n ∧ ml = nI n ∧ ∀ k, k < n → tb k = mt k
def cbyte (x : Int64) (i : Nat) : Int32 := (((x.toUInt64 >>> (((8 : Int32) * nI i).toInt64.toUInt64 &&& Int64.toUInt64 63)).toInt64).toInt32) &&& (255 : Int32)
def mbyte (x : Int64) (i : Nat) : Int32 := ((x >>> (((8 : Int32) * nI i).toInt64 &&& 63)) &&& (255 : Int64)).toInt32
theorem byte_aux (y : BitVec 64) (s : Nat) (hs : s ≤ 56) : ((y >>> s).signExtend 32 &&& 255#32) = ((y.sshiftRight s) &&& 255#64).signExtend 32 := by
  apply BitVec.eq_of_getLsbD_eq
  intro j hj
  have e1 : (255#32 : BitVec 32).getLsbD j = decide (j < 8) := by
    have : ∀ j, j < 32 → (255#32 : BitVec 32).getLsbD j = decide (j < 8) := by decide +kernel
    exact this j hj
  have e2 : (255#64 : BitVec 64).getLsbD j = decide (j < 8) := by
    have : ∀ j, j < 32 → (255#64 : BitVec 64).getLsbD j = decide (j < 8) := by decide +kernel
    exact this j hj
  rw [BitVec.getLsbD_and, e1, BitVec.getLsbD_signExtend, BitVec.getLsbD_signExtend, if_pos (by omega), if_pos (by omega), BitVec.getLsbD_and, e2, BitVec.getLsbD_ushiftRight, BitVec.getLsbD_sshiftRight]
  by_cases h8 : j < 8
  · have h1 : s + j < 64 := by omega
    have h2 : ¬ (64 ≤ j) := by omega
    simp [h8, hj, h1, h2]
  · simp [h8]
theorem byte_eq (x : Int64) (i : Nat) (hi : i < 8) : cbyte x i = mbyte x i := by
  have hc : ∀ i, i < 8 → ((((8 : Int32) * nI i).toInt64.toUInt64 &&& Int64.toUInt64 63).toBitVec % 64).toNat = 8 * i := by decide +kernel
  have hm : ∀ i, i < 8 → ((((8 : Int32) * nI i).toInt64 &&& 63).toBitVec.smod 64).toNat = 8 * i := by decide +kernel
  apply Int32.toBitVec_inj.1
  have := byte_aux x.toBitVec (8 * i) (by omega)
  show ((x.toBitVec >>> ((((8 : Int32) * nI i).toInt64.toUInt64 &&& Int64.toUInt64 63).toBitVec % 64)).signExtend 32) &&& 255#32 = ((x.toBitVec.sshiftRight' ((((8 : Int32) * nI i).toInt64 &&& 63).toBitVec.smod 64)) &&& 255#64).signExtend 32
  rw [BitVec.ushiftRight_eq', hc i hi, BitVec.sshiftRight_eq', hm i hi]
  exact this
theorem ap8 {x2 : Int64} {N n0 : Nat} {tb0 : IA} {K : IA → Int32 → Prop} (hN : n0 + N ≤ 48) (hK : ∀ tb : IA, (∀ j, j < n0 → tb j = tb0 j) → (∀ i, i < N → tb (n0 + i) = cbyte x2 i) → K tb (nI (n0 + N))) : ∀ (d i : Nat) (tb : IA), i + d = N → (∀ j, j < n0 → tb j = tb0 j) → (∀ j, j < i → tb (n0 + j) = cbyte x2 j) → wp_X8_append_3 (nI N) x2 K (d + 1) (nI i) tb (nI (n0 + i)) := by
  intro d
  induction d with
  | zero =>
    intro i tb hi h1 h2
    have e : i = N := by omega
    subst e
    refine ⟨fun _ => hK tb h1 h2, fun q => absurd (by rw [nI_leI (by omega) (by omega)]; omega) q⟩
  | succ d ih =>
    intro i tb hi h1 h2
    refine ⟨fun q => absurd q (by rw [nI_leI (by omega) (by omega)]; omega), fun _ => ⟨fun q => absurd q (by rw [px_lit, nI_leI (by omega) (by omega)]; omega), fun _ => ⟨px_in (by omega) (by decide), ?_⟩⟩⟩
    rw [px_cl (by omega), nI_1, nI_1]
    refine ih (i + 1) _ (by omega) ?_ ?_
    · intro j hj
      rw [up_n (by omega)]; exact h1 j hj
    · intro j hj
      by_cases e : j = i
      · subst e; rw [up_s]; rfl
      · rw [up_n (by omega)]; exact h2 j (by omega)
theorem ap11 {x2 : Int64} {N n0 : Nat} {mr tb0 : IA} {K : Int32 → IA → IA → Int32 → Prop} (hN : n0 + N ≤ 48) (hK : ∀ tb : IA, (∀ j, j < n0 → tb j = tb0 j) → (∀ i, i < N → tb (n0 + i) = mbyte x2 i) → K (nI (n0 + N)) mr tb (nI (n0 + N))) : ∀ (d i : Nat) (tb : IA), i + d = N → (∀ j, j < n0 → tb j = tb0 j) → (∀ j, j < i → tb (n0 + j) = mbyte x2 j) → wp_X11_feed_39 (nI N) x2 mr K (d + 1) (nI i) tb (nI (n0 + i)) := by
  intro d
  induction d with
  | zero =>
    intro i tb hi h1 h2
    have e : i = N := by omega
    subst e
    refine ⟨fun _ => hK tb h1 h2, fun q => absurd (by rw [nI_leI (by omega) (by omega)]; omega) q⟩
  | succ d ih =>
    intro i tb hi h1 h2
    refine ⟨fun q => absurd q (by rw [nI_leI (by omega) (by omega)]; omega), fun _ => ⟨px_in (by omega) (by decide), ?_⟩⟩
    rw [px_cl (by omega), nI_1, nI_1]
    refine ih (i + 1) _ (by omega) ?_ ?_
    · intro j hj
      rw [up_n (by omega)]; exact h1 j hj
    · intro j hj
      by_cases e : j = i
      · subst e; rw [up_s]; rfl
      · rw [up_n (by omega)]; exact h2 j (by omega)
theorem m_feed {x1 : Int32} {x2 : Int64} {cr tb mr mt : IA} {tl ml : Int32} (hr : Rref cr mr) (ht : Rtape tb tl mt ml) : wp_X10_feed x1 x2 cr tb tl (fun r cr' tb' tl' => wp_X11_feed x1 x2 mr mt ml (fun r' mr' mt' ml' => r = r' ∧ Rref cr' mr' ∧ Rtape tb' tl' mt' ml')) := by
  obtain ⟨n, hn, rfl, rfl, hb⟩ := ht
  have ht : Rtape tb (nI n) mt (nI n) := ⟨n, hn, rfl, rfl, hb⟩
  refine ⟨fun h1 => ⟨fun h8 => ?_, fun h8 => ?_⟩, fun h1 => ?_⟩
  · refine rf10 6 (by decide) (by decide) ?_
    exact ⟨fun _ => ⟨fun _ => rf11 6 (by decide) (by decide) ⟨rfl, hr.up 6 (by decide), ht⟩, fun q => absurd h8 q⟩, fun q => absurd h1 q⟩
  · obtain ⟨N, hN, e⟩ : ∃ N, (1 ≤ N ∧ N ≤ 8) ∧ x1 = nI N := by
      rcases px_cases x1 9 (by decide) with h | ⟨k, hk, e⟩ | ⟨k, hk, hk2, e⟩
      · exact absurd h1 (px_neg_nle h (by decide))
      · refine ⟨k, ⟨?_, by omega⟩, e⟩
        rw [e, px_lit, nI_leI (by omega) (by omega)] at h1
        exact h1
      · rw [e, px_lit, nI_ltI (by omega) (by omega)] at h8
        omega
    subst e
    have e48 : ((48 : Int32) - nI n) = nI (48 - n) := by rw [px_lit]; exact pk_sub hn
    refine ⟨fun h => ⟨fun _ => ?_, fun q => absurd rfl q⟩, fun h => ⟨fun q => absurd q (by decide), fun _ => ?_⟩⟩
    · refine rf10 6 (by decide) (by decide) ?_
      rw [e48, nI_ltI (by omega) (by omega)] at h
      exact ⟨fun _ => ⟨fun q => absurd q h8, fun _ => ⟨fun q => absurd q (by rw [nI_add, px_lit, nI_leI (by omega) (by omega)]; omega), fun _ => rf11 6 (by decide) (by decide) ⟨rfl, hr.up 6 (by decide), ht⟩⟩⟩, fun q => absurd h1 q⟩
    · rw [e48, nI_ltI (by omega) (by omega)] at h
      refine ⟨N + 1, ap8 (n0 := n) (tb0 := tb) (by omega) (fun tb' h3 h4 => ?_) N 0 tb (by omega) (fun _ _ => rfl) (fun j hj => absurd hj (by omega))⟩
      show wp_X11_feed _ _ _ _ _ _
      refine ⟨fun _ => ⟨fun q => absurd q h8, fun _ => ⟨fun _ => ?_, fun q => absurd (by rw [nI_add, px_lit, nI_leI (by omega) (by omega)]; omega) q⟩⟩, fun q => absurd h1 q⟩
      refine ⟨N + 1, ap11 (n0 := n) (tb0 := mt) (by omega) (fun mt' h5 h6 => ⟨rfl, hr, n + N, by omega, rfl, rfl, fun k hk => ?_⟩) N 0 mt (by omega) (fun _ _ => rfl) (fun j hj => absurd hj (by omega))⟩
      by_cases hk2 : k < n
      · rw [h3 k hk2, h5 k hk2, hb k hk2]
      · obtain ⟨i, rfl⟩ : ∃ i, k = n + i := ⟨k - n, by omega⟩
        rw [h4 i (by omega), h6 i (by omega), byte_eq x2 i (by omega)]
  · refine rf10 4 (by decide) (by decide) ?_
    exact ⟨fun q => absurd q h1, fun _ => rf11 4 (by decide) (by decide) ⟨rfl, hr.up 4 (by decide), ht⟩⟩
