/-! ===== rules: reading ===== -/
theorem q_first {N t : Nat} (ht : t < 36) : f_X5_first N (nI t) = some (nI (t / 6)) := by
  unfold f_X5_first
  rw [zl 6, zdiv (by omega) (by omega) (by omega)]
theorem q_second {N t : Nat} (ht : t < 36) : f_X5_second N (nI t) = some (nI (t % 6)) := by
  unfold f_X5_second
  rw [zl 6, zrem (by omega) (by omega) (by omega)]
theorem q_of {N p q : Nat} : f_X5_of N (nI p) (nI q) = some (nI (6 * p + q)) := by
  unfold f_X5_of
  rw [zl 6, zmul, zadd, Nat.mul_comm]
theorem d6 {p q : Nat} (hq : q < 6) : (6 * p + q) / 6 = p := by omega
theorem m6 {p q : Nat} (hq : q < 6) : (6 * p + q) % 6 = q := by omega
section RR
variable {N c : Nat} {P Q X Y : Nat → Nat} {twos outs pOf qOf xOf yOf : Nat → Int32}
theorem q_twoAt (h : RBd c P Q X Y twos outs pOf qOf xOf yOf) {k : Nat} (hk : k < c) : f_X4_twoAt N (nI k) twos = some (nI (6 * P k + Q k)) := by
  have := h.1
  simp (disch := omega) only [f_X4_twoAt, gd, zinb, zcl, if_true, (h.2.2.2.1 k hk).1]
theorem q_outcomeAt (h : RBd c P Q X Y twos outs pOf qOf xOf yOf) {k : Nat} (hk : k < c) : f_X4_outcomeAt N (nI k) twos outs = some (nI (6 * X k + Y k)) := by
  have h1 := h.1
  have h2 := h.2.1 k hk
  simp (disch := omega) only [f_X4_outcomeAt, gd, zinb, zcl, if_true, (h.2.2.2.1 k hk).1, (h.2.2.2.1 k hk).2]
theorem q_ofRule (h : RBd c P Q X Y twos outs pOf qOf xOf yOf) (a1 a2 : Int32) : ∃ r : Int32, f_X6_ofRule N a1 a2 (nI c) twos outs = some r ∧ f_X7_ofRule N a1 a2 (nI c) pOf qOf xOf yOf = some r := by
  have hc := h.1
  have no : ∀ k : Nat, k < 2147483648 → ¬ k < c → ¬ nI k ≤ nI c - 1 := by
    intro k hk hn hle
    rcases Nat.eq_zero_or_pos c with rfl | h0
    · have h1 : (nI 0 - 1 : Int32) = -nI 1 := rfl
      rw [h1, ← Int32.not_lt] at hle
      exact hle (by rw [znlt hk (by omega) (by omega)]; trivial)
    · have e1 : nI c - 1 = nI (c - 1) := zsub (b := 1) (by omega)
      rw [e1, zle hk (by omega)] at hle
      omega
  rcases zcase a1 with h1 | ⟨k, hk, rfl⟩
  · exact ⟨-1, by simp only [f_X6_ofRule, h1, if_true], by simp only [f_X7_ofRule, q_w0 (Or.inl h1), bd1, if_true]⟩
  · by_cases hkc : k < c
    · have e1 : nI c - 1 = nI (c - 1) := zsub (b := 1) (by omega)
      have hw : f_X7_within N (nI k) 0 (nI c - 1) = some 1 := q_w1 (nI_pos hk) (by rw [e1, zle hk (by omega)]; omega)
      have r := h.2.1 k hkc
      have m := h.2.2.1 k hkc
      have A : f_X6_ofRule N (nI k) a2 (nI c) twos outs = (if a2 < 0 then some (-2) else (if a2 ≤ 3 then (if 2 ≤ a2 then f_X6_ofRule_j53 N a2 (nI (6 * X k + Y k)) (nI c) twos outs else f_X6_ofRule_j53 N a2 (nI (6 * P k + Q k)) (nI c) twos outs) else some (-2))) := by
        simp (disch := omega) only [f_X6_ofRule, nI_pos hk, if_false, zlt, hkc, if_true, q_twoAt h hkc, q_outcomeAt h hkc, bd1]
      have B : f_X7_ofRule N (nI k) a2 (nI c) pOf qOf xOf yOf = (if a2 = 0 then some (nI (P k)) else (if a2 = 1 then some (nI (Q k)) else (if a2 = 2 then some (nI (X k)) else (if a2 = 3 then some (nI (Y k)) else some (-2))))) := by
        simp (disch := omega) only [f_X7_ofRule, hw, bd1, show ((1 : Int32) = 0) = False by decide, if_false, gd, zinb, zcl, if_true, m.1, m.2.1, m.2.2.1, m.2.2.2]
      rw [A, B]
      rcases zcase a2 with h2 | ⟨w, hw2, rfl⟩
      · have n0 : ¬ a2 = 0 := fun e => by rw [e] at h2; exact absurd h2 (by decide)
        have n1 : ¬ a2 = 1 := fun e => by rw [e] at h2; exact absurd h2 (by decide)
        have n2 : ¬ a2 = 2 := fun e => by rw [e] at h2; exact absurd h2 (by decide)
        have n3 : ¬ a2 = 3 := fun e => by rw [e] at h2; exact absurd h2 (by decide)
        exact ⟨-2, by rw [if_pos h2], by rw [if_neg n0, if_neg n1, if_neg n2, if_neg n3]⟩
      · rw [if_neg (nI_pos hw2)]
        by_cases h4 : w ≤ 3
        · rw [if_pos (by rw [zl 3, zle hw2 (by omega)]; exact h4)]
          rcases (show w = 0 ∨ w = 1 ∨ w = 2 ∨ w = 3 by omega) with rfl | rfl | rfl | rfl
          · refine ⟨nI (P k), ?_, rfl⟩
            rw [if_neg (show ¬ (2 : Int32) ≤ nI 0 by decide)]
            unfold f_X6_ofRule_j53
            rw [if_pos (show nI 0 - nI 0 / 2 * 2 = 0 by decide), q_first (by omega), d6 r.2.1]
            rfl
          · refine ⟨nI (Q k), ?_, rfl⟩
            rw [if_neg (show ¬ (2 : Int32) ≤ nI 1 by decide)]
            unfold f_X6_ofRule_j53
            rw [if_neg (show ¬ nI 1 - nI 1 / 2 * 2 = 0 by decide), q_second (by omega), m6 r.2.1]
            rfl
          · refine ⟨nI (X k), ?_, rfl⟩
            rw [if_pos (show (2 : Int32) ≤ nI 2 by decide)]
            unfold f_X6_ofRule_j53
            rw [if_pos (show nI 2 - nI 2 / 2 * 2 = 0 by decide), q_first (by omega), d6 r.2.2.2]
            rfl
          · refine ⟨nI (Y k), ?_, rfl⟩
            rw [if_pos (show (2 : Int32) ≤ nI 3 by decide)]
            unfold f_X6_ofRule_j53
            rw [if_neg (show ¬ nI 3 - nI 3 / 2 * 2 = 0 by decide), q_second (by omega), m6 r.2.2.2]
            rfl
        · rw [if_neg (by rw [zl 3, zle hw2 (by omega)]; exact h4)]
          have e0 : ¬ nI w = 0 := by rw [zl 0, zeq hw2 (by omega)]; omega
          have e1 : ¬ nI w = 1 := by rw [zl 1, zeq hw2 (by omega)]; omega
          have e2 : ¬ nI w = 2 := by rw [zl 2, zeq hw2 (by omega)]; omega
          have e3 : ¬ nI w = 3 := by rw [zl 3, zeq hw2 (by omega)]; omega
          exact ⟨-2, rfl, by rw [if_neg e0, if_neg e1, if_neg e2, if_neg e3]⟩
    · refine ⟨-1, ?_, ?_⟩
      · simp (disch := omega) only [f_X6_ofRule, nI_pos hk, if_false, zlt, hkc]
      · simp only [f_X7_ofRule, q_w0 (Or.inr (no k hk hkc)), bd1, if_true]
/-! ===== breaks ===== -/
theorem q_isKeptW (h : RBd c P Q X Y twos outs pOf qOf xOf yOf) (w : Nat → Int32) {k : Nat} (hk : k < c) : f_X6_isKept_weights N (nI k) w twos outs = some (if w (P k) + w (Q k) = w (X k) + w (Y k) then 1 else 0) := by
  have r := h.2.1 k hk
  simp (disch := omega) only [f_X6_isKept_weights, q_twoAt h hk, q_outcomeAt h hk, bd1, q_first, q_second, d6 r.2.1, m6 r.2.1, d6 r.2.2.2, m6 r.2.2.2, gd, zinb, zcl, if_true]
  split <;> rfl
theorem q_isKeptT (h : RBd c P Q X Y twos outs pOf qOf xOf yOf) (w : Nat → Int32) {k : Nat} (hk : k < c) : f_X6_isKept_trial N (nI k) w twos outs = some (if w (P k) + w (Q k) = w (X k) + w (Y k) then 1 else 0) := by
  have r := h.2.1 k hk
  simp (disch := omega) only [f_X6_isKept_trial, q_twoAt h hk, q_outcomeAt h hk, bd1, q_first, q_second, d6 r.2.1, m6 r.2.1, d6 r.2.2.2, m6 r.2.2.2, gd, zinb, zcl, if_true]
  split <;> rfl
theorem q_breaks (hN : 20000 ≤ N) (h : RBd c P Q X Y twos outs pOf qOf xOf yOf) {weights weightOf : Nat → Int32} (hW : RelW weights weightOf) : ∃ r : Int32, f_X6_breaks N (nI c) weights twos outs = some r ∧ f_X7_breaks N (nI c) pOf qOf xOf yOf weightOf = some r := by
  have hc := h.1
  have B1 : ∀ k, k < c → f_X6_breaks_b2 N (nI c) weights twos outs (nI k) = if weights (P k) + weights (Q k) = weights (X k) + weights (Y k) then some (.inl (nI (k + 1))) else some (.inr (.inl (nI k))) := by
    intro k hk
    simp (disch := omega) only [f_X6_breaks_b2, zle, Nat.not_le.mpr hk, if_false, q_isKeptW h weights hk, bd1, nm, nI_1]
    split
    · rw [if_neg (by decide)]
    · rw [if_pos rfl]
  have B2 : ∀ k, k < c → f_X7_breaks_b2 N (nI c) pOf qOf xOf yOf weightOf (nI k) = if weights (P k) + weights (Q k) = weights (X k) + weights (Y k) then some (.inl (nI (k + 1))) else some (.inr (.inl (nI k))) := by
    intro k hk
    have r := h.2.1 k hk
    have m := h.2.2.1 k hk
    simp (disch := omega) only [f_X7_breaks_b2, zle, Nat.not_le.mpr hk, if_false, nm, nI_1, gd, zinb, zcl, if_true, m.1, m.2.1, m.2.2.1, m.2.2.2, hW _ r.1, hW _ r.2.1, hW _ r.2.2.1, hW _ r.2.2.2]
  have fin : ∀ e m, m ≤ c → (∀ k, k < m → weights (P k) + weights (Q k) = weights (X k) + weights (Y k)) → (f_X6_breaks_b2 N (nI c) weights twos outs (nI m) = some (.inr e)) → (f_X7_breaks_b2 N (nI c) pOf qOf xOf yOf weightOf (nI m) = some (.inr e)) → loopN (fun (w9 : Int32) => f_X6_breaks_b2 N (nI c) weights twos outs w9) N (nI 0) = some e ∧ loopN (fun (w9 : Int32) => f_X7_breaks_b2 N (nI c) pOf qOf xOf yOf weightOf w9) N (nI 0) = some e := by
    intro e m hm hk h1 h2
    exact ⟨loop_cnt (fun i => nI i) e m (fun i hi => by rw [B1 i (by omega), if_pos (hk i hi)]) h1 N 0 (Nat.zero_le _) (by omega), loop_cnt (fun i => nI i) e m (fun i hi => by rw [B2 i (by omega), if_pos (hk i hi)]) h2 N 0 (Nat.zero_le _) (by omega)⟩
  by_cases hex : ∃ k, k < c ∧ ¬ weights (P k) + weights (Q k) = weights (X k) + weights (Y k)
  · obtain ⟨j, ⟨hj, hnj⟩, hl⟩ := pk_least _ hex
    have hk : ∀ k, k < j → weights (P k) + weights (Q k) = weights (X k) + weights (Y k) := fun k hk => Classical.byContradiction fun q => hl k hk ⟨by omega, q⟩
    obtain ⟨g1, g2⟩ := fin (.inl (nI j)) j (by omega) hk (by rw [B1 j hj, if_neg hnj]) (by rw [B2 j hj, if_neg hnj])
    refine ⟨nI j, ?_, ?_⟩
    · show bs0 (loopN _ N (nI 0)) _ _ = _
      rw [g1]; rfl
    · show bs0 (loopN _ N (nI 0)) _ _ = _
      rw [g2]; rfl
  · have hk : ∀ k, k < c → weights (P k) + weights (Q k) = weights (X k) + weights (Y k) := fun k hk => Classical.byContradiction fun q => hex ⟨k, hk, q⟩
    obtain ⟨g1, g2⟩ := fin (.inr ()) c (Nat.le_refl _) hk (by simp only [f_X6_breaks_b2, Int32.le_refl, if_true]) (by simp only [f_X7_breaks_b2, Int32.le_refl, if_true])
    refine ⟨-9, ?_, ?_⟩
    · show bs0 (loopN _ N (nI 0)) _ _ = _
      rw [g1]; rfl
    · show bs0 (loopN _ N (nI 0)) _ _ = _
      rw [g2]; rfl
end RR
