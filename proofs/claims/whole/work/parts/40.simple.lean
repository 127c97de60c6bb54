/-! ===== ranges, states, agents ===== -/
theorem q_within (N : Nat) (x a b : Int32) : f_X7_within N x a b = some (if x < a then 0 else if b < x then 0 else 1) := by
  unfold f_X7_within
  split
  · rfl
  · split <;> rfl
theorem q_w1 {N : Nat} {x a b : Int32} (h1 : ¬ x < a) (h2 : x ≤ b) : f_X7_within N x a b = some 1 := by
  rw [q_within, if_neg h1, if_neg (Int32.not_lt.mpr h2)]
theorem q_w0 {N : Nat} {x a b : Int32} (h : x < a ∨ ¬ x ≤ b) : f_X7_within N x a b = some 0 := by
  rw [q_within]
  by_cases h1 : x < a
  · rw [if_pos h1]
  · rw [if_neg h1, if_pos (Int32.not_le.mp (h.resolve_left h1))]
theorem q_st (x : Int32) : (∃ k, k < 6 ∧ x = nI k ∧ ∀ N, f_X6_isState N x = some 1 ∧ f_X7_isState N x = some 1) ∨ (∀ N, f_X6_isState N x = some 0 ∧ f_X7_isState N x = some 0) := by
  rcases zcase x with h | ⟨k, hk, rfl⟩
  · refine Or.inr fun N => ⟨?_, ?_⟩
    · unfold f_X6_isState
      rw [if_pos h]
    · unfold f_X7_isState
      rw [q_w0 (Or.inl h)]
      rfl
  · by_cases h6 : k < 6
    · refine Or.inl ⟨k, h6, rfl, fun N => ⟨?_, ?_⟩⟩
      · simp (disch := omega) only [f_X6_isState, zl, zlt, zle, Nat.not_lt_zero, if_false, Nat.not_le.mpr h6]
      · unfold f_X7_isState
        rw [q_w1 (nI_pos hk) (by rw [zl 5, zle hk (by omega)]; omega)]
        rfl
    · refine Or.inr fun N => ⟨?_, ?_⟩
      · simp (disch := omega) only [f_X6_isState, zl, zlt, zle, Nat.not_lt_zero, if_false, Nat.not_lt.mp h6, if_true]
      · unfold f_X7_isState
        rw [q_w0 (Or.inr (by rw [zl 5, zle hk (by omega)]; omega))]
        rfl
theorem q_ag {n : Nat} (hn : n ≤ 6) (x : Int32) : (∃ k, k < n ∧ x = nI k ∧ ∀ N, f_X2_has N x (nI n) = some 1 ∧ f_X7_isAgent N x (nI n) = some 1) ∨ (∀ N, f_X2_has N x (nI n) = some 0 ∧ f_X7_isAgent N x (nI n) = some 0) := by
  rcases zcase x with h | ⟨k, hk, rfl⟩
  · refine Or.inr fun N => ⟨?_, ?_⟩
    · unfold f_X2_has
      rw [if_pos h]
    · unfold f_X7_isAgent
      rw [q_w0 (Or.inl h)]
      rfl
  · by_cases h6 : k < n
    · have e1 : nI n - 1 = nI (n - 1) := zsub (b := 1) (by omega)
      refine Or.inl ⟨k, h6, rfl, fun N => ⟨?_, ?_⟩⟩
      · simp (disch := omega) only [f_X2_has, zl, zlt, zle, Nat.not_lt_zero, if_false, Nat.not_le.mpr h6]
      · unfold f_X7_isAgent
        rw [e1, q_w1 (nI_pos hk) (by rw [zle hk (by omega)]; omega)]
        rfl
    · refine Or.inr fun N => ⟨?_, ?_⟩
      · simp (disch := omega) only [f_X2_has, zl, zlt, zle, Nat.not_lt_zero, if_false, Nat.not_lt.mp h6, if_true]
      · unfold f_X7_isAgent
        rw [q_w0 (Or.inr ?_)]
        · rfl
        · intro hle
          rcases Nat.eq_zero_or_pos n with rfl | h0
          · have h1 : (nI 0 - 1 : Int32) = -nI 1 := rfl
            rw [h1, ← Int32.not_lt] at hle
            exact hle (by rw [znlt hk (by omega) (by omega)]; trivial)
          · have e1 : nI n - 1 = nI (n - 1) := zsub (b := 1) (by omega)
            rw [e1, zle hk (by omega)] at hle
            omega
/-! ===== tells, weight ===== -/
theorem q_tells {N : Nat} {told toldBy : Nat → Int32} (hT : RelT told toldBy) (a1 a2 : Int32) : ∃ (r : Int32) (t1 t2 : Nat → Int32), f_X6_tells N a1 a2 told = some (r, t1) ∧ f_X7_tells N a1 a2 toldBy = some (r, t2) ∧ RelT t1 t2 := by
  rcases q_st a1 with ⟨k, hk, rfl, h⟩ | h
  · by_cases h2 : a2 < 0
    · refine ⟨-2, told, toldBy, ?_, ?_, hT⟩
      · simp only [f_X6_tells, (h N).1, bd1, show ((1 : Int32) = 0) = False by decide, if_false, h2, if_true]
      · simp only [f_X7_tells, (h N).2, q_w0 (Or.inl h2), bd1, show ((1 : Int32) = 0) = False by decide, if_false, if_true]
    · by_cases h3 : a2 ≤ 2
      · obtain ⟨T, hT⟩ := hT
        have e := hT k hk
        obtain ⟨v, hv, rfl⟩ := nI_of2 (M := 2) (n := 2) (by decide) h2 h3
        refine ⟨nI (T k), upd told k (nI v), upd toldBy k (nI v), ?_, ?_, fun s => if s = k then v else T s, fun s hs => ?_⟩
        · simp (disch := omega) only [f_X6_tells, (h N).1, bd1, show ((1 : Int32) = 0) = False by decide, if_false, h2, h3, if_true, gd, nm, zinb, zcl, e.2.1]
        · simp (disch := omega) only [f_X7_tells, (h N).2, q_w1 h2 h3, bd1, show ((1 : Int32) = 0) = False by decide, if_false, if_true, gd, nm, zinb, zcl, e.2.2]
        · rw [upd_eq, upd_eq]
          dsimp only
          split
          · exact ⟨hv, rfl, rfl⟩
          · exact hT s hs
      · refine ⟨-2, told, toldBy, ?_, ?_, hT⟩
        · simp only [f_X6_tells, (h N).1, bd1, show ((1 : Int32) = 0) = False by decide, if_false, h2, h3]
        · simp only [f_X7_tells, (h N).2, q_w0 (Or.inr h3), bd1, show ((1 : Int32) = 0) = False by decide, if_false, if_true]
  · refine ⟨-1, told, toldBy, ?_, ?_, hT⟩
    · simp only [f_X6_tells, (h N).1, bd1, if_true]
    · simp only [f_X7_tells, (h N).2, bd1, if_true]
theorem q_weight {N : Nat} {weights weightOf : Nat → Int32} (hW : RelW weights weightOf) (a1 a2 : Int32) : ∃ (r : Int32) (t1 t2 : Nat → Int32), f_X6_weight N a1 a2 weights = some (r, t1) ∧ f_X7_weight N a1 a2 weightOf = some (r, t2) ∧ RelW t1 t2 := by
  rcases q_st a1 with ⟨k, hk, rfl, h⟩ | h
  · by_cases h2 : a2 < -9
    · refine ⟨-2, weights, weightOf, ?_, ?_, hW⟩
      · simp only [f_X6_weight, (h N).1, bd1, show ((1 : Int32) = 0) = False by decide, if_false, h2, if_true]
      · simp only [f_X7_weight, (h N).2, q_w0 (Or.inl h2), bd1, show ((1 : Int32) = 0) = False by decide, if_false, if_true]
    · by_cases h3 : a2 ≤ 9
      · refine ⟨weights k + 10, upd weights k a2, upd weightOf k a2, ?_, ?_, fun s hs => ?_⟩
        · simp (disch := omega) only [f_X6_weight, (h N).1, bd1, show ((1 : Int32) = 0) = False by decide, if_false, h2, h3, if_true, gd, nm, zinb, zcl]
        · simp (disch := omega) only [f_X7_weight, (h N).2, q_w1 h2 h3, bd1, show ((1 : Int32) = 0) = False by decide, if_false, if_true, gd, nm, zinb, zcl, hW k hk]
        · rw [upd_eq, upd_eq]
          split
          · rfl
          · exact hW s hs
      · refine ⟨-2, weights, weightOf, ?_, ?_, hW⟩
        · simp only [f_X6_weight, (h N).1, bd1, show ((1 : Int32) = 0) = False by decide, if_false, h2, h3]
        · simp only [f_X7_weight, (h N).2, q_w0 (Or.inr h3), bd1, show ((1 : Int32) = 0) = False by decide, if_false, if_true]
  · refine ⟨-1, weights, weightOf, ?_, ?_, hW⟩
    · simp only [f_X6_weight, (h N).1, bd1, if_true]
    · simp only [f_X7_weight, (h N).2, bd1, if_true]
/-! ===== agent, waits, many, seed ===== -/
theorem q_agent {N n : Nat} (hn : n ≤ 6) {S : Nat → Nat} {states stateOf : Nat → Int32} (hS : ∀ a, a < n → S a < 6 ∧ states a = nI (S a) ∧ stateOf a = nI (S a)) (a1 : Int32) : ∃ r : Int32, f_X6_agent N a1 (nI n) states = some r ∧ f_X7_agent N a1 (nI n) stateOf = some r := by
  rcases q_ag hn a1 with ⟨k, hk, rfl, h⟩ | h
  · refine ⟨nI (S k), ?_, ?_⟩
    · simp (disch := omega) only [f_X6_agent, (h N).1, f_X2_stateOf, bd1, show ((1 : Int32) = 0) = False by decide, if_false, if_true, gd, zinb, zcl, (hS k hk).2.1]
    · simp (disch := omega) only [f_X7_agent, (h N).2, bd1, show ((1 : Int32) = 0) = False by decide, if_false, if_true, gd, zinb, zcl, (hS k hk).2.2]
  · exact ⟨-1, by simp only [f_X6_agent, (h N).1, bd1, if_true], by simp only [f_X7_agent, (h N).2, bd1, if_true]⟩
theorem q_waitOf {N i j : Nat} (hi : i < 6) (hj : j < 6) {lastMet metAt : Nat → Int32} (hM : ∀ j, j < 36 → lastMet j = metAt j) (mm : Int32) : f_X2_waitOf N (nI i) (nI j) mm lastMet = some (mm - metAt (6 * i + j)) ∧ f_X7_waitOf N (nI i) (nI j) mm metAt = some (mm - metAt (6 * i + j)) := by
  have e1 : nI i * 6 + nI j = nI (6 * i + j) := by rw [zl 6, zmul, zadd, Nat.mul_comm]
  have e2 : 6 * nI i + nI j = nI (6 * i + j) := by rw [zl 6, zmul, zadd]
  constructor
  · simp (disch := omega) only [f_X2_waitOf, e1, gd, zinb, zcl, if_true, hM]
  · simp (disch := omega) only [f_X7_waitOf, e2, gd, zinb, zcl, if_true]
theorem q_waits {N n : Nat} (hn : n ≤ 6) {lastMet metAt : Nat → Int32} (hM : ∀ j, j < 36 → lastMet j = metAt j) (mm a1 a2 : Int32) : ∃ r : Int32, f_X6_waits N a1 a2 (nI n) mm lastMet = some r ∧ f_X7_waits N a1 a2 (nI n) mm metAt = some r := by
  rcases q_ag hn a1 with ⟨i, hi, rfl, h⟩ | h
  · rcases q_ag hn a2 with ⟨j, hj, rfl, g⟩ | g
    · by_cases e : nI i = nI j
      · exact ⟨-3, by simp only [f_X6_waits, (h N).1, (g N).1, bd1, show ((1 : Int32) = 0) = False by decide, if_false, e, if_true], by simp only [f_X7_waits, (h N).2, (g N).2, bd1, show ((1 : Int32) = 0) = False by decide, if_false, e, if_true]⟩
      · have w := q_waitOf (N := N) (i := i) (j := j) (by omega) (by omega) hM mm
        exact ⟨mm - metAt (6 * i + j), by simp only [f_X6_waits, (h N).1, (g N).1, w.1, bd1, show ((1 : Int32) = 0) = False by decide, if_false, e], by simp only [f_X7_waits, (h N).2, (g N).2, w.2, bd1, show ((1 : Int32) = 0) = False by decide, if_false, e]⟩
    · exact ⟨-1, by simp only [f_X6_waits, (h N).1, (g N).1, bd1, show ((1 : Int32) = 0) = False by decide, if_false, if_true], by simp only [f_X7_waits, (h N).2, (g N).2, bd1, show ((1 : Int32) = 0) = False by decide, if_false, if_true]⟩
  · exact ⟨-1, by simp only [f_X6_waits, (h N).1, bd1, if_true], by simp only [f_X7_waits, (h N).2, bd1, if_true]⟩
/-! ===== sum ===== -/
theorem q_sum {N n : Nat} (hn : n ≤ 6) (hN : 20000 ≤ N) {S : Nat → Nat} {states stateOf weights weightOf : Nat → Int32} (hS : ∀ a, a < n → S a < 6 ∧ states a = nI (S a) ∧ stateOf a = nI (S a)) (hW : RelW weights weightOf) : ∃ r : Int32, f_X6_sum N (nI n) weights states = some r ∧ f_X7_sum N (nI n) weightOf stateOf = some r := by
  rcases Nat.eq_zero_or_pos n with rfl | h0
  · exact ⟨-3, rfl, rfl⟩
  · have hz : (nI n = 0) = False := eq_false (nI_ne0 h0 (by omega))
    let R : Nat → Int32 := fun i => Nat.rec 1000 (fun k r => r + weights (S k)) i
    have a := loop_cnt (b := fun (w9 : Int32 × Int32) => f_X6_sum_b19 N (nI n) weights states w9.1 w9.2) (fun i => (R i, nI i)) (R n) n
      (fun i hi => by
        have e := hS i hi
        simp (disch := omega) only [f_X6_sum_b19, f_X2_stateOf, bd1, zle, Nat.not_le.mpr hi, if_false, gd, nm, zinb, zcl, e.2.1, if_true, nI_1]
        rfl)
      (by simp only [f_X6_sum_b19, Int32.le_refl, if_true]) N 0 (Nat.zero_le _) (by omega)
    have b := loop_cnt (b := fun (w9 : Int32 × Int32) => f_X7_sum_b16 N (nI n) weightOf stateOf w9.1 w9.2) (fun i => (R i, nI i)) (R n) n
      (fun i hi => by
        have e := hS i hi
        simp (disch := omega) only [f_X7_sum_b16, bd1, zle, Nat.not_le.mpr hi, if_false, gd, nm, zinb, zcl, e.2.2, if_true, nI_1, ← hW _ e.1]
        rfl)
      (by simp only [f_X7_sum_b16, Int32.le_refl, if_true]) N 0 (Nat.zero_le _) (by omega)
    refine ⟨R n, ?_, ?_⟩
    · unfold f_X6_sum
      rw [if_neg (by rw [hz]; exact id)]
      show bd1 (loopN _ N (R 0, nI 0)) _ = _
      rw [a]; rfl
    · unfold f_X7_sum
      rw [if_neg (by rw [hz]; exact id)]
      show bd1 (loopN _ N (R 0, nI 0)) _ = _
      rw [b]; rfl
