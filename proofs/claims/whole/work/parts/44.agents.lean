/-! ===== agents ===== -/
theorem loop2 {σ ε τ φ : Type} {b1 : σ → Option (σ ⊕ ε)} {b2 : τ → Option (τ ⊕ φ)} (I : Nat → σ → τ → Prop) (E : ε → φ → Prop) (m : Nat)
    (hs : ∀ i x y, i < m → I i x y → ∃ x' y', b1 x = some (.inl x') ∧ b2 y = some (.inl y') ∧ I (i + 1) x' y')
    (he : ∀ x y, I m x y → ∃ e f, b1 x = some (.inr e) ∧ b2 y = some (.inr f) ∧ E e f) : ∀ (n i : Nat) (x : σ) (y : τ), i ≤ m → m - i < n → I i x y → ∃ e f, loopN b1 n x = some e ∧ loopN b2 n y = some f ∧ E e f := by
  intro n
  induction n with
  | zero => intro i x y _ h; omega
  | succ n ih =>
    intro i x y hi hn hI
    rcases Nat.lt_or_ge i m with q | q
    · obtain ⟨x', y', h1, h2, h3⟩ := hs i x y q hI
      obtain ⟨e, f, h4, h5, h6⟩ := ih (i + 1) x' y' (by omega) (by omega) h3
      exact ⟨e, f, by rw [loopN_l n h1]; exact h4, by rw [loopN_l n h2]; exact h5, h6⟩
    · have e1 : i = m := by omega
      subst e1
      obtain ⟨e, f, h1, h2, h3⟩ := he x y hI
      exact ⟨e, f, loopN_r n h1, loopN_r n h2, h3⟩
def RS (n : Nat) (S : Nat → Nat) (states stateOf : Nat → Int32) : Prop := ∀ a, a < n → S a < 6 ∧ states a = nI (S a) ∧ stateOf a = nI (S a)
theorem q_come {N n m s : Nat} (hN : 20000 ≤ N) (hs : s < 6) (hm : n + m ≤ 6) {S : Nat → Nat} {st so : Nat → Int32} (h : RS n S st so) :
    ∃ (st' so' : Nat → Int32) (S' : Nat → Nat), f_X2_come N (nI s) (nI m) (nI n) st = some (nI (n + m), st') ∧ f_X7_adds N (nI m) (nI s) (nI n) so = some (nI (n + m), so') ∧ RS (n + m) S' st' so' := by
  obtain ⟨e, f, h1, h2, h3, h4, h5⟩ := loop2 (b1 := fun (w9 : Int32 × Int32 × (Nat → Int32)) => f_X2_come_b2 N (nI s) (nI m) w9.1 w9.2.1 w9.2.2) (b2 := fun (w9 : Int32 × Int32 × (Nat → Int32)) => f_X7_adds_b2 N (nI m) (nI s) w9.1 w9.2.1 w9.2.2)
    (fun i x y => x.1 = nI i ∧ y.1 = nI i ∧ x.2.1 = nI (n + i) ∧ y.2.1 = nI (n + i) ∧ RS (n + i) (fun a => if n ≤ a then s else S a) x.2.2 y.2.2)
    (fun e f => e.1 = nI (n + m) ∧ f.1 = nI (n + m) ∧ RS (n + m) (fun a => if n ≤ a then s else S a) e.2 f.2) m
    (fun i x y hi hI => by
      obtain ⟨x1, x2, x3⟩ := x
      obtain ⟨y1, y2, y3⟩ := y
      obtain ⟨e1, e2, e3, e4, hr⟩ := hI
      dsimp only at e1 e2 e3 e4 hr
      subst e1; subst e2; subst e3; subst e4
      refine ⟨(nI (i + 1), nI (n + i + 1), upd x3 (n + i) (nI s)), (nI (i + 1), nI (n + i + 1), upd y3 (n + i) (nI s)), ?_, ?_, rfl, rfl, rfl, rfl, fun a ha => ?_⟩
      · simp (disch := omega) only [f_X2_come_b2, zle, Nat.not_le.mpr hi, if_false, zl 6, show ¬ 6 ≤ n + i by omega, gd, zinb, if_true, zcl, nm, nI_1]
      · simp (disch := omega) only [f_X7_adds_b2, zle, Nat.not_le.mpr hi, if_false, gd, zinb, if_true, zcl, nm, nI_1]
      · dsimp only
        rw [upd_eq, upd_eq]
        by_cases q : a = n + i
        · rw [if_pos q, if_pos q, if_pos (by omega)]
          exact ⟨hs, rfl, rfl⟩
        · rw [if_neg q, if_neg q]
          exact hr a (by omega))
    (fun x y hI => by
      obtain ⟨x1, x2, x3⟩ := x
      obtain ⟨y1, y2, y3⟩ := y
      obtain ⟨e1, e2, e3, e4, hr⟩ := hI
      dsimp only at e1 e2 e3 e4 hr
      subst e1; subst e2; subst e3; subst e4
      exact ⟨(nI (n + m), x3), (nI (n + m), y3), by simp only [f_X2_come_b2, Int32.le_refl, if_true], by simp only [f_X7_adds_b2, Int32.le_refl, if_true], rfl, rfl, hr⟩) N 0 (0, nI n, st) (0, nI n, so) (Nat.zero_le _) (by omega)
    ⟨rfl, rfl, rfl, rfl, fun a ha => by dsimp only; rw [if_neg (by omega)]; exact h a ha⟩
  refine ⟨e.2, f.2, _, ?_, ?_, h5⟩
  · show bd2 (loopN _ N (0, nI n, st)) _ = _
    rw [h1, ← h3]; rfl
  · show bd2 (loopN _ N (0, nI n, so)) _ = _
    rw [h2, ← h4]; rfl
theorem q_met0 {N : Nat} (hN : 20000 ≤ N) (a b d : Int32) (so metAt : Nat → Int32) : ∃ g : Nat → Int32, loopN (fun (w9 : Int32 × (Nat → Int32)) => f_X7_agents_b139 N a b d so w9.1 w9.2) N (0, metAt) = some g ∧ ∀ t, t < 36 → g t = 0 := by
  exact loop_idx (b := fun (w9 : Int32 × (Nat → Int32)) => f_X7_agents_b139 N a b d so w9.1 w9.2) (fun i x => x.1 = nI i ∧ ∀ t, t < i → x.2 t = 0) (fun g => ∀ t, t < 36 → g t = 0) 36
    (fun i x hi hI => by
      obtain ⟨x1, x2⟩ := x
      obtain ⟨e1, h2⟩ := hI
      dsimp only at e1 h2
      subst e1
      refine Or.inl ⟨(nI (i + 1), upd x2 i 0), ?_, rfl, fun t ht => ?_⟩
      · simp (disch := omega) only [f_X7_agents_b139, gd, nm, zl 36, zle, zinb, zcl, nI_1, Nat.not_le.mpr hi, if_false, if_true]
      · show upd x2 i 0 t = 0
        rw [upd_eq]
        split
        · rfl
        · exact h2 t (by omega))
    (fun x hI => by
      obtain ⟨x1, x2⟩ := x
      obtain ⟨e1, h2⟩ := hI
      dsimp only at e1 h2
      subst e1
      exact ⟨x2, by simp only [f_X7_agents_b139, show (36 : Int32) ≤ nI 36 by decide, if_true], h2⟩) N 0 (0, metAt) (Nat.zero_le _) (by omega) ⟨rfl, fun t ht => absurd ht (Nat.not_lt_zero t)⟩
theorem lgc {a b : Nat} (ha : a < 9223372036854775808) (hb : b < 9223372036854775808) : lg_cmp (lN a) (lN b) = if b < a then 1 else if a = b then 0 else -1 := by
  unfold lg_cmp
  have h1 : (lN a > lN b) = (b < a) := propext (pk_lLT hb ha)
  have h2 : (lN a = lN b) = (a = b) := propext (pk_lEQ ha hb)
  simp only [h1, h2]
theorem q_agents {N : Nat} (hN : 20000 ≤ N) {cSize cMeet cChg cSeed mAgents mMeet mChg mSeed : Int32} {states lastMet stateOf metAt : Nat → Int32} (h : RelC cSize cMeet cChg cSeed states lastMet mAgents mMeet mChg mSeed stateOf metAt) (a1 a2 a3 a4 a5 a6 : Int32) :
    ∃ (r s' m' c' : Int32) (st lm : Nat → Int32) (sz mm mc : Int32) (so ma : Nat → Int32), f_X6_agents N a1 a2 a3 a4 a5 a6 cSize cMeet cChg states lastMet = some (r, s', m', c', st, lm) ∧ f_X7_agents N a1 a2 a3 a4 a5 a6 mAgents mMeet mChg stateOf metAt = some (r, sz, mm, mc, so, ma) ∧ RelC s' m' c' cSeed st lm sz mm mc mSeed so ma := by
  have bad : f_X6_agents N a1 a2 a3 a4 a5 a6 cSize cMeet cChg states lastMet = some (-2, cSize, cMeet, cChg, states, lastMet) → f_X7_agents N a1 a2 a3 a4 a5 a6 mAgents mMeet mChg stateOf metAt = some (-2, mAgents, mMeet, mChg, stateOf, metAt) → ∃ (r s' m' c' : Int32) (st lm : Nat → Int32) (sz mm mc : Int32) (so ma : Nat → Int32), f_X6_agents N a1 a2 a3 a4 a5 a6 cSize cMeet cChg states lastMet = some (r, s', m', c', st, lm) ∧ f_X7_agents N a1 a2 a3 a4 a5 a6 mAgents mMeet mChg stateOf metAt = some (r, sz, mm, mc, so, ma) ∧ RelC s' m' c' cSeed st lm sz mm mc mSeed so ma := fun h1 h2 => ⟨_, _, _, _, _, _, _, _, _, _, _, h1, h2, h⟩
  have j1 : f_X7_agents_j32 N a1 a2 a3 a4 a5 a6 1 mAgents mMeet mChg stateOf metAt = some (-2, mAgents, mMeet, mChg, stateOf, metAt) := rfl
  rcases zcase a1 with n1 | ⟨k1, l1, e1⟩
  · exact bad (by unfold f_X6_agents; rw [if_pos n1]) (by unfold f_X7_agents; rw [if_pos n1, j1])
  have p1 : ¬ a1 < 0 := by rw [e1]; exact nI_pos l1
  rcases zcase a2 with n2 | ⟨k2, l2, e2⟩
  · exact bad (by unfold f_X6_agents; rw [if_neg p1, if_pos n2]) (by unfold f_X7_agents; rw [if_neg p1, if_pos n2, j1])
  have p2 : ¬ a2 < 0 := by rw [e2]; exact nI_pos l2
  rcases zcase a3 with n3 | ⟨k3, l3, e3⟩
  · exact bad (by unfold f_X6_agents; rw [if_neg p1, if_neg p2, if_pos n3]) (by unfold f_X7_agents; rw [if_neg p1, if_neg p2, if_pos n3, j1])
  have p3 : ¬ a3 < 0 := by rw [e3]; exact nI_pos l3
  rcases zcase a4 with n4 | ⟨k4, l4, e4⟩
  · exact bad (by unfold f_X6_agents; rw [if_neg p1, if_neg p2, if_neg p3, if_pos n4]) (by unfold f_X7_agents; rw [if_neg p1, if_neg p2, if_neg p3, if_pos n4, j1])
  have p4 : ¬ a4 < 0 := by rw [e4]; exact nI_pos l4
  rcases zcase a5 with n5 | ⟨k5, l5, e5⟩
  · exact bad (by unfold f_X6_agents; rw [if_neg p1, if_neg p2, if_neg p3, if_neg p4, if_pos n5]) (by unfold f_X7_agents; rw [if_neg p1, if_neg p2, if_neg p3, if_neg p4, if_pos n5, j1])
  have p5 : ¬ a5 < 0 := by rw [e5]; exact nI_pos l5
  rcases zcase a6 with n6 | ⟨k6, l6, e6⟩
  · have n6' : ¬ 0 ≤ a6 := Int32.not_le.mpr n6
    exact bad (by unfold f_X6_agents; rw [if_neg p1, if_neg p2, if_neg p3, if_neg p4, if_neg p5, if_neg n6']) (by unfold f_X7_agents; rw [if_neg p1, if_neg p2, if_neg p3, if_neg p4, if_neg p5, if_neg n6', j1])
  have p6 : 0 ≤ a6 := by rw [e6]; exact nI_pos' l6
  have es : (((((a1.toInt64) + (a2.toInt64)) + (a3.toInt64)) + (a4.toInt64)) + (a5.toInt64)) + (a6.toInt64) = lN (k1 + k2 + k3 + k4 + k5 + k6) := by
    rw [e1, e2, e3, e4, e5, e6, nI_l l1, nI_l l2, nI_l l3, nI_l l4, nI_l l5, nI_l l6, lN_add, lN_add, lN_add, lN_add, lN_add]
  have c2 : ((lg_cmp (lN (k1 + k2 + k3 + k4 + k5 + k6)) 2) < 0) = (k1 + k2 + k3 + k4 + k5 + k6 < 2) := by
    show (lg_cmp (lN _) (lN 2) < 0) = _
    rw [lgc (by omega) (by omega)]
    refine propext ⟨fun q => ?_, fun q => ?_⟩
    · split at q
      · exact absurd q (by decide)
      · split at q
        · exact absurd q (by decide)
        · omega
    · rw [if_neg (by omega), if_neg (by omega)]; decide
  have c6 : ((lg_cmp (lN (k1 + k2 + k3 + k4 + k5 + k6)) 6) ≤ 0) = (k1 + k2 + k3 + k4 + k5 + k6 ≤ 6) := by
    show (lg_cmp (lN _) (lN 6) ≤ 0) = _
    rw [lgc (by omega) (by omega)]
    refine propext ⟨fun q => ?_, fun q => ?_⟩
    · split at q
      · exact absurd q (by decide)
      · omega
    · rw [if_neg (by omega)]
      split <;> decide
  have A : f_X6_agents N a1 a2 a3 a4 a5 a6 cSize cMeet cChg states lastMet = (if k1 + k2 + k3 + k4 + k5 + k6 < 2 then some (-2, cSize, cMeet, cChg, states, lastMet) else (if k1 + k2 + k3 + k4 + k5 + k6 ≤ 6 then bd4 (f_X2_leave N cSize cMeet cChg lastMet) (fun cSize_10 cMeet_11 cChg_12 lastMet_13 => bd2 (f_X2_come N 0 a1 cSize_10 states) (fun cSize_14 states_15 => bd2 (f_X2_come N 1 a2 cSize_14 states_15) (fun cSize_16 states_17 => bd2 (f_X2_come N 2 a3 cSize_16 states_17) (fun cSize_18 states_19 => bd2 (f_X2_come N 3 a4 cSize_18 states_19) (fun cSize_20 states_21 => bd2 (f_X2_come N 4 a5 cSize_20 states_21) (fun cSize_22 states_23 => bd2 (f_X2_come N 5 a6 cSize_22 states_23) (fun cSize_24 states_25 => some (cSize_24, cSize_24, cMeet_11, cChg_12, states_25, lastMet_13)))))))) else some (-2, cSize, cMeet, cChg, states, lastMet))) := by
    unfold f_X6_agents nm
    rw [if_neg p1, if_neg p2, if_neg p3, if_neg p4, if_neg p5, if_pos p6, es]
    simp only [c2, c6]
  have B : f_X7_agents N a1 a2 a3 a4 a5 a6 mAgents mMeet mChg stateOf metAt = (if k1 + k2 + k3 + k4 + k5 + k6 < 2 then some (-2, mAgents, mMeet, mChg, stateOf, metAt) else (if k1 + k2 + k3 + k4 + k5 + k6 ≤ 6 then bd2 (f_X7_adds N a1 0 0 stateOf) (fun mAgents_6 stateOf_7 => bd2 (f_X7_adds N a2 1 mAgents_6 stateOf_7) (fun mAgents_8 stateOf_9 => bd2 (f_X7_adds N a3 2 mAgents_8 stateOf_9) (fun mAgents_10 stateOf_11 => bd2 (f_X7_adds N a4 3 mAgents_10 stateOf_11) (fun mAgents_12 stateOf_13 => bd2 (f_X7_adds N a5 4 mAgents_12 stateOf_13) (fun mAgents_14 stateOf_15 => bd2 (f_X7_adds N a6 5 mAgents_14 stateOf_15) (fun mAgents_16 stateOf_17 => bd1 (loopN (fun (w9 : Int32 × (Nat → Int32)) => f_X7_agents_b139 N mAgents_16 0 0 stateOf_17 w9.1 w9.2) N (0, metAt)) (fun metAt_22 => some (mAgents_16, mAgents_16, 0, 0, stateOf_17, metAt_22)))))))) else some (-2, mAgents, mMeet, mChg, stateOf, metAt))) := by
    unfold f_X7_agents
    rw [if_neg p1, if_neg p2, if_neg p3, if_neg p4, if_neg p5, if_pos p6]
    unfold f_X7_agents_j32 nm
    dsimp only
    rw [if_pos rfl, es]
    simp only [c2, c6]
  by_cases g2 : k1 + k2 + k3 + k4 + k5 + k6 < 2
  · exact bad (by rw [A, if_pos g2]) (by rw [B, if_pos g2])
  by_cases g6 : k1 + k2 + k3 + k4 + k5 + k6 ≤ 6
  · obtain ⟨n, S, -, -, -, -, -, -, hseed, -, -⟩ := h
    obtain ⟨lm, f1, f2⟩ := q_fill (N := N) (n := 36) (by omega) (by omega) 0 lastMet
    obtain ⟨s1, t1, S1, x1, y1, R1⟩ := q_come (N := N) (n := 0) (m := k1) (s := 0) (S := fun _ => 0) (st := states) (so := stateOf) hN (by omega) (by omega) (fun a ha => absurd ha (Nat.not_lt_zero a))
    obtain ⟨s2, t2, S2, x2, y2, R2⟩ := q_come (N := N) (m := k2) (s := 1) hN (by omega) (by omega) R1
    obtain ⟨s3, t3, S3, x3, y3, R3⟩ := q_come (N := N) (m := k3) (s := 2) hN (by omega) (by omega) R2
    obtain ⟨s4, t4, S4, x4, y4, R4⟩ := q_come (N := N) (m := k4) (s := 3) hN (by omega) (by omega) R3
    obtain ⟨s5, t5, S5, x5, y5, R5⟩ := q_come (N := N) (m := k5) (s := 4) hN (by omega) (by omega) R4
    obtain ⟨s6, t6, S6, x6, y6, R6⟩ := q_come (N := N) (m := k6) (s := 5) hN (by omega) (by omega) R5
    obtain ⟨ma, m1, m2⟩ := q_met0 (N := N) hN (nI (0 + k1 + k2 + k3 + k4 + k5 + k6)) 0 0 t6 metAt
    subst e1; subst e2; subst e3; subst e4; subst e5; subst e6
    refine ⟨nI (0 + k1 + k2 + k3 + k4 + k5 + k6), nI (0 + k1 + k2 + k3 + k4 + k5 + k6), 0, 0, s6, lm, nI (0 + k1 + k2 + k3 + k4 + k5 + k6), 0, 0, t6, ma, ?_, ?_, 0 + k1 + k2 + k3 + k4 + k5 + k6, S6, Or.inr (by omega), by omega, rfl, rfl, rfl, rfl, hseed, R6, fun j hj => (f2 j hj).trans (m2 j hj).symm⟩
    · rw [A, if_neg g2, if_pos g6]
      unfold f_X2_leave
      rw [f1]
      show bd2 (f_X2_come N (nI 0) (nI k1) (nI 0) states) _ = _
      rw [x1]
      show bd2 (f_X2_come N (nI 1) (nI k2) _ _) _ = _
      rw [x2]
      show bd2 (f_X2_come N (nI 2) (nI k3) _ _) _ = _
      rw [x3]
      show bd2 (f_X2_come N (nI 3) (nI k4) _ _) _ = _
      rw [x4]
      show bd2 (f_X2_come N (nI 4) (nI k5) _ _) _ = _
      rw [x5]
      show bd2 (f_X2_come N (nI 5) (nI k6) _ _) _ = _
      rw [x6]
      rfl
    · rw [B, if_neg g2, if_pos g6]
      show bd2 (f_X7_adds N (nI k1) (nI 0) (nI 0) stateOf) _ = _
      rw [y1]
      show bd2 (f_X7_adds N (nI k2) (nI 1) _ _) _ = _
      rw [y2]
      show bd2 (f_X7_adds N (nI k3) (nI 2) _ _) _ = _
      rw [y3]
      show bd2 (f_X7_adds N (nI k4) (nI 3) _ _) _ = _
      rw [y4]
      show bd2 (f_X7_adds N (nI k5) (nI 4) _ _) _ = _
      rw [y5]
      show bd2 (f_X7_adds N (nI k6) (nI 5) _ _) _ = _
      rw [y6]
      show bd1 (loopN _ N (0, metAt)) _ = _
      rw [m1]
      rfl
  · exact bad (by rw [A, if_neg g2, if_neg g6]) (by rw [B, if_neg g2, if_neg g6])
