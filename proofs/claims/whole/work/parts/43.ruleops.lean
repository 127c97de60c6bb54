/-! ===== rule, unrule, preset ===== -/
theorem n10 : ((1 : Int32) = 0) = False := by decide
section RO
variable {N : Nat} {bCount mRules : Int32} {twos outs pOf qOf xOf yOf : Nat → Int32}
theorem q_rule1 (hN : 20000 ≤ N) (h : RelB bCount twos outs mRules pOf qOf xOf yOf) {p q x y : Nat} (hp : p < 6) (hq : q < 6) (hx : x < 6) (hy : y < 6) :
    ∃ (b' : Int32) (tw ou : Nat → Int32) (m' : Int32) (p' q' x' y' : Nat → Int32), bd1 (f_X5_of N (nI p) (nI q)) (fun r_9 => bd1 (f_X5_of N (nI x) (nI y)) (fun r_10 => bd3 (f_X4_put N r_9 r_10 bCount twos outs) (fun bCount_11 twos_12 outs_13 => some (bCount_11, bCount_11, twos_12, outs_13)))) = some (b', b', tw, ou) ∧ bd5 (f_X7_comes N (nI p) (nI q) (nI x) (nI y) mRules pOf qOf xOf yOf) (fun mRules_9 pOf_10 qOf_11 xOf_12 yOf_13 => some (mRules_9, mRules_9, pOf_10, qOf_11, xOf_12, yOf_13)) = some (b', m', p', q', x', y') ∧ RelB b' tw ou m' p' q' x' y' := by
  obtain ⟨c, P, Q, X, Y, rfl, rfl, hB⟩ := h
  obtain ⟨c', P', Q', X', Y', tw, ou, p', q', x', y', h1, h2, h3⟩ := q_put hN hB hp hq hx hy
  refine ⟨nI c', tw, ou, nI c', p', q', x', y', ?_, ?_, c', P', Q', X', Y', rfl, rfl, h3⟩
  · rw [q_of, q_of]
    show bd3 (f_X4_put N _ _ _ _ _) _ = _
    rw [h1]; rfl
  · rw [h2]; rfl
theorem q_rule (hN : 20000 ≤ N) (h : RelB bCount twos outs mRules pOf qOf xOf yOf) (a1 a2 a3 a4 : Int32) :
    ∃ (r b' : Int32) (tw ou : Nat → Int32) (m' : Int32) (p' q' x' y' : Nat → Int32), f_X6_rule N a1 a2 a3 a4 bCount twos outs = some (r, b', tw, ou) ∧ f_X7_rule N a1 a2 a3 a4 mRules pOf qOf xOf yOf = some (r, m', p', q', x', y') ∧ RelB b' tw ou m' p' q' x' y' := by
  unfold f_X6_rule f_X7_rule
  rcases q_st a1 with ⟨p, hp, rfl, s1⟩ | s1
  · rw [(s1 N).1, (s1 N).2]
    rcases q_st a2 with ⟨q, hq, rfl, s2⟩ | s2
    · rw [(s2 N).1, (s2 N).2]
      rcases q_st a3 with ⟨x, hx, rfl, s3⟩ | s3
      · rw [(s3 N).1, (s3 N).2]
        rcases q_st a4 with ⟨y, hy, rfl, s4⟩ | s4
        · rw [(s4 N).1, (s4 N).2]
          obtain ⟨b', tw, ou, m', p', q', x', y', h1, h2, h3⟩ := q_rule1 hN h hp hq hx hy
          exact ⟨b', b', tw, ou, m', p', q', x', y', h1, h2, h3⟩
        · rw [(s4 N).1, (s4 N).2]
          exact ⟨-1, bCount, twos, outs, mRules, pOf, qOf, xOf, yOf, rfl, rfl, h⟩
      · rw [(s3 N).1, (s3 N).2]
        exact ⟨-1, bCount, twos, outs, mRules, pOf, qOf, xOf, yOf, rfl, rfl, h⟩
    · rw [(s2 N).1, (s2 N).2]
      exact ⟨-1, bCount, twos, outs, mRules, pOf, qOf, xOf, yOf, rfl, rfl, h⟩
  · rw [(s1 N).1, (s1 N).2]
    exact ⟨-1, bCount, twos, outs, mRules, pOf, qOf, xOf, yOf, rfl, rfl, h⟩
theorem q_unrule (hN : 20000 ≤ N) (h : RelB bCount twos outs mRules pOf qOf xOf yOf) (a1 a2 : Int32) :
    ∃ (r b' : Int32) (tw ou : Nat → Int32) (m' : Int32) (p' q' x' y' : Nat → Int32), f_X6_unrule N a1 a2 bCount twos outs = some (r, b', tw, ou) ∧ f_X7_unrule N a1 a2 mRules pOf qOf xOf yOf = some (r, m', p', q', x', y') ∧ RelB b' tw ou m' p' q' x' y' := by
  rcases q_st a1 with ⟨p, hp, rfl, s1⟩ | s1
  · rcases q_st a2 with ⟨q, hq, rfl, s2⟩ | s2
    · obtain ⟨c, P, Q, X, Y, rfl, rfl, hB⟩ := h
      rcases q_ruleFor hN hB hp hq with ⟨d, hd, rfl, rfl, hrf⟩ | ⟨hfree, hrf⟩
      · obtain ⟨tw, p', q', x', y', h1, h2, h3⟩ := q_rem hN hB hd
        have hc := hB.1
        have ho := (hB.2.2.2.1 d hd).2
        have hrd := hB.2.1 d hd
        have e1 : f_X4_outcome N (nI (6 * P d + Q d)) outs = some (nI (6 * X d + Y d)) := by
          simp (disch := omega) only [f_X4_outcome, gd, zinb, zcl, if_true, ho]
        have e2 : ((0 : Int32) ≤ nI (6 * X d + Y d)) = True := eq_true (nI_pos' (by omega))
        refine ⟨nI (c - 1), nI (c - 1), tw, upd outs (6 * P d + Q d) (-1), nI (c - 1), p', q', x', y', ?_, ?_, c - 1, _, _, _, _, rfl, rfl, h3⟩
        · simp only [f_X6_unrule, (s1 N).1, (s2 N).1, bd1, n10, if_false, q_of, e1, e2, if_true, h1, bd3]
        · simp (disch := omega) only [f_X7_unrule, (s1 N).2, (s2 N).2, bd1, n10, if_false, hrf, show (-9 : Int32) = -nI 9 from rfl, zeqn, h2, bd5]
      · have ho : outs (6 * p + q) = -1 := hB.2.2.2.2.2 _ (by omega) hfree
        have e1 : f_X4_outcome N (nI (6 * p + q)) outs = some (-1) := by
          simp (disch := omega) only [f_X4_outcome, gd, zinb, zcl, if_true, ho]
        refine ⟨-3, nI c, twos, outs, nI c, pOf, qOf, xOf, yOf, ?_, ?_, c, P, Q, X, Y, rfl, rfl, hB⟩
        · simp only [f_X6_unrule, (s1 N).1, (s2 N).1, bd1, n10, if_false, q_of, e1, show ((0 : Int32) ≤ -1) = False by decide]
        · simp only [f_X7_unrule, (s1 N).2, (s2 N).2, bd1, n10, if_false, hrf, if_true]
    · exact ⟨-1, bCount, twos, outs, mRules, pOf, qOf, xOf, yOf, by simp only [f_X6_unrule, (s1 N).1, (s2 N).1, bd1, n10, if_false, if_true], by simp only [f_X7_unrule, (s1 N).2, (s2 N).2, bd1, n10, if_false, if_true], h⟩
  · exact ⟨-1, bCount, twos, outs, mRules, pOf, qOf, xOf, yOf, by simp only [f_X6_unrule, (s1 N).1, bd1, if_true], by simp only [f_X7_unrule, (s1 N).2, bd1, if_true], h⟩
/-- a turn of preset's loop -/
theorem q_pre (tb : Nat → Int32) (tn j p q x y : Nat) (hj : 4 * j + 4 ≤ tn) (htn : tn < 100) (e1 : tb (4 * j) = nI p) (e2 : tb (4 * j + 1) = nI q) (e3 : tb (4 * j + 2) = nI x) (e4 : tb (4 * j + 3) = nI y) {b b' : Int32} {tw ou tw' ou' : Nat → Int32} (h : f_X4_put N (nI (6 * p + q)) (nI (6 * x + y)) b tw ou = some (b', tw', ou')) :
    f_X6_preset_b46 N tb tn (nI (4 * j)) b tw ou = some (.inl (nI (4 * (j + 1)), b', tw', ou')) := by
  have z1 : nI (4 * j) + 1 = nI (4 * j + 1) := nI_1 _
  have z2 : nI (4 * j) + 2 = nI (4 * j + 2) := nI_add _ 2
  have z3 : nI (4 * j) + 3 = nI (4 * j + 3) := nI_add _ 3
  have z4 : nI (4 * j) + 4 = nI (4 * (j + 1)) := nI_add _ 4
  have hn : ¬ tn ≤ 4 * j + 3 := by omega
  simp (disch := omega) only [f_X6_preset_b46, z1, z2, z3, z4, zle, hn, if_false, gd, zinb, zcl, if_true, e1, e2, e3, e4, q_of, bd1, h, bd3, nm]
theorem q_preEnd (tb : Nat → Int32) (tn j : Nat) (hj : tn ≤ 4 * j + 3) (hj2 : j < 100) {b : Int32} {tw ou : Nat → Int32} : f_X6_preset_b46 N tb tn (nI (4 * j)) b tw ou = some (.inr (b, tw, ou)) := by
  have z3 : nI (4 * j) + 3 = nI (4 * j + 3) := nI_add _ 3
  simp (disch := omega) only [f_X6_preset_b46, z3, zle, hj, if_true]
theorem q_clear (hN : 20000 ≤ N) (b : Int32) (outs tw p q x y : Nat → Int32) : ∃ ou, f_X4_clear N b outs = some (nI 0, ou) ∧ RBd 0 (fun _ => 0) (fun _ => 0) (fun _ => 0) (fun _ => 0) tw ou p q x y := by
  obtain ⟨g, h1, h2⟩ := q_fill (N := N) (n := 36) (by omega) (by omega) (-1) outs
  refine ⟨g, ?_, Nat.zero_le _, fun k hk => absurd hk (Nat.not_lt_zero k), fun k hk => absurd hk (Nat.not_lt_zero k), fun k hk => absurd hk (Nat.not_lt_zero k), fun k _ hk => absurd hk (Nat.not_lt_zero k), fun t ht _ => h2 t ht⟩
  simp only [f_X4_clear, h1, bd1]
  rfl
set_option maxHeartbeats 1000000 in
theorem q_preset (hN : 20000 ≤ N) (h : RelB bCount twos outs mRules pOf qOf xOf yOf) (a1 : Int32) :
    ∃ (r b' : Int32) (tw ou : Nat → Int32) (m' : Int32) (p' q' x' y' : Nat → Int32), f_X6_preset N a1 bCount twos outs = some (r, b', tw, ou) ∧ f_X7_preset N a1 mRules pOf qOf xOf yOf = some (r, m', p', q', x', y') ∧ RelB b' tw ou m' p' q' x' y' := by
  by_cases h1 : a1 < 0
  · exact ⟨-2, bCount, twos, outs, mRules, pOf, qOf, xOf, yOf, by simp only [f_X6_preset, h1, if_true], by simp only [f_X7_preset, q_w0 (Or.inl h1), bd1, if_true], h⟩
  · by_cases h2 : a1 ≤ 2
    · obtain ⟨v, hv, rfl⟩ := nI_of2 (M := 2) (n := 2) (by decide) h1 h2
      obtain ⟨ou, hcl, hB0⟩ := q_clear (N := N) hN bCount outs twos pOf qOf xOf yOf
      obtain ⟨n, rfl⟩ : ∃ n, N = n + 7 := ⟨N - 7, by omega⟩
      rcases (show v = 0 ∨ v = 1 ∨ v = 2 by omega) with rfl | rfl | rfl
      · obtain ⟨c1, P1, Q1, X1, Y1, t1, o1, p1, q1, x1, y1, a1, b1, B1⟩ := q_put hN hB0 (p := 0) (q := 0) (x := 0) (y := 1) (by omega) (by omega) (by omega) (by omega)
        refine ⟨nI c1, nI c1, t1, o1, nI c1, p1, q1, x1, y1, ?_, ?_, c1, P1, Q1, X1, Y1, rfl, rfl, B1⟩
        · have b1' : f_X7_comes (n + 7) 0 0 0 1 0 pOf qOf xOf yOf = some (nI c1, p1, q1, x1, y1) := b1
          show f_X6_preset_j36 (n + 7) tbL 4 bCount twos outs = _
          simp only [f_X6_preset_j36, hcl, bd2]
          show bd3 (loopN _ (n + 7) (nI (4 * 0), nI 0, twos, ou)) _ = _
          rw [loopN_l (n + 6) (q_pre tbL 4 0 0 0 0 1 (by omega) (by omega) rfl rfl rfl rfl a1)]
          rw [loopN_r (n + 5) (q_preEnd tbL 4 1 (by omega) (by omega))]
          rfl
        · have b1' : f_X7_comes (n + 7) 0 0 0 1 0 pOf qOf xOf yOf = some (nI c1, p1, q1, x1, y1) := b1
          simp only [f_X7_preset, q_w1 h1 h2, bd1, n10, if_false, show (nI 0 = (0 : Int32)) = True by decide, if_true, b1', bd5]
      · obtain ⟨c1, P1, Q1, X1, Y1, t1, o1, p1, q1, x1, y1, a1, b1, B1⟩ := q_put hN hB0 (p := 1) (q := 0) (x := 3) (y := 2) (by omega) (by omega) (by omega) (by omega)
        obtain ⟨c2, P2, Q2, X2, Y2, t2, o2, p2, q2, x2, y2, a2, b2, B2⟩ := q_put hN B1 (p := 0) (q := 1) (x := 2) (y := 3) (by omega) (by omega) (by omega) (by omega)
        obtain ⟨c3, P3, Q3, X3, Y3, t3, o3, p3, q3, x3, y3, a3, b3, B3⟩ := q_put hN B2 (p := 1) (q := 2) (x := 1) (y := 3) (by omega) (by omega) (by omega) (by omega)
        obtain ⟨c4, P4, Q4, X4, Y4, t4, o4, p4, q4, x4, y4, a4, b4, B4⟩ := q_put hN B3 (p := 2) (q := 1) (x := 3) (y := 1) (by omega) (by omega) (by omega) (by omega)
        obtain ⟨c5, P5, Q5, X5, Y5, t5, o5, p5, q5, x5, y5, a5, b5, B5⟩ := q_put hN B4 (p := 0) (q := 3) (x := 0) (y := 2) (by omega) (by omega) (by omega) (by omega)
        obtain ⟨c6, P6, Q6, X6, Y6, t6, o6, p6, q6, x6, y6, a6, b6, B6⟩ := q_put hN B5 (p := 3) (q := 0) (x := 2) (y := 0) (by omega) (by omega) (by omega) (by omega)
        refine ⟨nI c6, nI c6, t6, o6, nI c6, p6, q6, x6, y6, ?_, ?_, c6, P6, Q6, X6, Y6, rfl, rfl, B6⟩
        · show f_X6_preset_j36 (n + 7) tbM 24 bCount twos outs = _
          simp only [f_X6_preset_j36, hcl, bd2]
          show bd3 (loopN _ (n + 7) (nI (4 * 0), nI 0, twos, ou)) _ = _
          rw [loopN_l (n + 6) (q_pre tbM 24 0 1 0 3 2 (by omega) (by omega) rfl rfl rfl rfl a1), loopN_l (n + 5) (q_pre tbM 24 1 0 1 2 3 (by omega) (by omega) rfl rfl rfl rfl a2), loopN_l (n + 4) (q_pre tbM 24 2 1 2 1 3 (by omega) (by omega) rfl rfl rfl rfl a3), loopN_l (n + 3) (q_pre tbM 24 3 2 1 3 1 (by omega) (by omega) rfl rfl rfl rfl a4), loopN_l (n + 2) (q_pre tbM 24 4 0 3 0 2 (by omega) (by omega) rfl rfl rfl rfl a5), loopN_l (n + 1) (q_pre tbM 24 5 3 0 2 0 (by omega) (by omega) rfl rfl rfl rfl a6), loopN_r n (q_preEnd tbM 24 6 (by omega) (by omega))]
          rfl
        · have b1' : f_X7_comes (n + 7) 1 0 3 2 0 pOf qOf xOf yOf = some (nI c1, p1, q1, x1, y1) := b1
          have b2' : f_X7_comes (n + 7) 0 1 2 3 (nI c1) p1 q1 x1 y1 = some (nI c2, p2, q2, x2, y2) := b2
          have b3' : f_X7_comes (n + 7) 1 2 1 3 (nI c2) p2 q2 x2 y2 = some (nI c3, p3, q3, x3, y3) := b3
          have b4' : f_X7_comes (n + 7) 2 1 3 1 (nI c3) p3 q3 x3 y3 = some (nI c4, p4, q4, x4, y4) := b4
          have b5' : f_X7_comes (n + 7) 0 3 0 2 (nI c4) p4 q4 x4 y4 = some (nI c5, p5, q5, x5, y5) := b5
          have b6' : f_X7_comes (n + 7) 3 0 2 0 (nI c5) p5 q5 x5 y5 = some (nI c6, p6, q6, x6, y6) := b6
          simp only [f_X7_preset, q_w1 h1 h2, bd1, n10, if_false, show (nI 1 = (0 : Int32)) = False by decide, show (nI 1 = (1 : Int32)) = True by decide, if_true, b1', b2', b3', b4', b5', b6', bd5]
      · obtain ⟨c1, P1, Q1, X1, Y1, t1, o1, p1, q1, x1, y1, a1, b1, B1⟩ := q_put hN hB0 (p := 1) (q := 1) (x := 2) (y := 0) (by omega) (by omega) (by omega) (by omega)
        obtain ⟨c2, P2, Q2, X2, Y2, t2, o2, p2, q2, x2, y2, a2, b2, B2⟩ := q_put hN B1 (p := 1) (q := 2) (x := 3) (y := 0) (by omega) (by omega) (by omega) (by omega)
        obtain ⟨c3, P3, Q3, X3, Y3, t3, o3, p3, q3, x3, y3, a3, b3, B3⟩ := q_put hN B2 (p := 2) (q := 1) (x := 3) (y := 0) (by omega) (by omega) (by omega) (by omega)
        obtain ⟨c4, P4, Q4, X4, Y4, t4, o4, p4, q4, x4, y4, a4, b4, B4⟩ := q_put hN B3 (p := 2) (q := 2) (x := 3) (y := 0) (by omega) (by omega) (by omega) (by omega)
        obtain ⟨c5, P5, Q5, X5, Y5, t5, o5, p5, q5, x5, y5, a5, b5, B5⟩ := q_put hN B4 (p := 3) (q := 0) (x := 3) (y := 3) (by omega) (by omega) (by omega) (by omega)
        obtain ⟨c6, P6, Q6, X6, Y6, t6, o6, p6, q6, x6, y6, a6, b6, B6⟩ := q_put hN B5 (p := 0) (q := 3) (x := 3) (y := 3) (by omega) (by omega) (by omega) (by omega)
        refine ⟨nI c6, nI c6, t6, o6, nI c6, p6, q6, x6, y6, ?_, ?_, c6, P6, Q6, X6, Y6, rfl, rfl, B6⟩
        · show f_X6_preset_j36 (n + 7) tbH 24 bCount twos outs = _
          simp only [f_X6_preset_j36, hcl, bd2]
          show bd3 (loopN _ (n + 7) (nI (4 * 0), nI 0, twos, ou)) _ = _
          rw [loopN_l (n + 6) (q_pre tbH 24 0 1 1 2 0 (by omega) (by omega) rfl rfl rfl rfl a1), loopN_l (n + 5) (q_pre tbH 24 1 1 2 3 0 (by omega) (by omega) rfl rfl rfl rfl a2), loopN_l (n + 4) (q_pre tbH 24 2 2 1 3 0 (by omega) (by omega) rfl rfl rfl rfl a3), loopN_l (n + 3) (q_pre tbH 24 3 2 2 3 0 (by omega) (by omega) rfl rfl rfl rfl a4), loopN_l (n + 2) (q_pre tbH 24 4 3 0 3 3 (by omega) (by omega) rfl rfl rfl rfl a5), loopN_l (n + 1) (q_pre tbH 24 5 0 3 3 3 (by omega) (by omega) rfl rfl rfl rfl a6), loopN_r n (q_preEnd tbH 24 6 (by omega) (by omega))]
          rfl
        · have b1' : f_X7_comes (n + 7) 1 1 2 0 0 pOf qOf xOf yOf = some (nI c1, p1, q1, x1, y1) := b1
          have b2' : f_X7_comes (n + 7) 1 2 3 0 (nI c1) p1 q1 x1 y1 = some (nI c2, p2, q2, x2, y2) := b2
          have b3' : f_X7_comes (n + 7) 2 1 3 0 (nI c2) p2 q2 x2 y2 = some (nI c3, p3, q3, x3, y3) := b3
          have b4' : f_X7_comes (n + 7) 2 2 3 0 (nI c3) p3 q3 x3 y3 = some (nI c4, p4, q4, x4, y4) := b4
          have b5' : f_X7_comes (n + 7) 3 0 3 3 (nI c4) p4 q4 x4 y4 = some (nI c5, p5, q5, x5, y5) := b5
          have b6' : f_X7_comes (n + 7) 0 3 3 3 (nI c5) p5 q5 x5 y5 = some (nI c6, p6, q6, x6, y6) := b6
          simp only [f_X7_preset, q_w1 h1 h2, bd1, n10, if_false, show (nI 2 = (0 : Int32)) = False by decide, show (nI 2 = (1 : Int32)) = False by decide, b1', b2', b3', b4', b5', b6', bd5]
    · exact ⟨-2, bCount, twos, outs, mRules, pOf, qOf, xOf, yOf, by simp only [f_X6_preset, h1, h2, if_false], by simp only [f_X7_preset, q_w0 (Or.inr h2), bd1, if_true], h⟩
end RO
