/-! ===== wrong ===== -/
theorem q_truth {N n a k j : Nat} (hn : n ≤ 6) (ha : a ≤ n) (hk : k ≤ 2) (hj1 : 1 ≤ j) (hj : j ≤ 6) : ∃ r, f_X6_truth N (nI n) (nI a) (nI k) (nI j) = some r ∧ f_X7_truth N (nI n) (nI a) (nI k) (nI j) = some r := by
  unfold f_X6_truth f_X7_truth
  by_cases k0 : k = 0
  · subst k0
    have e1 : (nI a ≤ nI n - nI a) ↔ 2 * a ≤ n := by rw [zsub ha, zle (by omega) (by omega)]; omega
    have e2 : (nI n - nI a ≤ nI a) ↔ n ≤ 2 * a := by rw [zsub ha, zle (by omega) (by omega)]; omega
    have e3 : (2 * nI a ≤ nI n) ↔ 2 * a ≤ n := by rw [zl 2, zmul, zle (by omega) (by omega)]
    have e4 : (nI n ≤ 2 * nI a) ↔ n ≤ 2 * a := by rw [zl 2, zmul, zle (by omega) (by omega)]
    rw [if_pos (show nI 0 = 0 from rfl), if_pos (show nI 0 = 0 from rfl)]
    by_cases q1 : 2 * a ≤ n
    · rw [if_pos (e1.mpr q1), if_pos (e3.mpr q1)]
      by_cases q2 : n ≤ 2 * a
      · rw [if_pos (e2.mpr q2), if_pos (e4.mpr q2)]; exact ⟨_, rfl, rfl⟩
      · rw [if_neg (fun z => q2 (e2.mp z)), if_neg (fun z => q2 (e4.mp z))]; exact ⟨_, rfl, rfl⟩
    · rw [if_neg (fun z => q1 (e1.mp z)), if_neg (fun z => q1 (e3.mp z))]; exact ⟨_, rfl, rfl⟩
  · have hk0 : ¬ nI k = 0 := by rw [zl 0, zeq (by omega) (by omega)]; exact k0
    have hj0 : ¬ nI j ≤ 0 := nI_nle (by omega) (by omega)
    rw [if_neg hk0, if_neg hk0]
    by_cases k1 : nI k = 1
    · rw [if_pos k1, if_pos k1]
      by_cases q : nI a < nI j
      · rw [if_pos q]; exact ⟨_, rfl, rfl⟩
      · rw [if_neg q]; exact ⟨_, rfl, rfl⟩
    · rw [if_neg k1, if_neg k1, if_neg hj0, gd_t (znz (by omega) (by omega))]
      by_cases q : nI a - nI a / nI j * nI j = 0
      · rw [if_pos q]; exact ⟨_, rfl, rfl⟩
      · rw [if_neg q]; exact ⟨_, rfl, rfl⟩
def sC (n a : Nat) : Nat → Nat := fun s => if s = 0 then n - a else if s = 1 then a else 0
theorem sC_sum {n a : Nat} (h : a ≤ n) : csum (sC n a) = n := by
  show (n - a) + a + 0 + 0 + 0 + 0 = n
  omega
theorem sC_pak {n a : Nat} : pak (sC n a) = (n - a) + 8 * a := by
  show (n - a) + 8 * a + 64 * 0 + 512 * 0 + 4096 * 0 + 32768 * 0 = _
  omega
section WR
variable {N n c : Nat} {P Q X Y T : Nat → Nat} {told toldBy twos outs pOf qOf xOf yOf : Nat → Int32}
theorem q_wrow (hN : 20000 ≤ N) {n a : Nat} (hn : n ≤ 6) (ha : a ≤ n) (x2 x3 mR mL : Int32) (codeOf farOf leadsTo answerOf comesTo manyIn : Nat → Int32) :
    ∃ z, loopN (fun (w9 : Int32 × (Nat → Int32)) => f_X7_wrong_b44 N (nI n) x2 x3 (nI a) mR mL pOf qOf xOf yOf toldBy codeOf farOf leadsTo answerOf comesTo w9.1 w9.2) N (0, manyIn) = some z ∧ ∀ s, s < 6 → z s = nI (sC n a s) := by
  refine loop_idx (b := fun (w9 : Int32 × (Nat → Int32)) => f_X7_wrong_b44 N (nI n) x2 x3 (nI a) mR mL pOf qOf xOf yOf toldBy codeOf farOf leadsTo answerOf comesTo w9.1 w9.2)
    (fun s x => x.1 = nI s ∧ ∀ t, t < s → x.2 t = nI (sC n a t)) (fun z => ∀ s, s < 6 → z s = nI (sC n a s)) 6 (fun s x hs hI => ?_) (fun x hI => ?_) N 0 (0, manyIn) (Nat.zero_le _) (by omega) ⟨rfl, fun t ht => absurd ht (Nat.not_lt_zero t)⟩
  · obtain ⟨x1, xx⟩ := x
    obtain ⟨e1, h⟩ := hI
    dsimp only at e1 h
    subst e1
    refine Or.inl ⟨(nI (s + 1), upd xx s (nI (sC n a s))), ?_, rfl, fun t ht => ?_⟩
    · show f_X7_wrong_b44 N (nI n) x2 x3 (nI a) mR mL pOf qOf xOf yOf toldBy codeOf farOf leadsTo answerOf comesTo (nI s) xx = _
      have b : inb (nI s) 2772 = true := zinb (by omega) (by omega)
      unfold f_X7_wrong_b44 f_X7_wrong_j81 nm
      rw [if_neg (by rw [zl 6, zle (by omega) (by omega)]; omega), gd_t b, gd_t b, gd_t b, zcl (show s < 2147483648 by omega), nI_1]
      by_cases q0 : s = 0
      · subst q0
        rw [if_pos (by decide), zsub ha]; rfl
      · rw [if_neg (by rw [zl 0, zeq (by omega) (by omega)]; exact q0)]
        by_cases q1 : s = 1
        · subst q1
          rw [if_pos (by decide)]; rfl
        · rw [if_neg (by rw [zl 1, zeq (by omega) (by omega)]; exact q1)]
          unfold sC
          rw [if_neg q0, if_neg q1]; rfl
    · dsimp only
      rw [upd_eq]
      by_cases q : t = s
      · rw [if_pos q, q]
      · rw [if_neg q]; exact h t (by omega)
  · obtain ⟨x1, xx⟩ := x
    obtain ⟨e1, h⟩ := hI
    dsimp only at e1 h
    subst e1
    refine ⟨xx, ?_, h⟩
    show f_X7_wrong_b44 N (nI n) x2 x3 (nI a) mR mL pOf qOf xOf yOf toldBy codeOf farOf leadsTo answerOf comesTo (nI 6) xx = _
    unfold f_X7_wrong_b44
    rw [if_pos (by decide)]
end WR
theorem op_wrong {N : Nat} (hN : 20000 ≤ N) {bCount : Int32} {cSize : Int32} {cMeet : Int32} {cChg : Int32} {cSeed : Int32} {mRules : Int32} {mAgents : Int32} {mMeet : Int32} {mChg : Int32} {mSeed : Int32} {told : Nat → Int32} {weights : Nat → Int32} {twos : Nat → Int32} {outs : Nat → Int32} {states : Nat → Int32} {lastMet : Nat → Int32} {pOf : Nat → Int32} {qOf : Nat → Int32} {xOf : Nat → Int32} {yOf : Nat → Int32} {toldBy : Nat → Int32} {weightOf : Nat → Int32} {stateOf : Nat → Int32} {metAt : Nat → Int32} (hR : Rel bCount twos outs mRules pOf qOf xOf yOf cSize cMeet cChg cSeed states lastMet mAgents mMeet mChg mSeed stateOf metAt told toldBy weights weightOf) (a1 : Int32) (a2 : Int32) (a3 : Int32) (rRules : Int32) (rCount : Int32) (mListed : Int32) (por : Nat → Int32) (confs : Nat → Int32) (near : Nat → Int32) (leads : Nat → Int32) (agrees : Nat → Int32) (answers : Nat → Int32) (hopes : Nat → Int32) (manyIn : Nat → Int32) (codeOf : Nat → Int32) (farOf : Nat → Int32) (leadsTo : Nat → Int32) (answerOf : Nat → Int32) (comesTo : Nat → Int32) : ∃ (r9 : Int32) (rRules9 : Int32) (rCount9 : Int32) (por9 : Nat → Int32) (confs9 : Nat → Int32) (near9 : Nat → Int32) (leads9 : Nat → Int32) (agrees9 : Nat → Int32) (answers9 : Nat → Int32) (hopes9 : Nat → Int32) (mListed9 : Int32) (manyIn9 : Nat → Int32) (codeOf9 : Nat → Int32) (farOf9 : Nat → Int32) (leadsTo9 : Nat → Int32) (answerOf9 : Nat → Int32) (comesTo9 : Nat → Int32), f_X6_wrong N a1 a2 a3 bCount rRules rCount told twos outs por confs near leads agrees answers hopes = some (r9, rRules9, rCount9, por9, confs9, near9, leads9, agrees9, answers9, hopes9) ∧ f_X7_wrong N a1 a2 a3 mRules mListed pOf qOf xOf yOf toldBy manyIn codeOf farOf leadsTo answerOf comesTo = some (r9, mListed9, manyIn9, codeOf9, farOf9, leadsTo9, answerOf9, comesTo9) ∧ Rel bCount twos outs mRules pOf qOf xOf yOf cSize cMeet cChg cSeed states lastMet mAgents mMeet mChg mSeed stateOf metAt told toldBy weights weightOf := by
  have hR0 := hR
  obtain ⟨⟨c, P, Q, X, Y, eb, er, hB⟩, -, ⟨T, hT⟩, -⟩ := hR
  subst eb; subst er
  have hc := hB.1
  have bad : f_X6_wrong N a1 a2 a3 (nI c) rRules rCount told twos outs por confs near leads agrees answers hopes = some (-2, rRules, rCount, por, confs, near, leads, agrees, answers, hopes) → f_X7_wrong N a1 a2 a3 (nI c) mListed pOf qOf xOf yOf toldBy manyIn codeOf farOf leadsTo answerOf comesTo = some (-2, mListed, manyIn, codeOf, farOf, leadsTo, answerOf, comesTo) → ∃ (r9 : Int32) (rRules9 : Int32) (rCount9 : Int32) (por9 : Nat → Int32) (confs9 : Nat → Int32) (near9 : Nat → Int32) (leads9 : Nat → Int32) (agrees9 : Nat → Int32) (answers9 : Nat → Int32) (hopes9 : Nat → Int32) (mListed9 : Int32) (manyIn9 : Nat → Int32) (codeOf9 : Nat → Int32) (farOf9 : Nat → Int32) (leadsTo9 : Nat → Int32) (answerOf9 : Nat → Int32) (comesTo9 : Nat → Int32), f_X6_wrong N a1 a2 a3 (nI c) rRules rCount told twos outs por confs near leads agrees answers hopes = some (r9, rRules9, rCount9, por9, confs9, near9, leads9, agrees9, answers9, hopes9) ∧ f_X7_wrong N a1 a2 a3 (nI c) mListed pOf qOf xOf yOf toldBy manyIn codeOf farOf leadsTo answerOf comesTo = some (r9, mListed9, manyIn9, codeOf9, farOf9, leadsTo9, answerOf9, comesTo9) ∧ Rel (nI c) twos outs (nI c) pOf qOf xOf yOf cSize cMeet cChg cSeed states lastMet mAgents mMeet mChg mSeed stateOf metAt told toldBy weights weightOf :=
    fun h1 h2 => ⟨-2, rRules, rCount, por, confs, near, leads, agrees, answers, hopes, mListed, manyIn, codeOf, farOf, leadsTo, answerOf, comesTo, h1, h2, hR0⟩
  by_cases c1 : a1 < 2
  · refine bad ?_ ?_
    · unfold f_X6_wrong; rw [if_pos c1]
    · unfold f_X7_wrong; rw [q_w0 (Or.inl c1)]; rfl
  by_cases c2 : 6 < a1
  · refine bad ?_ ?_
    · unfold f_X6_wrong; rw [if_neg c1, if_pos c2]
    · unfold f_X7_wrong; rw [q_w0 (Or.inr (Int32.not_le.mpr c2))]; rfl
  by_cases c3 : a2 < 0
  · refine bad ?_ ?_
    · unfold f_X6_wrong; rw [if_neg c1, if_neg c2, if_pos c3]
    · unfold f_X7_wrong; rw [q_w1 c1 (Int32.not_lt.mp c2), q_w0 (Or.inl c3)]; rfl
  by_cases c4 : 2 < a2
  · refine bad ?_ ?_
    · unfold f_X6_wrong; rw [if_neg c1, if_neg c2, if_neg c3, if_pos c4]
    · unfold f_X7_wrong; rw [q_w1 c1 (Int32.not_lt.mp c2), q_w0 (Or.inr (Int32.not_le.mpr c4))]; rfl
  by_cases c5 : a3 < 1
  · refine bad ?_ ?_
    · unfold f_X6_wrong; rw [if_neg c1, if_neg c2, if_neg c3, if_neg c4, if_pos c5]
    · unfold f_X7_wrong; rw [q_w1 c1 (Int32.not_lt.mp c2), q_w1 c3 (Int32.not_lt.mp c4), q_w0 (Or.inl c5)]; rfl
  by_cases c6 : a3 ≤ 6
  · clear bad
    have k1 : ∃ n, 2 ≤ n ∧ n ≤ 6 ∧ a1 = nI n := by
      rcases zcase a1 with h | ⟨k, hk, rfl⟩
      · exact absurd (Int32.lt_trans h (by decide)) c1
      · rw [zl 2, zlt hk (by omega)] at c1
        rw [zl 6, zlt (by omega) hk] at c2
        exact ⟨k, by omega, by omega, rfl⟩
    have k2 : ∃ n, n ≤ 2 ∧ a2 = nI n := by
      rcases zcase a2 with h | ⟨k, hk, rfl⟩
      · exact absurd h c3
      · rw [zl 2, zlt (by omega) hk] at c4
        exact ⟨k, by omega, rfl⟩
    have k3 : ∃ n, 1 ≤ n ∧ n ≤ 6 ∧ a3 = nI n := by
      rcases zcase a3 with h | ⟨k, hk, rfl⟩
      · exact absurd (Int32.lt_trans h (by decide)) c5
      · rw [zl 1, zlt hk (by omega)] at c5
        rw [zl 6, zle hk (by omega)] at c6
        exact ⟨k, by omega, by omega, rfl⟩
    obtain ⟨n, hn2, hn, rfl⟩ := k1
    obtain ⟨k, hk, rfl⟩ := k2
    obtain ⟨j, hj1, hj, rfl⟩ := k3
    obtain ⟨e, f, o1, o2, hE⟩ := loop2e (b1 := fun (w9 : Int32 × Int32 × Int32 × (Nat → Int32) × (Nat → Int32) × (Nat → Int32) × (Nat → Int32) × (Nat → Int32) × (Nat → Int32) × (Nat → Int32)) => f_X6_wrong_b37 N (nI n) (nI k) (nI j) (nI c) told twos outs w9.1 w9.2.1 w9.2.2.1 w9.2.2.2.1 w9.2.2.2.2.1 w9.2.2.2.2.2.1 w9.2.2.2.2.2.2.1 w9.2.2.2.2.2.2.2.1 w9.2.2.2.2.2.2.2.2.1 w9.2.2.2.2.2.2.2.2.2)
      (b2 := fun (w9 : Int32 × Int32 × (Nat → Int32) × (Nat → Int32) × (Nat → Int32) × (Nat → Int32) × (Nat → Int32) × (Nat → Int32)) => f_X7_wrong_b35 N (nI n) (nI k) (nI j) (nI c) pOf qOf xOf yOf toldBy w9.1 w9.2.1 w9.2.2.1 w9.2.2.2.1 w9.2.2.2.2.1 w9.2.2.2.2.2.1 w9.2.2.2.2.2.2.1 w9.2.2.2.2.2.2.2)
      (fun a x y => x.1 = nI a ∧ y.1 = nI a) (fun e f => (∃ v x y, e = .inl (v, x) ∧ f = .inl (v, y)) ∨ (∃ x y, e = .inr x ∧ f = .inr y)) (n + 1)
      (fun a x y ha hI => by
        obtain ⟨x1, x2, x3, x4, x5, x6, x7, x8, x9, x10⟩ := x
        obtain ⟨y1, y2, y3, y4, y5, y6, y7, y8⟩ := y
        obtain ⟨e1, e2⟩ := hI
        dsimp only at e1 e2
        subst e1; subst e2
        have b0 : ¬ nI n < nI a := by rw [zlt (by omega) (by omega)]; omega
        obtain ⟨z, w1, w2⟩ := q_wrow (N := N) (pOf := pOf) (qOf := qOf) (xOf := xOf) (yOf := yOf) (toldBy := toldBy) hN hn (show a ≤ n by omega) (nI k) (nI j) (nI c) y2 y4 y5 y6 y7 y8 y3
        obtain ⟨m, Cs, D, L, A, por', confs', near', leads', agrees', answers', many', code', far', leadsTo', answerOf', g1, g2, g3, g4, -⟩ := q_begin (N := N) hN hn hB hT (sC_sum (show a ≤ n by omega)) w2 x2 x3 y2 x4 x5 x6 x7 x8 x9 y4 y5 y6 y7
        obtain ⟨r, hp, cT, v1, v2⟩ := q_verdict (N := N) hN hc g4 x10 y8
        obtain ⟨t, t1, t2⟩ := q_truth (N := N) hn (show a ≤ n by omega) hk hj1 hj
        have ep : nI 1 * (nI n - nI a) + nI 8 * nI a = nI (pak (sC n a)) := by rw [sC_pak, zsub (by omega), zmul, zmul, zadd, Nat.one_mul]
        have E1 : f_X6_wrong_b37 N (nI n) (nI k) (nI j) (nI c) told twos outs (nI a) x2 x3 x4 x5 x6 x7 x8 x9 x10 = if r = t then some (.inl (nI (a + 1), nI c, nI m, por', confs', near', leads', agrees', answers', hp)) else some (.inr (.inl (nI a, nI c, nI m, por', confs', near', leads', agrees', answers', hp))) := by
          unfold f_X6_wrong_b37 nm
          rw [if_neg b0, show f_X1_one N 0 = some (nI 1) from q_one (s := 0) (by omega), show f_X1_one N 1 = some (nI 8) from q_one (s := 1) (by omega)]
          simp only [bd1]
          rw [ep, g1]
          simp only [bd6]
          rw [g2]
          simp only [bd2]
          rw [v1]
          simp only []
          rw [t1, nI_1]
        have E2 : f_X7_wrong_b35 N (nI n) (nI k) (nI j) (nI c) pOf qOf xOf yOf toldBy (nI a) y2 y3 y4 y5 y6 y7 y8 = if r = t then some (.inl (nI (a + 1), nI m, many', code', far', leadsTo', answerOf', cT)) else some (.inr (.inl (nI a, nI m, many', code', far', leadsTo', answerOf', cT))) := by
          unfold f_X7_wrong_b35 nm
          rw [if_neg b0, w1]
          simp only [bd1]
          rw [g3]
          simp only [bd6]
          rw [v2]
          simp only [bd2]
          rw [t2, nI_1]
        by_cases q : r = t
        · rw [if_pos q] at E1 E2
          exact Or.inl ⟨_, _, E1, E2, rfl, rfl⟩
        · rw [if_neg q] at E1 E2
          exact Or.inr ⟨_, _, E1, E2, Or.inl ⟨_, _, _, rfl, rfl⟩⟩)
      (fun x y hI => by
        obtain ⟨x1, x2, x3, x4, x5, x6, x7, x8, x9, x10⟩ := x
        obtain ⟨y1, y2, y3, y4, y5, y6, y7, y8⟩ := y
        obtain ⟨e1, e2⟩ := hI
        dsimp only at e1 e2
        subst e1; subst e2
        have b0 : nI n < nI (n + 1) := by rw [zlt (by omega) (by omega)]; omega
        refine ⟨.inr (x2, x3, x4, x5, x6, x7, x8, x9, x10), .inr (y2, y3, y4, y5, y6, y7, y8), ?_, ?_, Or.inr ⟨_, _, rfl, rfl⟩⟩
        · show f_X6_wrong_b37 N (nI n) (nI k) (nI j) (nI c) told twos outs (nI (n + 1)) x2 x3 x4 x5 x6 x7 x8 x9 x10 = _
          unfold f_X6_wrong_b37
          rw [if_pos b0]
        · show f_X7_wrong_b35 N (nI n) (nI k) (nI j) (nI c) pOf qOf xOf yOf toldBy (nI (n + 1)) y2 y3 y4 y5 y6 y7 y8 = _
          unfold f_X7_wrong_b35
          rw [if_pos b0]) N 0 (0, rRules, rCount, por, confs, near, leads, agrees, answers, hopes) (0, mListed, manyIn, codeOf, farOf, leadsTo, answerOf, comesTo) (Nat.zero_le _) (by omega) ⟨rfl, rfl⟩
    have W6 : ∀ v, v = f_X6_wrong N (nI n) (nI k) (nI j) (nI c) rRules rCount told twos outs por confs near leads agrees answers hopes → v = bs9 (some e) (fun x9 => some x9) (fun rRules_23 rCount_24 por_25 confs_26 near_27 leads_28 agrees_29 answers_30 hopes_31 => some ((-9), rRules_23, rCount_24, por_25, confs_26, near_27, leads_28, agrees_29, answers_30, hopes_31)) := by
      intro v hv
      unfold f_X6_wrong at hv
      rw [if_neg c1, if_neg c2, if_neg c3, if_neg c4, if_neg c5, if_pos c6, o1] at hv
      exact hv
    have W7 : ∀ v, v = f_X7_wrong N (nI n) (nI k) (nI j) (nI c) mListed pOf qOf xOf yOf toldBy manyIn codeOf farOf leadsTo answerOf comesTo → v = bs7 (some f) (fun x9 => some x9) (fun mListed_26 manyIn_27 codeOf_28 farOf_29 leadsTo_30 answerOf_31 comesTo_32 => some ((-9), mListed_26, manyIn_27, codeOf_28, farOf_29, leadsTo_30, answerOf_31, comesTo_32)) := by
      intro v hv
      unfold f_X7_wrong at hv
      rw [q_w1 c1 (Int32.not_lt.mp c2), q_w1 c3 (Int32.not_lt.mp c4), q_w1 c5 c6] at hv
      simp only [bd1] at hv
      rw [if_neg (by decide), if_neg (by decide), if_neg (by decide), o2] at hv
      exact hv
    have W6' := W6 _ rfl
    have W7' := W7 _ rfl
    rcases hE with ⟨v, ⟨x2, x3, x4, x5, x6, x7, x8, x9, x10⟩, ⟨y2, y3, y4, y5, y6, y7, y8⟩, rfl, rfl⟩ | ⟨⟨x2, x3, x4, x5, x6, x7, x8, x9, x10⟩, ⟨y2, y3, y4, y5, y6, y7, y8⟩, rfl, rfl⟩
    · exact ⟨v, x2, x3, x4, x5, x6, x7, x8, x9, x10, y2, y3, y4, y5, y6, y7, y8, W6', W7', hR0⟩
    · exact ⟨-9, x2, x3, x4, x5, x6, x7, x8, x9, x10, y2, y3, y4, y5, y6, y7, y8, W6', W7', hR0⟩
  · refine bad ?_ ?_
    · unfold f_X6_wrong; rw [if_neg c1, if_neg c2, if_neg c3, if_neg c4, if_neg c5, if_neg c6]
    · unfold f_X7_wrong; rw [q_w1 c1 (Int32.not_lt.mp c2), q_w1 c3 (Int32.not_lt.mp c4), q_w0 (Or.inr c6)]; rfl
