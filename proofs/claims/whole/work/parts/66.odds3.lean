/-! ===== odds: both ===== -/
section OE
variable {N n c m : Nat} {P Q X Y T : Nat → Nat} {Cs : Nat → Nat → Nat} {D : Nat → Nat} {L : Nat → Nat → Option Nat} {A : Nat → Option Nat} {twos outs pOf qOf xOf yOf confs near leads agrees answers manyIn farOf leadsTo answerOf : Nat → Int32}
theorem pow_small {n len : Nat} (hn : n ≤ 6) (hlen : len ≤ 12) : (n * (n - 1)) ^ len < 9223372036854775808 := by
  have hT : n * (n - 1) ≤ 30 := by
    have : n * (n - 1) ≤ 6 * 5 := Nat.mul_le_mul hn (by omega)
    omega
  have h1 : (n * (n - 1)) ^ len ≤ 30 ^ len := Nat.pow_le_pow_left hT len
  have h2 : 30 ^ len ≤ 30 ^ 12 := Nat.pow_le_pow_right (by omega) hlen
  have h3 : 30 ^ 12 < 9223372036854775808 := by decide
  omega
theorem q_oddsrows (hN : 20000 ≤ N) (hn1 : 1 ≤ n) (hn : n ≤ 6) (hB : RBd c P Q X Y twos outs pOf qOf xOf yOf) (hP : PP n c m T Cs D L A confs near leads agrees answers manyIn farOf leadsTo answerOf) {len : Nat} (hlen : len ≤ 12) (x2 : Int32) (toldBy stateOf codeOf : Nat → Int32) (rows longer rowsTo rowsThen : Nat → Int64) :
    ∃ S rows' longer' rowsTo0 rowsTo' rowsThen', S ≤ (n * (n - 1)) ^ len ∧ f_X0_stableRows N (nI len) (nI (n * (n - 1))) (nI c) (nI m) twos confs leads answers rows longer = some (nL S, rows', longer') ∧
      loopN (fun (w9 : Int32 × (Nat → Int64)) => f_X7_odds_b36 N (nI len) x2 (nI c) (nI n) (nI m) pOf qOf xOf yOf toldBy stateOf manyIn codeOf farOf leadsTo answerOf rowsThen w9.1 w9.2) N (0, rowsTo) = some rowsTo0 ∧
      loopN (fun (w9 : Int64 × Int32 × (Nat → Int64) × (Nat → Int64)) => f_X7_odds_b70 N (nI len) x2 (nI c) (nI n) (nI m) pOf qOf xOf yOf toldBy stateOf manyIn codeOf farOf leadsTo answerOf w9.1 w9.2.1 w9.2.2.1 w9.2.2.2) N (1, 0, rowsTo0, rowsThen) = some (nL ((n * (n - 1)) ^ len), rowsTo', rowsThen') ∧
      loopN (fun (w9 : Int64 × Int32) => f_X7_odds_b185 N x2 (nL ((n * (n - 1)) ^ len)) (nI c) (nI n) (nI m) pOf qOf xOf yOf toldBy stateOf manyIn codeOf farOf leadsTo answerOf rowsTo' rowsThen' w9.1 w9.2) N (0, 0) = some (nL S) := by
  have hG := hP.1
  have hA := hP.2.2.1
  have hA7 := hP.2.2.2.1
  have hm1 := hG.1
  have hm := hG.2.1
  obtain ⟨r0, f1, f2⟩ := q_fillL (N := N) (n := 462) (by omega) (by omega) 0 rows
  obtain ⟨t0, g1, g2⟩ := loop_idx (b := fun (w9 : Int32 × (Nat → Int64)) => f_X7_odds_b36 N (nI len) x2 (nI c) (nI n) (nI m) pOf qOf xOf yOf toldBy stateOf manyIn codeOf farOf leadsTo answerOf rowsThen w9.1 w9.2)
    (fun i x => x.1 = nI i ∧ ∀ t, t < i → x.2 t = nL (if t = 0 then 1 else 0)) (fun z => ∀ t, t < m → z t = nL (if t = 0 then 1 else 0)) m
    (fun i x hi hI => by
      obtain ⟨x1, xx⟩ := x
      obtain ⟨e1, h⟩ := hI
      dsimp only at e1 h
      subst e1
      have b : inb (nI i) 462 = true := zinb (by omega) (by omega)
      refine Or.inl ⟨(nI (i + 1), vp_updL xx i (nL (if i = 0 then 1 else 0))), ?_, rfl, fun t ht => ?_⟩
      · show f_X7_odds_b36 N (nI len) x2 (nI c) (nI n) (nI m) pOf qOf xOf yOf toldBy stateOf manyIn codeOf farOf leadsTo answerOf rowsThen (nI i) xx = _
        unfold f_X7_odds_b36 f_X7_odds_j58 nm
        rw [if_neg (by rw [zle (by omega) (by omega)]; omega), gd_t b, gd_t b, zcl (show i < 2147483648 by omega), nI_1]
        by_cases q : i = 0
        · rw [if_pos (by rw [q]; rfl), if_pos q]; rfl
        · rw [if_neg (by rw [zl 0, zeq (by omega) (by omega)]; exact q), if_neg q]; rfl
      · dsimp only
        rw [updL_eq]
        by_cases q : t = i
        · rw [if_pos q, q]
        · rw [if_neg q]; exact h t (by omega))
    (fun x hI => by
      obtain ⟨x1, xx⟩ := x
      obtain ⟨e1, h⟩ := hI
      dsimp only at e1 h
      subst e1
      refine ⟨xx, ?_, h⟩
      show f_X7_odds_b36 N (nI len) x2 (nI c) (nI n) (nI m) pOf qOf xOf yOf toldBy stateOf manyIn codeOf farOf leadsTo answerOf rowsThen (nI m) xx = _
      unfold f_X7_odds_b36
      rw [if_pos (Int32.le_refl _)]) N 0 (0, rowsTo) (Nat.zero_le _) (by omega) ⟨rfl, fun t ht => absurd ht (Nat.not_lt_zero t)⟩
  have tz : ∀ k, 1 ≤ k → tot (fun t => if t = 0 then 1 else 0) k = 1 := by
    intro k
    induction k with
    | zero => intro h; omega
    | succ k ih =>
      intro _
      rw [tot]
      rcases Nat.eq_zero_or_pos k with q | q
      · rw [q]; rfl
      · rw [ih q, if_neg (by omega)]
  obtain ⟨⟨e1, e2⟩, ⟨f3, f4, f5⟩, o1, o2, hq, r, h1, h2⟩ := loop2 (b1 := fun (w9 : Int32 × (Nat → Int64) × (Nat → Int64)) => f_X0_stableRows_b18 N (nI len) (nI (n * (n - 1))) (nI c) (nI m) twos confs leads answers w9.1 w9.2.1 w9.2.2) (b2 := fun (w9 : Int64 × Int32 × (Nat → Int64) × (Nat → Int64)) => f_X7_odds_b70 N (nI len) x2 (nI c) (nI n) (nI m) pOf qOf xOf yOf toldBy stateOf manyIn codeOf farOf leadsTo answerOf w9.1 w9.2.1 w9.2.2.1 w9.2.2.2)
    (fun s x y => x.1 = nI s ∧ y.2.1 = nI s ∧ y.1 = nL ((n * (n - 1)) ^ s) ∧ ∃ r, LR m x.2.1 y.2.2.1 r ∧ tot r m = (n * (n - 1)) ^ s) (fun e f => f.1 = nL ((n * (n - 1)) ^ len) ∧ ∃ r, LR m e.1 f.2.1 r ∧ tot r m = (n * (n - 1)) ^ len) len
    (fun s x y hs hI => by
      obtain ⟨x1, xr, xl⟩ := x
      obtain ⟨y1, y2, yr, yt⟩ := y
      obtain ⟨e1, e2, e3, r, h1, h2⟩ := hI
      dsimp only at e1 e2 e3 h1
      subst e1; subst e2; subst e3
      obtain ⟨rows', longer', rowsTo', rowsThen', r', k1, k2, k3, k4⟩ := q_rowstep (N := N) hN hn1 hn hB hG h1 hs hlen x2 answers toldBy stateOf codeOf answerOf xl yt ((n * (n - 1)) ^ s)
      exact ⟨_, _, k1, k2, rfl, rfl, by dsimp only; rw [Nat.pow_succ], r', k3, by rw [k4, h2, Nat.pow_succ]⟩)
    (fun x y hI => by
      obtain ⟨x1, xr, xl⟩ := x
      obtain ⟨y1, y2, yr, yt⟩ := y
      obtain ⟨e1, e2, e3, h⟩ := hI
      dsimp only at e1 e2 e3 h
      subst e1; subst e2; subst e3
      refine ⟨(xr, xl), (nL ((n * (n - 1)) ^ len), yr, yt), ?_, ?_, rfl, h⟩
      · show f_X0_stableRows_b18 N (nI len) (nI (n * (n - 1))) (nI c) (nI m) twos confs leads answers (nI len) xr xl = _
        unfold f_X0_stableRows_b18
        rw [if_pos (Int32.le_refl _)]
      · show f_X7_odds_b70 N (nI len) x2 (nI c) (nI n) (nI m) pOf qOf xOf yOf toldBy stateOf manyIn codeOf farOf leadsTo answerOf (nL ((n * (n - 1)) ^ len)) (nI len) yr yt = _
        unfold f_X7_odds_b70
        rw [if_pos (Int32.le_refl _)]) N 0 (0, vp_updL r0 0 1, longer) (1, 0, t0, rowsThen) (Nat.zero_le _) (by omega) ⟨rfl, rfl, rfl, fun t => if t = 0 then 1 else 0, fun j hj => ⟨by
        dsimp only
        rw [updL_eq]
        by_cases q : j = 0
        · rw [if_pos q, if_pos q]; rfl
        · rw [if_neg q, if_neg q, f2 j (by omega)]; rfl, g2 j hj⟩, tz m hm1⟩
  dsimp only at hq h1
  subst hq
  have S6 := loop_cnt (b := fun (w9 : Int64 × Int32) => f_X0_stableRows_b90 N (nI c) (nI m) twos confs leads answers e1 e2 w9.1 w9.2) (fun i => (nL (tot (fun i => if (A i).isSome = true then r i else 0) i), nI i)) (nL (tot (fun i => if (A i).isSome = true then r i else 0) m)) m
    (fun i hi => by
      show f_X0_stableRows_b90 N (nI c) (nI m) twos confs leads answers e1 e2 (nL (tot (fun i => if (A i).isSome = true then r i else 0) i)) (nI i) = _
      have ai := hA i hi
      have b : inb (nI i) 462 = true := zinb (by omega) (by omega)
      unfold f_X0_stableRows_b90 f_X3_answerAt nm
      rw [if_neg (by rw [zle (by omega) (by omega)]; omega), gd_t b, zcl (show i < 2147483648 by omega), ai.1]
      simp only [bd1]
      rw [gd_t b, (h1 i hi).1, ladd, nI_1, tot]
      cases q : A i with
      | none => rw [if_pos (show lr none = -9 from rfl)]; rfl
      | some v =>
        have h9 : ¬ lr (some v) = -9 := fun z => by cases (lr_none (le2_big (q ▸ ai.2))).mp z
        rw [if_neg h9]; rfl)
    (by
      show f_X0_stableRows_b90 N (nI c) (nI m) twos confs leads answers e1 e2 (nL (tot (fun i => if (A i).isSome = true then r i else 0) m)) (nI m) = _
      unfold f_X0_stableRows_b90
      rw [if_pos (Int32.le_refl _)]) N 0 (Nat.zero_le _) (by omega)
  have S7 := loop_cnt (b := fun (w9 : Int64 × Int32) => f_X7_odds_b185 N x2 (nL ((n * (n - 1)) ^ len)) (nI c) (nI n) (nI m) pOf qOf xOf yOf toldBy stateOf manyIn codeOf farOf leadsTo answerOf f4 f5 w9.1 w9.2) (fun i => (nL (tot (fun i => if (A i).isSome = true then r i else 0) i), nI i)) (nL (tot (fun i => if (A i).isSome = true then r i else 0) m)) m
    (fun i hi => by
      show f_X7_odds_b185 N x2 (nL ((n * (n - 1)) ^ len)) (nI c) (nI n) (nI m) pOf qOf xOf yOf toldBy stateOf manyIn codeOf farOf leadsTo answerOf f4 f5 (nL (tot (fun i => if (A i).isSome = true then r i else 0) i)) (nI i) = _
      have ai := hA7 i hi
      have b : inb (nI i) 462 = true := zinb (by omega) (by omega)
      unfold f_X7_odds_b185 nm
      rw [if_neg (by rw [zle (by omega) (by omega)]; omega), gd_t b, zcl (show i < 2147483648 by omega), ai.1, gd_t b, (h1 i hi).2, ladd, nI_1, tot, lL 0, ladd]
      cases q : A i with
      | none => rw [if_pos (show lr none = -9 from rfl)]; rfl
      | some v =>
        have h9 : ¬ lr (some v) = -9 := fun z => by cases (lr_none (le2_big (q ▸ ai.2))).mp z
        rw [if_neg h9]; rfl)
    (by
      show f_X7_odds_b185 N x2 (nL ((n * (n - 1)) ^ len)) (nI c) (nI n) (nI m) pOf qOf xOf yOf toldBy stateOf manyIn codeOf farOf leadsTo answerOf f4 f5 (nL (tot (fun i => if (A i).isSome = true then r i else 0) m)) (nI m) = _
      unfold f_X7_odds_b185
      rw [if_pos (Int32.le_refl _)]) N 0 (Nat.zero_le _) (by omega)
  refine ⟨tot (fun i => if (A i).isSome = true then r i else 0) m, e1, e2, t0, f4, f5, ?_, ?_, g1, o2, S7⟩
  · rw [← h2]
    refine tot_sub m (fun i hi => ?_)
    split
    · exact Nat.le_refl _
    · exact Nat.zero_le _
  · unfold f_X0_stableRows nm
    rw [f1]
    simp only [bd1]
    rw [gd_t (by decide), show (0 : Int32).toNatClampNeg = 0 from rfl, o1]
    simp only [bd2]
    have S6' : loopN (fun (w9 : Int64 × Int32) => f_X0_stableRows_b90 N (nI c) (nI m) twos confs leads answers e1 e2 w9.1 w9.2) N (0, 0) = some (nL (tot (fun i => if (A i).isSome = true then r i else 0) m)) := S6
    rw [S6']
end OE
theorem op_odds {N : Nat} (hN : 20000 ≤ N) {bCount : Int32} {cSize : Int32} {cMeet : Int32} {cChg : Int32} {cSeed : Int32} {mRules : Int32} {mAgents : Int32} {mMeet : Int32} {mChg : Int32} {mSeed : Int32} {told : Nat → Int32} {weights : Nat → Int32} {twos : Nat → Int32} {outs : Nat → Int32} {states : Nat → Int32} {lastMet : Nat → Int32} {pOf : Nat → Int32} {qOf : Nat → Int32} {xOf : Nat → Int32} {yOf : Nat → Int32} {toldBy : Nat → Int32} {weightOf : Nat → Int32} {stateOf : Nat → Int32} {metAt : Nat → Int32} (hR : Rel bCount twos outs mRules pOf qOf xOf yOf cSize cMeet cChg cSeed states lastMet mAgents mMeet mChg mSeed stateOf metAt told toldBy weights weightOf) (a1 : Int32) (a2 : Int32) (rRules : Int32) (rCount : Int32) (mListed : Int32) (por : Nat → Int32) (confs : Nat → Int32) (near : Nat → Int32) (leads : Nat → Int32) (agrees : Nat → Int32) (answers : Nat → Int32) (rows : Nat → Int64) (longer : Nat → Int64) (manyIn : Nat → Int32) (codeOf : Nat → Int32) (farOf : Nat → Int32) (leadsTo : Nat → Int32) (answerOf : Nat → Int32) (rowsTo : Nat → Int64) (rowsThen : Nat → Int64) : ∃ (r9 : Int64) (rRules9 : Int32) (rCount9 : Int32) (por9 : Nat → Int32) (confs9 : Nat → Int32) (near9 : Nat → Int32) (leads9 : Nat → Int32) (agrees9 : Nat → Int32) (answers9 : Nat → Int32) (rows9 : Nat → Int64) (longer9 : Nat → Int64) (mListed9 : Int32) (manyIn9 : Nat → Int32) (codeOf9 : Nat → Int32) (farOf9 : Nat → Int32) (leadsTo9 : Nat → Int32) (answerOf9 : Nat → Int32) (rowsTo9 : Nat → Int64) (rowsThen9 : Nat → Int64), f_X6_odds N a1 a2 bCount cSize rRules rCount told twos outs states por confs near leads agrees answers rows longer = some (r9, rRules9, rCount9, por9, confs9, near9, leads9, agrees9, answers9, rows9, longer9) ∧ f_X7_odds N a1 a2 mRules mAgents mListed pOf qOf xOf yOf toldBy stateOf manyIn codeOf farOf leadsTo answerOf rowsTo rowsThen = some (r9, mListed9, manyIn9, codeOf9, farOf9, leadsTo9, answerOf9, rowsTo9, rowsThen9) ∧ Rel bCount twos outs mRules pOf qOf xOf yOf cSize cMeet cChg cSeed states lastMet mAgents mMeet mChg mSeed stateOf metAt told toldBy weights weightOf := by
  have hR0 := hR
  obtain ⟨⟨c, P, Q, X, Y, eb, er, hB⟩, ⟨n, S, hn0, hn, ec, em, -, -, -, hS, -⟩, ⟨T, hT⟩, -⟩ := hR
  subst eb; subst er; subst ec; subst em
  have hc := hB.1
  have bad : f_X6_odds N a1 a2 (nI c) (nI n) rRules rCount told twos outs states por confs near leads agrees answers rows longer = some (-9223372036854775808, rRules, rCount, por, confs, near, leads, agrees, answers, rows, longer) → f_X7_odds N a1 a2 (nI c) (nI n) mListed pOf qOf xOf yOf toldBy stateOf manyIn codeOf farOf leadsTo answerOf rowsTo rowsThen = some (-9223372036854775808, mListed, manyIn, codeOf, farOf, leadsTo, answerOf, rowsTo, rowsThen) → ∃ (r9 : Int64) (rRules9 : Int32) (rCount9 : Int32) (por9 : Nat → Int32) (confs9 : Nat → Int32) (near9 : Nat → Int32) (leads9 : Nat → Int32) (agrees9 : Nat → Int32) (answers9 : Nat → Int32) (rows9 : Nat → Int64) (longer9 : Nat → Int64) (mListed9 : Int32) (manyIn9 : Nat → Int32) (codeOf9 : Nat → Int32) (farOf9 : Nat → Int32) (leadsTo9 : Nat → Int32) (answerOf9 : Nat → Int32) (rowsTo9 : Nat → Int64) (rowsThen9 : Nat → Int64), f_X6_odds N a1 a2 (nI c) (nI n) rRules rCount told twos outs states por confs near leads agrees answers rows longer = some (r9, rRules9, rCount9, por9, confs9, near9, leads9, agrees9, answers9, rows9, longer9) ∧ f_X7_odds N a1 a2 (nI c) (nI n) mListed pOf qOf xOf yOf toldBy stateOf manyIn codeOf farOf leadsTo answerOf rowsTo rowsThen = some (r9, mListed9, manyIn9, codeOf9, farOf9, leadsTo9, answerOf9, rowsTo9, rowsThen9) ∧ Rel (nI c) twos outs (nI c) pOf qOf xOf yOf (nI n) cMeet cChg cSeed states lastMet (nI n) mMeet mChg mSeed stateOf metAt told toldBy weights weightOf :=
    fun h1 h2 => ⟨-9223372036854775808, rRules, rCount, por, confs, near, leads, agrees, answers, rows, longer, mListed, manyIn, codeOf, farOf, leadsTo, answerOf, rowsTo, rowsThen, h1, h2, hR0⟩
  by_cases c1 : a1 < 0
  · refine bad ?_ ?_
    · unfold f_X6_odds; rw [if_pos c1]
    · unfold f_X7_odds; rw [q_w0 (Or.inl c1)]; rfl
  by_cases c2 : 12 < a1
  · refine bad ?_ ?_
    · unfold f_X6_odds; rw [if_neg c1, if_pos c2]
    · unfold f_X7_odds; rw [q_w0 (Or.inr (Int32.not_le.mpr c2))]; rfl
  by_cases c3 : a2 < 0
  · refine bad ?_ ?_
    · unfold f_X6_odds; rw [if_neg c1, if_neg c2, if_pos c3]
    · unfold f_X7_odds; rw [q_w1 c1 (Int32.not_lt.mp c2), q_w0 (Or.inl c3)]; rfl
  by_cases c4 : 1 < a2
  · refine bad ?_ ?_
    · unfold f_X6_odds; rw [if_neg c1, if_neg c2, if_neg c3, if_pos c4]
    · unfold f_X7_odds; rw [q_w1 c1 (Int32.not_lt.mp c2), q_w0 (Or.inr (Int32.not_le.mpr c4))]; rfl
  by_cases h0 : n = 0
  · subst h0
    refine bad ?_ ?_
    · unfold f_X6_odds; rw [if_neg c1, if_neg c2, if_neg c3, if_neg c4, if_pos (show nI 0 = 0 from rfl)]
    · unfold f_X7_odds; rw [q_w1 c1 (Int32.not_lt.mp c2), q_w1 c3 (Int32.not_lt.mp c4)]; rfl
  · clear bad
    have hn3 : ¬ nI n = 0 := by rw [zl 0, zeq (by omega) (by omega)]; exact h0
    have k1 : ∃ len, len ≤ 12 ∧ a1 = nI len := by
      rcases zcase a1 with h | ⟨k, hk, rfl⟩
      · exact absurd h c1
      · rw [zl 12, zlt (by omega) hk] at c2
        exact ⟨k, by omega, rfl⟩
    obtain ⟨len, hlen, rfl⟩ := k1
    obtain ⟨m, Cs, D, L, A, por', confs', near', leads', agrees', answers', many', code', far', leadsTo', answerOf', g1, g2, g3⟩ := q_present (N := N) hN hn hB hT hS rRules rCount mListed por confs near leads agrees answers manyIn codeOf farOf leadsTo answerOf
    obtain ⟨S0, rows', longer', rowsTo0, rowsTo', rowsThen', hS0, s1, s2, s3, s4⟩ := q_oddsrows (N := N) hN (show 1 ≤ n by omega) hn hB g3 hlen a2 toldBy stateOf code' rows longer rowsTo rowsThen
    have hT12 := pow_small hn hlen
    have hT0 : 0 < n * (n - 1) := Nat.mul_pos (by omega) (by omega)
    have hT30 : n * (n - 1) ≤ 30 := by
      have : n * (n - 1) ≤ 6 * 5 := Nat.mul_le_mul hn (by omega)
      omega
    have hpos : 0 < (n * (n - 1)) ^ len := Nat.pow_pos hT0
    have es : nI n - 1 = nI (n - 1) := zsub (b := 1) (by omega)
    have X := loop_cnt (b := fun (w9 : Int64 × Int32) => f_X6_odds_b80 N (nI len) a2 (nI (n * (n - 1))) (nL S0) (nI c) (nI n) (nI c) (nI m) told twos outs states por' confs' near' leads' agrees' answers' rows' longer' w9.1 w9.2) (fun s => (nL ((n * (n - 1)) ^ s), nI s)) (nL ((n * (n - 1)) ^ len)) len
      (fun s hs => by
        show f_X6_odds_b80 N (nI len) a2 (nI (n * (n - 1))) (nL S0) (nI c) (nI n) (nI c) (nI m) told twos outs states por' confs' near' leads' agrees' answers' rows' longer' (nL ((n * (n - 1)) ^ s)) (nI s) = _
        unfold f_X6_odds_b80 nm
        rw [if_neg (by rw [zle (by omega) (by omega)]; omega), l32 (by omega), lmul, nI_1, Nat.pow_succ])
      (by
        show f_X6_odds_b80 N (nI len) a2 (nI (n * (n - 1))) (nL S0) (nI c) (nI n) (nI c) (nI m) told twos outs states por' confs' near' leads' agrees' answers' rows' longer' (nL ((n * (n - 1)) ^ len)) (nI len) = _
        unfold f_X6_odds_b80
        rw [if_pos (Int32.le_refl _)]) N 0 (Nat.zero_le _) (by omega)
    have X' : loopN (fun (w9 : Int64 × Int32) => f_X6_odds_b80 N (nI len) a2 (nI (n * (n - 1))) (nL S0) (nI c) (nI n) (nI c) (nI m) told twos outs states por' confs' near' leads' agrees' answers' rows' longer' w9.1 w9.2) N (1, 0) = some (nL ((n * (n - 1)) ^ len)) := X
    obtain ⟨g, hg0, hg, d6', d7'⟩ := q_gcd (N := N) 63 S0 ((n * (n - 1)) ^ len) 0 N (by omega) hT12 hT12 (by omega) (by omega) (Or.inr hpos)
    have D6 : f_X6_commonDivisor N (nL S0) (nL ((n * (n - 1)) ^ len)) = some (nL g) := by
      unfold f_X6_commonDivisor
      show bd1 (loopN _ N (nL S0, nL ((n * (n - 1)) ^ len), nI 0)) _ = _
      rw [d6']; rfl
    have D7 : f_X7_common N (nL S0) (nL ((n * (n - 1)) ^ len)) = some (nL g) := by
      unfold f_X7_common
      rw [d7']; rfl
    refine ⟨if a2 = 0 then nL S0 / nL g else nL ((n * (n - 1)) ^ len) / nL g, nI c, nI m, por', confs', near', leads', agrees', answers', rows', longer', nI m, many', code', far', leadsTo', answerOf', rowsTo', rowsThen', ?_, ?_, hR0⟩
    · unfold f_X6_odds nm
      rw [if_neg c1, if_neg c2, if_neg c3, if_neg c4, if_neg hn3, g1]
      simp only [bd8]
      rw [es, zmul, s1]
      simp only [bd3]
      rw [X']
      simp only [bd1]
      rw [D6]
      simp only []
      rw [if_pos (lcmp1 hg hg0), gd_t (lnz hg hg0), gd_t (lnz hg hg0)]
      by_cases q : a2 = 0
      · rw [if_pos q, if_pos q]
      · rw [if_neg q, if_neg q]
    · unfold f_X7_odds
      rw [q_w1 c1 (Int32.not_lt.mp c2), q_w1 c3 (Int32.not_lt.mp c4)]
      simp only [bd1]
      rw [if_neg (by decide), if_neg (by decide), if_neg hn3, g2]
      simp only [bd6]
      rw [s2]
      simp only []
      rw [s3]
      simp only [bd3]
      rw [s4]
      simp only []
      unfold f_X7_odds_j238
      rw [D7]
      simp only [bd1]
      rw [gd_t (lnz hg hg0), gd_t (lnz hg hg0)]
      by_cases q : a2 = 0
      · rw [if_pos q, if_pos q]
      · rw [if_neg q, if_neg q]
