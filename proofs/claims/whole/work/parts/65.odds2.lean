/-! ===== odds: one more meeting ===== -/
def LR (m : Nat) (f g : Nat → Int64) (l : Nat → Nat) : Prop := ∀ j, j < m → f j = nL (l j) ∧ g j = nL (l j)
theorem LR_add {m : Nat} {f g : Nat → Int64} {l : Nat → Nat} (h : LR m f g l) {j : Nat} (hj : j < m) (x : Nat) : LR m (vp_updL f j (nL (l j + x))) (vp_updL g j (nL (l j + x))) (fun i => if i = j then l i + x else l i) := by
  intro i hi
  rw [updL_eq, updL_eq]
  dsimp only
  by_cases q : i = j
  · rw [if_pos q, if_pos q, if_pos q, q]; exact ⟨rfl, rfl⟩
  · rw [if_neg q, if_neg q, if_neg q]; exact h i hi
section OD
variable {N n c m : Nat} {P Q X Y : Nat → Nat} {Cs : Nat → Nat → Nat} {D : Nat → Nat} {L : Nat → Nat → Option Nat} {twos outs pOf qOf xOf yOf confs near leads manyIn farOf leadsTo : Nat → Int32}
theorem q_goOn (hN : 20000 ≤ N) (hn1 : 1 ≤ n) (hn : n ≤ 6) (hB : RBd c P Q X Y twos outs pOf qOf xOf yOf) (hG : GG n c m Cs D L confs near leads manyIn farOf leadsTo) {rows rowsTo longer rowsThen : Nat → Int64} {r l : Nat → Nat} (hr : LR m rows rowsTo r) (hl : LR m longer rowsThen l) {i : Nat} (hi : i < m) :
    ∃ longer' rowsThen' l', f_X0_goOn N (nI i) (nI (n * (n - 1))) (nI c) twos confs leads rows longer = some longer' ∧ f_X7_meetsOnce N (nI i) (nI c) (nI n) pOf qOf manyIn leadsTo rowsTo rowsThen = some rowsThen' ∧ LR m longer' rowsThen' l' ∧ tot l' m = tot l m + r i * (n * (n - 1)) := by
  obtain ⟨-, hm, g3, g4, -⟩ := hG
  have hc := hB.1
  have gi := g3 i hi
  have ri := hr i hi
  have hCi : csum (Cs i) ≤ 6 := by rw [gi.1]; exact hn
  have hT : n * (n - 1) ≤ 30 := by
    have : n * (n - 1) ≤ 6 * 5 := Nat.mul_le_mul hn (by omega)
    omega
  have hW : ∀ k, k ≤ c → tot (wy L (Cs i) P Q i) k ≤ n * (n - 1) := fun k hk => wy_le hB gi.1 hn1 i k hk
  generalize hTT : n * (n - 1) = T at hT hW
  have bi : inb (nI i) 462 = true := zinb (by omega) (by omega)
  obtain ⟨e, f, o1, o2, hE⟩ := loop2 (b1 := fun (w9 : Int32 × Int32 × (Nat → Int64)) => f_X0_goOn_b7 N (nI i) (nI c) twos confs leads rows w9.1 w9.2.1 w9.2.2) (b2 := fun (w9 : Int64 × Int32 × (Nat → Int64)) => f_X7_meetsOnce_b17 N (nI i) (nI c) (nI n) pOf qOf manyIn leadsTo rowsTo w9.1 w9.2.1 w9.2.2)
    (fun k x y => x.2.1 = nI k ∧ y.2.1 = nI k ∧ x.1 = nI (T - tot (wy L (Cs i) P Q i) k) ∧ y.1 = nL (T - tot (wy L (Cs i) P Q i) k) ∧ ∃ l', LR m x.2.2 y.2.2 l' ∧ tot l' m = tot l m + r i * tot (wy L (Cs i) P Q i) k)
    (fun e f => e.1 = nI (T - tot (wy L (Cs i) P Q i) c) ∧ f.1 = nL (T - tot (wy L (Cs i) P Q i) c) ∧ ∃ l', LR m e.2 f.2 l' ∧ tot l' m = tot l m + r i * tot (wy L (Cs i) P Q i) c) c
    (fun k x y hk hI => by
      obtain ⟨x1, x2, x3⟩ := x
      obtain ⟨y1, y2, y3⟩ := y
      obtain ⟨e1, e2, e3, e4, l', h1, h2⟩ := hI
      dsimp only at e1 e2 e3 e4 h1
      subst e1; subst e2; subst e3; subst e4
      have w0 := hW k (by omega)
      have w1 := hW (k + 1) (by omega)
      rw [tot] at w1
      have rk := hB.2.1 k hk
      have pk := hB.2.2.1 k hk
      have g := g4 i k hi hk
      have z1 : nI i * 12 + nI k = nI (12 * i + k) := by rw [zl 12, zmul, zadd, Nat.mul_comm]
      have z2 : 12 * nI i + nI k = nI (12 * i + k) := by rw [zl 12, zmul, zadd]
      have b5 : inb (nI (12 * i + k)) 5544 = true := zinb (by omega) (by omega)
      have b13 : inb (nI k) 13 = true := zinb (by omega) (by omega)
      have b0 : ¬ nI c ≤ nI k := by rw [zle (by omega) (by omega)]; omega
      cases eL : L i k with
      | none =>
        have wk : wy L (Cs i) P Q i k = 0 := by unfold wy; rw [eL]
        refine ⟨(nI (T - tot (wy L (Cs i) P Q i) k), nI (k + 1), x3), (nL (T - tot (wy L (Cs i) P Q i) k), nI (k + 1), y3), ?_, ?_, rfl, rfl, ?_, ?_, l', h1, ?_⟩
        · show f_X0_goOn_b7 N (nI i) (nI c) twos confs leads rows (nI (T - tot (wy L (Cs i) P Q i) k)) (nI k) x3 = _
          unfold f_X0_goOn_b7 f_X3_leadAt nm
          rw [if_neg b0, z1, gd_t b5, zcl (show 12 * i + k < 2147483648 by omega), g.1, eL]
          simp only [bd1]
          rw [if_pos (show lc none < 0 by decide), nI_1]
        · show f_X7_meetsOnce_b17 N (nI i) (nI c) (nI n) pOf qOf manyIn leadsTo rowsTo (nL (T - tot (wy L (Cs i) P Q i) k)) (nI k) y3 = _
          unfold f_X7_meetsOnce_b17 nm
          rw [if_neg b0, z2, gd_t b5, zcl (show 12 * i + k < 2147483648 by omega), g.2.1, eL]
          dsimp only
          rw [if_pos (show lr none = -9 from rfl), nI_1]
        · dsimp only; rw [tot, wk, Nat.add_zero]
        · dsimp only; rw [tot, wk, Nat.add_zero]
        · rw [tot, wk, Nat.add_zero]; exact h2
      | some j =>
        have hj := g.2.2 j eL
        have wk : wy L (Cs i) P Q i k = mt (Cs i) (P k) (Q k) := by unfold wy; rw [eL]
        rw [wk] at w1
        have bj : inb (nI j) 462 = true := zinb (by omega) (by omega)
        have lj := h1 j hj
        have hmt : mt (Cs i) (P k) (Q k) < 2147483648 := by omega
        have h9 : ¬ lr (some j) = -9 := by
          intro h
          have h' : nI j = -nI 9 := h
          rw [zeqn (by omega) (by omega) (by omega)] at h'
          exact h'
        have ex : T - tot (wy L (Cs i) P Q i) k - mt (Cs i) (P k) (Q k) = T - tot (wy L (Cs i) P Q i) (k + 1) := by rw [tot, wk]; omega
        refine ⟨(nI (T - tot (wy L (Cs i) P Q i) (k + 1)), nI (k + 1), vp_updL x3 j (nL (l' j + r i * mt (Cs i) (P k) (Q k)))), (nL (T - tot (wy L (Cs i) P Q i) (k + 1)), nI (k + 1), vp_updL y3 j (nL (l' j + r i * mt (Cs i) (P k) (Q k)))), ?_, ?_, rfl, rfl, rfl, rfl, _, LR_add h1 hj _, ?_⟩
        · show f_X0_goOn_b7 N (nI i) (nI c) twos confs leads rows (nI (T - tot (wy L (Cs i) P Q i) k)) (nI k) x3 = _
          have hlt : ¬ lc (some j) < 0 := nI_pos (by omega)
          unfold f_X0_goOn_b7 f_X3_leadAt f_X3_configurationAt nm
          rw [if_neg b0, z1, gd_t b5, zcl (show 12 * i + k < 2147483648 by omega), g.1, eL, gd_t bi, zcl (show i < 2147483648 by omega), gi.2.2.1, q_twoAt hB hk]
          simp only [bd1]
          rw [if_neg hlt, q_meetingsOf hCi rk.1 rk.2.1, show lc (some j) = nI j from rfl]
          simp only [gd_t bj, gd_t bi]
          rw [zcl (show j < 2147483648 by omega), lj.1, ri.1, l32 hmt, lmul, ladd, zsub (by omega), ex, nI_1]
        · show f_X7_meetsOnce_b17 N (nI i) (nI c) (nI n) pOf qOf manyIn leadsTo rowsTo (nL (T - tot (wy L (Cs i) P Q i) k)) (nI k) y3 = _
          have e6 : ∀ s, s < 6 → 6 * nI i + nI s = nI (6 * i + s) := fun s _ => by rw [zl 6, zmul, zadd]
          have b6 : ∀ s, s < 6 → inb (nI (6 * i + s)) 2772 = true := fun s hs => zinb (by omega) (by omega)
          have cp := cs_le hCi rk.1
          have cq := cs_le hCi rk.2.1
          have J : ∀ y1 : Int32, (nI (Cs i (P k))).toInt64 * (nI (Cs i (Q k)) - y1).toInt64 = nL (mt (Cs i) (P k) (Q k)) → (nI (Cs i (P k)) * (nI (Cs i (Q k)) - y1)).toInt64 = nL (mt (Cs i) (P k) (Q k)) → f_X7_meetsOnce_j105 N (nI i) (nL (T - tot (wy L (Cs i) P Q i) k)) (nI k) (nI j) (nI (Cs i (P k))) (nI (Cs i (Q k))) y1 (nI c) (nI n) pOf qOf manyIn leadsTo rowsTo y3 = some (.inl (nL (T - tot (wy L (Cs i) P Q i) (k + 1)), nI (k + 1), vp_updL y3 j (nL (l' j + r i * mt (Cs i) (P k) (Q k))))) := by
            intro y1 f1 f2
            unfold f_X7_meetsOnce_j105 nm
            dsimp only
            rw [gd_t bj, gd_t bi, gd_t bj, zcl (show j < 2147483648 by omega), zcl (show i < 2147483648 by omega), lj.2, ri.2, Int64.mul_assoc, f1, f2, lmul, ladd, lsub (by omega), ex, nI_1]
          unfold f_X7_meetsOnce_b17 nm
          rw [if_neg b0, z2, gd_t b5, zcl (show 12 * i + k < 2147483648 by omega), g.2.1, eL]
          dsimp only
          rw [if_neg h9, show lr (some j) = nI j from rfl, zcl (show k < 2147483648 by omega), pk.1, pk.2.1, e6 _ rk.1, e6 _ rk.2.1, zcl (show 6 * i + P k < 2147483648 by omega), zcl (show 6 * i + Q k < 2147483648 by omega), gi.2.2.2.2.2 _ rk.1, gi.2.2.2.2.2 _ rk.2.1, gd_t b13, gd_t (b6 _ rk.1), gd_t b13, gd_t (b6 _ rk.2.1), gd_t b13, gd_t b13]
          by_cases q : P k = Q k
          · rw [if_pos (by rw [q])]
            rcases Nat.eq_zero_or_pos (Cs i (Q k)) with h0 | h0
            · have hm0 : mt (Cs i) (P k) (Q k) = 0 := by unfold mt; rw [if_pos q, q, h0]
              refine J 1 ?_ ?_
              · rw [hm0, q, h0, show (nI 0).toInt64 = 0 from rfl, Int64.zero_mul]; rfl
              · rw [hm0, q, h0, show nI 0 = 0 from rfl, Int32.zero_mul]; rfl
            · have hm1 : mt (Cs i) (P k) (Q k) = Cs i (P k) * (Cs i (Q k) - 1) := by unfold mt; rw [if_pos q, q]
              have es : nI (Cs i (Q k)) - 1 = nI (Cs i (Q k) - 1) := zsub (b := 1) (by omega)
              refine J 1 ?_ ?_
              · rw [es, l32 (by omega), l32 (by omega), lmul, hm1]
              · rw [es, zmul, l32 (by rw [← hm1]; exact hmt), hm1]
          · rw [if_neg (by rw [zeq (by omega) (by omega)]; exact q)]
            have hm1 : mt (Cs i) (P k) (Q k) = Cs i (P k) * Cs i (Q k) := by unfold mt; rw [if_neg q]
            have es : nI (Cs i (Q k)) - 0 = nI (Cs i (Q k)) := zsub (b := 0) (by omega)
            refine J 0 ?_ ?_
            · rw [es, l32 (by omega), l32 (by omega), lmul, hm1]
            · rw [es, zmul, l32 (by rw [← hm1]; exact hmt), hm1]
        · rw [tot_add m hj, h2, tot, wk, Nat.mul_add]; omega)
    (fun x y hI => by
      obtain ⟨x1, x2, x3⟩ := x
      obtain ⟨y1, y2, y3⟩ := y
      obtain ⟨e1, e2, e3, e4, h⟩ := hI
      dsimp only at e1 e2 e3 e4 h
      subst e1; subst e2
      refine ⟨(x1, x3), (y1, y3), ?_, ?_, e3, e4, h⟩
      · show f_X0_goOn_b7 N (nI i) (nI c) twos confs leads rows x1 (nI c) x3 = _
        unfold f_X0_goOn_b7
        rw [if_pos (Int32.le_refl _)]
      · show f_X7_meetsOnce_b17 N (nI i) (nI c) (nI n) pOf qOf manyIn leadsTo rowsTo y1 (nI c) y3 = _
        unfold f_X7_meetsOnce_b17
        rw [if_pos (Int32.le_refl _)]) N 0 (nI T, 0, longer) (nL T, 0, rowsThen) (Nat.zero_le _) (by omega) ⟨rfl, rfl, rfl, rfl, l, hl, rfl⟩
  obtain ⟨x1, x3⟩ := e
  obtain ⟨y1, y3⟩ := f
  obtain ⟨e1, e2, l', h1, h2⟩ := hE
  dsimp only at e1 e2 h1
  subst e1; subst e2
  have w0 := hW c (Nat.le_refl _)
  have li := h1 i hi
  refine ⟨vp_updL x3 i (nL (l' i + r i * (T - tot (wy L (Cs i) P Q i) c))), vp_updL y3 i (nL (l' i + r i * (T - tot (wy L (Cs i) P Q i) c))), _, ?_, ?_, LR_add h1 hi _, ?_⟩
  · unfold f_X0_goOn nm
    rw [o1]
    simp only [bd2, gd_t bi]
    rw [zcl (show i < 2147483648 by omega), li.1, ri.1, l32 (by omega), lmul, ladd]
  · unfold f_X7_meetsOnce nm
    have e1 : (nI n).toInt64 * (nI n - 1).toInt64 = nL T := by
      have es : nI n - 1 = nI (n - 1) := zsub (b := 1) (by omega)
      rw [es, l32 (by omega), l32 (by omega), lmul, hTT]
    dsimp only
    rw [e1, o2]
    simp only [bd2, gd_t bi]
    rw [zcl (show i < 2147483648 by omega), li.2, ri.2, lmul, ladd]
  · rw [tot_add m hi, h2, Nat.add_assoc, ← Nat.mul_add]
    congr 2
    omega
theorem q_rowstep (hN : 20000 ≤ N) (hn1 : 1 ≤ n) (hn : n ≤ 6) (hB : RBd c P Q X Y twos outs pOf qOf xOf yOf) (hG : GG n c m Cs D L confs near leads manyIn farOf leadsTo) {rows rowsTo : Nat → Int64} {r : Nat → Nat} (hr : LR m rows rowsTo r) {s len : Nat} (hs : s < len) (hlen : len ≤ 12) (x2 : Int32) (answers toldBy stateOf codeOf answerOf : Nat → Int32) (longer rowsThen : Nat → Int64) (a : Nat) :
    ∃ rows' longer' rowsTo' rowsThen' r', f_X0_stableRows_b18 N (nI len) (nI (n * (n - 1))) (nI c) (nI m) twos confs leads answers (nI s) rows longer = some (.inl (nI (s + 1), rows', longer')) ∧
      f_X7_odds_b70 N (nI len) x2 (nI c) (nI n) (nI m) pOf qOf xOf yOf toldBy stateOf manyIn codeOf farOf leadsTo answerOf (nL a) (nI s) rowsTo rowsThen = some (.inl (nL (a * (n * (n - 1))), nI (s + 1), rowsTo', rowsThen')) ∧ LR m rows' rowsTo' r' ∧ tot r' m = tot r m * (n * (n - 1)) := by
  have hm := hG.2.1
  have hT : n * (n - 1) ≤ 30 := by
    have : n * (n - 1) ≤ 6 * 5 := Nat.mul_le_mul hn (by omega)
    omega
  obtain ⟨l0, f1, f2⟩ := q_fillL (N := N) (n := 462) (by omega) (by omega) 0 longer
  obtain ⟨t0, g1, g2⟩ := loop_idx (b := fun (w9 : Int32 × (Nat → Int64)) => f_X7_odds_b79 N (nI len) x2 (nL a) (nI s) (nI c) (nI n) (nI m) pOf qOf xOf yOf toldBy stateOf manyIn codeOf farOf leadsTo answerOf rowsTo w9.1 w9.2)
    (fun i x => x.1 = nI i ∧ ∀ t, t < i → x.2 t = 0) (fun z => ∀ t, t < m → z t = 0) m
    (fun i x hi hI => by
      obtain ⟨x1, xx⟩ := x
      obtain ⟨e1, h⟩ := hI
      dsimp only at e1 h
      subst e1
      refine Or.inl ⟨(nI (i + 1), vp_updL xx i 0), ?_, rfl, fun t ht => ?_⟩
      · show f_X7_odds_b79 N (nI len) x2 (nL a) (nI s) (nI c) (nI n) (nI m) pOf qOf xOf yOf toldBy stateOf manyIn codeOf farOf leadsTo answerOf rowsTo (nI i) xx = _
        unfold f_X7_odds_b79 nm
        rw [if_neg (by rw [zle (by omega) (by omega)]; omega), gd_t (zinb (show i < 462 by omega) (by omega)), zcl (show i < 2147483648 by omega), nI_1]
      · dsimp only
        rw [updL_eq]
        by_cases q : t = i
        · rw [if_pos q]
        · rw [if_neg q]; exact h t (by omega))
    (fun x hI => by
      obtain ⟨x1, xx⟩ := x
      obtain ⟨e1, h⟩ := hI
      dsimp only at e1 h
      subst e1
      refine ⟨xx, ?_, h⟩
      show f_X7_odds_b79 N (nI len) x2 (nL a) (nI s) (nI c) (nI n) (nI m) pOf qOf xOf yOf toldBy stateOf manyIn codeOf farOf leadsTo answerOf rowsTo (nI m) xx = _
      unfold f_X7_odds_b79
      rw [if_pos (Int32.le_refl _)]) N 0 (0, rowsThen) (Nat.zero_le _) (by omega) ⟨rfl, fun t ht => absurd ht (Nat.not_lt_zero t)⟩
  have tz : tot (fun _ => 0) m = 0 := by
    have := tot_le (fun _ => 0) 0 (fun _ => Nat.le_refl _) m
    omega
  obtain ⟨l1, t1, o1, o2, l', h1, h2⟩ := loop2 (b1 := fun (w9 : Int32 × (Nat → Int64)) => f_X0_stableRows_b35 N (nI len) (nI (n * (n - 1))) (nI s) (nI c) (nI m) twos confs leads answers rows w9.1 w9.2) (b2 := fun (w9 : Int32 × (Nat → Int64)) => f_X7_odds_b105 N (nI len) x2 (nL a) (nI s) (nI c) (nI n) (nI m) pOf qOf xOf yOf toldBy stateOf manyIn codeOf farOf leadsTo answerOf rowsTo w9.1 w9.2)
    (fun i x y => x.1 = nI i ∧ y.1 = nI i ∧ ∃ l', LR m x.2 y.2 l' ∧ tot l' m = tot r i * (n * (n - 1))) (fun e f => ∃ l', LR m e f l' ∧ tot l' m = tot r m * (n * (n - 1))) m
    (fun i x y hi hI => by
      obtain ⟨x1, xx⟩ := x
      obtain ⟨y1, yy⟩ := y
      obtain ⟨e1, e2, l', h1, h2⟩ := hI
      dsimp only at e1 e2 h1
      subst e1; subst e2
      obtain ⟨lo, th, l2, k1, k2, k3, k4⟩ := q_goOn (N := N) hN hn1 hn hB hG hr h1 hi
      refine ⟨(nI (i + 1), lo), (nI (i + 1), th), ?_, ?_, rfl, rfl, l2, k3, ?_⟩
      · show f_X0_stableRows_b35 N (nI len) (nI (n * (n - 1))) (nI s) (nI c) (nI m) twos confs leads answers rows (nI i) xx = _
        unfold f_X0_stableRows_b35 nm
        rw [if_neg (by rw [zle (by omega) (by omega)]; omega), k1, nI_1]; rfl
      · show f_X7_odds_b105 N (nI len) x2 (nL a) (nI s) (nI c) (nI n) (nI m) pOf qOf xOf yOf toldBy stateOf manyIn codeOf farOf leadsTo answerOf rowsTo (nI i) yy = _
        unfold f_X7_odds_b105 nm
        rw [if_neg (by rw [zle (by omega) (by omega)]; omega), k2, nI_1]; rfl
      · rw [k4, h2, tot, Nat.add_mul])
    (fun x y hI => by
      obtain ⟨x1, xx⟩ := x
      obtain ⟨y1, yy⟩ := y
      obtain ⟨e1, e2, h⟩ := hI
      dsimp only at e1 e2 h
      subst e1; subst e2
      refine ⟨xx, yy, ?_, ?_, h⟩
      · show f_X0_stableRows_b35 N (nI len) (nI (n * (n - 1))) (nI s) (nI c) (nI m) twos confs leads answers rows (nI m) xx = _
        unfold f_X0_stableRows_b35
        rw [if_pos (Int32.le_refl _)]
      · show f_X7_odds_b105 N (nI len) x2 (nL a) (nI s) (nI c) (nI n) (nI m) pOf qOf xOf yOf toldBy stateOf manyIn codeOf farOf leadsTo answerOf rowsTo (nI m) yy = _
        unfold f_X7_odds_b105
        rw [if_pos (Int32.le_refl _)]) N 0 (0, l0) (0, t0) (Nat.zero_le _) (by omega) ⟨rfl, rfl, fun _ => 0, fun j hj => ⟨f2 j (by omega), g2 j hj⟩, by rw [tz]; show 0 = 0 * _; rw [Nat.zero_mul]⟩
  obtain ⟨rt, p1, p2⟩ := loop_idx (b := fun (w9 : Int32 × (Nat → Int64)) => f_X7_odds_b129 N (nI len) x2 (nL a) (nI s) (nI c) (nI n) (nI m) pOf qOf xOf yOf toldBy stateOf manyIn codeOf farOf leadsTo answerOf t1 w9.1 w9.2)
    (fun i x => x.1 = nI i ∧ ∀ t, t < i → x.2 t = t1 t) (fun z => ∀ t, t < m → z t = t1 t) m
    (fun i x hi hI => by
      obtain ⟨x1, xx⟩ := x
      obtain ⟨e1, h⟩ := hI
      dsimp only at e1 h
      subst e1
      have b : inb (nI i) 462 = true := zinb (by omega) (by omega)
      refine Or.inl ⟨(nI (i + 1), vp_updL xx i (t1 i)), ?_, rfl, fun t ht => ?_⟩
      · show f_X7_odds_b129 N (nI len) x2 (nL a) (nI s) (nI c) (nI n) (nI m) pOf qOf xOf yOf toldBy stateOf manyIn codeOf farOf leadsTo answerOf t1 (nI i) xx = _
        unfold f_X7_odds_b129 nm
        rw [if_neg (by rw [zle (by omega) (by omega)]; omega), gd_t b, gd_t b, zcl (show i < 2147483648 by omega), nI_1]
      · dsimp only
        rw [updL_eq]
        by_cases q : t = i
        · rw [if_pos q, q]
        · rw [if_neg q]; exact h t (by omega))
    (fun x hI => by
      obtain ⟨x1, xx⟩ := x
      obtain ⟨e1, h⟩ := hI
      dsimp only at e1 h
      subst e1
      refine ⟨xx, ?_, h⟩
      show f_X7_odds_b129 N (nI len) x2 (nL a) (nI s) (nI c) (nI n) (nI m) pOf qOf xOf yOf toldBy stateOf manyIn codeOf farOf leadsTo answerOf t1 (nI m) xx = _
      unfold f_X7_odds_b129
      rw [if_pos (Int32.le_refl _)]) N 0 (0, rowsTo) (Nat.zero_le _) (by omega) ⟨rfl, fun t ht => absurd ht (Nat.not_lt_zero t)⟩
  refine ⟨va_cpy l1 rows 0 0 462, l1, rt, t1, l', ?_, ?_, fun j hj => ⟨?_, ?_⟩, h2⟩
  · unfold f_X0_stableRows_b18 nm
    rw [if_neg (by rw [zle (by omega) (by omega)]; omega), f1]
    simp only [bd1]
    rw [o1, nI_1]
  · unfold f_X7_odds_b70 nm
    rw [if_neg (by rw [zle (by omega) (by omega)]; omega), g1]
    simp only [bd1]
    rw [o2]
    simp only []
    rw [p1, nI_1]
    have es : nI n - 1 = nI (n - 1) := zsub (b := 1) (by omega)
    simp only []
    rw [es, zmul, l32 (by omega), lmul]
  · have : va_cpy l1 rows 0 0 462 j = l1 j := by
      unfold va_cpy
      rw [if_pos ⟨Nat.zero_le _, by omega⟩, Nat.zero_add, Nat.sub_zero]
    rw [this]; exact (h1 j hj).1
  · rw [p2 j hj]; exact (h1 j hj).2
end OD
