/-! ===== meet, run ===== -/
section MM
variable {N c n : Nat} {P Q X Y S : Nat → Nat} {twos outs pOf qOf xOf yOf states stateOf : Nat → Int32}
theorem q_bring (hN : 20000 ≤ N) (h : RBd c P Q X Y twos outs pOf qOf xOf yOf) (hn : n ≤ 6) (hS : RS n S states stateOf) {i j : Nat} (hi : i < n) (hj : j < n) (hij : i ≠ j) (mm ch : Int32) (lastMet metAt : Nat → Int32) :
    ∃ (r ch' : Int32) (st so : Nat → Int32) (S' : Nat → Nat), f_X2_bringTogether N (nI i) (nI j) mm ch outs states lastMet = some (r, mm + 1, ch', st, upd lastMet (6 * i + j) (mm + 1)) ∧ f_X7_meets N (nI i) (nI j) (nI c) mm ch pOf qOf xOf yOf stateOf metAt = some (r, mm + 1, ch', so, upd metAt (6 * i + j) (mm + 1)) ∧ RS n S' st so := by
  have hc := h.1
  have si := hS i hi
  have sj := hS j hj
  have z1 : nI i * 6 + nI j = nI (6 * i + j) := by rw [zl 6, zmul, zadd, Nat.mul_comm]
  have z2 : 6 * nI i + nI j = nI (6 * i + j) := by rw [zl 6, zmul, zadd]
  have A : f_X2_bringTogether N (nI i) (nI j) mm ch outs states lastMet = (if outs (6 * S i + S j) < 0 then some (0, mm + 1, ch, states, upd lastMet (6 * i + j) (mm + 1)) else (if outs (6 * S i + S j) = nI (6 * S i + S j) then some (0, mm + 1, ch, states, upd lastMet (6 * i + j) (mm + 1)) else bd1 (f_X5_first N (outs (6 * S i + S j))) (fun r_10 => bd1 (f_X5_second N (outs (6 * S i + S j))) (fun r_13 => some (1, mm + 1, ch + 1, upd (upd states i r_10) j r_13, upd lastMet (6 * i + j) (mm + 1)))))) := by
    have e1 : f_X4_outcome N (nI (6 * S i + S j)) outs = some (outs (6 * S i + S j)) := by
      simp (disch := omega) only [f_X4_outcome, gd, zinb, zcl, if_true]
    simp (disch := omega) only [f_X2_bringTogether, nm, z1, gd, zinb, if_true, zcl, si.2.1, sj.2.1, q_of, bd1, e1]
  rcases q_ruleFor hN h si.1 sj.1 with ⟨d, hd, eP, eQ, hrf⟩ | ⟨hfree, hrf⟩
  · have r := h.2.1 d hd
    have m := h.2.2.1 d hd
    have ho : outs (6 * S i + S j) = nI (6 * X d + Y d) := by rw [← eP, ← eQ]; exact (h.2.2.2.1 d hd).2
    have B : f_X7_meets N (nI i) (nI j) (nI c) mm ch pOf qOf xOf yOf stateOf metAt = (if X d = P d then (if Y d = Q d then f_X7_meets_j85 N (nI i) (nI j) (nI d) 0 (nI c) (mm + 1) ch pOf qOf xOf yOf stateOf (upd metAt (6 * i + j) (mm + 1)) else f_X7_meets_j85 N (nI i) (nI j) (nI d) 1 (nI c) (mm + 1) ch pOf qOf xOf yOf stateOf (upd metAt (6 * i + j) (mm + 1))) else f_X7_meets_j85 N (nI i) (nI j) (nI d) 1 (nI c) (mm + 1) ch pOf qOf xOf yOf stateOf (upd metAt (6 * i + j) (mm + 1))) := by
      simp (disch := omega) only [f_X7_meets, nm, z2, gd, zinb, if_true, zcl, si.2.2, sj.2.2, hrf, bd1, show (-9 : Int32) = -nI 9 from rfl, zeqn, if_false, m.1, m.2.1, m.2.2.1, m.2.2.2, zeq]
    have J : ∀ v : Int32, f_X7_meets_j85 N (nI i) (nI j) (nI d) v (nI c) (mm + 1) ch pOf qOf xOf yOf stateOf (upd metAt (6 * i + j) (mm + 1)) = some (v, mm + 1, ch + v, upd (upd stateOf i (nI (X d))) j (nI (Y d)), upd metAt (6 * i + j) (mm + 1)) := by
      intro v
      simp (disch := omega) only [f_X7_meets_j85, nm, gd, zinb, if_true, zcl, m.2.2.1, m.2.2.2]
    by_cases hch : X d = P d ∧ Y d = Q d
    · refine ⟨0, ch, states, upd (upd stateOf i (nI (X d))) j (nI (Y d)), S, ?_, ?_, fun a ha => ?_⟩
      · rw [A, ho, if_neg (nI_pos (by omega)), if_pos (by rw [hch.1, hch.2, eP, eQ])]
      · rw [B, if_pos hch.1, if_pos hch.2, J, Int32.add_zero]
      · have sa := hS a ha
        refine ⟨sa.1, sa.2.1, ?_⟩
        rw [upd_eq, upd_eq]
        split
        · next e => rw [e, hch.2, eQ]
        · split
          · next e => rw [e, hch.1, eP]
          · exact sa.2.2
    · have hne : ¬ nI (6 * X d + Y d) = nI (6 * S i + S j) := by
        rw [zeq (by omega) (by omega)]
        omega
      refine ⟨1, ch + 1, upd (upd states i (nI (X d))) j (nI (Y d)), upd (upd stateOf i (nI (X d))) j (nI (Y d)), fun a => if a = j then Y d else if a = i then X d else S a, ?_, ?_, fun a ha => ?_⟩
      · rw [A, ho, if_neg (nI_pos (by omega)), if_neg hne, q_first (by omega), q_second (by omega), d6 r.2.2.2, m6 r.2.2.2]
        rfl
      · rw [B]
        by_cases h1 : X d = P d
        · rw [if_pos h1, if_neg (fun q => hch ⟨h1, q⟩), J]
        · rw [if_neg h1, J]
      · dsimp only
        simp only [upd_eq]
        split
        · exact ⟨r.2.2.2, rfl, rfl⟩
        · split
          · exact ⟨r.2.2.1, rfl, rfl⟩
          · exact hS a ha
  · have ho : outs (6 * S i + S j) = -1 := h.2.2.2.2.2 _ (by omega) hfree
    refine ⟨0, ch, states, stateOf, S, ?_, ?_, hS⟩
    · rw [A, ho, if_pos (by decide)]
    · unfold f_X7_meets nm
      rw [gd_t (zinb (show i < 6 by omega) (by omega)), gd_t (zinb (show j < 6 by omega) (by omega)), zcl (show i < 2147483648 by omega), zcl (show j < 2147483648 by omega), si.2.2, sj.2.2, hrf]
      show gd (inb (6 * nI i + nI j) 36) _ = _
      rw [z2, gd_t (zinb (show 6 * i + j < 36 by omega) (by omega)), zcl (show 6 * i + j < 2147483648 by omega)]
      rfl
theorem met_upd {lastMet metAt : Nat → Int32} (hM : ∀ j, j < 36 → lastMet j = metAt j) (k : Nat) (v : Int32) : ∀ j, j < 36 → upd lastMet k v j = upd metAt k v j := by
  intro j hj
  rw [upd_eq, upd_eq]
  split
  · rfl
  · exact hM j hj
theorem q_meet (hN : 20000 ≤ N) (h : RBd c P Q X Y twos outs pOf qOf xOf yOf) (hn : n ≤ 6) (hS : RS n S states stateOf) {lastMet metAt : Nat → Int32} (hM : ∀ j, j < 36 → lastMet j = metAt j) (mm ch a1 a2 : Int32) :
    ∃ (r m' ch' : Int32) (st lm so ma : Nat → Int32) (S' : Nat → Nat), f_X6_meet N a1 a2 (nI n) mm ch outs states lastMet = some (r, m', ch', st, lm) ∧ f_X7_meet N a1 a2 (nI c) (nI n) mm ch pOf qOf xOf yOf stateOf metAt = some (r, m', ch', so, ma) ∧ RS n S' st so ∧ (∀ j, j < 36 → lm j = ma j) := by
  unfold f_X6_meet f_X7_meet
  rcases q_ag hn a1 with ⟨i, hi, rfl, s1⟩ | s1
  · rw [(s1 N).1, (s1 N).2]
    rcases q_ag hn a2 with ⟨j, hj, rfl, s2⟩ | s2
    · rw [(s2 N).1, (s2 N).2]
      by_cases e : i = j
      · subst e
        refine ⟨-3, mm, ch, states, lastMet, stateOf, metAt, S, ?_, ?_, hS, hM⟩
        · show (if nI i = nI i then _ else _) = _
          rw [if_pos rfl]
        · show (if nI i = nI i then _ else _) = _
          rw [if_pos rfl]
      · have hne : ¬ nI i = nI j := by rw [zeq (by omega) (by omega)]; exact e
        obtain ⟨r, ch', st, so, S', h1, h2, h3⟩ := q_bring hN h hn hS hi hj e mm ch lastMet metAt
        refine ⟨r, mm + 1, ch', st, _, so, _, S', ?_, ?_, h3, met_upd hM (6 * i + j) (mm + 1)⟩
        · show (if nI i = nI j then _ else _) = _
          rw [if_neg hne, h1]; rfl
        · show (if nI i = nI j then _ else _) = _
          rw [if_neg hne, h2]; rfl
    · rw [(s2 N).1, (s2 N).2]
      exact ⟨-1, mm, ch, states, lastMet, stateOf, metAt, S, rfl, rfl, hS, hM⟩
  · rw [(s1 N).1, (s1 N).2]
    exact ⟨-1, mm, ch, states, lastMet, stateOf, metAt, S, rfl, rfl, hS, hM⟩
theorem z16 (u : Int32) : ∃ w : Nat, w < 65536 ∧ (u.toUInt32 >>> ((16 : Int32).toUInt32 &&& Int32.toUInt32 31)).toInt32 = nI w := by
  have h := pk_ushr u 16 16 (by decide)
  generalize (u.toUInt32 >>> ((16 : Int32).toUInt32 &&& Int32.toUInt32 31)).toInt32 = z at h ⊢
  have hb : u.toBitVec.toNat < 2 ^ 32 := u.toBitVec.isLt
  refine ⟨z.toBitVec.toNat, by omega, ?_⟩
  apply Int32.toBitVec_inj.mp
  apply BitVec.eq_of_toNat_eq
  rw [pk_tn (by omega)]
/-- a drawn meeting -/
theorem q_draw (hN : 20000 ≤ N) (h : RBd c P Q X Y twos outs pOf qOf xOf yOf) (hn2 : 2 ≤ n) (hn : n ≤ 6) (hS : RS n S states stateOf) {lastMet metAt : Nat → Int32} (hM : ∀ j, j < 36 → lastMet j = metAt j) (mm ch sd : Int32) {m k : Nat} (hk : k < m) (hm : m ≤ 1000) (x2 : Int32) :
    ∃ (x2' m' ch' sd' : Int32) (st lm so ma : Nat → Int32) (S' : Nat → Nat), f_X6_run_b32 N (nI m) (nI n) outs x2 (nI k) mm ch sd states lastMet = some (.inl (x2', nI (k + 1), m', ch', sd', st, lm)) ∧ f_X7_run_b28 N (nI m) (nI c) (nI n) pOf qOf xOf yOf x2 (nI k) mm ch sd stateOf metAt = some (.inl (x2', nI (k + 1), m', ch', sd', so, ma)) ∧ RS n S' st so ∧ (∀ j, j < 36 → lm j = ma j) := by
  obtain ⟨w, hw, ew⟩ := z16 (1103515245 * sd + 12345)
  have e1 : nI n - 1 = nI (n - 1) := zsub (b := 1) (by omega)
  have e2 : nI n * nI (n - 1) = nI (n * (n - 1)) := zmul _ _
  have hnn : 2 ≤ n * (n - 1) ∧ n * (n - 1) ≤ 30 := by
    rcases (show n = 2 ∨ n = 3 ∨ n = 4 ∨ n = 5 ∨ n = 6 by omega) with rfl | rfl | rfl | rfl | rfl <;> omega
  have hr : w % (n * (n - 1)) < n * (n - 1) := Nat.mod_lt _ (by omega)
  have e3 : nI w - nI w / nI (n * (n - 1)) * nI (n * (n - 1)) = nI (w % (n * (n - 1))) := zrem (by omega) (by omega) (by omega)
  generalize w % (n * (n - 1)) = r at hr e3
  have e4 : nI r / nI (n - 1) = nI (r / (n - 1)) := zdiv (by omega) (by omega) (by omega)
  have e5 : nI r - nI r / nI (n - 1) * nI (n - 1) = nI (r % (n - 1)) := zrem (by omega) (by omega) (by omega)
  have hf : r / (n - 1) < n := by
    rw [Nat.div_lt_iff_lt_mul (by omega)]; exact hr
  have hs : r % (n - 1) < n - 1 := Nat.mod_lt _ (by omega)
  generalize r / (n - 1) = a at e4 hf
  generalize r % (n - 1) = b at e5 hs
  have A : f_X6_run_b32 N (nI m) (nI n) outs x2 (nI k) mm ch sd states lastMet = bd6 (if b < a then f_X2_bringDrawn_j74 N (nI a) (nI b) (nI n) mm ch (1103515245 * sd + 12345) outs states lastMet else f_X2_bringDrawn_j74 N (nI a) (nI (b + 1)) (nI n) mm ch (1103515245 * sd + 12345) outs states lastMet) (fun r_5 cMeet_6 cChg_7 cSeed_8 states_9 lastMet_10 => some (Sum.inl (x2 + r_5, nI (k + 1), cMeet_6, cChg_7, cSeed_8, states_9, lastMet_10))) := by
    unfold f_X6_run_b32
    rw [if_neg (by rw [zle (by omega) (by omega)]; omega)]
    unfold f_X2_bringDrawn nm
    dsimp only
    rw [e1, if_pos (by rw [zl 1, zle (by omega) (by omega)]; omega), ew, e2, gd_t (znz (by omega) (by omega)), e3, gd_t (znz (by omega) (by omega)), e5, e4, gd_t (znz (by omega) (by omega)), nI_1, nI_1]
    simp only [zlt (show b < 2147483648 by omega) (show a < 2147483648 by omega)]
  have B : f_X7_run_b28 N (nI m) (nI c) (nI n) pOf qOf xOf yOf x2 (nI k) mm ch sd stateOf metAt = (if b < a then f_X7_run_j105 N (nI m) x2 (nI k) (nI a) (nI b) 0 (nI c) (nI n) mm ch (1103515245 * sd + 12345) pOf qOf xOf yOf stateOf metAt else f_X7_run_j105 N (nI m) x2 (nI k) (nI a) (nI b) 1 (nI c) (nI n) mm ch (1103515245 * sd + 12345) pOf qOf xOf yOf stateOf metAt) := by
    unfold f_X7_run_b28
    rw [if_neg (by rw [zle (by omega) (by omega)]; omega)]
    unfold nm
    dsimp only
    rw [e1, ew, e2, gd_t (znz (by omega) (by omega)), e3, gd_t (znz (by omega) (by omega)), e5, e4, gd_t (znz (by omega) (by omega))]
    simp only [zlt (show b < 2147483648 by omega) (show a < 2147483648 by omega)]
  by_cases hba : b < a
  · obtain ⟨r', ch', st, so, S', h1, h2, h3⟩ := q_bring hN h hn hS (i := a) (j := b) hf (by omega) (by omega) mm ch lastMet metAt
    refine ⟨x2 + r', mm + 1, ch', 1103515245 * sd + 12345, st, _, so, _, S', ?_, ?_, h3, met_upd hM (6 * a + b) (mm + 1)⟩
    · rw [A, if_pos hba]
      unfold f_X2_bringDrawn_j74
      rw [h1]; rfl
    · rw [B, if_pos hba]
      unfold f_X7_run_j105 nm
      dsimp only
      rw [Int32.add_zero, h2, nI_1]; rfl
  · obtain ⟨r', ch', st, so, S', h1, h2, h3⟩ := q_bring hN h hn hS (i := a) (j := b + 1) hf (by omega) (by omega) mm ch lastMet metAt
    refine ⟨x2 + r', mm + 1, ch', 1103515245 * sd + 12345, st, _, so, _, S', ?_, ?_, h3, met_upd hM (6 * a + (b + 1)) (mm + 1)⟩
    · rw [A, if_neg hba]
      unfold f_X2_bringDrawn_j74
      rw [h1]; rfl
    · rw [B, if_neg hba]
      unfold f_X7_run_j105 nm
      dsimp only
      rw [nI_1, h2, nI_1]; rfl
theorem q_run (hN : 20000 ≤ N) (h : RBd c P Q X Y twos outs pOf qOf xOf yOf) (hn2 : n = 0 ∨ 2 ≤ n) (hn : n ≤ 6) (hS : RS n S states stateOf) {lastMet metAt : Nat → Int32} (hM : ∀ j, j < 36 → lastMet j = metAt j) (mm ch sd a1 : Int32) :
    ∃ (r m' ch' sd' : Int32) (st lm so ma : Nat → Int32) (S' : Nat → Nat), f_X6_run N a1 (nI n) mm ch sd outs states lastMet = some (r, m', ch', sd', st, lm) ∧ f_X7_run N a1 (nI c) (nI n) mm ch sd pOf qOf xOf yOf stateOf metAt = some (r, m', ch', sd', so, ma) ∧ RS n S' st so ∧ (∀ j, j < 36 → lm j = ma j) := by
  unfold f_X6_run f_X7_run
  by_cases h1 : a1 < 1
  · rw [if_pos h1, q_w0 (Or.inl h1)]
    exact ⟨-2, mm, ch, sd, states, lastMet, stateOf, metAt, S, rfl, rfl, hS, hM⟩
  rw [if_neg h1]
  by_cases h2 : a1 ≤ 1000
  · rw [if_pos h2, q_w1 h1 h2]
    rcases hn2 with rfl | hn2
    · exact ⟨-3, mm, ch, sd, states, lastMet, stateOf, metAt, S, rfl, rfl, hS, hM⟩
    · have hz : ¬ nI n = 0 := nI_ne0 (by omega) (by omega)
      rw [if_neg hz]
      obtain ⟨m, hm, rfl⟩ : ∃ m, m ≤ 1000 ∧ a1 = nI m := by
        rcases zcase a1 with q | ⟨m, hm, rfl⟩
        · exact absurd (Int32.lt_trans q (by decide)) h1
        · rw [zl 1000, zle hm (by omega)] at h2
          exact ⟨m, h2, rfl⟩
      obtain ⟨e, f, g1, g2, S', g3, g4, g5, g6, g7, g8⟩ := loop2 (b1 := fun (w9 : Int32 × Int32 × Int32 × Int32 × Int32 × (Nat → Int32) × (Nat → Int32)) => f_X6_run_b32 N (nI m) (nI n) outs w9.1 w9.2.1 w9.2.2.1 w9.2.2.2.1 w9.2.2.2.2.1 w9.2.2.2.2.2.1 w9.2.2.2.2.2.2) (b2 := fun (w9 : Int32 × Int32 × Int32 × Int32 × Int32 × (Nat → Int32) × (Nat → Int32)) => f_X7_run_b28 N (nI m) (nI c) (nI n) pOf qOf xOf yOf w9.1 w9.2.1 w9.2.2.1 w9.2.2.2.1 w9.2.2.2.2.1 w9.2.2.2.2.2.1 w9.2.2.2.2.2.2)
        (fun k x y => x.2.1 = nI k ∧ y.2.1 = nI k ∧ x.1 = y.1 ∧ x.2.2.1 = y.2.2.1 ∧ x.2.2.2.1 = y.2.2.2.1 ∧ x.2.2.2.2.1 = y.2.2.2.2.1 ∧ (∃ S', RS n S' x.2.2.2.2.2.1 y.2.2.2.2.2.1) ∧ ∀ j, j < 36 → x.2.2.2.2.2.2 j = y.2.2.2.2.2.2 j)
        (fun e f => ∃ S', e.1 = f.1 ∧ e.2.1 = f.2.1 ∧ e.2.2.1 = f.2.2.1 ∧ e.2.2.2.1 = f.2.2.2.1 ∧ RS n S' e.2.2.2.2.1 f.2.2.2.2.1 ∧ ∀ j, j < 36 → e.2.2.2.2.2 j = f.2.2.2.2.2 j) m
        (fun k x y hk hI => by
          obtain ⟨x1, x2, x3, x4, x5, x6, x7⟩ := x
          obtain ⟨y1, y2, y3, y4, y5, y6, y7⟩ := y
          obtain ⟨e1, e2, e3, e4, e5, e6, ⟨S', hS'⟩, hM'⟩ := hI
          dsimp only at e1 e2 e3 e4 e5 e6 hS' hM'
          subst e1; subst e2; subst e3; subst e4; subst e5; subst e6
          obtain ⟨a, b, d, g, st, lm, so, ma, S2, k1, k2, k3, k4⟩ := q_draw hN h hn2 hn hS' hM' x3 x4 x5 hk hm x1
          exact ⟨_, _, k1, k2, rfl, rfl, rfl, rfl, rfl, rfl, ⟨S2, k3⟩, k4⟩)
        (fun x y hI => by
          obtain ⟨x1, x2, x3, x4, x5, x6, x7⟩ := x
          obtain ⟨y1, y2, y3, y4, y5, y6, y7⟩ := y
          obtain ⟨e1, e2, e3, e4, e5, e6, ⟨S', hS'⟩, hM'⟩ := hI
          dsimp only at e1 e2 e3 e4 e5 e6 hS' hM'
          subst e1; subst e2; subst e3; subst e4; subst e5; subst e6
          exact ⟨(x1, x3, x4, x5, x6, x7), (x1, x3, x4, x5, y6, y7), by simp only [f_X6_run_b32, Int32.le_refl, if_true], by simp only [f_X7_run_b28, Int32.le_refl, if_true], S', rfl, rfl, rfl, rfl, hS', hM'⟩) N 0 (0, 0, mm, ch, sd, states, lastMet) (0, 0, mm, ch, sd, stateOf, metAt) (Nat.zero_le _) (by omega)
        ⟨rfl, rfl, rfl, rfl, rfl, rfl, ⟨S, hS⟩, hM⟩
      obtain ⟨e1, e2, e3, e4, e5, e6⟩ := e
      obtain ⟨f1, f2, f3, f4, f5, f6⟩ := f
      dsimp only at g3 g4 g5 g6 g7 g8
      subst g3; subst g4; subst g5; subst g6
      refine ⟨e1, e2, e3, e4, e5, e6, f5, f6, S', ?_, ?_, g7, g8⟩
      · rw [g1]; rfl
      · show (if nI n = 0 then _ else bd6 (loopN _ N (0, 0, mm, ch, sd, stateOf, metAt)) _) = _
        rw [if_neg hz, g2]; rfl
  · rw [if_neg h2, q_w0 (Or.inr h2)]
    exact ⟨-2, mm, ch, sd, states, lastMet, stateOf, metAt, S, rfl, rfl, hS, hM⟩
end MM
