/-! ===== the next configuration ===== -/
section B2
variable {N n m c : Nat} {P Q X Y : Nat → Nat} {Cs : Nat → Nat → Nat} {D : Nat → Nat} {twos outs pOf qOf xOf yOf por confs near manyIn codeOf farOf : Nat → Int32}
theorem q_isChange (h : RBd c P Q X Y twos outs pOf qOf xOf yOf) {k : Nat} (hk : k < c) : f_X7_isChange N (nI k) pOf qOf xOf yOf = some (if X k = P k ∧ Y k = Q k then 0 else 1) := by
  have hc := h.1
  have r := h.2.1 k hk
  obtain ⟨m1, m2, m3, m4⟩ := h.2.2.1 k hk
  unfold f_X7_isChange
  have hb : inb (nI k) 13 = true := zinb (by omega) (by omega)
  repeat rw [gd_t hb]
  rw [zcl (show k < 2147483648 by omega), m1, m2, m3, m4]
  by_cases h1 : X k = P k
  · by_cases h2 : Y k = Q k
    · rw [if_pos (by rw [h1]), if_pos (by rw [h2]), if_pos ⟨h1, h2⟩]
    · rw [if_pos (by rw [h1]), if_neg (by rw [zeq (by omega) (by omega)]; exact h2), if_neg (fun z => h2 z.2)]
  · rw [if_neg (by rw [zeq (by omega) (by omega)]; exact h1), if_neg (fun z => h1 z.1)]
theorem q_canMeet {i p q : Nat} (hi : i < 462) (hp : p < 6) (hq : q < 6) {C : Nat → Nat} (hC : csum C ≤ 6) (h : ∀ s, s < 6 → manyIn (6 * i + s) = nI (C s)) : (cm C p q → f_X7_canMeet N (nI i) (nI p) (nI q) manyIn = some 1) ∧ (¬ cm C p q → f_X7_canMeet N (nI i) (nI p) (nI q) manyIn = some 0) := by
  have e1 : 6 * nI i + nI p = nI (6 * i + p) := by rw [zl 6, zmul, zadd]
  have e2 : 6 * nI i + nI q = nI (6 * i + q) := by rw [zl 6, zmul, zadd]
  have lp := cs_le hC hp
  have lq := cs_le hC hq
  have A : f_X7_canMeet N (nI i) (nI p) (nI q) manyIn = (if nI p = nI q then (if nI (C p) ≤ 1 then some 0 else some 1) else (if nI (C p) ≤ 0 then some 0 else (if nI (C q) ≤ 0 then some 0 else some 1))) := by
    unfold f_X7_canMeet nm
    dsimp only
    rw [e1, e2, gd_t (zinb (show 6 * i + p < 2772 by omega) (by omega)), zcl (show 6 * i + p < 2147483648 by omega), gd_t (zinb (show 6 * i + q < 2772 by omega) (by omega)), zcl (show 6 * i + q < 2147483648 by omega), h p hp, h q hq]
  rw [A]
  unfold cm
  by_cases e : p = q
  · subst e
    rw [if_pos rfl, if_pos rfl, zl 1]
    constructor
    · intro z
      rw [if_neg (by rw [zle (by omega) (by omega)]; omega)]
    · intro z
      rw [if_pos (by rw [zle (by omega) (by omega)]; omega)]
  · have e' : ¬ nI p = nI q := by rw [zeq (by omega) (by omega)]; exact e
    rw [if_neg e', if_neg e, zl 0]
    constructor
    · intro z
      rw [if_neg (by rw [zle (by omega) (by omega)]; omega), if_neg (by rw [zle (by omega) (by omega)]; omega)]
    · intro z
      by_cases h1 : C p = 0
      · rw [if_pos (by rw [zle (by omega) (by omega)]; omega)]
      · rw [if_neg (by rw [zle (by omega) (by omega)]; omega), if_pos (by rw [zle (by omega) (by omega)]; omega)]
theorem lay_upd {M : Nat → Int32} {C C' : Nat → Nat} {p v : Nat} (h : ∀ s, s < 6 → M (6 * m + s) = nI (C s)) (hC : ∀ s, s < 6 → C' s = if s = p then v else C s) : ∀ s, s < 6 → upd M (6 * m + p) (nI v) (6 * m + s) = nI (C' s) := by
  intro s hs
  rw [upd_eq, hC s hs]
  by_cases e : s = p
  · rw [if_pos (by rw [e]), if_pos e]
  · rw [if_neg (by omega), if_neg e, h s hs]
theorem q_laysNext (hN : 20000 ≤ N) (hB : RBd c P Q X Y twos outs pOf qOf xOf yOf) {i k : Nat} (hi : i < m) (hm : m < 462) (hk : k < c) {C : Nat → Nat} (hC : csum C ≤ 6) (h : ∀ s, s < 6 → manyIn (6 * i + s) = nI (C s)) (hcm : cm C (P k) (Q k)) :
    ∃ many : Nat → Int32, f_X7_laysNext N (nI i) (nI k) (nI m) pOf qOf xOf yOf manyIn = some many ∧ (∀ s, s < 6 → many (6 * m + s) = nI (nx C (P k) (Q k) (X k) (Y k) s)) ∧ (∀ t, t < 6 * m → many t = manyIn t) := by
  have hc := hB.1
  have r := hB.2.1 k hk
  obtain ⟨m1, m2, m3, m4⟩ := hB.2.2.1 k hk
  obtain ⟨M, L, hM1, hM2⟩ := loop_idx (b := fun (w9 : Int32 × (Nat → Int32)) => f_X7_laysNext_b17 N (nI k) (nI (6 * i)) (nI (6 * m)) (nI m) pOf qOf xOf yOf w9.1 w9.2)
    (fun s x => x.1 = nI s ∧ (∀ t, t < s → x.2 (6 * m + t) = nI (C t)) ∧ (∀ t, t < 6 * m → x.2 t = manyIn t)) (fun M => (∀ s, s < 6 → M (6 * m + s) = nI (C s)) ∧ (∀ t, t < 6 * m → M t = manyIn t)) 6
    (fun s x hs hI => by
      obtain ⟨x1, x2⟩ := x
      obtain ⟨e1, h1, h2⟩ := hI
      dsimp only at e1 h1 h2
      subst e1
      refine Or.inl ⟨(nI (s + 1), upd x2 (6 * m + s) (nI (C s))), ?_, rfl, fun t ht => ?_, fun t ht => ?_⟩
      · show f_X7_laysNext_b17 N (nI k) (nI (6 * i)) (nI (6 * m)) (nI m) pOf qOf xOf yOf (nI s) x2 = _
        unfold f_X7_laysNext_b17 nm
        rw [if_neg (by rw [zl 6, zle (by omega) (by omega)]; omega), zadd, zadd, gd_t (zinb (show 6 * i + s < 2772 by omega) (by omega)), gd_t (zinb (show 6 * m + s < 2772 by omega) (by omega)), zcl (show 6 * i + s < 2147483648 by omega), zcl (show 6 * m + s < 2147483648 by omega), h2 _ (by omega), h s hs, nI_1]
      · show upd x2 (6 * m + s) (nI (C s)) (6 * m + t) = _
        rw [upd_eq]
        by_cases e : t = s
        · rw [if_pos (by rw [e]), e]
        · rw [if_neg (by omega)]; exact h1 t (by omega)
      · show upd x2 (6 * m + s) (nI (C s)) t = _
        rw [upd_eq, if_neg (by omega)]; exact h2 t ht)
    (fun x hI => by
      obtain ⟨x1, x2⟩ := x
      obtain ⟨e1, h1, h2⟩ := hI
      dsimp only at e1 h1 h2
      subst e1
      refine ⟨x2, ?_, h1, h2⟩
      show f_X7_laysNext_b17 N (nI k) (nI (6 * i)) (nI (6 * m)) (nI m) pOf qOf xOf yOf (nI 6) x2 = _
      unfold f_X7_laysNext_b17
      rw [if_pos (by decide)]) N 0 (0, manyIn) (Nat.zero_le _) (by omega) ⟨rfl, fun t ht => absurd ht (Nat.not_lt_zero t), fun t _ => rfl⟩
  have c1 := cm1 hcm
  have g1 := lay_upd (p := P k) (v := C (P k) - 1) (C' := dec C (P k)) hM1 (fun s hs => by unfold dec; by_cases e : s = P k <;> simp [e])
  have g2 := lay_upd (p := Q k) (v := dec C (P k) (Q k) - 1) (C' := dec (dec C (P k)) (Q k)) g1 (fun s hs => by by_cases e : s = Q k <;> simp [dec, e])
  have g3 := lay_upd (p := X k) (v := dec (dec C (P k)) (Q k) (X k) + 1) (C' := inc (dec (dec C (P k)) (Q k)) (X k)) g2 (fun s hs => by by_cases e : s = X k <;> simp [inc, e])
  have g4 := lay_upd (p := Y k) (v := inc (dec (dec C (P k)) (Q k)) (X k) (Y k) + 1) (C' := nx C (P k) (Q k) (X k) (Y k)) g3 (fun s hs => by unfold nx; by_cases e : s = Y k <;> simp [inc, e])
  refine ⟨_, ?_, g4, fun t ht => ?_⟩
  · have hb : inb (nI k) 13 = true := zinb (by omega) (by omega)
    have b1 : inb (nI (6 * m + P k)) 2772 = true := zinb (by omega) (by omega)
    have b2 : inb (nI (6 * m + Q k)) 2772 = true := zinb (by omega) (by omega)
    have b3 : inb (nI (6 * m + X k)) 2772 = true := zinb (by omega) (by omega)
    have b4 : inb (nI (6 * m + Y k)) 2772 = true := zinb (by omega) (by omega)
    have e1 : nI (C (P k)) - 1 = nI (C (P k) - 1) := zsub (b := 1) (by omega)
    have e2 : nI (dec C (P k) (Q k)) - 1 = nI (dec C (P k) (Q k) - 1) := zsub (b := 1) (by omega)
    have e6 : ∀ z : Nat, 6 * nI z = nI (6 * z) := fun z => by rw [zl 6, zmul]
    unfold f_X7_laysNext nm
    rw [e6, e6]
    dsimp only
    rw [L]
    simp only [bd1]
    rw [zcl (show k < 2147483648 by omega), m1, m2, m3, m4, zadd, zadd, zadd, zadd]
    repeat rw [gd_t hb]
    repeat rw [gd_t b1]
    repeat rw [gd_t b2]
    repeat rw [gd_t b3]
    repeat rw [gd_t b4]
    rw [zcl (show 6 * m + P k < 2147483648 by omega), zcl (show 6 * m + Q k < 2147483648 by omega), zcl (show 6 * m + X k < 2147483648 by omega), zcl (show 6 * m + Y k < 2147483648 by omega), hM1 _ r.1, e1, g1 _ r.2.1, e2, g2 _ r.2.2.1, nI_1, g3 _ r.2.2.2, nI_1]
  · rw [upd_eq, if_neg (by omega), upd_eq, if_neg (by omega), upd_eq, if_neg (by omega), upd_eq, if_neg (by omega)]
    exact hM2 t ht
theorem q_power {s : Nat} (hN : 20000 ≤ N) (hs : s < 6) : f_X7_power N (nI s) = some (nI (7 ^ (5 - s))) := by
  have L := loop_cnt (b := fun (w9 : Int32 × Int32) => f_X7_power_b4 N (nI s) w9.1 w9.2) (fun i => (nI (7 ^ i), nI (5 - i))) (nI (7 ^ (5 - s))) (5 - s)
    (fun i hi => by
      show f_X7_power_b4 N (nI s) (nI (7 ^ i)) (nI (5 - i)) = _
      have em : nI (5 - i) + (-1) = nI (5 - (i + 1)) := by
        have h1 : (5 - i) = (5 - (i + 1)) + 1 := by omega
        rw [h1]; exact pk_m1 _
      unfold f_X7_power_b4 nm
      rw [if_neg (by rw [zle (by omega) (by omega)]; omega), em, zl 7, zmul, ← Nat.pow_succ])
    (by
      show f_X7_power_b4 N (nI s) (nI (7 ^ (5 - s))) (nI (5 - (5 - s))) = _
      unfold f_X7_power_b4
      rw [if_pos (by rw [zle (by omega) (by omega)]; omega)]) N 0 (Nat.zero_le _) (by omega)
  unfold f_X7_power
  show bd1 (loopN _ N (nI (7 ^ 0), nI (5 - 0))) _ = _
  rw [L]; rfl
theorem cod_inc (C : Nat → Nat) {s : Nat} (hs : s < 6) : cod (inc C s) = cod C + 7 ^ (5 - s) := by
  rcases six hs with rfl | rfl | rfl | rfl | rfl | rfl <;> simp [cod, inc] <;> omega
theorem cod_dec {C : Nat → Nat} {s : Nat} (hs : s < 6) (h : 1 ≤ C s) : cod (dec C s) + 7 ^ (5 - s) = cod C := by
  rcases six hs with rfl | rfl | rfl | rfl | rfl | rfl <;> simp [cod, dec] <;> omega
theorem cod_nx {C : Nat → Nat} {p q x y : Nat} (hp : p < 6) (hq : q < 6) (hx : x < 6) (hy : y < 6) (h : cm C p q) : nI (cod C) - nI (7 ^ (5 - p)) - nI (7 ^ (5 - q)) + nI (7 ^ (5 - x)) + nI (7 ^ (5 - y)) = nI (cod (nx C p q x y)) := by
  have h1 := cm1 h
  have a := cod_dec hp h1.1
  have b := cod_dec hq h1.2
  rw [zsub (by omega), zsub (by omega), zadd, zadd]
  unfold nx
  rw [cod_inc _ hy, cod_inc _ hx]
  congr 1
  omega
theorem q_next (hN : 20000 ≤ N) (hn : n ≤ 6) (hB : RBd c P Q X Y twos outs pOf qOf xOf yOf) (h : JJ n m Cs D por confs near manyIn codeOf farOf) {i k : Nat} (hi : i < m) (hk : k < c) (hcm : cm (Cs i) (P k) (Q k)) (hch : ¬ (X k = P k ∧ Y k = Q k)) :
    ∃ (j m' : Nat) (Cs' : Nat → Nat → Nat) (D' : Nat → Nat) (por' confs' near' many' code' far' : Nat → Int32),
      f_X3_follow N (nI i) (nI (6 * P k + Q k)) (nI (6 * X k + Y k)) (nI m) por confs near = some (nI j, nI m', por', confs', near') ∧
      f_X7_nextOf N (nI i) (nI k) (nI m) pOf qOf xOf yOf manyIn codeOf farOf = some (nI j, nI m', many', code', far') ∧
      JJ n m' Cs' D' por' confs' near' many' code' far' ∧ j < m' ∧ m ≤ m' ∧ (∀ a, a < m → Cs' a = Cs a ∧ D' a = D a) ∧ (∀ a, m ≤ a → a < m' → a = j) := by
  have hm := h.1
  have r := hB.2.1 k hk
  have hc := hB.1
  obtain ⟨i1, i2, i3, i4, i5, i6, i7⟩ := h.2.1 i hi
  obtain ⟨m1, m2, m3, m4⟩ := hB.2.2.1 k hk
  have hCi : csum (Cs i) ≤ 6 := by rw [i1]; exact hn
  have hC : csum (nx (Cs i) (P k) (Q k) (X k) (Y k)) = n := by rw [csum_nx r.1 r.2.1 r.2.2.1 r.2.2.2 hcm, i1]
  have hmt : ¬ mt (Cs i) (P k) (Q k) = 0 := fun z => mt_cm.mp z hcm
  have hmt2 : mt (Cs i) (P k) (Q k) < 1000 := by
    have lp := cs_le hCi r.1
    have lq := cs_le hCi r.2.1
    unfold mt
    split
    · exact Nat.lt_of_le_of_lt (Nat.mul_le_mul lp (show Cs i (P k) - 1 ≤ 6 by omega)) (by omega)
    · exact Nat.lt_of_le_of_lt (Nat.mul_le_mul lp lq) (by omega)
  have F : f_X3_follow N (nI i) (nI (6 * P k + Q k)) (nI (6 * X k + Y k)) (nI m) por confs near = f_X3_place N (nI (pak (nx (Cs i) (P k) (Q k) (X k) (Y k)))) (nI (D i + 1)) (nI m) por confs near := by
    unfold f_X3_follow nm
    dsimp only
    rw [zcl (show i < 2147483648 by omega)]
    have hb : inb (nI i) 462 = true := zinb (by omega) (by omega)
    repeat rw [gd_t hb]
    rw [i3, if_neg (by rw [zeq (by omega) (by omega)]; omega), q_meetingsOf hCi r.1 r.2.1, i4, nI_1]
    simp only [bd1]
    rw [if_neg (by rw [zl 0, zeq (by omega) (by omega)]; exact hmt), q_behind hCi r.1 r.2.1 r.2.2.1 r.2.2.2 hcm]
    simp only [bd1]
    rw [gd_t hb]
    cases f_X3_place N (nI (pak (nx (Cs i) (P k) (Q k) (X k) (Y k)))) (nI (D i + 1)) (nI m) por confs near with
    | none => rfl
    | some z => rfl
  generalize hCn : nx (Cs i) (P k) (Q k) (X k) (Y k) = C at hC F
  rcases Nat.lt_or_ge m 462 with hlt | hge
  · obtain ⟨many, l1, l2, l3⟩ := q_laysNext (N := N) hN hB hi hlt hk hCi i7 hcm
    rw [hCn] at l2
    obtain ⟨t1, t2⟩ := q_takesOn (N := N) hN hn h (many := many) hC hlt l2 (D i + 1)
    have G : f_X7_nextOf N (nI i) (nI k) (nI m) pOf qOf xOf yOf manyIn codeOf farOf = bd4 (f_X7_takesOn N (nI (D i + 1)) (nI m) many codeOf farOf) (fun r_18 mListed_19 codeOf_20 farOf_21 => some (r_18, mListed_19, many, codeOf_20, farOf_21)) := by
      unfold f_X7_nextOf
      rw [if_neg (by rw [zl 462, zle (by omega) (by omega)]; omega), l1]
      simp only [bd1]
      rw [gd_t (zinb (show i < 462 by omega) (by omega)), zcl (show i < 2147483648 by omega), i6, nI_1]
    rcases q_place (N := N) hN hn h hC (D i + 1) with ⟨j, hj, e1, e2⟩ | ⟨hno, -, e2⟩
    · refine ⟨j, m, Cs, D, por, confs, near, many, codeOf, farOf, by rw [F, e2], by rw [G, t1 j hj e1]; rfl, JJ_many h l3, hj, Nat.le_refl _, fun a _ => ⟨rfl, rfl⟩, fun a h1 h2 => by omega⟩
    · refine ⟨m, m + 1, _, _, _, _, _, many, _, _, by rw [F, e2], by rw [G, t2 hno]; rfl, JJ_new hn h hC hlt hno l2 l3 (by omega), by omega, by omega, fun a ha => ?_, fun a h1 h2 => by omega⟩
      simp only [if_neg (show ¬ a = m by omega)]
      exact ⟨trivial, trivial⟩
  · have hm2 : m = 462 := by omega
    rcases q_place (N := N) hN hn h hC (D i + 1) with ⟨j, hj, e1, e2⟩ | ⟨-, hlt, -⟩
    · refine ⟨j, m, Cs, D, por, confs, near, manyIn, codeOf, farOf, by rw [F, e2], ?_, h, hj, Nat.le_refl _, fun a _ => ⟨rfl, rfl⟩, fun a h1 h2 => by omega⟩
      have hcl := cod_lt (C := C) (by rw [hC]; exact hn)
      have hcode : cod (Cs j) = cod C := (rk_cod_iff hn (h.2.1 j hj).1 hC).mp e1
      have B : ∀ a, a < m → f_X7_nextOf_b79 N (nI (cod C)) (nI m) pOf qOf xOf yOf manyIn codeOf farOf (nI a) = if cod (Cs a) = cod C then some (.inr (nI a)) else some (.inl (nI (a + 1))) := by
        intro a ha
        have hca := cod_lt (C := Cs a) (by rw [(h.2.1 a ha).1]; exact hn)
        unfold f_X7_nextOf_b79 nm
        rw [gd_t (zinb (show a < 462 by omega) (by omega)), zcl (show a < 2147483648 by omega), (h.2.1 a ha).2.2.2.2.1, nI_1]
        by_cases q : cod (Cs a) = cod C
        · rw [if_pos (by rw [q]), if_pos q]
        · rw [if_neg (by rw [zeq (by omega) (by omega)]; exact q), if_neg q]
      have L := loop_cnt (b := fun (w9 : Int32) => f_X7_nextOf_b79 N (nI (cod C)) (nI m) pOf qOf xOf yOf manyIn codeOf farOf w9) (fun a => nI a) (nI j) j (fun a ha => by
        rw [B a (by omega), if_neg (fun z => ?_)]
        have := h.2.2.1 a j (by omega) hj ((rk_cod_iff hn (h.2.1 a (by omega)).1 (h.2.1 j hj).1).mpr (z.trans hcode.symm))
        omega) (by rw [B j hj, if_pos hcode]) N 0 (Nat.zero_le _) (by omega)
      have hb : inb (nI k) 13 = true := zinb (by omega) (by omega)
      unfold f_X7_nextOf nm
      rw [if_pos (by rw [zl 462, zle (by omega) (by omega)]; exact hge), gd_t (zinb (show i < 462 by omega) (by omega)), zcl (show i < 2147483648 by omega), zcl (show k < 2147483648 by omega), m1, m2, m3, m4, q_power hN r.1, q_power hN r.2.1, q_power hN r.2.2.1, q_power hN r.2.2.2, i5]
      simp only [bd1]
      repeat rw [gd_t hb]
      rw [cod_nx r.1 r.2.1 r.2.2.1 r.2.2.2 hcm, hCn]
      show bd1 (loopN _ N (nI 0)) _ = _
      rw [L]; rfl
    · omega
end B2
