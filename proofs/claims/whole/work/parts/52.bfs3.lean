/-! ===== the listing, whole ===== -/
theorem loop2x {σ ε τ φ : Type} {b1 : σ → Option (σ ⊕ ε)} {b2 : τ → Option (τ ⊕ φ)} (I : Nat → σ → τ → Prop) (E : ε → φ → Prop) (m : Nat)
    (hs : ∀ i x y, i < m → I i x y → (∃ x' y', b1 x = some (.inl x') ∧ b2 y = some (.inl y') ∧ I (i + 1) x' y') ∨ (∃ e f, b1 x = some (.inr e) ∧ b2 y = some (.inr f) ∧ E e f))
    (he : ∀ x y, ¬ I m x y) : ∀ (n i : Nat) (x : σ) (y : τ), i ≤ m → m - i < n → I i x y → ∃ e f, loopN b1 n x = some e ∧ loopN b2 n y = some f ∧ E e f := by
  intro n
  induction n with
  | zero => intro i x y _ h; omega
  | succ n ih =>
    intro i x y hi hn hI
    rcases Nat.lt_or_ge i m with q | q
    · rcases hs i x y q hI with ⟨x', y', h1, h2, h3⟩ | ⟨e, f, h1, h2, h3⟩
      · obtain ⟨e, f, h4, h5, h6⟩ := ih (i + 1) x' y' (by omega) (by omega) h3
        exact ⟨e, f, by rw [loopN_l n h1]; exact h4, by rw [loopN_l n h2]; exact h5, h6⟩
      · exact ⟨e, f, loopN_r n h1, loopN_r n h2, h3⟩
    · have e1 : i = m := by omega
      subst e1
      exact absurd hI (he x y)
def lc : Option Nat → Int32
  | none => -1
  | some j => nI j
def lr : Option Nat → Int32
  | none => -9
  | some j => nI j
def BF (n c I K m : Nat) (Cs : Nat → Nat → Nat) (D : Nat → Nat) (L : Nat → Nat → Option Nat) (por confs near leads manyIn codeOf farOf leadsTo : Nat → Int32) : Prop :=
  JJ n m Cs D por confs near manyIn codeOf farOf ∧ 1 ≤ m ∧
  (∀ i k, k < c → (i < I ∨ (i = I ∧ k < K)) → leads (12 * i + k) = lc (L i k) ∧ leadsTo (12 * i + k) = lr (L i k) ∧ ∀ j, L i k = some j → j < m) ∧
  (∀ j, 0 < j → j < m → ∃ i k, i < j ∧ k < c ∧ (i < I ∨ (i = I ∧ k < K)) ∧ L i k = some j)
section B3
variable {N n m c : Nat} {P Q X Y : Nat → Nat} {Cs : Nat → Nat → Nat} {D : Nat → Nat} {L : Nat → Nat → Option Nat} {twos outs pOf qOf xOf yOf por confs near leads manyIn codeOf farOf leadsTo : Nat → Int32}
theorem BF_step {I K m' : Nat} {Cs' : Nat → Nat → Nat} {D' : Nat → Nat} {por' confs' near' many' code' far' : Nat → Int32} {v : Option Nat} (hc : c ≤ 12) (hK : K < c) (hI : I < m) (h : BF n c I K m Cs D L por confs near leads manyIn codeOf farOf leadsTo)
    (h' : JJ n m' Cs' D' por' confs' near' many' code' far') (hm : m ≤ m') (hv : ∀ j, v = some j → j < m') (hnew : ∀ a, m ≤ a → a < m' → v = some a) :
    BF n c I (K + 1) m' Cs' D' (fun a b => if a = I ∧ b = K then v else L a b) por' confs' near' (upd leads (12 * I + K) (lc v)) many' code' far' (upd leadsTo (12 * I + K) (lr v)) := by
  obtain ⟨-, h1, h2, h3⟩ := h
  refine ⟨h', by omega, fun i k hk hp => ?_, fun j hj0 hj => ?_⟩
  · rw [upd_eq, upd_eq]
    by_cases e : i = I ∧ k = K
    · rw [if_pos (by rw [e.1, e.2]), if_pos (by rw [e.1, e.2])]
      simp only [if_pos e]
      exact ⟨trivial, trivial, hv⟩
    · have hne : ¬ 12 * i + k = 12 * I + K := by omega
      rw [if_neg hne, if_neg hne]
      simp only [if_neg e]
      obtain ⟨a1, a2, a3⟩ := h2 i k hk (by omega)
      exact ⟨a1, a2, fun j hj => Nat.lt_of_lt_of_le (a3 j hj) hm⟩
  · rcases Nat.lt_or_ge j m with q | q
    · obtain ⟨i, k, g1, g2, g3, g4⟩ := h3 j hj0 q
      refine ⟨i, k, g1, g2, by omega, ?_⟩
      have e : ¬ (i = I ∧ k = K) := by omega
      simp only [if_neg e]
      exact g4
    · refine ⟨I, K, by omega, hK, by omega, ?_⟩
      simp only [and_self, if_true]
      exact hnew j q hj
theorem BF_row {I : Nat} (h : BF n c I c m Cs D L por confs near leads manyIn codeOf farOf leadsTo) : BF n c (I + 1) 0 m Cs D L por confs near leads manyIn codeOf farOf leadsTo := by
  obtain ⟨h0, h1, h2, h3⟩ := h
  refine ⟨h0, h1, fun i k hk hp => h2 i k hk (by omega), fun j hj0 hj => ?_⟩
  obtain ⟨i, k, g1, g2, g3, g4⟩ := h3 j hj0 hj
  exact ⟨i, k, g1, g2, by omega, g4⟩
theorem q_inner (hN : 20000 ≤ N) (hn : n ≤ 6) (hB : RBd c P Q X Y twos outs pOf qOf xOf yOf) {I K : Nat} (hK : K < c) (hI : I < m) (h : BF n c I K m Cs D L por confs near leads manyIn codeOf farOf leadsTo) (bC : Int32) (toldBy answerOf : Nat → Int32) :
    ∃ (m' : Nat) (Cs' : Nat → Nat → Nat) (D' : Nat → Nat) (L' : Nat → Nat → Option Nat) (por' confs' near' leads' many' code' far' leadsTo' : Nat → Int32),
      f_X3_explore_b48 N (nI I) bC (nI c) twos outs (nI K) (nI m) por confs near leads = some (.inl (nI (K + 1), nI m', por', confs', near', leads')) ∧
      f_X7_findReached_b23 N (nI I) (nI c) pOf qOf xOf yOf toldBy answerOf (nI K) (nI m) manyIn codeOf farOf leadsTo = some (.inl (nI (K + 1), nI m', many', code', far', leadsTo')) ∧
      m ≤ m' ∧ (∀ a, a < m → Cs' a = Cs a) ∧ BF n c I (K + 1) m' Cs' D' L' por' confs' near' leads' many' code' far' leadsTo' := by
  have hc := hB.1
  have hJ := h.1
  have hm := hJ.1
  have r := hB.2.1 K hK
  obtain ⟨m1, m2, m3, m4⟩ := hB.2.2.1 K hK
  obtain ⟨i1, i2, i3, i4, i5, i6, i7⟩ := hJ.2.1 I hI
  have hCi : csum (Cs I) ≤ 6 := by rw [i1]; exact hn
  have z1 : nI I * 12 + nI K = nI (12 * I + K) := by rw [zl 12, zmul, zadd, Nat.mul_comm]
  have z2 : 12 * nI I + nI K = nI (12 * I + K) := by rw [zl 12, zmul, zadd]
  have b1 : inb (nI (12 * I + K)) 5544 = true := zinb (by omega) (by omega)
  have A : f_X3_explore_b48 N (nI I) bC (nI c) twos outs (nI K) (nI m) por confs near leads = bd5 (f_X3_follow N (nI I) (nI (6 * P K + Q K)) (nI (6 * X K + Y K)) (nI m) por confs near) (fun r_12 rCount_13 por_14 confs_15 near_16 => some (Sum.inl (nI (K + 1), rCount_13, por_14, confs_15, near_16, upd leads (12 * I + K) r_12))) := by
    unfold f_X3_explore_b48 nm
    rw [if_neg (by rw [zle (by omega) (by omega)]; omega), q_twoAt hB hK, q_outcomeAt hB hK, z1, zcl (show 12 * I + K < 2147483648 by omega), nI_1]
    simp only [bd1]
    congr 1
    funext a1 a2 a3 a4 a5
    rw [gd_t b1]
  have J : ∀ (v m9 : Int32) (a b d : Nat → Int32), f_X7_findReached_j69 N (nI I) (nI K) v (nI c) m9 pOf qOf xOf yOf toldBy a b d leadsTo answerOf = some (.inl (nI (K + 1), m9, a, b, d, upd leadsTo (12 * I + K) v)) := by
    intro v m9 a b d
    unfold f_X7_findReached_j69 nm
    rw [z2, gd_t b1, zcl (show 12 * I + K < 2147483648 by omega), nI_1]
  have hk13 : inb (nI K) 13 = true := zinb (by omega) (by omega)
  obtain ⟨cm1', cm0⟩ := q_canMeet (N := N) (manyIn := manyIn) (i := I) (by omega) r.1 r.2.1 hCi i7
  have B : f_X7_findReached_b23 N (nI I) (nI c) pOf qOf xOf yOf toldBy answerOf (nI K) (nI m) manyIn codeOf farOf leadsTo = (if (if X K = P K ∧ Y K = Q K then (0 : Int32) else 1) = 0 then some (.inl (nI (K + 1), nI m, manyIn, codeOf, farOf, upd leadsTo (12 * I + K) (-9))) else bd1 (f_X7_canMeet N (nI I) (nI (P K)) (nI (Q K)) manyIn) (fun r_14 => (if r_14 = 0 then some (.inl (nI (K + 1), nI m, manyIn, codeOf, farOf, upd leadsTo (12 * I + K) (-9))) else bd5 (f_X7_nextOf N (nI I) (nI K) (nI m) pOf qOf xOf yOf manyIn codeOf farOf) (fun r_16 mListed_17 manyIn_18 codeOf_19 farOf_20 => some (.inl (nI (K + 1), mListed_17, manyIn_18, codeOf_19, farOf_20, upd leadsTo (12 * I + K) r_16)))))) := by
    unfold f_X7_findReached_b23
    rw [if_neg (by rw [zle (by omega) (by omega)]; omega), q_isChange hB hK]
    simp only [bd1, J]
    repeat rw [gd_t hk13]
    rw [zcl (show K < 2147483648 by omega), m1, m2]
  have none_case : f_X3_follow N (nI I) (nI (6 * P K + Q K)) (nI (6 * X K + Y K)) (nI m) por confs near = some (-1, nI m, por, confs, near) → f_X7_findReached_b23 N (nI I) (nI c) pOf qOf xOf yOf toldBy answerOf (nI K) (nI m) manyIn codeOf farOf leadsTo = some (.inl (nI (K + 1), nI m, manyIn, codeOf, farOf, upd leadsTo (12 * I + K) (-9))) → ∃ (m' : Nat) (Cs' : Nat → Nat → Nat) (D' : Nat → Nat) (L' : Nat → Nat → Option Nat) (por' confs' near' leads' many' code' far' leadsTo' : Nat → Int32),
      f_X3_explore_b48 N (nI I) bC (nI c) twos outs (nI K) (nI m) por confs near leads = some (.inl (nI (K + 1), nI m', por', confs', near', leads')) ∧
      f_X7_findReached_b23 N (nI I) (nI c) pOf qOf xOf yOf toldBy answerOf (nI K) (nI m) manyIn codeOf farOf leadsTo = some (.inl (nI (K + 1), nI m', many', code', far', leadsTo')) ∧
      m ≤ m' ∧ (∀ a, a < m → Cs' a = Cs a) ∧ BF n c I (K + 1) m' Cs' D' L' por' confs' near' leads' many' code' far' leadsTo' := by
    intro g1 g2
    refine ⟨m, Cs, D, _, por, confs, near, _, manyIn, codeOf, farOf, _, by rw [A, g1]; rfl, g2, Nat.le_refl _, fun _ _ => rfl, BF_step (v := none) hc hK hI h hJ (Nat.le_refl _) (fun j hj => by cases hj) (fun a h1 h2 => by omega)⟩
  have hb : inb (nI I) 462 = true := zinb (by omega) (by omega)
  by_cases hch : X K = P K ∧ Y K = Q K
  · refine none_case ?_ ?_
    · unfold f_X3_follow nm
      dsimp only
      rw [gd_t hb, if_pos (by rw [hch.1, hch.2])]
    · rw [B, if_pos hch, if_pos rfl]
  · rw [if_neg hch] at B
    by_cases hcm : cm (Cs I) (P K) (Q K)
    · obtain ⟨j, m', Cs', D', por', confs', near', many', code', far', g1, g2, g3, g4, g5, g6, g7⟩ := q_next hN hn hB hJ hI hK hcm hch
      refine ⟨m', Cs', D', _, por', confs', near', _, many', code', far', _, by rw [A, g1]; rfl, ?_, g5, fun a ha => (g6 a ha).1, BF_step (v := some j) hc hK hI h g3 g5 (fun a ha => by cases ha; exact g4) (fun a h1 h2 => by rw [g7 a h1 h2])⟩
      rw [B, if_neg (by decide), cm1' hcm]
      simp only [bd1]
      rw [if_neg (by decide), g2]
      rfl
    · refine none_case ?_ ?_
      · have hne : ¬ nI (6 * P K + Q K) = nI (6 * X K + Y K) := by rw [zeq (by omega) (by omega)]; omega
        unfold f_X3_follow nm
        dsimp only
        rw [gd_t hb, zcl (show I < 2147483648 by omega), i3, if_neg hne, q_meetingsOf hCi r.1 r.2.1, mt_cm.mpr hcm]
        rfl
      · rw [B, if_neg (by decide), cm0 hcm]
        simp only [bd1]
        rw [if_pos trivial]
/-- what stands at the end -/
def GG (n c m : Nat) (Cs : Nat → Nat → Nat) (D : Nat → Nat) (L : Nat → Nat → Option Nat) (confs near leads manyIn farOf leadsTo : Nat → Int32) : Prop :=
  1 ≤ m ∧ m ≤ 462 ∧ (∀ i, i < m → csum (Cs i) = n ∧ D i ≤ i ∧ confs i = nI (pak (Cs i)) ∧ near i = nI (D i) ∧ farOf i = nI (D i) ∧ ∀ s, s < 6 → manyIn (6 * i + s) = nI (Cs i s)) ∧
  (∀ i k, i < m → k < c → leads (12 * i + k) = lc (L i k) ∧ leadsTo (12 * i + k) = lr (L i k) ∧ ∀ j, L i k = some j → j < m) ∧
  (∀ j, 0 < j → j < m → ∃ i k, i < j ∧ k < c ∧ L i k = some j)
theorem q_bfs (hN : 20000 ≤ N) (hn : n ≤ 6) (hB : RBd c P Q X Y twos outs pOf qOf xOf yOf) {C : Nat → Nat} (hC : csum C = n) (hrow : ∀ s, s < 6 → manyIn s = nI (C s)) (rR rC mL : Int32) (toldBy answerOf : Nat → Int32) :
    ∃ (m : Nat) (Cs : Nat → Nat → Nat) (D : Nat → Nat) (L : Nat → Nat → Option Nat) (por' confs' near' leads' many' code' far' leadsTo' : Nat → Int32),
      f_X3_explore N (nI (pak C)) (nI c) rR rC twos outs por confs near leads = some (nI c, nI m, por', confs', near', leads') ∧
      f_X7_findReached N (nI c) mL pOf qOf xOf yOf toldBy manyIn codeOf farOf leadsTo answerOf = bd1 (f_X7_findStable N (nI c) (nI m) toldBy many' leadsTo' answerOf) (fun a => some (nI m, many', code', far', leadsTo', a)) ∧
      GG n c m Cs D L confs' near' leads' many' far' leadsTo' ∧ Cs 0 = C := by
  have hc := hB.1
  obtain ⟨por1, f1, f2⟩ := q_fill (N := N) (n := 462) (by omega) (by omega) (-1) por
  have J0 : JJ n 0 (fun _ => C) (fun _ => 0) por1 confs near manyIn codeOf farOf := ⟨by omega, fun i hi => absurd hi (Nat.not_lt_zero i), fun i j hi => absurd hi (Nat.not_lt_zero i), fun r hr => Or.inr ⟨fun i hi => absurd hi (Nat.not_lt_zero i), f2 r hr⟩⟩
  have hno : ∀ i, i < 0 → rk C ≠ rk C := fun i hi => absurd hi (Nat.not_lt_zero i)
  have hrow0 : ∀ s, s < 6 → manyIn (6 * 0 + s) = nI (C s) := fun s hs => by rw [Nat.mul_zero, Nat.zero_add]; exact hrow s hs
  have pl : f_X3_place N (nI (pak C)) (nI 0) (nI 0) por1 confs near = some (nI 0, nI (0 + 1), upd por1 (rk C) (nI 0), upd confs 0 (nI (pak C)), upd near 0 (nI 0)) := by
    rcases q_place (N := N) hN hn J0 hC 0 with ⟨j, hj, -⟩ | ⟨-, -, e⟩
    · exact absurd hj (Nat.not_lt_zero j)
    · exact e
  have tk : f_X7_takesOn N (nI 0) (nI 0) manyIn codeOf farOf = some (nI 0, nI (0 + 1), upd codeOf 0 (nI (cod C)), upd farOf 0 (nI 0)) := (q_takesOn (N := N) hN hn J0 (many := manyIn) hC (by omega) hrow0 0).2 hno
  have J1 := JJ_new hn J0 (many := manyIn) hC (by omega) hno hrow0 (fun t _ => rfl) (d := 0) (by omega)
  have B0 : BF n c 0 0 (0 + 1) (fun i => if i = 0 then C else C) (fun i => if i = 0 then 0 else 0) (fun _ _ => none) (upd por1 (rk C) (nI 0)) (upd confs 0 (nI (pak C))) (upd near 0 (nI 0)) leads manyIn (upd codeOf 0 (nI (cod C))) (upd farOf 0 (nI 0)) leadsTo := ⟨J1, by omega, fun i k hk hp => by omega, fun j h0 h1 => by omega⟩
  have inner : ∀ (I m : Nat) (Cs : Nat → Nat → Nat) (D : Nat → Nat) (L : Nat → Nat → Option Nat) (por confs near leads manyIn codeOf farOf leadsTo : Nat → Int32), I < m → Cs 0 = C → BF n c I 0 m Cs D L por confs near leads manyIn codeOf farOf leadsTo →
      ∃ e f, loopN (fun (w9 : Int32 × Int32 × (Nat → Int32) × (Nat → Int32) × (Nat → Int32) × (Nat → Int32)) => f_X3_explore_b48 N (nI I) (nI c) (nI c) twos outs w9.1 w9.2.1 w9.2.2.1 w9.2.2.2.1 w9.2.2.2.2.1 w9.2.2.2.2.2) N (0, nI m, por, confs, near, leads) = some e ∧ loopN (fun (w9 : Int32 × Int32 × (Nat → Int32) × (Nat → Int32) × (Nat → Int32) × (Nat → Int32)) => f_X7_findReached_b23 N (nI I) (nI c) pOf qOf xOf yOf toldBy answerOf w9.1 w9.2.1 w9.2.2.1 w9.2.2.2.1 w9.2.2.2.2.1 w9.2.2.2.2.2) N (0, nI m, manyIn, codeOf, farOf, leadsTo) = some f ∧
        ∃ (m' : Nat) (Cs' : Nat → Nat → Nat) (D' : Nat → Nat) (L' : Nat → Nat → Option Nat), m ≤ m' ∧ Cs' 0 = C ∧ e.1 = nI m' ∧ f.1 = nI m' ∧ BF n c (I + 1) 0 m' Cs' D' L' e.2.1 e.2.2.1 e.2.2.2.1 e.2.2.2.2 f.2.1 f.2.2.1 f.2.2.2.1 f.2.2.2.2 := by
    intro I m Cs D L por confs near leads manyIn codeOf farOf leadsTo hI hC0 hBF
    refine loop2 (b1 := fun (w9 : Int32 × Int32 × (Nat → Int32) × (Nat → Int32) × (Nat → Int32) × (Nat → Int32)) => f_X3_explore_b48 N (nI I) (nI c) (nI c) twos outs w9.1 w9.2.1 w9.2.2.1 w9.2.2.2.1 w9.2.2.2.2.1 w9.2.2.2.2.2) (b2 := fun (w9 : Int32 × Int32 × (Nat → Int32) × (Nat → Int32) × (Nat → Int32) × (Nat → Int32)) => f_X7_findReached_b23 N (nI I) (nI c) pOf qOf xOf yOf toldBy answerOf w9.1 w9.2.1 w9.2.2.1 w9.2.2.2.1 w9.2.2.2.2.1 w9.2.2.2.2.2)
      (fun K x y => x.1 = nI K ∧ y.1 = nI K ∧ ∃ (m' : Nat) (Cs' : Nat → Nat → Nat) (D' : Nat → Nat) (L' : Nat → Nat → Option Nat), m ≤ m' ∧ Cs' 0 = C ∧ x.2.1 = nI m' ∧ y.2.1 = nI m' ∧ BF n c I K m' Cs' D' L' x.2.2.1 x.2.2.2.1 x.2.2.2.2.1 x.2.2.2.2.2 y.2.2.1 y.2.2.2.1 y.2.2.2.2.1 y.2.2.2.2.2) _ c (fun K x y hK hI2 => ?_) (fun x y hI2 => ?_) N 0 _ _ (Nat.zero_le _) (by omega) ⟨rfl, rfl, m, Cs, D, L, Nat.le_refl _, hC0, rfl, rfl, hBF⟩
    · obtain ⟨x1, x2, x3, x4, x5, x6⟩ := x
      obtain ⟨y1, y2, y3, y4, y5, y6⟩ := y
      obtain ⟨e1, e2, m', Cs', D', L', hmm, hC1, e3, e4, hb⟩ := hI2
      dsimp only at e1 e2 e3 e4 hb
      subst e1; subst e2; subst e3; subst e4
      obtain ⟨m2, Cs2, D2, L2, a1, a2, a3, a4, a5, a6, a7, a8, g1, g2, g3, g4, g5⟩ := q_inner hN hn hB hK (show I < m' by omega) hb (nI c) toldBy answerOf
      exact ⟨_, _, g1, g2, rfl, rfl, m2, Cs2, D2, L2, by omega, (g4 0 (by omega)).trans hC1, rfl, rfl, g5⟩
    · obtain ⟨x1, x2, x3, x4, x5, x6⟩ := x
      obtain ⟨y1, y2, y3, y4, y5, y6⟩ := y
      obtain ⟨e1, e2, m', Cs', D', L', hmm, hC1, e3, e4, hb⟩ := hI2
      dsimp only at e1 e2 e3 e4 hb
      subst e1; subst e2; subst e3; subst e4
      refine ⟨(nI m', x3, x4, x5, x6), (nI m', y3, y4, y5, y6), ?_, ?_, m', Cs', D', L', hmm, hC1, rfl, rfl, BF_row hb⟩
      · show f_X3_explore_b48 N (nI I) (nI c) (nI c) twos outs (nI c) (nI m') x3 x4 x5 x6 = _
        unfold f_X3_explore_b48
        rw [if_pos (Int32.le_refl _)]
      · show f_X7_findReached_b23 N (nI I) (nI c) pOf qOf xOf yOf toldBy answerOf (nI c) (nI m') y3 y4 y5 y6 = _
        unfold f_X7_findReached_b23
        rw [if_pos (Int32.le_refl _)]
  obtain ⟨e, f, o1, o2, m, Cs, D, L, hm1, hCs, e1, e2, hBF⟩ := loop2x (b1 := fun (w9 : Int32 × Int32 × (Nat → Int32) × (Nat → Int32) × (Nat → Int32) × (Nat → Int32)) => f_X3_explore_b30 N (nI c) (nI c) twos outs w9.1 w9.2.1 w9.2.2.1 w9.2.2.2.1 w9.2.2.2.2.1 w9.2.2.2.2.2) (b2 := fun (w9 : Int32 × Int32 × (Nat → Int32) × (Nat → Int32) × (Nat → Int32) × (Nat → Int32)) => f_X7_findReached_b13 N (nI c) pOf qOf xOf yOf toldBy answerOf w9.1 w9.2.1 w9.2.2.1 w9.2.2.2.1 w9.2.2.2.2.1 w9.2.2.2.2.2)
    (fun I x y => x.1 = nI I ∧ y.1 = nI I ∧ ∃ (m : Nat) (Cs : Nat → Nat → Nat) (D : Nat → Nat) (L : Nat → Nat → Option Nat), I ≤ m ∧ Cs 0 = C ∧ x.2.1 = nI m ∧ y.2.1 = nI m ∧ BF n c I 0 m Cs D L x.2.2.1 x.2.2.2.1 x.2.2.2.2.1 x.2.2.2.2.2 y.2.2.1 y.2.2.2.1 y.2.2.2.2.1 y.2.2.2.2.2)
    (fun e f => ∃ (m : Nat) (Cs : Nat → Nat → Nat) (D : Nat → Nat) (L : Nat → Nat → Option Nat), 1 ≤ m ∧ Cs 0 = C ∧ e.1 = nI m ∧ f.1 = nI m ∧ BF n c m 0 m Cs D L e.2.1 e.2.2.1 e.2.2.2.1 e.2.2.2.2 f.2.1 f.2.2.1 f.2.2.2.1 f.2.2.2.2) 463
    (fun I x y hI hI2 => by
      obtain ⟨x1, x2, x3, x4, x5, x6⟩ := x
      obtain ⟨y1, y2, y3, y4, y5, y6⟩ := y
      obtain ⟨e1, e2, m, Cs, D, L, hIm, hC1, e3, e4, hb⟩ := hI2
      dsimp only at e1 e2 e3 e4 hb
      subst e1; subst e2; subst e3; subst e4
      have hm462 := hb.1.1
      by_cases q : m ≤ I
      · have : I = m := by omega
        subst this
        refine Or.inr ⟨(nI I, x3, x4, x5, x6), (nI I, y3, y4, y5, y6), ?_, ?_, I, Cs, D, L, hb.2.1, hC1, rfl, rfl, hb⟩
        · show f_X3_explore_b30 N (nI c) (nI c) twos outs (nI I) (nI I) x3 x4 x5 x6 = _
          unfold f_X3_explore_b30
          rw [if_pos (Int32.le_refl _)]
        · show f_X7_findReached_b13 N (nI c) pOf qOf xOf yOf toldBy answerOf (nI I) (nI I) y3 y4 y5 y6 = _
          unfold f_X7_findReached_b13
          rw [if_pos (Int32.le_refl _)]
      · obtain ⟨⟨a1, a2, a3, a4, a5⟩, ⟨b1, b2, b3, b4, b5⟩, g1, g2, m', Cs', D', L', g3, g4, g5, g6, g7⟩ := inner I m Cs D L x3 x4 x5 x6 y3 y4 y5 y6 (by omega) hC1 hb
        dsimp only at g5 g6 g7
        subst g5; subst g6
        refine Or.inl ⟨(nI (I + 1), nI m', a2, a3, a4, a5), (nI (I + 1), nI m', b2, b3, b4, b5), ?_, ?_, rfl, rfl, m', Cs', D', L', by omega, g4, rfl, rfl, g7⟩
        · show f_X3_explore_b30 N (nI c) (nI c) twos outs (nI I) (nI m) x3 x4 x5 x6 = _
          unfold f_X3_explore_b30 nm
          rw [if_neg (by rw [zle (by omega) (by omega)]; exact q), if_neg (by rw [zl 462, zle (by omega) (by omega)]; omega), g1, nI_1]
          rfl
        · show f_X7_findReached_b13 N (nI c) pOf qOf xOf yOf toldBy answerOf (nI I) (nI m) y3 y4 y5 y6 = _
          unfold f_X7_findReached_b13 nm
          rw [if_neg (by rw [zle (by omega) (by omega)]; exact q), g2, nI_1]
          rfl)
    (fun x y hI2 => by
      obtain ⟨x1, x2, x3, x4, x5, x6⟩ := x
      obtain ⟨y1, y2, y3, y4, y5, y6⟩ := y
      obtain ⟨-, -, m, Cs, D, L, hIm, -, -, -, hb⟩ := hI2
      have := hb.1.1
      omega) N 0 (0, nI (0 + 1), upd por1 (rk C) (nI 0), upd confs 0 (nI (pak C)), upd near 0 (nI 0), leads) (0, nI (0 + 1), manyIn, upd codeOf 0 (nI (cod C)), upd farOf 0 (nI 0), leadsTo) (Nat.zero_le _) (by omega)
    ⟨rfl, rfl, 0 + 1, _, _, _, by omega, by simp, rfl, rfl, B0⟩
  obtain ⟨a1, a2, a3, a4, a5⟩ := e
  obtain ⟨b1, b2, b3, b4, b5⟩ := f
  dsimp only at e1 e2 hBF
  subst e1; subst e2
  refine ⟨m, Cs, D, L, a2, a3, a4, a5, b2, b3, b4, b5, ?_, ?_, ⟨hm1, hBF.1.1, fun i hi => ?_, fun i k hi hk => hBF.2.2.1 i k hk (Or.inl hi), fun j h0 h1 => ?_⟩, hCs⟩
  · unfold f_X3_explore
    rw [f1]
    show bd5 (f_X3_place N (nI (pak C)) (nI 0) (nI 0) por1 confs near) _ = _
    rw [pl]
    show bd5 (loopN _ N (0, nI (0 + 1), _, _, _, _)) _ = _
    rw [o1]; rfl
  · unfold f_X7_findReached
    show bd4 (f_X7_takesOn N (nI 0) (nI 0) manyIn codeOf farOf) _ = _
    rw [tk]
    show bd5 (loopN _ N (0, nI (0 + 1), _, _, _, _)) _ = _
    rw [o2]; rfl
  · obtain ⟨i1, i2, i3, i4, i5, i6, i7⟩ := hBF.1.2.1 i hi
    exact ⟨i1, i2, i3, i4, i6, i7⟩
  · obtain ⟨i, k, g1, g2, -, g4⟩ := hBF.2.2.2 j h0 h1
    exact ⟨i, k, g1, g2, g4⟩
end B3
