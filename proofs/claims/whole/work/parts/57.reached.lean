/-! ===== reached, answer, soonest ===== -/
theorem ct_true (m : Nat) : ct (fun _ => true) m = m := by
  induction m with
  | zero => rfl
  | succ m ih => rw [ct, ih, if_pos (by decide)]
theorem loop2e {σ ε τ φ : Type} {b1 : σ → Option (σ ⊕ ε)} {b2 : τ → Option (τ ⊕ φ)} (I : Nat → σ → τ → Prop) (E : ε → φ → Prop) (m : Nat)
    (hs : ∀ i x y, i < m → I i x y → (∃ x' y', b1 x = some (.inl x') ∧ b2 y = some (.inl y') ∧ I (i + 1) x' y') ∨ (∃ e f, b1 x = some (.inr e) ∧ b2 y = some (.inr f) ∧ E e f))
    (he : ∀ x y, I m x y → ∃ e f, b1 x = some (.inr e) ∧ b2 y = some (.inr f) ∧ E e f) : ∀ (n i : Nat) (x : σ) (y : τ), i ≤ m → m - i < n → I i x y → ∃ e f, loopN b1 n x = some e ∧ loopN b2 n y = some f ∧ E e f := by
  intro n
  induction n with
  | zero => intro i x y _ h; omega
  | succ n ih =>
    intro i x y hi hn hI
    rcases Nat.lt_or_ge i m with q | q
    · rcases hs i x y q hI with ⟨x', y', h1, h2, h3⟩ | ⟨e, f, h1, h2, h3⟩
      · obtain ⟨e, f, h4, h5, h6⟩ := ih (i + 1) x' y' (by omega) (by omega) h3
        exact ⟨e, f, by rw [loopN_l n h1]; exact h4, by rw [loopN_l n h2]; exact h5, h6⟩
      · exact ⟨e, f, loopN_r n h1, loopN_r n h2, h3⟩
    · have e1 : i = m := by omega
      subst e1
      obtain ⟨e, f, h1, h2, h3⟩ := he x y hI
      exact ⟨e, f, loopN_r n h1, loopN_r n h2, h3⟩
section RC
variable {N n m c : Nat} {T : Nat → Nat} {Cs : Nat → Nat → Nat} {D : Nat → Nat} {L : Nat → Nat → Option Nat} {A : Nat → Option Nat} {toldBy pOf qOf xOf yOf stateOf confs near leads agrees answers manyIn codeOf farOf leadsTo answerOf : Nat → Int32} {mA : Int32}
theorem j91_0 {x1 mR mL : Int32} {a i : Nat} : f_X7_reached_j91 N x1 (nI a) (nI i) 0 mR mA mL pOf qOf xOf yOf toldBy stateOf manyIn codeOf farOf leadsTo answerOf = some (.inl (nI (a + 0), nI (i + 1))) := by
  unfold f_X7_reached_j91 nm
  rw [if_pos (by decide), zl 0, zadd, nI_1]
theorem j91_1 {x1 mR mL : Int32} {a i : Nat} : f_X7_reached_j91 N x1 (nI a) (nI i) 1 mR mA mL pOf qOf xOf yOf toldBy stateOf manyIn codeOf farOf leadsTo answerOf = some (.inl (nI (a + 1), nI (i + 1))) := by
  unfold f_X7_reached_j91 nm
  rw [if_neg (by decide), nI_1, nI_1]
theorem q_reach7 (hN : 20000 ≤ N) (hc : c ≤ 12) (hn : n ≤ 6) (hP : PP n c m T Cs D L A confs near leads agrees answers manyIn farOf leadsTo answerOf) (hT : ∀ s, s < 6 → T s ≤ 2 ∧ toldBy s = nI (T s)) {k : Nat} (hk : k ≤ 3) (p : Nat → Bool)
    (hp : ∀ i, i < m → (p i = true ↔ ((k = 0) ∨ (k = 1 ∧ ag (Cs i) T ≠ none) ∨ (k = 2 ∧ A i ≠ none) ∨ (k = 3 ∧ Sil c L i)))) :
    loopN (fun (w9 : Int32 × Int32) => f_X7_reached_b30 N (nI k) (nI c) mA (nI m) pOf qOf xOf yOf toldBy stateOf manyIn codeOf farOf leadsTo answerOf w9.1 w9.2) N (0, 0) = some (nI (ct p m)) := by
  obtain ⟨hG, h2, h3, h4, h5, h6⟩ := hP
  have hm := hG.2.1
  refine count (b := fun x y => f_X7_reached_b30 N (nI k) (nI c) mA (nI m) pOf qOf xOf yOf toldBy stateOf manyIn codeOf farOf leadsTo answerOf x y) p (by omega) (fun a i hi => ?_) (fun x => ?_)
  · have gi := hG.2.2.1 i hi
    have hpi := hp i hi
    have ha := h4 i hi
    have hg := h2 i hi
    have key : ∀ z : Bool, p i = z → some (Sum.inl (nI (a + if p i = true then 1 else 0), nI (i + 1))) = (some (Sum.inl (nI (a + if z = true then 1 else 0), nI (i + 1))) : Option ((Int32 × Int32) ⊕ Int32)) := by
      intro z e; rw [e]
    have b0 : ¬ nI m ≤ nI i := by rw [zle (by omega) (by omega)]; omega
    show f_X7_reached_b30 N (nI k) (nI c) mA (nI m) pOf qOf xOf yOf toldBy stateOf manyIn codeOf farOf leadsTo answerOf (nI a) (nI i) = _
    have J73 : k ≠ 3 → f_X7_reached_j73 N (nI k) (nI a) (nI i) (nI c) mA (nI m) pOf qOf xOf yOf toldBy stateOf manyIn codeOf farOf leadsTo answerOf = some (.inl (nI (a + 0), nI (i + 1))) := by
      intro h
      unfold f_X7_reached_j73
      rw [if_neg (by rw [zl 3, zeq (by omega) (by omega)]; exact h), j91_0]
    have J57 : k ≠ 2 → f_X7_reached_j57 N (nI k) (nI a) (nI i) (nI c) mA (nI m) pOf qOf xOf yOf toldBy stateOf manyIn codeOf farOf leadsTo answerOf = f_X7_reached_j73 N (nI k) (nI a) (nI i) (nI c) mA (nI m) pOf qOf xOf yOf toldBy stateOf manyIn codeOf farOf leadsTo answerOf := by
      intro h
      unfold f_X7_reached_j57
      rw [if_neg (by rw [zl 2, zeq (by omega) (by omega)]; exact h)]
    unfold f_X7_reached_b30
    rw [if_neg b0]
    by_cases q0 : k = 0
    · subst q0
      rw [if_pos (by decide), j91_1, key true (hpi.mpr (Or.inl rfl))]; rfl
    · rw [if_neg (by rw [zl 0, zeq (by omega) (by omega)]; exact q0)]
      by_cases q1 : k = 1
      · subst q1
        rw [if_pos (by decide), q_agree7 hN (by rw [gi.1]; exact hn) (by omega) gi.2.2.2.2.2 hT]
        simp only [bd1]
        by_cases e : ag (Cs i) T = none
        · rw [if_pos ((lr_none (le2_big hg.2)).mpr e), J57 (by omega), J73 (by omega), key false (by
            cases ep : p i
            · rfl
            · have := hpi.mp ep
              rcases this with h | h | h | h
              · omega
              · exact absurd e h.2
              · omega
              · omega)]
          rfl
        · rw [if_neg (fun z => e ((lr_none (le2_big hg.2)).mp z)), j91_1, key true (hpi.mpr (Or.inr (Or.inl ⟨rfl, e⟩)))]; rfl
      · rw [if_neg (by rw [zl 1, zeq (by omega) (by omega)]; exact q1)]
        by_cases q2 : k = 2
        · subst q2
          unfold f_X7_reached_j57
          rw [if_pos (by decide), gd_t (zinb (show i < 462 by omega) (by omega)), zcl (show i < 2147483648 by omega), ha.1]
          by_cases e : A i = none
          · rw [if_pos ((lr_none (le2_big ha.2)).mpr e), J73 (by omega), key false (by
              cases ep : p i
              · rfl
              · have := hpi.mp ep
                rcases this with h | h | h | h
                · omega
                · omega
                · exact absurd e h.2
                · omega)]
            rfl
          · rw [if_neg (fun z => e ((lr_none (le2_big ha.2)).mp z)), j91_1, key true (hpi.mpr (Or.inr (Or.inr (Or.inl ⟨rfl, e⟩))))]; rfl
        · have q3 : k = 3 := by omega
          subst q3
          rw [J57 (by omega)]
          unfold f_X7_reached_j73
          rw [if_pos (by decide)]
          rcases q_silent (N := N) hN hc hG hi with ⟨s1, -, s2⟩ | ⟨s1, -, s2⟩
          · rw [s2]
            simp only [bd1]
            rw [if_neg (by decide), j91_1, key true (hpi.mpr (Or.inr (Or.inr (Or.inr ⟨rfl, s1⟩))))]; rfl
          · rw [s2]
            simp only [bd1]
            rw [if_pos trivial, j91_0, key false (by
              cases ep : p i
              · rfl
              · have := hpi.mp ep
                rcases this with h | h | h | h
                · omega
                · omega
                · omega
                · exact absurd h.2 s1)]
            rfl
  · show f_X7_reached_b30 N (nI k) (nI c) mA (nI m) pOf qOf xOf yOf toldBy stateOf manyIn codeOf farOf leadsTo answerOf x (nI m) = _
    unfold f_X7_reached_b30
    rw [if_pos (Int32.le_refl _)]
theorem q_some6 (hN : 20000 ≤ N) {G : Nat → Option Nat} {g : Nat → Int32} (hm : m ≤ 462) (hg : ∀ i, i < m → g i = lr (G i) ∧ le2 (G i)) (p : Nat → Bool) (hp : ∀ i, i < m → (p i = true ↔ G i ≠ none)) :
    f_X3_howManyAgreed N (nI m) g = some (nI (ct p m)) ∧ f_X3_howManyStable N (nI m) g = some (nI (ct p m)) := by
  constructor
  · have := count (b := fun x y => f_X3_howManyAgreed_b4 N (nI m) g x y) p (N := N) (m := m) (by omega) (fun a i hi => by
      unfold f_X3_howManyAgreed_b4 nm
      dsimp only
      have gi := hg i hi
      rw [if_neg (by rw [zle (by omega) (by omega)]; omega), gd_t (zinb (show i < 462 by omega) (by omega)), zcl (show i < 2147483648 by omega), gi.1]
      by_cases e : G i = none
      · rw [if_pos ((lr_none (le2_big gi.2)).mpr e), if_neg (fun z => (hp i hi).mp z e), nI_1]; rfl
      · rw [if_neg (fun z => e ((lr_none (le2_big gi.2)).mp z)), if_pos ((hp i hi).mpr e), nI_1, nI_1]) (fun x => by
      show f_X3_howManyAgreed_b4 N (nI m) g x (nI m) = _
      unfold f_X3_howManyAgreed_b4
      rw [if_pos (Int32.le_refl _)])
    unfold f_X3_howManyAgreed
    rw [this]; rfl
  · have := count (b := fun x y => f_X3_howManyStable_b4 N (nI m) g x y) p (N := N) (m := m) (by omega) (fun a i hi => by
      unfold f_X3_howManyStable_b4 nm
      dsimp only
      have gi := hg i hi
      rw [if_neg (by rw [zle (by omega) (by omega)]; omega), gd_t (zinb (show i < 462 by omega) (by omega)), zcl (show i < 2147483648 by omega), gi.1]
      by_cases e : G i = none
      · rw [if_pos ((lr_none (le2_big gi.2)).mpr e), if_neg (fun z => (hp i hi).mp z e), nI_1]; rfl
      · rw [if_neg (fun z => e ((lr_none (le2_big gi.2)).mp z)), if_pos ((hp i hi).mpr e), nI_1, nI_1]) (fun x => by
      show f_X3_howManyStable_b4 N (nI m) g x (nI m) = _
      unfold f_X3_howManyStable_b4
      rw [if_pos (Int32.le_refl _)])
    unfold f_X3_howManyStable
    rw [this]; rfl
theorem q_sil6 (hN : 20000 ≤ N) (hc : c ≤ 12) (hG : GG n c m Cs D L confs near leads manyIn farOf leadsTo) (p : Nat → Bool) (hp : ∀ i, i < m → (p i = true ↔ Sil c L i)) :
    f_X3_howManySilent N (nI c) (nI m) leads = some (nI (ct p m)) := by
  have hm := hG.2.1
  have := count (b := fun x y => f_X3_howManySilent_b4 N (nI c) (nI m) leads x y) p (N := N) (m := m) (by omega) (fun a i hi => by
      unfold f_X3_howManySilent_b4 nm
      dsimp only
      rw [if_neg (by rw [zle (by omega) (by omega)]; omega)]
      rcases q_silent (N := N) hN hc hG hi with ⟨s1, s2, -⟩ | ⟨s1, s2, -⟩
      · rw [s2]
        simp only [bd1]
        rw [if_neg (by decide), if_pos ((hp i hi).mpr s1), nI_1, nI_1]
      · rw [s2]
        simp only [bd1]
        rw [if_pos trivial, if_neg (fun z => s1 ((hp i hi).mp z)), nI_1]; rfl) (fun x => by
      show f_X3_howManySilent_b4 N (nI c) (nI m) leads x (nI m) = _
      unfold f_X3_howManySilent_b4
      rw [if_pos (Int32.le_refl _)])
  unfold f_X3_howManySilent
  rw [this]; rfl
end RC
theorem op_reached {N : Nat} (hN : 20000 ≤ N) {bCount : Int32} {cSize : Int32} {cMeet : Int32} {cChg : Int32} {cSeed : Int32} {mRules : Int32} {mAgents : Int32} {mMeet : Int32} {mChg : Int32} {mSeed : Int32} {told : Nat → Int32} {weights : Nat → Int32} {twos : Nat → Int32} {outs : Nat → Int32} {states : Nat → Int32} {lastMet : Nat → Int32} {pOf : Nat → Int32} {qOf : Nat → Int32} {xOf : Nat → Int32} {yOf : Nat → Int32} {toldBy : Nat → Int32} {weightOf : Nat → Int32} {stateOf : Nat → Int32} {metAt : Nat → Int32} (hR : Rel bCount twos outs mRules pOf qOf xOf yOf cSize cMeet cChg cSeed states lastMet mAgents mMeet mChg mSeed stateOf metAt told toldBy weights weightOf) (a1 : Int32) (rRules : Int32) (rCount : Int32) (mListed : Int32) (por : Nat → Int32) (confs : Nat → Int32) (near : Nat → Int32) (leads : Nat → Int32) (agrees : Nat → Int32) (answers : Nat → Int32) (manyIn : Nat → Int32) (codeOf : Nat → Int32) (farOf : Nat → Int32) (leadsTo : Nat → Int32) (answerOf : Nat → Int32) : ∃ (r9 : Int32) (rRules9 : Int32) (rCount9 : Int32) (por9 : Nat → Int32) (confs9 : Nat → Int32) (near9 : Nat → Int32) (leads9 : Nat → Int32) (agrees9 : Nat → Int32) (answers9 : Nat → Int32) (mListed9 : Int32) (manyIn9 : Nat → Int32) (codeOf9 : Nat → Int32) (farOf9 : Nat → Int32) (leadsTo9 : Nat → Int32) (answerOf9 : Nat → Int32), f_X6_reached N a1 bCount cSize rRules rCount told twos outs states por confs near leads agrees answers = some (r9, rRules9, rCount9, por9, confs9, near9, leads9, agrees9, answers9) ∧ f_X7_reached N a1 mRules mAgents mListed pOf qOf xOf yOf toldBy stateOf manyIn codeOf farOf leadsTo answerOf = some (r9, mListed9, manyIn9, codeOf9, farOf9, leadsTo9, answerOf9) ∧ Rel bCount twos outs mRules pOf qOf xOf yOf cSize cMeet cChg cSeed states lastMet mAgents mMeet mChg mSeed stateOf metAt told toldBy weights weightOf := by
  have hR0 := hR
  obtain ⟨⟨c, P, Q, X, Y, eb, er, hB⟩, ⟨n, S, hn0, hn, ec, em, -, -, -, hS, -⟩, ⟨T, hT⟩, -⟩ := hR
  subst eb; subst er; subst ec; subst em
  have hc := hB.1
  rcases zcase a1 with h | ⟨k, hk, rfl⟩
  · refine ⟨-2, rRules, rCount, por, confs, near, leads, agrees, answers, mListed, manyIn, codeOf, farOf, leadsTo, answerOf, ?_, ?_, hR0⟩
    · unfold f_X6_reached
      rw [if_pos h]
    · unfold f_X7_reached
      rw [q_w0 (Or.inl h)]
      rfl
  · have hn1 : ¬ nI k < 0 := nI_pos hk
    by_cases h3 : k ≤ 3
    · have hn2 : nI k ≤ 3 := by rw [zl 3, zle hk (by omega)]; exact h3
      by_cases h0 : n = 0
      · subst h0
        refine ⟨-3, rRules, rCount, por, confs, near, leads, agrees, answers, mListed, manyIn, codeOf, farOf, leadsTo, answerOf, ?_, ?_, hR0⟩
        · unfold f_X6_reached
          rw [if_neg hn1, if_pos hn2, if_pos (by decide)]
        · unfold f_X7_reached
          rw [q_w1 hn1 hn2]
          rfl
      · have hn3 : ¬ nI n = 0 := by rw [zl 0, zeq (by omega) (by omega)]; exact h0
        obtain ⟨m, Cs, D, L, A, por', confs', near', leads', agrees', answers', many', code', far', leadsTo', answerOf', g1, g2, g3⟩ := q_present (N := N) hN hn hB hT hS rRules rCount mListed por confs near leads agrees answers manyIn codeOf farOf leadsTo answerOf
        obtain ⟨p, hp⟩ := exB (fun i => (k = 0) ∨ (k = 1 ∧ ag (Cs i) T ≠ none) ∨ (k = 2 ∧ A i ≠ none) ∨ (k = 3 ∧ Sil c L i))
        have R7 := q_reach7 (N := N) (mA := nI n) (pOf := pOf) (qOf := qOf) (xOf := xOf) (yOf := yOf) (stateOf := stateOf) (codeOf := code') hN hc hn g3 (fun s hs => ⟨(hT s hs).1, (hT s hs).2.2⟩) h3 p (fun i _ => hp i)
        refine ⟨nI (ct p m), nI c, nI m, por', confs', near', leads', agrees', answers', nI m, many', code', far', leadsTo', answerOf', ?_, ?_, hR0⟩
        · unfold f_X6_reached
          rw [if_neg hn1, if_pos hn2, if_neg hn3, g1]
          simp only [bd8]
          by_cases q0 : k = 0
          · subst q0
            rw [if_pos (by decide)]
            have e : ct p m = m := by
              have : p = fun _ => true := by
                funext i
                exact (hp i).mpr (Or.inl rfl)
              rw [this, ct_true]
            rw [e]
          · rw [if_neg (by rw [zl 0, zeq hk (by omega)]; exact q0)]
            by_cases q1 : k = 1
            · subst q1
              rw [if_pos (by decide), (q_some6 (N := N) hN g3.1.2.1 g3.2.1 p (fun i _ => (hp i).trans ⟨fun h => by
                rcases h with h | h | h | h
                · omega
                · exact h.2
                · omega
                · omega, fun h => Or.inr (Or.inl ⟨rfl, h⟩)⟩)).1]
              rfl
            · rw [if_neg (by rw [zl 1, zeq hk (by omega)]; exact q1)]
              by_cases q2 : k = 2
              · subst q2
                rw [if_pos (by decide), (q_some6 (N := N) hN g3.1.2.1 g3.2.2.1 p (fun i _ => (hp i).trans ⟨fun h => by
                  rcases h with h | h | h | h
                  · omega
                  · omega
                  · exact h.2
                  · omega, fun h => Or.inr (Or.inr (Or.inl ⟨rfl, h⟩))⟩)).2]
                rfl
              · have q3 : k = 3 := by omega
                subst q3
                rw [if_neg (by decide), q_sil6 (N := N) hN hc g3.1 p (fun i _ => (hp i).trans ⟨fun h => by
                  rcases h with h | h | h | h
                  · omega
                  · omega
                  · omega
                  · exact h.2, fun h => Or.inr (Or.inr (Or.inr ⟨rfl, h⟩))⟩)]
                rfl
        · unfold f_X7_reached
          rw [q_w1 hn1 hn2]
          simp only [bd1]
          rw [if_neg (by decide), if_neg hn3, g2]
          simp only [bd6]
          rw [R7]
    · refine ⟨-2, rRules, rCount, por, confs, near, leads, agrees, answers, mListed, manyIn, codeOf, farOf, leadsTo, answerOf, ?_, ?_, hR0⟩
      · unfold f_X6_reached
        rw [if_neg hn1, if_neg (by rw [zl 3, zle hk (by omega)]; exact h3)]
      · unfold f_X7_reached
        rw [q_w0 (Or.inr (by rw [zl 3, zle hk (by omega)]; exact h3))]
        rfl
theorem op_answer {N : Nat} (hN : 20000 ≤ N) {bCount : Int32} {cSize : Int32} {cMeet : Int32} {cChg : Int32} {cSeed : Int32} {mRules : Int32} {mAgents : Int32} {mMeet : Int32} {mChg : Int32} {mSeed : Int32} {told : Nat → Int32} {weights : Nat → Int32} {twos : Nat → Int32} {outs : Nat → Int32} {states : Nat → Int32} {lastMet : Nat → Int32} {pOf : Nat → Int32} {qOf : Nat → Int32} {xOf : Nat → Int32} {yOf : Nat → Int32} {toldBy : Nat → Int32} {weightOf : Nat → Int32} {stateOf : Nat → Int32} {metAt : Nat → Int32} (hR : Rel bCount twos outs mRules pOf qOf xOf yOf cSize cMeet cChg cSeed states lastMet mAgents mMeet mChg mSeed stateOf metAt told toldBy weights weightOf) (rRules : Int32) (rCount : Int32) (mListed : Int32) (por : Nat → Int32) (confs : Nat → Int32) (near : Nat → Int32) (leads : Nat → Int32) (agrees : Nat → Int32) (answers : Nat → Int32) (manyIn : Nat → Int32) (codeOf : Nat → Int32) (farOf : Nat → Int32) (leadsTo : Nat → Int32) (answerOf : Nat → Int32) : ∃ (r9 : Int32) (rRules9 : Int32) (rCount9 : Int32) (por9 : Nat → Int32) (confs9 : Nat → Int32) (near9 : Nat → Int32) (leads9 : Nat → Int32) (agrees9 : Nat → Int32) (answers9 : Nat → Int32) (mListed9 : Int32) (manyIn9 : Nat → Int32) (codeOf9 : Nat → Int32) (farOf9 : Nat → Int32) (leadsTo9 : Nat → Int32) (answerOf9 : Nat → Int32), f_X6_answer N bCount cSize rRules rCount told twos outs states por confs near leads agrees answers = some (r9, rRules9, rCount9, por9, confs9, near9, leads9, agrees9, answers9) ∧ f_X7_answer N mRules mAgents mListed pOf qOf xOf yOf toldBy stateOf manyIn codeOf farOf leadsTo answerOf = some (r9, mListed9, manyIn9, codeOf9, farOf9, leadsTo9, answerOf9) ∧ Rel bCount twos outs mRules pOf qOf xOf yOf cSize cMeet cChg cSeed states lastMet mAgents mMeet mChg mSeed stateOf metAt told toldBy weights weightOf := by
  have hR0 := hR
  obtain ⟨⟨c, P, Q, X, Y, eb, er, hB⟩, ⟨n, S, hn0, hn, ec, em, -, -, -, hS, -⟩, ⟨T, hT⟩, -⟩ := hR
  subst eb; subst er; subst ec; subst em
  have hc := hB.1
  by_cases h0 : n = 0
  · subst h0
    refine ⟨-3, rRules, rCount, por, confs, near, leads, agrees, answers, mListed, manyIn, codeOf, farOf, leadsTo, answerOf, ?_, ?_, hR0⟩
    · unfold f_X6_answer
      rw [if_pos (by decide)]
    · unfold f_X7_answer
      rw [if_pos (by decide)]
  · have hn3 : ¬ nI n = 0 := by rw [zl 0, zeq (by omega) (by omega)]; exact h0
    obtain ⟨m, Cs, D, L, A, por', confs', near', leads', agrees', answers', many', code', far', leadsTo', answerOf', g1, g2, g3⟩ := q_present (N := N) hN hn hB hT hS rRules rCount mListed por confs near leads agrees answers manyIn codeOf farOf leadsTo answerOf
    have hm := g3.1.1
    refine ⟨lr (A 0), nI c, nI m, por', confs', near', leads', agrees', answers', nI m, many', code', far', leadsTo', answerOf', ?_, ?_, hR0⟩
    · unfold f_X6_answer f_X3_answerAt
      rw [if_neg hn3, g1]
      simp only [bd8]
      rw [gd_t (by decide), show (0 : Int32).toNatClampNeg = 0 from rfl, (g3.2.2.1 0 hm).1]
      rfl
    · unfold f_X7_answer
      rw [if_neg hn3, g2]
      simp only [bd6]
      rw [gd_t (by decide), show (0 : Int32).toNatClampNeg = 0 from rfl, (g3.2.2.2.1 0 hm).1]
theorem op_soonest {N : Nat} (hN : 20000 ≤ N) {bCount : Int32} {cSize : Int32} {cMeet : Int32} {cChg : Int32} {cSeed : Int32} {mRules : Int32} {mAgents : Int32} {mMeet : Int32} {mChg : Int32} {mSeed : Int32} {told : Nat → Int32} {weights : Nat → Int32} {twos : Nat → Int32} {outs : Nat → Int32} {states : Nat → Int32} {lastMet : Nat → Int32} {pOf : Nat → Int32} {qOf : Nat → Int32} {xOf : Nat → Int32} {yOf : Nat → Int32} {toldBy : Nat → Int32} {weightOf : Nat → Int32} {stateOf : Nat → Int32} {metAt : Nat → Int32} (hR : Rel bCount twos outs mRules pOf qOf xOf yOf cSize cMeet cChg cSeed states lastMet mAgents mMeet mChg mSeed stateOf metAt told toldBy weights weightOf) (rRules : Int32) (rCount : Int32) (mListed : Int32) (por : Nat → Int32) (confs : Nat → Int32) (near : Nat → Int32) (leads : Nat → Int32) (agrees : Nat → Int32) (answers : Nat → Int32) (manyIn : Nat → Int32) (codeOf : Nat → Int32) (farOf : Nat → Int32) (leadsTo : Nat → Int32) (answerOf : Nat → Int32) : ∃ (r9 : Int32) (rRules9 : Int32) (rCount9 : Int32) (por9 : Nat → Int32) (confs9 : Nat → Int32) (near9 : Nat → Int32) (leads9 : Nat → Int32) (agrees9 : Nat → Int32) (answers9 : Nat → Int32) (mListed9 : Int32) (manyIn9 : Nat → Int32) (codeOf9 : Nat → Int32) (farOf9 : Nat → Int32) (leadsTo9 : Nat → Int32) (answerOf9 : Nat → Int32), f_X6_soonest N bCount cSize rRules rCount told twos outs states por confs near leads agrees answers = some (r9, rRules9, rCount9, por9, confs9, near9, leads9, agrees9, answers9) ∧ f_X7_soonest N mRules mAgents mListed pOf qOf xOf yOf toldBy stateOf manyIn codeOf farOf leadsTo answerOf = some (r9, mListed9, manyIn9, codeOf9, farOf9, leadsTo9, answerOf9) ∧ Rel bCount twos outs mRules pOf qOf xOf yOf cSize cMeet cChg cSeed states lastMet mAgents mMeet mChg mSeed stateOf metAt told toldBy weights weightOf := by
  have hR0 := hR
  obtain ⟨⟨c, P, Q, X, Y, eb, er, hB⟩, ⟨n, S, hn0, hn, ec, em, -, -, -, hS, -⟩, ⟨T, hT⟩, -⟩ := hR
  subst eb; subst er; subst ec; subst em
  have hc := hB.1
  by_cases h0 : n = 0
  · subst h0
    refine ⟨-3, rRules, rCount, por, confs, near, leads, agrees, answers, mListed, manyIn, codeOf, farOf, leadsTo, answerOf, ?_, ?_, hR0⟩
    · unfold f_X6_soonest
      rw [if_pos (by decide)]
    · unfold f_X7_soonest
      rw [if_pos (by decide)]
  · have hn3 : ¬ nI n = 0 := by rw [zl 0, zeq (by omega) (by omega)]; exact h0
    obtain ⟨m, Cs, D, L, A, por', confs', near', leads', agrees', answers', many', code', far', leadsTo', answerOf', g1, g2, g3⟩ := q_present (N := N) hN hn hB hT hS rRules rCount mListed por confs near leads agrees answers manyIn codeOf farOf leadsTo answerOf
    have hm := g3.1.2.1
    obtain ⟨e, f, o1, o2, hE⟩ := loop2e (b1 := fun (w9 : Int32) => f_X3_fewestTillStable_b2 N (nI m) near' answers' w9) (b2 := fun (w9 : Int32) => f_X7_soonest_b16 N (nI c) (nI n) (nI m) pOf qOf xOf yOf toldBy stateOf many' code' far' leadsTo' answerOf' w9)
      (fun i x y => x = nI i ∧ y = nI i) (fun e f => (∃ v, e = .inl v ∧ f = .inl (v, nI m, many', code', far', leadsTo', answerOf')) ∨ (e = .inr () ∧ f = .inr ())) m
      (fun i x y hi hI => by
        obtain ⟨rfl, rfl⟩ := hI
        have a1 := g3.2.2.1 i hi
        have a2 := g3.2.2.2.1 i hi
        have gi := g3.1.2.2.1 i hi
        have b : inb (nI i) 462 = true := zinb (by omega) (by omega)
        have b0 : ¬ nI m ≤ nI i := by rw [zle (by omega) (by omega)]; omega
        by_cases e : A i = none
        · refine Or.inl ⟨nI (i + 1), nI (i + 1), ?_, ?_, rfl, rfl⟩
          · show f_X3_fewestTillStable_b2 N (nI m) near' answers' (nI i) = _
            unfold f_X3_fewestTillStable_b2 nm
            rw [if_neg b0, gd_t b, zcl (show i < 2147483648 by omega), a1.1, if_pos ((lr_none (le2_big a1.2)).mpr e), nI_1]
          · show f_X7_soonest_b16 N (nI c) (nI n) (nI m) pOf qOf xOf yOf toldBy stateOf many' code' far' leadsTo' answerOf' (nI i) = _
            unfold f_X7_soonest_b16 nm
            rw [if_neg b0, gd_t b, zcl (show i < 2147483648 by omega), a2.1, if_pos ((lr_none (le2_big a1.2)).mpr e), nI_1]
        · refine Or.inr ⟨.inl (nI (D i)), .inl (nI (D i), nI m, many', code', far', leadsTo', answerOf'), ?_, ?_, Or.inl ⟨_, rfl, rfl⟩⟩
          · show f_X3_fewestTillStable_b2 N (nI m) near' answers' (nI i) = _
            unfold f_X3_fewestTillStable_b2 nm
            rw [if_neg b0, gd_t b, zcl (show i < 2147483648 by omega), a1.1, if_neg (fun z => e ((lr_none (le2_big a1.2)).mp z)), gd_t b, gi.2.2.2.1]
          · show f_X7_soonest_b16 N (nI c) (nI n) (nI m) pOf qOf xOf yOf toldBy stateOf many' code' far' leadsTo' answerOf' (nI i) = _
            unfold f_X7_soonest_b16 nm
            rw [if_neg b0, gd_t b, zcl (show i < 2147483648 by omega), a2.1, if_neg (fun z => e ((lr_none (le2_big a1.2)).mp z)), gd_t b, gi.2.2.2.2.1])
      (fun x y hI => by
        obtain ⟨rfl, rfl⟩ := hI
        refine ⟨.inr (), .inr (), ?_, ?_, Or.inr ⟨rfl, rfl⟩⟩
        · show f_X3_fewestTillStable_b2 N (nI m) near' answers' (nI m) = _
          unfold f_X3_fewestTillStable_b2
          rw [if_pos (Int32.le_refl _)]
        · show f_X7_soonest_b16 N (nI c) (nI n) (nI m) pOf qOf xOf yOf toldBy stateOf many' code' far' leadsTo' answerOf' (nI m) = _
          unfold f_X7_soonest_b16
          rw [if_pos (Int32.le_refl _)]) N 0 0 0 (Nat.zero_le _) (by omega) ⟨rfl, rfl⟩
    have fin : ∃ v, f_X3_fewestTillStable N (nI m) near' answers' = some v ∧ bs0 (loopN (fun (w9 : Int32) => f_X7_soonest_b16 N (nI c) (nI n) (nI m) pOf qOf xOf yOf toldBy stateOf many' code' far' leadsTo' answerOf' w9) N 0) (fun x9 => some x9) (some ((-9), nI m, many', code', far', leadsTo', answerOf')) = some (v, nI m, many', code', far', leadsTo', answerOf') := by
      unfold f_X3_fewestTillStable
      rw [o1, o2]
      rcases hE with ⟨v, rfl, rfl⟩ | ⟨rfl, rfl⟩
      · exact ⟨v, rfl, rfl⟩
      · exact ⟨-9, rfl, rfl⟩
    obtain ⟨v, v1, v2⟩ := fin
    refine ⟨v, nI c, nI m, por', confs', near', leads', agrees', answers', nI m, many', code', far', leadsTo', answerOf', ?_, ?_, hR0⟩
    · unfold f_X6_soonest
      rw [if_neg hn3, g1]
      simp only [bd8]
      rw [v1]; rfl
    · unfold f_X7_soonest
      rw [if_neg hn3, g2]
      exact v2
