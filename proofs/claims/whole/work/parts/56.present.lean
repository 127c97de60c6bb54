/-! ===== loops that scan, that keep a mark, that count ===== -/
theorem exB (P : Nat → Prop) : ∃ p : Nat → Bool, ∀ i, p i = true ↔ P i :=
  ⟨fun i => @decide (P i) (Classical.propDecidable _), fun i => @decide_eq_true_iff (P i) (Classical.propDecidable _)⟩
theorem scan {ε : Type} {b : Int32 → Option (Int32 ⊕ (ε ⊕ Unit))} {v : ε} (Q : Nat → Prop) {N c : Nat} (hN : c < N)
    (h1 : ∀ k, k < c → (Q k ∧ b (nI k) = some (.inr (.inl v))) ∨ (¬ Q k ∧ b (nI k) = some (.inl (nI (k + 1))))) (h2 : b (nI c) = some (.inr (.inr ()))) :
    ((∃ k, k < c ∧ Q k) ∧ loopN b N 0 = some (.inl v)) ∨ ((∀ k, k < c → ¬ Q k) ∧ loopN b N 0 = some (.inr ())) := by
  obtain ⟨z, e, h⟩ := loop_idx (b := b) (fun k x => x = nI k ∧ ∀ k', k' < k → ¬ Q k') (fun z => (z = .inl v ∧ ∃ k, k < c ∧ Q k) ∨ (z = .inr () ∧ ∀ k, k < c → ¬ Q k)) c
    (fun k x hk hI => by
      obtain ⟨rfl, h⟩ := hI
      rcases h1 k hk with ⟨q, e⟩ | ⟨q, e⟩
      · exact Or.inr ⟨_, e, Or.inl ⟨rfl, k, hk, q⟩⟩
      · refine Or.inl ⟨_, e, rfl, fun k' hk' => ?_⟩
        rcases Nat.lt_or_ge k' k with p | p
        · exact h k' p
        · have : k' = k := by omega
          rw [this]; exact q)
    (fun x hI => by
      obtain ⟨rfl, h⟩ := hI
      exact ⟨.inr (), h2, Or.inr ⟨rfl, h⟩⟩) N 0 0 (Nat.zero_le _) (by omega) ⟨rfl, fun k hk => absurd hk (Nat.not_lt_zero k)⟩
  rw [e]
  rcases h with ⟨rfl, h⟩ | ⟨rfl, h⟩
  · exact Or.inl ⟨h, rfl⟩
  · exact Or.inr ⟨h, rfl⟩
theorem mark {b : Int32 → Int32 → Option ((Int32 × Int32) ⊕ Int32)} (Q : Nat → Prop) {N c : Nat} (hN : c < N)
    (h0 : ∀ k, k < c → b 0 (nI k) = some (.inl (0, nI (k + 1))))
    (h1 : ∀ k, k < c → (Q k ∧ b 1 (nI k) = some (.inl (0, nI (k + 1)))) ∨ (¬ Q k ∧ b 1 (nI k) = some (.inl (1, nI (k + 1))))) (h2 : ∀ x, b x (nI c) = some (.inr x)) :
    ((∃ k, k < c ∧ Q k) ∧ loopN (fun (w9 : Int32 × Int32) => b w9.1 w9.2) N (1, 0) = some 0) ∨ ((∀ k, k < c → ¬ Q k) ∧ loopN (fun (w9 : Int32 × Int32) => b w9.1 w9.2) N (1, 0) = some 1) := by
  obtain ⟨z, e, h⟩ := loop_idx (b := fun (w9 : Int32 × Int32) => b w9.1 w9.2) (fun k x => x.2 = nI k ∧ ((x.1 = 0 ∧ ∃ k, k < c ∧ Q k) ∨ (x.1 = 1 ∧ ∀ k', k' < k → ¬ Q k'))) (fun z => (z = 0 ∧ ∃ k, k < c ∧ Q k) ∨ (z = 1 ∧ ∀ k, k < c → ¬ Q k)) c
    (fun k x hk hI => by
      obtain ⟨x1, x2⟩ := x
      obtain ⟨e1, e2⟩ := hI
      dsimp only at e1 e2
      subst e1
      rcases e2 with ⟨rfl, h⟩ | ⟨rfl, h⟩
      · exact Or.inl ⟨_, h0 k hk, rfl, Or.inl ⟨rfl, h⟩⟩
      · rcases h1 k hk with ⟨q, e⟩ | ⟨q, e⟩
        · exact Or.inl ⟨_, e, rfl, Or.inl ⟨rfl, k, hk, q⟩⟩
        · refine Or.inl ⟨_, e, rfl, Or.inr ⟨rfl, fun k' hk' => ?_⟩⟩
          rcases Nat.lt_or_ge k' k with p | p
          · exact h k' p
          · have : k' = k := by omega
            rw [this]; exact q)
    (fun x hI => by
      obtain ⟨x1, x2⟩ := x
      obtain ⟨e1, e2⟩ := hI
      dsimp only at e1 e2
      subst e1
      exact ⟨x1, h2 x1, e2⟩) N 0 (1, 0) (Nat.zero_le _) (by omega) ⟨rfl, Or.inr ⟨rfl, fun k hk => absurd hk (Nat.not_lt_zero k)⟩⟩
  rw [e]
  rcases h with ⟨rfl, h⟩ | ⟨rfl, h⟩
  · exact Or.inl ⟨h, rfl⟩
  · exact Or.inr ⟨h, rfl⟩
theorem count {b : Int32 → Int32 → Option ((Int32 × Int32) ⊕ Int32)} (p : Nat → Bool) {N m : Nat} (hN : m < N)
    (h1 : ∀ a i, i < m → b (nI a) (nI i) = some (.inl (nI (a + if p i = true then 1 else 0), nI (i + 1)))) (h2 : ∀ x, b x (nI m) = some (.inr x)) :
    loopN (fun (w9 : Int32 × Int32) => b w9.1 w9.2) N (0, 0) = some (nI (ct p m)) := by
  have L := loop_cnt (b := fun (w9 : Int32 × Int32) => b w9.1 w9.2) (fun i => (nI (ct p i), nI i)) (nI (ct p m)) m (fun i hi => h1 _ i hi) (h2 _) N 0 (Nat.zero_le _) (by omega)
  exact L
/-! ===== what is found from the agents that are there ===== -/
def PP (n c m : Nat) (T : Nat → Nat) (Cs : Nat → Nat → Nat) (D : Nat → Nat) (L : Nat → Nat → Option Nat) (A : Nat → Option Nat) (confs near leads agrees answers manyIn farOf leadsTo answerOf : Nat → Int32) : Prop :=
  GG n c m Cs D L confs near leads manyIn farOf leadsTo ∧ (∀ i, i < m → agrees i = lr (ag (Cs i) T) ∧ le2 (ag (Cs i) T)) ∧ AR m answers A ∧ AR m answerOf A ∧ Clo c m L A ∧ Und m (fun i => ag (Cs i) T) A
section PR
variable {N n m c : Nat} {P Q X Y T : Nat → Nat} {Cs : Nat → Nat → Nat} {D : Nat → Nat} {L : Nat → Nat → Option Nat} {A : Nat → Option Nat} {told toldBy twos outs pOf qOf xOf yOf por confs near leads agrees answers manyIn codeOf farOf leadsTo answerOf : Nat → Int32}
theorem q_begin (hN : 20000 ≤ N) (hn : n ≤ 6) (hB : RBd c P Q X Y twos outs pOf qOf xOf yOf) (hT : ∀ s, s < 6 → T s ≤ 2 ∧ told s = nI (T s) ∧ toldBy s = nI (T s)) {C : Nat → Nat} (hC : csum C = n) (hrow : ∀ s, s < 6 → manyIn s = nI (C s)) (rR rC mL : Int32) (por confs near leads agrees answers codeOf farOf leadsTo answerOf : Nat → Int32) :
    ∃ (m : Nat) (Cs : Nat → Nat → Nat) (D : Nat → Nat) (L : Nat → Nat → Option Nat) (A : Nat → Option Nat) (por' confs' near' leads' agrees' answers' many' code' far' leadsTo' answerOf' : Nat → Int32),
      f_X3_explore N (nI (pak C)) (nI c) rR rC twos outs por confs near leads = some (nI c, nI m, por', confs', near', leads') ∧
      f_X3_judge_told N (nI c) (nI m) told confs' leads' agrees answers = some (agrees', answers') ∧
      f_X7_findReached N (nI c) mL pOf qOf xOf yOf toldBy manyIn codeOf farOf leadsTo answerOf = some (nI m, many', code', far', leadsTo', answerOf') ∧
      PP n c m T Cs D L A confs' near' leads' agrees' answers' many' far' leadsTo' answerOf' ∧ Cs 0 = C := by
  obtain ⟨m, Cs, D, L, por', confs', near', leads', many', code', far', leadsTo', g1, g2, g3, g4⟩ := q_bfs (por := por) (confs := confs) (near := near) (leads := leads) (codeOf := codeOf) (farOf := farOf) (leadsTo := leadsTo) hN hn hB hC hrow rR rC mL toldBy answerOf
  obtain ⟨agrees', answers', answerOf', A, k1, k2, k3, k4, k5, k6, k7⟩ := q_stable (N := N) hN hB.1 hn g3 hT agrees answers answerOf
  refine ⟨m, Cs, D, L, A, por', confs', near', leads', agrees', answers', many', code', far', leadsTo', answerOf', g1, k1, ?_, ⟨g3, k3, k4, k5, k6, k7⟩, g4⟩
  rw [g2, k2]; rfl
theorem q_present (hN : 20000 ≤ N) (hn : n ≤ 6) (hB : RBd c P Q X Y twos outs pOf qOf xOf yOf) (hT : ∀ s, s < 6 → T s ≤ 2 ∧ told s = nI (T s) ∧ toldBy s = nI (T s)) {S : Nat → Nat} {states stateOf : Nat → Int32} (hS : RS n S states stateOf) (rR rC mL : Int32) (por confs near leads agrees answers manyIn codeOf farOf leadsTo answerOf : Nat → Int32) :
    ∃ (m : Nat) (Cs : Nat → Nat → Nat) (D : Nat → Nat) (L : Nat → Nat → Option Nat) (A : Nat → Option Nat) (por' confs' near' leads' agrees' answers' many' code' far' leadsTo' answerOf' : Nat → Int32),
      f_X6_explorePresent N (nI c) (nI n) rR rC told twos outs states por confs near leads agrees answers = some (nI c, nI m, por', confs', near', leads', agrees', answers') ∧
      f_X7_findFromAgents N (nI c) (nI n) mL pOf qOf xOf yOf toldBy stateOf manyIn codeOf farOf leadsTo answerOf = some (nI m, many', code', far', leadsTo', answerOf') ∧
      PP n c m T Cs D L A confs' near' leads' agrees' answers' many' far' leadsTo' answerOf' := by
  have hC : csum (cnt S n) = n := csum_cnt (fun a ha => (hS a ha).1)
  obtain ⟨mi, l1, l2⟩ := loop_idx (b := fun (w9 : Int32 × (Nat → Int32)) => f_X7_findFromAgents_b2 N (nI c) (nI n) mL pOf qOf xOf yOf toldBy stateOf codeOf farOf leadsTo answerOf w9.1 w9.2)
    (fun s x => x.1 = nI s ∧ ∀ t, t < s → x.2 t = nI (cnt S n t)) (fun z => ∀ t, t < 6 → z t = nI (cnt S n t)) 6
    (fun s x hs hI => by
      obtain ⟨x1, x2⟩ := x
      obtain ⟨e1, h⟩ := hI
      dsimp only at e1 h
      subst e1
      refine Or.inl ⟨(nI (s + 1), upd x2 s (nI (cnt S n s))), ?_, rfl, fun t ht => ?_⟩
      · show f_X7_findFromAgents_b2 N (nI c) (nI n) mL pOf qOf xOf yOf toldBy stateOf codeOf farOf leadsTo answerOf (nI s) x2 = _
        unfold f_X7_findFromAgents_b2 nm
        rw [if_neg (by rw [zl 6, zle (by omega) (by omega)]; omega), q_in7 hN hn hs hS]
        simp only [bd1]
        rw [gd_t (zinb (show s < 2772 by omega) (by omega)), zcl (show s < 2147483648 by omega), nI_1]
      · dsimp only
        rw [upd_eq]
        by_cases q : t = s
        · rw [if_pos q, q]
        · rw [if_neg q]; exact h t (by omega))
    (fun x hI => by
      obtain ⟨x1, x2⟩ := x
      obtain ⟨e1, h⟩ := hI
      dsimp only at e1 h
      subst e1
      refine ⟨x2, ?_, h⟩
      show f_X7_findFromAgents_b2 N (nI c) (nI n) mL pOf qOf xOf yOf toldBy stateOf codeOf farOf leadsTo answerOf (nI 6) x2 = _
      unfold f_X7_findFromAgents_b2
      rw [if_pos (by decide)]) N 0 (0, manyIn) (Nat.zero_le _) (by omega) ⟨rfl, fun t ht => absurd ht (Nat.not_lt_zero t)⟩
  obtain ⟨m, Cs, D, L, A, por', confs', near', leads', agrees', answers', many', code', far', leadsTo', answerOf', g1, g2, g3, g4, g5⟩ := q_begin (N := N) hN hn hB hT hC l2 rR rC mL por confs near leads agrees answers codeOf farOf leadsTo answerOf
  refine ⟨m, Cs, D, L, A, por', confs', near', leads', agrees', answers', many', code', far', leadsTo', answerOf', ?_, ?_, g4⟩
  · unfold f_X6_explorePresent
    rw [q_conf hN hn hS]
    show bd6 (f_X3_explore N (nI (pak (cnt S n))) (nI c) rR rC twos outs por confs near leads) _ = _
    rw [g1]
    show bd2 (f_X3_judge_told N (nI c) (nI m) told confs' leads' agrees answers) _ = _
    rw [g2]; rfl
  · unfold f_X7_findFromAgents
    rw [l1]
    show bd6 (f_X7_findReached N (nI c) mL pOf qOf xOf yOf toldBy mi codeOf farOf leadsTo answerOf) _ = _
    rw [g3]; rfl
/-- silent -/
def Sil (c : Nat) (L : Nat → Nat → Option Nat) (i : Nat) : Prop := ∀ k, k < c → ¬ ∃ j, L i k = some j ∧ j ≠ i
theorem q_silent (hN : 20000 ≤ N) (hc : c ≤ 12) (hG : GG n c m Cs D L confs near leads manyIn farOf leadsTo) {i : Nat} (hi : i < m) :
    (Sil c L i ∧ f_X3_isSilent N (nI i) (nI c) leads = some 1 ∧ f_X7_isSilent N (nI i) (nI c) leadsTo = some 1) ∨ (¬ Sil c L i ∧ f_X3_isSilent N (nI i) (nI c) leads = some 0 ∧ f_X7_isSilent N (nI i) (nI c) leadsTo = some 0) := by
  obtain ⟨-, hm, -, g4, -⟩ := hG
  have A := scan (b := fun (w9 : Int32) => f_X3_isSilent_b2 N (nI i) (nI c) leads w9) (v := (0 : Int32)) (fun k => ∃ j, L i k = some j ∧ j ≠ i) (N := N) (c := c) (by omega)
    (fun k hk => by
      have z1 : nI i * 12 + nI k = nI (12 * i + k) := by rw [zl 12, zmul, zadd, Nat.mul_comm]
      have l := g4 i k hi hk
      unfold f_X3_isSilent_b2 f_X3_leadAt nm
      dsimp only
      rw [if_neg (by rw [zle (by omega) (by omega)]; omega), z1, gd_t (zinb (show 12 * i + k < 5544 by omega) (by omega)), zcl (show 12 * i + k < 2147483648 by omega), l.1]
      simp only [bd1]
      cases e : L i k with
      | none =>
        refine Or.inr ⟨fun ⟨j, h, _⟩ => (by cases h), ?_⟩
        rw [if_pos (show lc none < 0 by decide), nI_1]
      | some j =>
        have hj := l.2.2 j e
        have hlt : ¬ lc (some j) < 0 := nI_pos (by omega)
        rw [if_neg hlt, show lc (some j) = nI j from rfl]
        by_cases q : j = i
        · exact Or.inr ⟨fun ⟨t, h, h2⟩ => (by cases h; exact h2 q), by rw [if_pos (by rw [q]), nI_1]⟩
        · exact Or.inl ⟨⟨j, rfl, q⟩, by rw [if_neg (by rw [zeq (by omega) (by omega)]; exact q)]⟩)
    (by
      show f_X3_isSilent_b2 N (nI i) (nI c) leads (nI c) = _
      unfold f_X3_isSilent_b2
      rw [if_pos (Int32.le_refl _)])
  have B := mark (b := fun x y => f_X7_isSilent_b4 N (nI i) (nI c) leadsTo x y) (fun k => ∃ j, L i k = some j ∧ j ≠ i) (N := N) (c := c) (by omega)
    (fun k hk => by
      have z1 : 12 * nI i + nI k = nI (12 * i + k) := by rw [zl 12, zmul, zadd]
      unfold f_X7_isSilent_b4 nm
      dsimp only
      rw [if_neg (by rw [zle (by omega) (by omega)]; omega), z1, gd_t (zinb (show 12 * i + k < 5544 by omega) (by omega)), if_pos rfl, nI_1])
    (fun k hk => by
      have z1 : 12 * nI i + nI k = nI (12 * i + k) := by rw [zl 12, zmul, zadd]
      have l := g4 i k hi hk
      unfold f_X7_isSilent_b4 nm
      dsimp only
      rw [if_neg (by rw [zle (by omega) (by omega)]; omega), z1, gd_t (zinb (show 12 * i + k < 5544 by omega) (by omega)), zcl (show 12 * i + k < 2147483648 by omega), l.2.1, if_neg (by decide)]
      cases e : L i k with
      | none =>
        exact Or.inr ⟨fun ⟨j, h, _⟩ => (by cases h), by rw [if_pos (show lr none = -9 from rfl), nI_1]⟩
      | some j =>
        have hj := l.2.2 j e
        have h9 : ¬ lr (some j) = -9 := by
          intro h
          have h' : nI j = -nI 9 := h
          rw [zeqn (by omega) (by omega) (by omega)] at h'
          exact h'
        rw [if_neg h9, show lr (some j) = nI j from rfl]
        by_cases q : j = i
        · exact Or.inr ⟨fun ⟨t, h, h2⟩ => (by cases h; exact h2 q), by rw [if_pos (by rw [q]), nI_1]⟩
        · exact Or.inl ⟨⟨j, rfl, q⟩, by rw [if_neg (by rw [zeq (by omega) (by omega)]; exact q), nI_1]⟩)
    (fun x => by
      show f_X7_isSilent_b4 N (nI i) (nI c) leadsTo x (nI c) = _
      unfold f_X7_isSilent_b4
      rw [if_pos (Int32.le_refl _)])
  unfold f_X3_isSilent f_X7_isSilent
  rcases A with ⟨a1, a2⟩ | ⟨a1, a2⟩
  · obtain ⟨k0, hk0, q0⟩ := a1
    rcases B with ⟨b1, b2⟩ | ⟨b1, b2⟩
    · refine Or.inr ⟨fun z => z k0 hk0 q0, ?_, ?_⟩
      · rw [a2]; rfl
      · rw [b2]; rfl
    · exact absurd q0 (b1 k0 hk0)
  · rcases B with ⟨⟨k0, hk0, q0⟩, b2⟩ | ⟨b1, b2⟩
    · exact absurd q0 (a1 k0 hk0)
    · refine Or.inl ⟨a1, ?_, ?_⟩
      · rw [a2]; rfl
      · rw [b2]; rfl
end PR
