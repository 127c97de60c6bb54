/-! ===== what is decided ===== -/
section DE
variable {N n c m : Nat} {T : Nat → Nat} {Cs : Nat → Nat → Nat} {D : Nat → Nat} {L : Nat → Nat → Option Nat} {A : Nat → Option Nat} {confs near leads agrees answers manyIn farOf leadsTo answerOf : Nat → Int32}
def One (m : Nat) (A : Nat → Option Nat) (v : Nat) : Prop := (∀ i, i < m → A i = none ∨ A i = some v) ∧ ∃ i, i < m ∧ A i = some v
theorem q_only (hN : 20000 ≤ N) (hm : m ≤ 462) (hA : AR m answers A) : (∃ v, One m A v ∧ v ≤ 2 ∧ f_X3_onlyAnswer N (nI m) answers = some (nI v)) ∨ ((¬ ∃ v, One m A v) ∧ f_X3_onlyAnswer N (nI m) answers = some (-9)) := by
  obtain ⟨z, h1, h2⟩ := loop_idx (b := fun (w9 : Int32 × Int32) => f_X3_onlyAnswer_b5 N (nI m) answers w9.1 w9.2)
    (fun i x => x.2 = nI i ∧ ((x.1 = -9 ∧ ∀ j, j < i → A j = none) ∨ ∃ v, v ≤ 2 ∧ x.1 = nI v ∧ (∀ j, j < i → A j = none ∨ A j = some v) ∧ ∃ j, j < i ∧ A j = some v))
    (fun z => (z = .inl (-9) ∧ ¬ ∃ v, One m A v) ∨ (z = .inr (-9) ∧ ∀ j, j < m → A j = none) ∨ ∃ v, v ≤ 2 ∧ z = .inr (nI v) ∧ One m A v) m
    (fun i x hi hI => by
      obtain ⟨x1, x2⟩ := x
      obtain ⟨e1, hI⟩ := hI
      dsimp only at e1 hI
      subst e1
      have ai := hA i hi
      have b : inb (nI i) 462 = true := zinb (by omega) (by omega)
      have b0 : ¬ nI m ≤ nI i := by rw [zle (by omega) (by omega)]; omega
      have J : f_X3_onlyAnswer_j43 N (nI i) (nI m) answers = some (.inl (lr (A i), nI (i + 1))) := by
        unfold f_X3_onlyAnswer_j43 nm
        rw [gd_t b, zcl (show i < 2147483648 by omega), ai.1, nI_1]
      show (∃ y, f_X3_onlyAnswer_b5 N (nI m) answers x1 (nI i) = _ ∧ _) ∨ ∃ e, f_X3_onlyAnswer_b5 N (nI m) answers x1 (nI i) = _ ∧ _
      unfold f_X3_onlyAnswer_b5 nm
      rw [if_neg b0, gd_t b, zcl (show i < 2147483648 by omega), ai.1, J, gd_t b]
      cases e : A i with
      | none =>
        rw [if_pos (show lr none = -9 from rfl), nI_1]
        refine Or.inl ⟨_, rfl, rfl, ?_⟩
        dsimp only
        rcases hI with ⟨p1, p2⟩ | ⟨v, p0, p1, p2, j, p3, p4⟩
        · refine Or.inl ⟨p1, fun j hj => ?_⟩
          rcases Nat.lt_or_ge j i with r | r
          · exact p2 j r
          · have : j = i := by omega
            rw [this]; exact e
        · refine Or.inr ⟨v, p0, p1, fun j hj => ?_, j, by omega, p4⟩
          rcases Nat.lt_or_ge j i with r | r
          · exact p2 j r
          · have : j = i := by omega
            rw [this]; exact Or.inl e
      | some u =>
        have hu : u ≤ 2 := ai.2 u e
        have h9 : ¬ lr (some u) = -9 := by
          intro h
          have h' : nI u = -nI 9 := h
          rw [zeqn (by omega) (by omega) (by omega)] at h'
          exact h'
        rw [if_neg h9]
        rcases hI with ⟨p1, p2⟩ | ⟨v, p0, p1, p2, j, p3, p4⟩
        · rw [if_pos p1]
          refine Or.inl ⟨_, rfl, rfl, Or.inr ⟨u, hu, rfl, fun j hj => ?_, i, by omega, e⟩⟩
          rcases Nat.lt_or_ge j i with r | r
          · exact Or.inl (p2 j r)
          · have : j = i := by omega
            rw [this]; exact Or.inr e
        · subst p1
          have h9' : ¬ nI v = -9 := by
            intro h
            have h' : nI v = -nI 9 := h
            rw [zeqn (by omega) (by omega) (by omega)] at h'
            exact h'
          rw [if_neg h9']
          by_cases q : v = u
          · subst q
            rw [if_pos (show nI v = lr (some v) from rfl)]
            refine Or.inl ⟨_, rfl, rfl, Or.inr ⟨v, hu, rfl, fun j hj => ?_, i, by omega, e⟩⟩
            rcases Nat.lt_or_ge j i with r | r
            · exact p2 j r
            · have : j = i := by omega
              rw [this]; exact Or.inr e
          · rw [if_neg (by show ¬ nI v = nI u; rw [zeq (by omega) (by omega)]; exact q)]
            refine Or.inr ⟨_, rfl, Or.inl ⟨rfl, fun ⟨w, hw, _⟩ => ?_⟩⟩
            have w1 := hw i hi
            have w2 := hw j (by omega)
            rw [e] at w1
            rw [p4] at w2
            rcases w1 with w1 | w1
            · cases w1
            · rcases w2 with w2 | w2
              · cases w2
              · cases w1; cases w2; exact q rfl)
    (fun x hI => by
      obtain ⟨x1, x2⟩ := x
      obtain ⟨e1, hI⟩ := hI
      dsimp only at e1 hI
      subst e1
      refine ⟨.inr x1, ?_, ?_⟩
      · show f_X3_onlyAnswer_b5 N (nI m) answers x1 (nI m) = _
        unfold f_X3_onlyAnswer_b5
        rw [if_pos (Int32.le_refl _)]
      · rcases hI with ⟨p1, p2⟩ | ⟨v, p0, p1, p2, p3⟩
        · exact Or.inr (Or.inl ⟨by rw [p1], p2⟩)
        · exact Or.inr (Or.inr ⟨v, p0, by rw [p1], p2, p3⟩)) N 0 (-9, 0) (Nat.zero_le _) (by omega) ⟨rfl, Or.inl ⟨rfl, fun j hj => absurd hj (Nat.not_lt_zero j)⟩⟩
  unfold f_X3_onlyAnswer
  rw [h1]
  rcases h2 with ⟨rfl, h⟩ | ⟨rfl, h⟩ | ⟨v, h0, rfl, h⟩
  · exact Or.inr ⟨h, rfl⟩
  · refine Or.inr ⟨fun ⟨v, _, i, hi, e⟩ => ?_, rfl⟩
    rw [h i hi] at e; cases e
  · exact Or.inl ⟨v, h, h0, rfl⟩
theorem q_allHope (hN : 20000 ≤ N) (hc : c ≤ 12) (hm : m ≤ 462) (hL : ∀ i k, i < m → k < c → leads (12 * i + k) = lc (L i k) ∧ ∀ j, L i k = some j → j < m) (hA : AR m answers A) (hopes : Nat → Int32) :
    ∃ hopes', ((∀ i, i < m → Can c m L (fun i => A i ≠ none) i) ∧ f_X3_allHope N (nI c) (nI m) leads answers hopes = some (1, hopes')) ∨ ((¬ ∀ i, i < m → Can c m L (fun i => A i ≠ none) i) ∧ f_X3_allHope N (nI c) (nI m) leads answers hopes = some (0, hopes')) := by
  obtain ⟨a0, h1, h2⟩ := loop_idx (b := fun (w9 : Int32 × (Nat → Int32)) => f_X3_allHope_b2 N (nI c) (nI m) leads answers w9.1 w9.2)
    (fun i x => x.1 = nI i ∧ ∀ t, t < i → x.2 t = bI (A t).isSome) (fun z => HR m z (fun t => (A t).isSome)) m
    (fun i x hi hI => by
      obtain ⟨x1, x2⟩ := x
      obtain ⟨e1, h⟩ := hI
      dsimp only at e1 h
      subst e1
      have ai := hA i hi
      have b : inb (nI i) 462 = true := zinb (by omega) (by omega)
      refine Or.inl ⟨(nI (i + 1), upd x2 i (bI (A i).isSome)), ?_, rfl, fun t ht => ?_⟩
      · show f_X3_allHope_b2 N (nI c) (nI m) leads answers (nI i) x2 = _
        unfold f_X3_allHope_b2 f_X3_allHope_j31 nm
        rw [if_neg (by rw [zle (by omega) (by omega)]; omega), gd_t b, gd_t b, gd_t b, zcl (show i < 2147483648 by omega), ai.1, nI_1]
        by_cases e : A i = none
        · rw [if_pos ((lr_none (le2_big ai.2)).mpr e), e]; rfl
        · rw [if_neg (fun z => e ((lr_none (le2_big ai.2)).mp z))]
          cases q : A i with
          | none => exact absurd q e
          | some v => rfl
      · dsimp only
        rw [upd_eq]
        by_cases q : t = i
        · rw [if_pos q, q]
        · rw [if_neg q]; exact h t (by omega))
    (fun x hI => by
      obtain ⟨x1, x2⟩ := x
      obtain ⟨e1, h⟩ := hI
      dsimp only at e1 h
      subst e1
      refine ⟨x2, ?_, h⟩
      show f_X3_allHope_b2 N (nI c) (nI m) leads answers (nI m) x2 = _
      unfold f_X3_allHope_b2
      rw [if_pos (Int32.le_refl _)]) N 0 (0, hopes) (Nat.zero_le _) (by omega) ⟨rfl, fun t ht => absurd ht (Nat.not_lt_zero t)⟩
  have hin : Hin c m L (fun i => A i ≠ none) (fun t => (A t).isSome) := by
    refine ⟨fun i hi hz => ?_, fun i hi hz => Can_z hi ?_⟩
    · cases q : A i with
      | none => exact absurd q hz
      | some v => dsimp only; rw [q]; rfl
    · intro q
      dsimp only at hz
      rw [q] at hz; cases hz
  obtain ⟨a1, h', k1, k2, k3⟩ := q_hope6 (N := N) hN hc hm hL h2 hin answers
  have S := scan (b := fun (w9 : Int32) => f_X3_allHope_b66 N (nI c) (nI m) leads answers a1 w9) (v := ((0 : Int32), a1)) (fun i => h' i = false) (N := N) (c := m) (by omega)
    (fun i hi => by
      unfold f_X3_allHope_b66 nm
      dsimp only
      rw [if_neg (by rw [zle (by omega) (by omega)]; omega), gd_t (zinb (show i < 462 by omega) (by omega)), zcl (show i < 2147483648 by omega), k2 i hi]
      cases q : h' i with
      | false => exact Or.inl ⟨rfl, by rw [if_pos (by decide)]⟩
      | true => exact Or.inr ⟨by decide, by rw [if_neg (by decide), nI_1]⟩)
    (by
      show f_X3_allHope_b66 N (nI c) (nI m) leads answers a1 (nI m) = _
      unfold f_X3_allHope_b66
      rw [if_pos (Int32.le_refl _)])
  refine ⟨a1, ?_⟩
  unfold f_X3_allHope
  rw [h1]
  show _ ∧ (bd1 (loopN _ N (1, 0, a0)) _) = _ ∨ _ ∧ (bd1 (loopN _ N (1, 0, a0)) _) = _
  rw [k1]
  simp only [bd1]
  rcases S with ⟨⟨i, hi, q⟩, s2⟩ | ⟨s1, s2⟩
  · refine Or.inr ⟨fun z => ?_, by rw [s2]; rfl⟩
    have := (k3 i hi).mpr (z i hi)
    rw [q] at this; cases this
  · refine Or.inl ⟨fun i hi => (k3 i hi).mp ?_, by rw [s2]; rfl⟩
    have := s1 i hi
    simpa using this
theorem q_isDecided (hN : 20000 ≤ N) (hc : c ≤ 12) (hm : m ≤ 462) (hL : ∀ i k, i < m → k < c → leadsTo (12 * i + k) = lr (L i k) ∧ ∀ j, L i k = some j → j < m) (hA : AR m answerOf A) {v : Nat} (hv : v ≤ 2) (comesTo : Nat → Int32) :
    ∃ comesTo', ((∀ i, i < m → Can c m L (fun i => A i = some v) i) ∧ f_X7_isDecided N (nI v) (nI c) (nI m) leadsTo answerOf comesTo = some (1, comesTo')) ∨ ((¬ ∀ i, i < m → Can c m L (fun i => A i = some v) i) ∧ f_X7_isDecided N (nI v) (nI c) (nI m) leadsTo answerOf comesTo = some (0, comesTo')) := by
  obtain ⟨a0, h1, h2⟩ := loop_idx (b := fun (w9 : Int32 × (Nat → Int32)) => f_X7_isDecided_b2 N (nI v) (nI c) (nI m) leadsTo answerOf w9.1 w9.2)
    (fun i x => x.1 = nI i ∧ ∀ t, t < i → x.2 t = bI (decide (A t = some v))) (fun z => HR m z (fun t => decide (A t = some v))) m
    (fun i x hi hI => by
      obtain ⟨x1, x2⟩ := x
      obtain ⟨e1, h⟩ := hI
      dsimp only at e1 h
      subst e1
      have ai := hA i hi
      have b : inb (nI i) 462 = true := zinb (by omega) (by omega)
      refine Or.inl ⟨(nI (i + 1), upd x2 i (bI (decide (A i = some v)))), ?_, rfl, fun t ht => ?_⟩
      · show f_X7_isDecided_b2 N (nI v) (nI c) (nI m) leadsTo answerOf (nI i) x2 = _
        unfold f_X7_isDecided_b2 f_X7_isDecided_j30 nm
        rw [if_neg (by rw [zle (by omega) (by omega)]; omega), gd_t b, gd_t b, gd_t b, zcl (show i < 2147483648 by omega), ai.1, nI_1]
        by_cases e : A i = some v
        · rw [if_pos (by rw [e]; rfl), decide_eq_true e]; rfl
        · rw [if_neg (show ¬ lr (A i) = nI v from fun z => e ((lr_eq (b := some v) (le2_big ai.2) (fun w hw => by cases hw; omega)).mp z)), decide_eq_false e]; rfl
      · dsimp only
        rw [upd_eq]
        by_cases q : t = i
        · rw [if_pos q, q]
        · rw [if_neg q]; exact h t (by omega))
    (fun x hI => by
      obtain ⟨x1, x2⟩ := x
      obtain ⟨e1, h⟩ := hI
      dsimp only at e1 h
      subst e1
      refine ⟨x2, ?_, h⟩
      show f_X7_isDecided_b2 N (nI v) (nI c) (nI m) leadsTo answerOf (nI m) x2 = _
      unfold f_X7_isDecided_b2
      rw [if_pos (Int32.le_refl _)]) N 0 (0, comesTo) (Nat.zero_le _) (by omega) ⟨rfl, fun t ht => absurd ht (Nat.not_lt_zero t)⟩
  have hin : Hin c m L (fun i => A i = some v) (fun t => decide (A t = some v)) :=
    ⟨fun i hi hz => decide_eq_true hz, fun i hi hz => Can_z hi (of_decide_eq_true hz)⟩
  obtain ⟨a1, h', k1, k2, k3⟩ := q_hope7 (N := N) hN hc hm hL h2 hin answerOf
  have S := mark (b := fun x y => f_X7_isDecided_b95 N (nI c) (nI m) leadsTo answerOf a1 x y) (fun i => h' i = false) (N := N) (c := m) (by omega)
    (fun i hi => by
      unfold f_X7_isDecided_b95 nm
      dsimp only
      rw [if_neg (by rw [zle (by omega) (by omega)]; omega), if_pos rfl, nI_1])
    (fun i hi => by
      unfold f_X7_isDecided_b95 nm
      dsimp only
      rw [if_neg (by rw [zle (by omega) (by omega)]; omega), if_neg (by decide), gd_t (zinb (show i < 462 by omega) (by omega)), zcl (show i < 2147483648 by omega), k2 i hi]
      cases q : h' i with
      | false => exact Or.inl ⟨rfl, by rw [if_pos (by decide), nI_1]⟩
      | true => exact Or.inr ⟨by decide, by rw [if_neg (by decide), nI_1]⟩)
    (fun x => by
      show f_X7_isDecided_b95 N (nI c) (nI m) leadsTo answerOf a1 x (nI m) = _
      unfold f_X7_isDecided_b95
      rw [if_pos (Int32.le_refl _)])
  refine ⟨a1, ?_⟩
  unfold f_X7_isDecided
  rw [h1]
  show _ ∧ (bd1 (loopN _ N (1, a0)) _) = _ ∨ _ ∧ (bd1 (loopN _ N (1, a0)) _) = _
  rw [k1]
  simp only [bd1]
  rcases S with ⟨⟨i, hi, q⟩, s2⟩ | ⟨s1, s2⟩
  · refine Or.inr ⟨fun z => ?_, by rw [s2]; rfl⟩
    have := (k3 i hi).mpr (z i hi)
    rw [q] at this; cases this
  · refine Or.inl ⟨fun i hi => (k3 i hi).mp ?_, by rw [s2]; rfl⟩
    have := s1 i hi
    simpa using this
def DD (c m : Nat) (L : Nat → Nat → Option Nat) (A : Nat → Option Nat) (v : Nat) : Prop := ∀ i, i < m → Can c m L (fun i => A i = some v) i
theorem DD_one (hm : 1 ≤ m) (hC : Clo c m L A) {v : Nat} (h : DD c m L A v) : One m A v := by
  refine ⟨fun i hi => ?_, ?_⟩
  · refine h i hi (fun i => A i = none ∨ A i = some v) (fun i _ e => Or.inr e) (fun i k j hi hk e hj => ?_)
    by_cases q : A i = none
    · exact Or.inl q
    · by_cases q2 : A j = A i
      · rw [← q2]; exact hj
      · exact absurd ⟨k, hk, j, e, q2⟩ (hC i hi q)
  · exact h 0 (by omega) (fun _ => ∃ i, i < m ∧ A i = some v) (fun i hi e => ⟨i, hi, e⟩) (fun _ _ _ _ _ _ h => h)
theorem DD_iff (hm : 1 ≤ m) (hC : Clo c m L A) {v : Nat} : DD c m L A v ↔ One m A v ∧ ∀ i, i < m → Can c m L (fun i => A i ≠ none) i := by
  refine ⟨fun h => ⟨DD_one hm hC h, fun i hi => ?_⟩, fun ⟨h1, h2⟩ i hi => ?_⟩
  · intro H a b
    exact h i hi H (fun i hi e => a i hi (fun z => by dsimp only at e; rw [e] at z; cases z)) b
  · intro H a b
    exact h2 i hi H (fun i hi e => a i hi ((h1.1 i hi).resolve_left e)) b
theorem One_uni {v w : Nat} (h1 : One m A v) (h2 : One m A w) : v = w := by
  obtain ⟨i, hi, e⟩ := h1.2
  have := h2.1 i hi
  rw [e] at this
  rcases this with h | h
  · cases h
  · cases h; rfl
theorem q_verdict (hN : 20000 ≤ N) (hc : c ≤ 12) (hP : PP n c m T Cs D L A confs near leads agrees answers manyIn farOf leadsTo answerOf) (hopes comesTo : Nat → Int32) :
    ∃ r hopes' comesTo', f_X3_verdict N (nI c) (nI m) leads answers hopes = some (r, hopes') ∧ f_X7_whatIsDecided N (nI c) (nI m) leadsTo answerOf comesTo = some (r, comesTo') := by
  obtain ⟨⟨hm1, hm, -, g4, -⟩, -, hA, hA7, hC, -⟩ := hP
  have hL6 : ∀ i k, i < m → k < c → leads (12 * i + k) = lc (L i k) ∧ ∀ j, L i k = some j → j < m := fun i k hi hk => ⟨(g4 i k hi hk).1, (g4 i k hi hk).2.2⟩
  have hL7 : ∀ i k, i < m → k < c → leadsTo (12 * i + k) = lr (L i k) ∧ ∀ j, L i k = some j → j < m := fun i k hi hk => ⟨(g4 i k hi hk).2.1, (g4 i k hi hk).2.2⟩
  have B : ∀ v, v ≤ 2 → ∀ cT, ∃ cT', (DD c m L A v ∧ f_X7_whatIsDecided_b2 N (nI c) (nI m) leadsTo answerOf (nI v) cT = some (.inr (.inl (nI v, cT')))) ∨ (¬ DD c m L A v ∧ f_X7_whatIsDecided_b2 N (nI c) (nI m) leadsTo answerOf (nI v) cT = some (.inl (nI (v + 1), cT'))) := by
    intro v hv cT
    obtain ⟨cT', h⟩ := q_isDecided (N := N) hN hc hm hL7 hA7 hv cT
    refine ⟨cT', ?_⟩
    unfold f_X7_whatIsDecided_b2 nm
    rw [if_neg (by rw [zl 2, zlt (by omega) (by omega)]; omega)]
    rcases h with ⟨h1, h2⟩ | ⟨h1, h2⟩
    · refine Or.inl ⟨h1, ?_⟩
      rw [h2]
      rfl
    · refine Or.inr ⟨h1, ?_⟩
      rw [h2, nI_1]
      rfl
  obtain ⟨z, l1, l2⟩ := loop_idx (b := fun (w9 : Int32 × (Nat → Int32)) => f_X7_whatIsDecided_b2 N (nI c) (nI m) leadsTo answerOf w9.1 w9.2)
    (fun v x => x.1 = nI v ∧ ∀ w, w < v → ¬ DD c m L A w) (fun z => (∃ v cT, v ≤ 2 ∧ z = .inl (nI v, cT) ∧ DD c m L A v) ∨ (∃ cT, z = .inr cT ∧ ∀ w, w < 3 → ¬ DD c m L A w)) 3
    (fun v x hv hI => by
      obtain ⟨x1, x2⟩ := x
      obtain ⟨e1, hI⟩ := hI
      dsimp only at e1 hI
      subst e1
      obtain ⟨cT', h⟩ := B v (by omega) x2
      rcases h with ⟨h1, h2⟩ | ⟨h1, h2⟩
      · exact Or.inr ⟨_, h2, Or.inl ⟨v, cT', by omega, rfl, h1⟩⟩
      · refine Or.inl ⟨_, h2, rfl, fun w hw => ?_⟩
        rcases Nat.lt_or_ge w v with r | r
        · exact hI w r
        · have : w = v := by omega
          rw [this]; exact h1)
    (fun x hI => by
      obtain ⟨x1, x2⟩ := x
      obtain ⟨e1, hI⟩ := hI
      dsimp only at e1 hI
      subst e1
      refine ⟨.inr x2, ?_, Or.inr ⟨x2, rfl, hI⟩⟩
      show f_X7_whatIsDecided_b2 N (nI c) (nI m) leadsTo answerOf (nI 3) x2 = _
      unfold f_X7_whatIsDecided_b2
      rw [if_pos (by decide)]) N 0 (0, comesTo) (Nat.zero_le _) (by omega) ⟨rfl, fun w hw => absurd hw (Nat.not_lt_zero w)⟩
  have W : ∀ r : Int32, ((∃ v, v ≤ 2 ∧ r = nI v ∧ DD c m L A v) ∨ (r = -9 ∧ ∀ w, w < 3 → ¬ DD c m L A w)) → ∃ cT, f_X7_whatIsDecided N (nI c) (nI m) leadsTo answerOf comesTo = some (r, cT) := by
    intro r hr
    unfold f_X7_whatIsDecided
    rw [l1]
    rcases l2 with ⟨v, cT, q0, rfl, q⟩ | ⟨cT, rfl, q⟩
    · refine ⟨cT, ?_⟩
      rcases hr with ⟨w, p0, rfl, p⟩ | ⟨rfl, p⟩
      · rw [One_uni (DD_one hm1 hC q) (DD_one hm1 hC p)]; rfl
      · exact absurd q (p v (by omega))
    · refine ⟨cT, ?_⟩
      rcases hr with ⟨w, p0, rfl, p⟩ | ⟨rfl, p⟩
      · exact absurd p (q w (by omega))
      · rfl
  unfold f_X3_verdict
  rcases q_only (N := N) hN hm hA with ⟨v, h1, h2, h3⟩ | ⟨h1, h3⟩
  · obtain ⟨hp, h4⟩ := q_allHope (N := N) hN hc hm hL6 hA hopes
    have h9' : ¬ nI v = -9 := by
      intro h
      have h' : nI v = -nI 9 := h
      rw [zeqn (by omega) (by omega) (by omega)] at h'
      exact h'
    rcases h4 with ⟨h4, h5⟩ | ⟨h4, h5⟩
    · obtain ⟨cT, w⟩ := W (nI v) (Or.inl ⟨v, h2, rfl, (DD_iff hm1 hC).mpr ⟨h1, h4⟩⟩)
      refine ⟨nI v, hp, cT, ?_, w⟩
      rw [h3]
      simp only [bd1]
      rw [if_neg h9', h5]
      rfl
    · obtain ⟨cT, w⟩ := W (-9) (Or.inr ⟨rfl, fun w _ hw => h4 ((DD_iff hm1 hC).mp hw).2⟩)
      refine ⟨-9, hp, cT, ?_, w⟩
      rw [h3]
      simp only [bd1]
      rw [if_neg h9', h5]
      rfl
  · obtain ⟨cT, w⟩ := W (-9) (Or.inr ⟨rfl, fun w _ hw => h1 ⟨w, ((DD_iff hm1 hC).mp hw).1⟩⟩)
    refine ⟨-9, hopes, cT, ?_, w⟩
    rw [h3]
    rfl
end DE
theorem op_decided {N : Nat} (hN : 20000 ≤ N) {bCount : Int32} {cSize : Int32} {cMeet : Int32} {cChg : Int32} {cSeed : Int32} {mRules : Int32} {mAgents : Int32} {mMeet : Int32} {mChg : Int32} {mSeed : Int32} {told : Nat → Int32} {weights : Nat → Int32} {twos : Nat → Int32} {outs : Nat → Int32} {states : Nat → Int32} {lastMet : Nat → Int32} {pOf : Nat → Int32} {qOf : Nat → Int32} {xOf : Nat → Int32} {yOf : Nat → Int32} {toldBy : Nat → Int32} {weightOf : Nat → Int32} {stateOf : Nat → Int32} {metAt : Nat → Int32} (hR : Rel bCount twos outs mRules pOf qOf xOf yOf cSize cMeet cChg cSeed states lastMet mAgents mMeet mChg mSeed stateOf metAt told toldBy weights weightOf) (rRules : Int32) (rCount : Int32) (mListed : Int32) (por : Nat → Int32) (confs : Nat → Int32) (near : Nat → Int32) (leads : Nat → Int32) (agrees : Nat → Int32) (answers : Nat → Int32) (hopes : Nat → Int32) (manyIn : Nat → Int32) (codeOf : Nat → Int32) (farOf : Nat → Int32) (leadsTo : Nat → Int32) (answerOf : Nat → Int32) (comesTo : Nat → Int32) : ∃ (r9 : Int32) (rRules9 : Int32) (rCount9 : Int32) (por9 : Nat → Int32) (confs9 : Nat → Int32) (near9 : Nat → Int32) (leads9 : Nat → Int32) (agrees9 : Nat → Int32) (answers9 : Nat → Int32) (hopes9 : Nat → Int32) (mListed9 : Int32) (manyIn9 : Nat → Int32) (codeOf9 : Nat → Int32) (farOf9 : Nat → Int32) (leadsTo9 : Nat → Int32) (answerOf9 : Nat → Int32) (comesTo9 : Nat → Int32), f_X6_decided N bCount cSize rRules rCount told twos outs states por confs near leads agrees answers hopes = some (r9, rRules9, rCount9, por9, confs9, near9, leads9, agrees9, answers9, hopes9) ∧ f_X7_decided N mRules mAgents mListed pOf qOf xOf yOf toldBy stateOf manyIn codeOf farOf leadsTo answerOf comesTo = some (r9, mListed9, manyIn9, codeOf9, farOf9, leadsTo9, answerOf9, comesTo9) ∧ Rel bCount twos outs mRules pOf qOf xOf yOf cSize cMeet cChg cSeed states lastMet mAgents mMeet mChg mSeed stateOf metAt told toldBy weights weightOf := by
  have hR0 := hR
  obtain ⟨⟨c, P, Q, X, Y, eb, er, hB⟩, ⟨n, S, hn0, hn, ec, em, -, -, -, hS, -⟩, ⟨T, hT⟩, -⟩ := hR
  subst eb; subst er; subst ec; subst em
  have hc := hB.1
  by_cases h0 : n = 0
  · subst h0
    refine ⟨-3, rRules, rCount, por, confs, near, leads, agrees, answers, hopes, mListed, manyIn, codeOf, farOf, leadsTo, answerOf, comesTo, ?_, ?_, hR0⟩
    · unfold f_X6_decided
      rw [if_pos (by decide)]
    · unfold f_X7_decided
      rw [if_pos (by decide)]
  · have hn3 : ¬ nI n = 0 := by rw [zl 0, zeq (by omega) (by omega)]; exact h0
    obtain ⟨m, Cs, D, L, A, por', confs', near', leads', agrees', answers', many', code', far', leadsTo', answerOf', g1, g2, g3⟩ := q_present (N := N) hN hn hB hT hS rRules rCount mListed por confs near leads agrees answers manyIn codeOf farOf leadsTo answerOf
    obtain ⟨r, hp, cT, v1, v2⟩ := q_verdict (N := N) hN hc g3 hopes comesTo
    refine ⟨r, nI c, nI m, por', confs', near', leads', agrees', answers', hp, nI m, many', code', far', leadsTo', answerOf', cT, ?_, ?_, hR0⟩
    · unfold f_X6_decided
      rw [if_neg hn3, g1]
      simp only [bd8]
      rw [v1]; rfl
    · unfold f_X7_decided
      rw [if_neg hn3, g2]
      simp only [bd6]
      rw [v2]; rfl
