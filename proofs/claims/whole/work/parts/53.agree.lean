/-! ===== what all agents tell ===== -/
def agx (t : Nat) (acc r : Option Nat) : Option Nat := match acc with
  | none => r
  | some v => if v = t then r else none
def agc (C T : Nat → Nat) : Nat → Option Nat → Option Nat
  | 0, acc => acc
  | k + 1, acc => if C (6 - (k + 1)) = 0 then agc C T k acc else agx (T (6 - (k + 1))) acc (agc C T k (some (T (6 - (k + 1)))))
def ag (C T : Nat → Nat) : Option Nat := agc C T 6 none
def le2 (a : Option Nat) : Prop := ∀ v, a = some v → v ≤ 2
theorem agc_le2 {C T : Nat → Nat} (hT : ∀ s, s < 6 → T s ≤ 2) : ∀ (k : Nat) (acc : Option Nat), le2 acc → le2 (agc C T k acc) := by
  intro k
  induction k with
  | zero => intro acc h; exact h
  | succ k ih =>
    intro acc h
    rw [agc]
    split
    · exact ih acc h
    · have hr := ih (some (T (6 - (k + 1)))) (fun v hv => by cases hv; exact hT _ (by omega))
      cases acc with
      | none => exact hr
      | some u =>
        show le2 (if u = _ then _ else none)
        split
        · exact hr
        · intro v hv; cases hv
theorem ag_le2 {C T : Nat → Nat} (hT : ∀ s, s < 6 → T s ≤ 2) : le2 (ag C T) := agc_le2 hT 6 none (fun v hv => by cases hv)
theorem lr_eq {a b : Option Nat} (ha : ∀ v, a = some v → v < 2147483648) (hb : ∀ v, b = some v → v < 2147483648) : lr a = lr b ↔ a = b := by
  constructor
  · intro h
    cases a with
    | none =>
      cases b with
      | none => rfl
      | some v =>
        have h' : (-nI 9 : Int32) = nI v := h
        rw [zneq (hb v rfl) (by omega) (by omega)] at h'
        exact h'.elim
    | some u =>
      cases b with
      | none =>
        have h' : nI u = (-nI 9 : Int32) := h
        rw [zeqn (ha u rfl) (by omega) (by omega)] at h'
        exact h'.elim
      | some v =>
        have h' : nI u = nI v := h
        rw [zeq (ha u rfl) (hb v rfl)] at h'
        rw [h']
  · intro h; rw [h]
theorem lr_none {a : Option Nat} (ha : ∀ v, a = some v → v < 2147483648) : lr a = -9 ↔ a = none := lr_eq (b := none) ha (fun v hv => by cases hv)
theorem le2_big {a : Option Nat} (h : le2 a) : ∀ v, a = some v → v < 2147483648 := fun v hv => by have := h v hv; omega
section AG
variable {N i : Nat} {C T : Nat → Nat} {told toldBy manyIn : Nat → Int32}
theorem agc_step {s : Nat} (hs : s < 6) (acc : Option Nat) : agc C T (6 - s) acc = if C s = 0 then agc C T (6 - (s + 1)) acc else agx (T s) acc (agc C T (6 - (s + 1)) (some (T s))) := by
  have e : 6 - s = (6 - (s + 1)) + 1 := by omega
  rw [e, agc, show 6 - (6 - (s + 1) + 1) = s by omega]
theorem q_agree6 (hN : 20000 ≤ N) (hC : csum C ≤ 6) (hT : ∀ s, s < 6 → T s ≤ 2 ∧ told s = nI (T s)) : f_X1_agreement_told N (nI (pak C)) told = some (lr (ag C T)) := by
  obtain ⟨z, h1, h2⟩ := loop_idx (b := fun (w9 : Int32 × Int32) => f_X1_agreement_told_b5 N (nI (pak C)) told w9.1 w9.2)
    (fun s x => ∃ acc, le2 acc ∧ x.1 = lr acc ∧ x.2 = nI s ∧ ag C T = agc C T (6 - s) acc) (fun z => z = .inl (lr (ag C T)) ∨ z = .inr (lr (ag C T))) 6
    (fun s x hs hI => by
      obtain ⟨x1, x2⟩ := x
      obtain ⟨acc, ha, e1, e2, e3⟩ := hI
      dsimp only at e1 e2
      subst e1; subst e2
      rw [agc_step hs] at e3
      have ts := hT s hs
      have lC := cs_le hC hs
      have J : f_X1_agreement_told_j35 N (nI (pak C)) (nI s) told = some (.inl (nI (T s), nI (s + 1))) := by
        unfold f_X1_agreement_told_j35 nm
        rw [gd_t (zinb hs (by omega)), zcl (show s < 2147483648 by omega), ts.2, nI_1]
      have B : f_X1_agreement_told_b5 N (nI (pak C)) told (lr acc) (nI s) = (if nI (C s) ≤ 0 then some (.inl (lr acc, nI (s + 1))) else (if lr acc = -9 then some (.inl (nI (T s), nI (s + 1))) else (if lr acc = nI (T s) then some (.inl (nI (T s), nI (s + 1))) else some (.inr (.inl (-9)))))) := by
        unfold f_X1_agreement_told_b5 nm
        rw [if_neg (by rw [zl 6, zle (by omega) (by omega)]; omega), q_countIn hC hs]
        simp only [bd1, J]
        rw [gd_t (zinb hs (by omega)), zcl (show s < 2147483648 by omega), ts.2, nI_1]
      by_cases h0 : C s = 0
      · rw [if_pos h0] at e3
        refine Or.inl ⟨(lr acc, nI (s + 1)), ?_, acc, ha, rfl, rfl, e3⟩
        show f_X1_agreement_told_b5 N (nI (pak C)) told (lr acc) (nI s) = _
        rw [B, if_pos (by rw [h0]; decide)]
      · rw [if_neg h0] at e3
        have hp : ¬ nI (C s) ≤ 0 := nI_nle (by omega) (by omega)
        cases acc with
        | none =>
          refine Or.inl ⟨(nI (T s), nI (s + 1)), ?_, some (T s), fun v hv => by cases hv; exact ts.1, rfl, rfl, e3⟩
          show f_X1_agreement_told_b5 N (nI (pak C)) told (lr none) (nI s) = _
          rw [B, if_neg hp, if_pos (show lr none = -9 from rfl)]
        | some v =>
          have hv := ha v rfl
          have e3 : ag C T = if v = T s then agc C T (6 - (s + 1)) (some (T s)) else none := e3
          by_cases q : v = T s
          · rw [if_pos q, ← q] at e3
            refine Or.inl ⟨(nI (T s), nI (s + 1)), ?_, some v, ha, by rw [← q]; rfl, rfl, e3⟩
            show f_X1_agreement_told_b5 N (nI (pak C)) told (lr (some v)) (nI s) = _
            rw [B, if_neg hp, if_neg (fun z => by cases (lr_none (le2_big ha)).mp z), if_pos (by rw [q]; rfl)]
          · rw [if_neg q] at e3
            refine Or.inr ⟨.inl (-9), ?_, Or.inl (by rw [e3]; rfl)⟩
            show f_X1_agreement_told_b5 N (nI (pak C)) told (lr (some v)) (nI s) = _
            rw [B, if_neg hp, if_neg (fun z => by cases (lr_none (le2_big ha)).mp z), if_neg (by show ¬ nI v = nI (T s); rw [zeq (by omega) (by omega)]; exact q)])
    (fun x hI => by
      obtain ⟨x1, x2⟩ := x
      obtain ⟨acc, ha, e1, e2, e3⟩ := hI
      dsimp only at e1 e2
      subst e1; subst e2
      refine ⟨.inr (lr acc), ?_, Or.inr (by rw [e3]; rfl)⟩
      show f_X1_agreement_told_b5 N (nI (pak C)) told (lr acc) (nI 6) = _
      unfold f_X1_agreement_told_b5
      rw [if_pos (by decide)]) N 0 (-9, 0) (Nat.zero_le _) (by omega) ⟨none, fun v hv => (by cases hv), rfl, rfl, rfl⟩
  unfold f_X1_agreement_told
  rw [h1]
  rcases h2 with rfl | rfl <;> rfl
theorem q_agree7 (hN : 20000 ≤ N) (hC : csum C ≤ 6) (hi : i < 462) (hrow : ∀ s, s < 6 → manyIn (6 * i + s) = nI (C s)) (hT : ∀ s, s < 6 → T s ≤ 2 ∧ toldBy s = nI (T s)) : f_X7_agreed N (nI i) toldBy manyIn = some (lr (ag C T)) := by
  obtain ⟨z, h1, h2⟩ := loop_idx (b := fun (w9 : Int32 × Int32 × Int32) => f_X7_agreed_b8 N (nI i) toldBy manyIn w9.1 w9.2.1 w9.2.2)
    (fun s x => x.2.2 = nI s ∧ ((x.2.1 = 0 ∧ ag C T = none) ∨ (x.2.1 = 1 ∧ ∃ acc, le2 acc ∧ x.1 = lr acc ∧ ag C T = agc C T (6 - s) acc))) (fun z => (z.2 = 0 ∧ ag C T = none) ∨ (z.2 = 1 ∧ z.1 = lr (ag C T))) 6
    (fun s x hs hI => by
      obtain ⟨x1, x2, x3⟩ := x
      obtain ⟨e0, hI⟩ := hI
      dsimp only at e0 hI
      subst e0
      have ts := hT s hs
      have lC := cs_le hC hs
      have e1 : 6 * nI i + nI s = nI (6 * i + s) := by rw [zl 6, zmul, zadd]
      have J : ∀ y : Int32, f_X7_agreed_j56 N (nI i) (nI s) y toldBy manyIn = some (.inl (nI (T s), y, nI (s + 1))) := by
        intro y
        unfold f_X7_agreed_j56 nm
        rw [gd_t (zinb hs (by omega)), zcl (show s < 2147483648 by omega), ts.2, nI_1]
      have B : f_X7_agreed_b8 N (nI i) toldBy manyIn x1 x2 (nI s) = (if nI (C s) ≤ 0 then some (.inl (x1, x2, nI (s + 1))) else (if x2 = 0 then some (.inl (nI (T s), 0, nI (s + 1))) else (if x1 = -9 then some (.inl (nI (T s), 1, nI (s + 1))) else (if x1 = nI (T s) then some (.inl (nI (T s), 1, nI (s + 1))) else some (.inl (nI (T s), 0, nI (s + 1))))))) := by
        unfold f_X7_agreed_b8 nm
        rw [if_neg (by rw [zl 6, zle (by omega) (by omega)]; omega), e1, gd_t (zinb (show 6 * i + s < 2772 by omega) (by omega)), zcl (show 6 * i + s < 2147483648 by omega), hrow s hs]
        simp only [J]
        rw [gd_t (zinb hs (by omega)), zcl (show s < 2147483648 by omega), ts.2, nI_1]
      rcases hI with ⟨rfl, hag⟩ | ⟨rfl, acc, ha, rfl, e3⟩
      · by_cases h0 : nI (C s) ≤ 0
        · refine Or.inl ⟨(x1, 0, nI (s + 1)), ?_, rfl, Or.inl ⟨rfl, hag⟩⟩
          show f_X7_agreed_b8 N (nI i) toldBy manyIn x1 0 (nI s) = _
          rw [B, if_pos h0]
        · refine Or.inl ⟨(nI (T s), 0, nI (s + 1)), ?_, rfl, Or.inl ⟨rfl, hag⟩⟩
          show f_X7_agreed_b8 N (nI i) toldBy manyIn x1 0 (nI s) = _
          rw [B, if_neg h0, if_pos rfl]
      · rw [agc_step hs] at e3
        by_cases h0 : C s = 0
        · rw [if_pos h0] at e3
          refine Or.inl ⟨(lr acc, 1, nI (s + 1)), ?_, rfl, Or.inr ⟨rfl, acc, ha, rfl, e3⟩⟩
          show f_X7_agreed_b8 N (nI i) toldBy manyIn (lr acc) 1 (nI s) = _
          rw [B, if_pos (by rw [h0]; decide)]
        · rw [if_neg h0] at e3
          have hp : ¬ nI (C s) ≤ 0 := nI_nle (by omega) (by omega)
          cases acc with
          | none =>
            refine Or.inl ⟨(nI (T s), 1, nI (s + 1)), ?_, rfl, Or.inr ⟨rfl, some (T s), fun v hv => by cases hv; exact ts.1, rfl, e3⟩⟩
            show f_X7_agreed_b8 N (nI i) toldBy manyIn (lr none) 1 (nI s) = _
            rw [B, if_neg hp, if_neg (by decide), if_pos (show lr none = -9 from rfl)]
          | some v =>
            have hv := ha v rfl
            have e3 : ag C T = if v = T s then agc C T (6 - (s + 1)) (some (T s)) else none := e3
            have h9 : ¬ lr (some v) = -9 := fun z => by cases (lr_none (le2_big ha)).mp z
            by_cases q : v = T s
            · rw [if_pos q, ← q] at e3
              refine Or.inl ⟨(nI (T s), 1, nI (s + 1)), ?_, rfl, Or.inr ⟨rfl, some v, ha, by rw [← q]; rfl, e3⟩⟩
              show f_X7_agreed_b8 N (nI i) toldBy manyIn (lr (some v)) 1 (nI s) = _
              rw [B, if_neg hp, if_neg (by decide), if_neg h9, if_pos (by rw [q]; rfl)]
            · rw [if_neg q] at e3
              refine Or.inl ⟨(nI (T s), 0, nI (s + 1)), ?_, rfl, Or.inl ⟨rfl, e3⟩⟩
              show f_X7_agreed_b8 N (nI i) toldBy manyIn (lr (some v)) 1 (nI s) = _
              rw [B, if_neg hp, if_neg (by decide), if_neg h9, if_neg (by show ¬ nI v = nI (T s); rw [zeq (by omega) (by omega)]; exact q)])
    (fun x hI => by
      obtain ⟨x1, x2, x3⟩ := x
      obtain ⟨e0, hI⟩ := hI
      dsimp only at e0 hI
      subst e0
      refine ⟨(x1, x2), ?_, ?_⟩
      · show f_X7_agreed_b8 N (nI i) toldBy manyIn x1 x2 (nI 6) = _
        unfold f_X7_agreed_b8
        rw [if_pos (by decide)]
      · rcases hI with ⟨a, b⟩ | ⟨a, acc, -, b, d⟩
        · exact Or.inl ⟨a, b⟩
        · exact Or.inr ⟨a, by rw [d]; exact b⟩) N 0 (-9, 1, 0) (Nat.zero_le _) (by omega) ⟨rfl, Or.inr ⟨rfl, none, fun v hv => (by cases hv), rfl, rfl⟩⟩
  obtain ⟨z1, z2⟩ := z
  dsimp only at h2
  unfold f_X7_agreed
  rw [h1]
  show (if z2 = 0 then some (-9) else some z1) = _
  rcases h2 with ⟨rfl, e⟩ | ⟨rfl, rfl⟩
  · rw [if_pos rfl, e]; rfl
  · rw [if_neg (by decide)]
end AG
