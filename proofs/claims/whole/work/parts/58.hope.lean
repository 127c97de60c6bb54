/-! ===== from where it can be come to ===== -/
theorem mark1 {b : Int32 → Int32 → Option ((Int32 × Int32) ⊕ Int32)} (Q : Nat → Prop) {N c : Nat} (hN : c < N)
    (h0 : ∀ k, k < c → b 1 (nI k) = some (.inl (1, nI (k + 1))))
    (h1 : ∀ k, k < c → (Q k ∧ b 0 (nI k) = some (.inl (1, nI (k + 1)))) ∨ (¬ Q k ∧ b 0 (nI k) = some (.inl (0, nI (k + 1))))) (h2 : ∀ x, b x (nI c) = some (.inr x)) :
    ((∃ k, k < c ∧ Q k) ∧ loopN (fun (w9 : Int32 × Int32) => b w9.1 w9.2) N (0, 0) = some 1) ∨ ((∀ k, k < c → ¬ Q k) ∧ loopN (fun (w9 : Int32 × Int32) => b w9.1 w9.2) N (0, 0) = some 0) := by
  obtain ⟨z, e, h⟩ := loop_idx (b := fun (w9 : Int32 × Int32) => b w9.1 w9.2) (fun k x => x.2 = nI k ∧ ((x.1 = 1 ∧ ∃ k, k < c ∧ Q k) ∨ (x.1 = 0 ∧ ∀ k', k' < k → ¬ Q k'))) (fun z => (z = 1 ∧ ∃ k, k < c ∧ Q k) ∨ (z = 0 ∧ ∀ k, k < c → ¬ Q k)) c
    (fun k x hk hI => by
      obtain ⟨x1, x2⟩ := x
      obtain ⟨e1, e2⟩ := hI
      dsimp only at e1 e2
      subst e1
      rcases e2 with ⟨rfl, h⟩ | ⟨rfl, h⟩
      · exact Or.inl ⟨_, h0 k hk, rfl, Or.inl ⟨rfl, h⟩⟩
      · rcases h1 k hk with ⟨q, e⟩ | ⟨q, e⟩
        · exact Or.inl ⟨_, e, rfl, Or.inl ⟨rfl, k, hk, q⟩⟩
        · refine Or.inl ⟨_, e, rfl, Or.inr ⟨rfl, fun k' hk' => ?_⟩⟩
          rcases Nat.lt_or_ge k' k with p | p
          · exact h k' p
          · have : k' = k := by omega
            rw [this]; exact q)
    (fun x hI => by
      obtain ⟨x1, x2⟩ := x
      obtain ⟨e1, e2⟩ := hI
      dsimp only at e1 e2
      subst e1
      exact ⟨x1, h2 x1, e2⟩) N 0 (0, 0) (Nat.zero_le _) (by omega) ⟨rfl, Or.inr ⟨rfl, fun k hk => absurd hk (Nat.not_lt_zero k)⟩⟩
  rw [e]
  rcases h with ⟨rfl, h⟩ | ⟨rfl, h⟩
  · exact Or.inl ⟨h, rfl⟩
  · exact Or.inr ⟨h, rfl⟩
def Can (c m : Nat) (L : Nat → Nat → Option Nat) (Z : Nat → Prop) (i : Nat) : Prop :=
  ∀ H : Nat → Prop, (∀ i, i < m → Z i → H i) → (∀ i k j, i < m → k < c → L i k = some j → H j → H i) → H i
theorem Can_z {c m : Nat} {L : Nat → Nat → Option Nat} {Z : Nat → Prop} {i : Nat} (hi : i < m) (h : Z i) : Can c m L Z i := fun _ h1 _ => h1 i hi h
theorem Can_s {c m : Nat} {L : Nat → Nat → Option Nat} {Z : Nat → Prop} {i k j : Nat} (hi : i < m) (hk : k < c) (e : L i k = some j) (h : Can c m L Z j) : Can c m L Z i := fun H h1 h2 => h2 i k j hi hk e (h H h1 h2)
def bI (b : Bool) : Int32 := if b = true then 1 else 0
theorem bI0 (b : Bool) : bI b = 0 ↔ b = false := by cases b <;> decide
def HR (m : Nat) (arr : Nat → Int32) (h : Nat → Bool) : Prop := ∀ i, i < m → arr i = bI (h i)
def ledH (c : Nat) (L : Nat → Nat → Option Nat) (h : Nat → Bool) (i : Nat) : Prop := ∃ k, k < c ∧ ∃ j, L i k = some j ∧ h j = true
def Hin (c m : Nat) (L : Nat → Nat → Option Nat) (Z : Nat → Prop) (h : Nat → Bool) : Prop := (∀ i, i < m → Z i → h i = true) ∧ ∀ i, i < m → h i = true → Can c m L Z i
def Hcl (c m : Nat) (L : Nat → Nat → Option Nat) (h : Nat → Bool) : Prop := ∀ i, i < m → h i = false → ¬ ledH c L h i
theorem Hin_end {c m : Nat} {L : Nat → Nat → Option Nat} {Z : Nat → Prop} {h : Nat → Bool} (h1 : Hin c m L Z h) (h2 : Hcl c m L h) : ∀ i, i < m → (h i = true ↔ Can c m L Z i) := by
  intro i hi
  refine ⟨h1.2 i hi, fun hc => ?_⟩
  refine hc (fun i => h i = true) h1.1 (fun i k j hi hk e hj => ?_)
  cases q : h i with
  | true => rfl
  | false => exact absurd ⟨k, hk, j, e, hj⟩ (h2 i hi q)
theorem Hin_add {c m : Nat} {L : Nat → Nat → Option Nat} {Z : Nat → Prop} {h : Nat → Bool} (hL : ∀ i k j, i < m → k < c → L i k = some j → j < m) (h1 : Hin c m L Z h) {i : Nat} (hi : i < m) (h0 : h i = false) (hl : ledH c L h i) : Hin c m L Z (fun j => if j = i then true else h j) ∧ ct h m < ct (fun j => if j = i then true else h j) m := by
  refine ⟨⟨fun j hj hz => ?_, fun j hj hj2 => ?_⟩, ?_⟩
  · dsimp only
    split
    · rfl
    · exact h1.1 j hj hz
  · dsimp only at hj2
    by_cases q : j = i
    · subst q
      obtain ⟨k, hk, t, e1, e2⟩ := hl
      exact Can_s hj hk e1 (h1.2 t (hL _ _ _ hj hk e1) e2)
    · rw [if_neg q] at hj2
      exact h1.2 j hj hj2
  · refine ct_lt (i := i) m (fun j hj hjj => ?_) hi h0 (by simp)
    split
    · rfl
    · exact hjj
theorem HR_add {m : Nat} {arr : Nat → Int32} {h : Nat → Bool} (hr : HR m arr h) (i : Nat) : HR m (upd arr i (vp_nar .boolean (1 : Int32))) (fun j => if j = i then true else h j) := by
  intro j hj
  rw [upd_eq]
  dsimp only
  by_cases q : j = i
  · rw [if_pos q, if_pos q]; rfl
  · rw [if_neg q, if_neg q]; exact hr j hj
def SwH (c m : Nat) (L : Nat → Nat → Option Nat) (Z : Nat → Prop) (h : Nat → Bool) (chg : Int32) (arr' : Nat → Int32) : Prop := ∃ h', HR m arr' h' ∧ Hin c m L Z h' ∧ ((chg = 0 ∧ Hcl c m L h') ∨ (chg = 1 ∧ ct h m < ct h' m))
section HH
variable {N c m : Nat} {L : Nat → Nat → Option Nat} {Z : Nat → Prop} {h : Nat → Bool} {leads leadsTo arr : Nat → Int32}
theorem q_toHope6 (hN : 20000 ≤ N) (hc : c ≤ 12) (hm : m ≤ 462) (hL : ∀ i k, i < m → k < c → leads (12 * i + k) = lc (L i k) ∧ ∀ j, L i k = some j → j < m) (hA : HR m arr h) {i : Nat} (hi : i < m) :
    (ledH c L h i ∧ f_X3_leadsToHope N (nI i) (nI c) leads arr = some 1) ∨ (¬ ledH c L h i ∧ f_X3_leadsToHope N (nI i) (nI c) leads arr = some 0) := by
  have A := scan (b := fun (w9 : Int32) => f_X3_leadsToHope_b2 N (nI i) (nI c) leads arr w9) (v := (1 : Int32)) (fun k => ∃ j, L i k = some j ∧ h j = true) (N := N) (c := c) (by omega)
    (fun k hk => by
      have z1 : nI i * 12 + nI k = nI (12 * i + k) := by rw [zl 12, zmul, zadd, Nat.mul_comm]
      have l := hL i k hi hk
      unfold f_X3_leadsToHope_b2 f_X3_leadAt nm
      dsimp only
      rw [if_neg (by rw [zle (by omega) (by omega)]; omega), z1, gd_t (zinb (show 12 * i + k < 5544 by omega) (by omega)), zcl (show 12 * i + k < 2147483648 by omega), l.1]
      simp only [bd1]
      cases e : L i k with
      | none =>
        refine Or.inr ⟨fun ⟨j, h, _⟩ => (by cases h), ?_⟩
        rw [if_pos (show lc none < 0 by decide), nI_1]
      | some j =>
        have hj := l.2 j e
        have hlt : ¬ lc (some j) < 0 := nI_pos (by omega)
        rw [if_neg hlt, show lc (some j) = nI j from rfl, gd_t (zinb (show j < 462 by omega) (by omega)), zcl (show j < 2147483648 by omega), hA j hj]
        cases q : h j with
        | false => exact Or.inr ⟨fun ⟨t, e1, h2⟩ => (by cases e1; rw [q] at h2; cases h2), by rw [if_pos (by decide), nI_1]⟩
        | true => exact Or.inl ⟨⟨j, rfl, q⟩, by rw [if_neg (by decide)]⟩)
    (by
      show f_X3_leadsToHope_b2 N (nI i) (nI c) leads arr (nI c) = _
      unfold f_X3_leadsToHope_b2
      rw [if_pos (Int32.le_refl _)])
  unfold f_X3_leadsToHope
  rcases A with ⟨a1, a2⟩ | ⟨a1, a2⟩
  · exact Or.inl ⟨a1, by rw [a2]; rfl⟩
  · exact Or.inr ⟨fun ⟨k, hk, hq⟩ => a1 k hk hq, by rw [a2]; rfl⟩
theorem q_there7 (hN : 20000 ≤ N) (hc : c ≤ 12) (hm : m ≤ 462) (hL : ∀ i k, i < m → k < c → leadsTo (12 * i + k) = lr (L i k) ∧ ∀ j, L i k = some j → j < m) (hA : HR m arr h) {i : Nat} (hi : i < m) :
    (ledH c L h i ∧ f_X7_leadsThere N (nI i) (nI c) leadsTo arr = some 1) ∨ (¬ ledH c L h i ∧ f_X7_leadsThere N (nI i) (nI c) leadsTo arr = some 0) := by
  have A := mark1 (b := fun x y => f_X7_leadsThere_b4 N (nI i) (nI c) leadsTo arr x y) (fun k => ∃ j, L i k = some j ∧ h j = true) (N := N) (c := c) (by omega)
    (fun k hk => by
      have z1 : 12 * nI i + nI k = nI (12 * i + k) := by rw [zl 12, zmul, zadd]
      unfold f_X7_leadsThere_b4 nm
      dsimp only
      rw [if_neg (by rw [zle (by omega) (by omega)]; omega), z1, gd_t (zinb (show 12 * i + k < 5544 by omega) (by omega)), if_neg (by decide), nI_1])
    (fun k hk => by
      have z1 : 12 * nI i + nI k = nI (12 * i + k) := by rw [zl 12, zmul, zadd]
      have l := hL i k hi hk
      unfold f_X7_leadsThere_b4 nm
      dsimp only
      rw [if_neg (by rw [zle (by omega) (by omega)]; omega), z1, gd_t (zinb (show 12 * i + k < 5544 by omega) (by omega)), zcl (show 12 * i + k < 2147483648 by omega), l.1, if_pos rfl]
      cases e : L i k with
      | none =>
        exact Or.inr ⟨fun ⟨j, h, _⟩ => (by cases h), by rw [if_pos (show lr none = -9 from rfl), nI_1]⟩
      | some j =>
        have hj := l.2 j e
        have h9 : ¬ lr (some j) = -9 := by
          intro h
          have h' : nI j = -nI 9 := h
          rw [zeqn (by omega) (by omega) (by omega)] at h'
          exact h'
        rw [if_neg h9, show lr (some j) = nI j from rfl, gd_t (zinb (show j < 462 by omega) (by omega)), zcl (show j < 2147483648 by omega), hA j hj]
        cases q : h j with
        | false => exact Or.inr ⟨fun ⟨t, e1, h2⟩ => (by cases e1; rw [q] at h2; cases h2), by rw [if_pos (by decide), nI_1]⟩
        | true => exact Or.inl ⟨⟨j, rfl, q⟩, by rw [if_neg (by decide), nI_1]⟩)
    (fun x => by
      show f_X7_leadsThere_b4 N (nI i) (nI c) leadsTo arr x (nI c) = _
      unfold f_X7_leadsThere_b4
      rw [if_pos (Int32.le_refl _)])
  unfold f_X7_leadsThere
  rcases A with ⟨a1, a2⟩ | ⟨a1, a2⟩
  · exact Or.inl ⟨a1, by rw [a2]; rfl⟩
  · exact Or.inr ⟨fun ⟨k, hk, hq⟩ => a1 k hk hq, by rw [a2]; rfl⟩
theorem q_spread6 (hN : 20000 ≤ N) (hc : c ≤ 12) (hm : m ≤ 462) (hL : ∀ i k, i < m → k < c → leads (12 * i + k) = lc (L i k) ∧ ∀ j, L i k = some j → j < m) (hA : HR m arr h) (hG : Hin c m L Z h) :
    ∃ chg arr', f_X3_spreadHope N (nI c) (nI m) leads arr = some (chg, arr') ∧ SwH c m L Z h chg arr' := by
  have hL' : ∀ i k j, i < m → k < c → L i k = some j → j < m := fun i k j hi hk e => (hL i k hi hk).2 j e
  obtain ⟨⟨z1, z2⟩, h1, h2⟩ := loop_idx (b := fun (w9 : Int32 × Int32 × (Nat → Int32)) => f_X3_spreadHope_b9 N (nI c) (nI m) leads w9.1 w9.2.1 w9.2.2)
    (fun t x => x.2.1 = nI (m - t) - 1 ∧ ∃ h', HR m x.2.2 h' ∧ Hin c m L Z h' ∧ ((x.1 = 0 ∧ h' = h ∧ ∀ i, m - t ≤ i → i < m → h' i = false → ¬ ledH c L h' i) ∨ (x.1 = 1 ∧ ct h m < ct h' m)))
    (fun z => SwH c m L Z h z.1 z.2) m
    (fun t x ht hI => by
      obtain ⟨x1, x2, x3⟩ := x
      obtain ⟨e1, h', a1, a2, a3⟩ := hI
      dsimp only at e1 a1 a3
      have e2 : nI (m - t) - 1 = nI (m - (t + 1)) := by rw [zl 1, zsub (by omega)]; rfl
      rw [e2] at e1
      subst e1
      have hi : m - (t + 1) < m := by omega
      have et : m - t = m - (t + 1) + 1 := by omega
      rw [et] at a3
      generalize hg : m - (t + 1) = i at hi a3 ⊢
      have b : inb (nI i) 462 = true := zinb (by omega) (by omega)
      have en : nI i + -1 = nI i - 1 := by rw [Int32.sub_eq_add_neg]
      have ha := a1 i hi
      have hq := q_toHope6 (N := N) hN hc hm hL a1 hi
      have BB1 : h' i = true → f_X3_spreadHope_b9 N (nI c) (nI m) leads x1 (nI i) x3 = some (.inl (x1, nI i - 1, x3)) := by
        intro h0
        unfold f_X3_spreadHope_b9 nm
        rw [if_neg (nI_pos (by omega)), gd_t b, zcl (show i < 2147483648 by omega), ha, h0, if_neg (by decide), en]
      have BB2 : h' i = false → f_X3_spreadHope_b9 N (nI c) (nI m) leads x1 (nI i) x3 = bd1 (f_X3_leadsToHope N (nI i) (nI c) leads x3) (fun r_6 => if r_6 = 0 then some (.inl (x1, nI i - 1, x3)) else some (.inl (1, nI i - 1, upd x3 i (vp_nar .boolean (1 : Int32))))) := by
        intro h0
        unfold f_X3_spreadHope_b9 nm
        rw [if_neg (nI_pos (by omega)), gd_t b, zcl (show i < 2147483648 by omega), ha, h0, if_pos (by decide), en]
        simp only [gd_t b]
      refine Or.inl ?_
      show ∃ y, f_X3_spreadHope_b9 N (nI c) (nI m) leads x1 (nI i) x3 = _ ∧ _
      cases q0 : h' i with
      | true =>
        rw [BB1 q0]
        refine ⟨_, rfl, rfl, h', a1, a2, ?_⟩
        dsimp only
        rcases a3 with ⟨p1, p2, p3⟩ | p
        · refine Or.inl ⟨p1, p2, fun j hj1 hj2 hj3 => ?_⟩
          rcases Nat.lt_or_ge i j with r | r
          · exact p3 j r hj2 hj3
          · have : j = i := by omega
            subst this; rw [q0] at hj3; cases hj3
        · exact Or.inr p
      | false =>
        rw [BB2 q0]
        rcases hq with ⟨q1, q2⟩ | ⟨q1, q2⟩
        · rw [q2]
          simp only [bd1]
          rw [if_neg (by decide)]
          have gr := Hin_add hL' a2 hi q0 q1
          refine ⟨_, rfl, rfl, _, HR_add a1 i, gr.1, Or.inr ⟨rfl, ?_⟩⟩
          rcases a3 with ⟨p1, p2, p3⟩ | ⟨p1, p2⟩
          · rw [← p2]; exact gr.2
          · exact Nat.lt_trans p2 gr.2
        · rw [q2]
          simp only [bd1]
          rw [if_pos trivial]
          refine ⟨_, rfl, rfl, h', a1, a2, ?_⟩
          dsimp only
          rcases a3 with ⟨p1, p2, p3⟩ | p
          · refine Or.inl ⟨p1, p2, fun j hj1 hj2 hj3 => ?_⟩
            rcases Nat.lt_or_ge i j with r | r
            · exact p3 j r hj2 hj3
            · have : j = i := by omega
              subst this; exact q1
          · exact Or.inr p)
    (fun x hI => by
      obtain ⟨x1, x2, x3⟩ := x
      obtain ⟨e1, h', a1, a2, a3⟩ := hI
      dsimp only at e1 a1 a3
      rw [Nat.sub_self] at e1 a3
      subst e1
      refine ⟨(x1, x3), ?_, h', a1, a2, ?_⟩
      · show f_X3_spreadHope_b9 N (nI c) (nI m) leads x1 (nI 0 - 1) x3 = _
        unfold f_X3_spreadHope_b9
        rw [if_pos (by decide)]
      · rcases a3 with ⟨p1, p2, p3⟩ | p
        · exact Or.inl ⟨p1, fun i hi => p3 i (Nat.zero_le _) hi⟩
        · exact Or.inr p) N 0 (0, nI m - 1, arr) (Nat.zero_le _) (by omega) ⟨rfl, h, hA, hG, Or.inl ⟨rfl, rfl, fun i h1 h2 => by omega⟩⟩
  dsimp only at h2
  refine ⟨z1, z2, ?_, h2⟩
  have hz : gd (bz z1) (some (z1, z2)) = some (z1, z2) := by
    obtain ⟨_, _, _, h⟩ := h2
    rcases h with h | h
    · rw [h.1]; rfl
    · rw [h.1]; rfl
  unfold f_X3_spreadHope nm
  dsimp only
  rw [h1]
  exact hz
theorem q_spread7 (hN : 20000 ≤ N) (hc : c ≤ 12) (hm : m ≤ 462) (hL : ∀ i k, i < m → k < c → leadsTo (12 * i + k) = lr (L i k) ∧ ∀ j, L i k = some j → j < m) (hA : HR m arr h) (hG : Hin c m L Z h) (answerOf : Nat → Int32) :
    ∃ chg arr', loopN (fun (w9 : Int32 × Int32 × (Nat → Int32)) => f_X7_isDecided_b47 N (nI c) (nI m) leadsTo answerOf w9.1 w9.2.1 w9.2.2) N (0, 0, arr) = some (chg, arr') ∧ SwH c m L Z h chg arr' := by
  have hL' : ∀ i k j, i < m → k < c → L i k = some j → j < m := fun i k j hi hk e => (hL i k hi hk).2 j e
  obtain ⟨⟨z1, z2⟩, h1, h2⟩ := loop_idx (b := fun (w9 : Int32 × Int32 × (Nat → Int32)) => f_X7_isDecided_b47 N (nI c) (nI m) leadsTo answerOf w9.1 w9.2.1 w9.2.2)
    (fun t x => x.2.1 = nI t ∧ ∃ h', HR m x.2.2 h' ∧ Hin c m L Z h' ∧ ((x.1 = 0 ∧ h' = h ∧ ∀ i, i < t → h' i = false → ¬ ledH c L h' i) ∨ (x.1 = 1 ∧ ct h m < ct h' m)))
    (fun z => SwH c m L Z h z.1 z.2) m
    (fun i x hi hI => by
      obtain ⟨x1, x2, x3⟩ := x
      obtain ⟨e1, h', a1, a2, a3⟩ := hI
      dsimp only at e1 a1 a3
      subst e1
      have b : inb (nI i) 462 = true := zinb (by omega) (by omega)
      have ha := a1 i hi
      have hq := q_there7 (N := N) hN hc hm hL a1 hi
      have b0 : ¬ nI m ≤ nI i := by rw [zle (by omega) (by omega)]; omega
      have BB1 : h' i = true → f_X7_isDecided_b47 N (nI c) (nI m) leadsTo answerOf x1 (nI i) x3 = some (.inl (x1, nI (i + 1), x3)) := by
        intro h0
        unfold f_X7_isDecided_b47 nm
        rw [if_neg b0, gd_t b, zcl (show i < 2147483648 by omega), ha, h0, if_neg (by decide), nI_1]
      have BB2 : h' i = false → f_X7_isDecided_b47 N (nI c) (nI m) leadsTo answerOf x1 (nI i) x3 = bd1 (f_X7_leadsThere N (nI i) (nI c) leadsTo x3) (fun r_6 => if r_6 = 0 then some (.inl (x1, nI (i + 1), x3)) else some (.inl (1, nI (i + 1), upd x3 i (vp_nar .boolean (1 : Int32))))) := by
        intro h0
        unfold f_X7_isDecided_b47 nm
        rw [if_neg b0, gd_t b, zcl (show i < 2147483648 by omega), ha, h0, if_pos (by decide), nI_1]
        simp only [gd_t b]
      refine Or.inl ?_
      show ∃ y, f_X7_isDecided_b47 N (nI c) (nI m) leadsTo answerOf x1 (nI i) x3 = _ ∧ _
      cases q0 : h' i with
      | true =>
        rw [BB1 q0]
        refine ⟨_, rfl, rfl, h', a1, a2, ?_⟩
        dsimp only
        rcases a3 with ⟨p1, p2, p3⟩ | p
        · refine Or.inl ⟨p1, p2, fun j hj2 hj3 => ?_⟩
          rcases Nat.lt_or_ge j i with r | r
          · exact p3 j r hj3
          · have : j = i := by omega
            subst this; rw [q0] at hj3; cases hj3
        · exact Or.inr p
      | false =>
        rw [BB2 q0]
        rcases hq with ⟨q1, q2⟩ | ⟨q1, q2⟩
        · rw [q2]
          simp only [bd1]
          rw [if_neg (by decide)]
          have gr := Hin_add hL' a2 hi q0 q1
          refine ⟨_, rfl, rfl, _, HR_add a1 i, gr.1, Or.inr ⟨rfl, ?_⟩⟩
          rcases a3 with ⟨p1, p2, p3⟩ | ⟨p1, p2⟩
          · rw [← p2]; exact gr.2
          · exact Nat.lt_trans p2 gr.2
        · rw [q2]
          simp only [bd1]
          rw [if_pos trivial]
          refine ⟨_, rfl, rfl, h', a1, a2, ?_⟩
          dsimp only
          rcases a3 with ⟨p1, p2, p3⟩ | p
          · refine Or.inl ⟨p1, p2, fun j hj2 hj3 => ?_⟩
            rcases Nat.lt_or_ge j i with r | r
            · exact p3 j r hj3
            · have : j = i := by omega
              subst this; exact q1
          · exact Or.inr p)
    (fun x hI => by
      obtain ⟨x1, x2, x3⟩ := x
      obtain ⟨e1, h', a1, a2, a3⟩ := hI
      dsimp only at e1 a1 a3
      subst e1
      refine ⟨(x1, x3), ?_, h', a1, a2, ?_⟩
      · show f_X7_isDecided_b47 N (nI c) (nI m) leadsTo answerOf x1 (nI m) x3 = _
        unfold f_X7_isDecided_b47
        rw [if_pos (Int32.le_refl _)]
      · rcases a3 with ⟨p1, p2, p3⟩ | p
        · exact Or.inl ⟨p1, fun i hi => p3 i hi⟩
        · exact Or.inr p) N 0 (0, 0, arr) (Nat.zero_le _) (by omega) ⟨rfl, h, hA, hG, Or.inl ⟨rfl, rfl, fun i h1 => by omega⟩⟩
  exact ⟨z1, z2, h1, h2⟩
theorem q_hope6 (hN : 20000 ≤ N) (hc : c ≤ 12) (hm : m ≤ 462) (hL : ∀ i k, i < m → k < c → leads (12 * i + k) = lc (L i k) ∧ ∀ j, L i k = some j → j < m) (hA : HR m arr h) (hG : Hin c m L Z h) (answers : Nat → Int32) :
    ∃ arr' h', loopN (fun (w9 : Int32 × Int32 × (Nat → Int32)) => f_X3_allHope_b42 N (nI c) (nI m) leads answers w9.1 w9.2.1 w9.2.2) N (1, 0, arr) = some arr' ∧ HR m arr' h' ∧ ∀ i, i < m → (h' i = true ↔ Can c m L Z i) := by
  obtain ⟨z, h1, h', h2, h3, h4⟩ := loop_idx (b := fun (w9 : Int32 × Int32 × (Nat → Int32)) => f_X3_allHope_b42 N (nI c) (nI m) leads answers w9.1 w9.2.1 w9.2.2)
    (fun t x => x.2.1 = nI t ∧ ∃ h', HR m x.2.2 h' ∧ Hin c m L Z h' ∧ ((x.1 = 0 ∧ Hcl c m L h') ∨ (x.1 = 1 ∧ t ≤ ct h' m)))
    (fun z => ∃ h', HR m z h' ∧ Hin c m L Z h' ∧ Hcl c m L h') 463
    (fun t x ht hI => by
      obtain ⟨x1, x2, x3⟩ := x
      obtain ⟨e1, h', a1, a2, a3⟩ := hI
      dsimp only at e1 a1 a3
      subst e1
      rcases a3 with ⟨rfl, a3⟩ | ⟨rfl, a3⟩
      · refine Or.inr ⟨x3, ?_, h', a1, a2, a3⟩
        show f_X3_allHope_b42 N (nI c) (nI m) leads answers 0 (nI t) x3 = _
        unfold f_X3_allHope_b42
        rw [if_pos rfl]
      · by_cases q : t = 462
        · refine Or.inr ⟨x3, ?_, h', a1, a2, ?_⟩
          · show f_X3_allHope_b42 N (nI c) (nI m) leads answers 1 (nI t) x3 = _
            unfold f_X3_allHope_b42
            rw [if_neg (by decide), if_pos (by rw [q]; decide)]
          · intro i hi hf
            exfalso
            have := ct_lt (p := h') (q := fun _ => true) (i := i) m (fun _ _ _ => rfl) hi hf rfl
            rw [ct_true] at this
            omega
        · obtain ⟨chg, arr', g1, h2, g2, g3, g4⟩ := q_spread6 (N := N) hN hc hm hL a1 a2
          refine Or.inl ⟨(chg, nI (t + 1), arr'), ?_, rfl, h2, g2, g3, ?_⟩
          · show f_X3_allHope_b42 N (nI c) (nI m) leads answers 1 (nI t) x3 = _
            unfold f_X3_allHope_b42 nm
            rw [if_neg (by decide), if_neg (by rw [zl 462, zle (by omega) (by omega)]; omega), g1, nI_1]
            rfl
          · rcases g4 with ⟨p1, p2⟩ | ⟨p1, p2⟩
            · exact Or.inl ⟨p1, p2⟩
            · exact Or.inr ⟨p1, by omega⟩)
    (fun x hI => by
      obtain ⟨x1, x2, x3⟩ := x
      obtain ⟨e1, h', a1, a2, a3⟩ := hI
      dsimp only at e1 a1 a3
      rcases a3 with ⟨rfl, a3⟩ | ⟨rfl, a3⟩
      · refine ⟨x3, ?_, h', a1, a2, a3⟩
        show f_X3_allHope_b42 N (nI c) (nI m) leads answers 0 x2 x3 = _
        unfold f_X3_allHope_b42
        rw [if_pos rfl]
      · have := ct_le h' m
        omega) N 0 (1, 0, arr) (Nat.zero_le _) (by omega) ⟨rfl, h, hA, hG, Or.inr ⟨rfl, Nat.zero_le _⟩⟩
  exact ⟨z, h', h1, h2, Hin_end h3 h4⟩
theorem q_hope7 (hN : 20000 ≤ N) (hc : c ≤ 12) (hm : m ≤ 462) (hL : ∀ i k, i < m → k < c → leadsTo (12 * i + k) = lr (L i k) ∧ ∀ j, L i k = some j → j < m) (hA : HR m arr h) (hG : Hin c m L Z h) (answerOf : Nat → Int32) :
    ∃ arr' h', loopN (fun (w9 : Int32 × (Nat → Int32)) => f_X7_isDecided_b39 N (nI c) (nI m) leadsTo answerOf w9.1 w9.2) N (1, arr) = some arr' ∧ HR m arr' h' ∧ ∀ i, i < m → (h' i = true ↔ Can c m L Z i) := by
  obtain ⟨z, h1, h', h2, h3, h4⟩ := loop_idx (b := fun (w9 : Int32 × (Nat → Int32)) => f_X7_isDecided_b39 N (nI c) (nI m) leadsTo answerOf w9.1 w9.2)
    (fun t x => ∃ h', HR m x.2 h' ∧ Hin c m L Z h' ∧ ((x.1 = 0 ∧ Hcl c m L h') ∨ (x.1 = 1 ∧ t ≤ ct h' m)))
    (fun z => ∃ h', HR m z h' ∧ Hin c m L Z h' ∧ Hcl c m L h') 463
    (fun t x ht hI => by
      obtain ⟨x1, x3⟩ := x
      obtain ⟨h', a1, a2, a3⟩ := hI
      dsimp only at a1 a3
      rcases a3 with ⟨rfl, a3⟩ | ⟨rfl, a3⟩
      · refine Or.inr ⟨x3, ?_, h', a1, a2, a3⟩
        show f_X7_isDecided_b39 N (nI c) (nI m) leadsTo answerOf 0 x3 = _
        unfold f_X7_isDecided_b39
        rw [if_pos rfl]
      · obtain ⟨chg, arr', g1, h2, g2, g3, g4⟩ := q_spread7 (N := N) hN hc hm hL a1 a2 answerOf
        refine Or.inl ⟨(chg, arr'), ?_, h2, g2, g3, ?_⟩
        · show f_X7_isDecided_b39 N (nI c) (nI m) leadsTo answerOf 1 x3 = _
          unfold f_X7_isDecided_b39
          rw [if_neg (by decide), g1]
          rfl
        · rcases g4 with ⟨p1, p2⟩ | ⟨p1, p2⟩
          · exact Or.inl ⟨p1, p2⟩
          · exact Or.inr ⟨p1, by omega⟩)
    (fun x hI => by
      obtain ⟨x1, x3⟩ := x
      obtain ⟨h', a1, a2, a3⟩ := hI
      dsimp only at a1 a3
      rcases a3 with ⟨rfl, a3⟩ | ⟨rfl, a3⟩
      · refine ⟨x3, ?_, h', a1, a2, a3⟩
        show f_X7_isDecided_b39 N (nI c) (nI m) leadsTo answerOf 0 x3 = _
        unfold f_X7_isDecided_b39
        rw [if_pos rfl]
      · have := ct_le h' m
        omega) N 0 (1, arr) (Nat.zero_le _) (by omega) ⟨h, hA, hG, Or.inr ⟨rfl, Nat.zero_le _⟩⟩
  exact ⟨z, h', h1, h2, Hin_end h3 h4⟩
end HH
