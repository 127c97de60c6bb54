/-! ===== stable configurations ===== -/
theorem ct_sub {p q : Nat → Bool} : ∀ n, (∀ i, i < n → p i = true → q i = true) → ct p n ≤ ct q n := by
  intro n
  induction n with
  | zero => intro _; exact Nat.le_refl _
  | succ n ih =>
    intro h
    have h1 := ih (fun i hi => h i (by omega))
    have h2 := h n (by omega)
    rw [ct, ct]
    by_cases e : p n = true
    · rw [if_pos e, if_pos (h2 e)]; omega
    · rw [if_neg e]; omega
theorem ct_lt {p q : Nat → Bool} {i : Nat} : ∀ n, (∀ i, i < n → p i = true → q i = true) → i < n → p i = false → q i = true → ct p n < ct q n := by
  intro n
  induction n with
  | zero => intro _ h; omega
  | succ n ih =>
    intro h hi h1 h2
    rw [ct, ct]
    by_cases e : i = n
    · subst e
      have h3 := ct_sub i (fun j hj => h j (by omega))
      rw [if_neg (by rw [h1]; decide), if_pos h2]; omega
    · have h3 := ih (fun j hj => h j (by omega)) (by omega) h1 h2
      have h4 := h n (by omega)
      by_cases e2 : p n = true
      · rw [if_pos e2, if_pos (h4 e2)]; omega
      · rw [if_neg e2]; omega
theorem ct_zero {p : Nat → Bool} : ∀ n, ct p n = 0 → ∀ i, i < n → p i = false := by
  intro n
  induction n with
  | zero => intro _ i hi; omega
  | succ n ih =>
    intro h i hi
    rw [ct] at h
    by_cases e : p n = true
    · rw [if_pos e] at h; omega
    · rcases Nat.lt_or_ge i n with q | q
      · exact ih (by omega) i q
      · have : i = n := by omega
        subst this
        simpa using e
def bad (c : Nat) (L : Nat → Nat → Option Nat) (A : Nat → Option Nat) (i : Nat) : Prop := ∃ k, k < c ∧ ∃ j, L i k = some j ∧ A j ≠ A i
def Clo (c m : Nat) (L : Nat → Nat → Option Nat) (A : Nat → Option Nat) : Prop := ∀ i, i < m → A i ≠ none → ¬ bad c L A i
def Und (m : Nat) (A B : Nat → Option Nat) : Prop := ∀ i, i < m → B i = A i ∨ B i = none
def Gre (c m : Nat) (L : Nat → Nat → Option Nat) (A0 A : Nat → Option Nat) : Prop := Und m A0 A ∧ ∀ B, Und m A0 B → Clo c m L B → ∀ i, i < m → B i ≠ none → A i ≠ none
def AR (m : Nat) (arr : Nat → Int32) (A : Nat → Option Nat) : Prop := ∀ i, i < m → arr i = lr (A i) ∧ le2 (A i)
def cA (m : Nat) (A : Nat → Option Nat) : Nat := ct (fun i => (A i).isSome) m
theorem Gre_uni {c m : Nat} {L : Nat → Nat → Option Nat} {A0 A B : Nat → Option Nat} (h1 : Gre c m L A0 A) (h2 : Gre c m L A0 B) (k1 : Clo c m L A) (k2 : Clo c m L B) : ∀ i, i < m → A i = B i := by
  intro i hi
  have a := h1.1 i hi
  have b := h2.1 i hi
  have p := h1.2 B h2.1 k2 i hi
  have q := h2.2 A h1.1 k1 i hi
  rcases a with a | a <;> rcases b with b | b
  · rw [a, b]
  · by_cases e : A i = none
    · rw [e, b]
    · exact absurd b (q e)
  · by_cases e : B i = none
    · rw [e, a]
    · exact absurd a (p e)
  · rw [a, b]
theorem Gre_rem {c m : Nat} {L : Nat → Nat → Option Nat} {A0 A : Nat → Option Nat} (hL : ∀ i k j, i < m → k < c → L i k = some j → j < m) (h : Gre c m L A0 A) {i : Nat} (hi : i < m) (hA : A i ≠ none) (hb : bad c L A i) : Gre c m L A0 (fun j => if j = i then none else A j) ∧ cA m (fun j => if j = i then none else A j) < cA m A := by
  obtain ⟨hu, hg⟩ := h
  refine ⟨⟨fun j hj => ?_, fun B hB hc j hj hBj => ?_⟩, ?_⟩
  · dsimp only
    split
    · exact Or.inr rfl
    · exact hu j hj
  · dsimp only
    split
    · next e =>
      subst e
      exfalso
      obtain ⟨k, hk, t, e1, e2⟩ := hb
      have ht := hL j k t hj hk e1
      have hBt : B t = B j := by
        by_cases q : B t = B j
        · exact q
        · exact absurd ⟨k, hk, t, e1, q⟩ (hc j hj hBj)
      have hAt := hg B hB hc t ht (by rw [hBt]; exact hBj)
      have b1 := (hB j hj).resolve_right hBj
      have b2 := (hB t ht).resolve_right (by rw [hBt]; exact hBj)
      have a1 := (hu j hj).resolve_right hA
      have a2 := (hu t ht).resolve_right hAt
      exact e2 (by rw [a2, ← b2, hBt, b1, a1])
    · exact hg B hB hc j hj hBj
  · refine ct_lt (i := i) m (fun j hj => ?_) hi (by simp) ?_
    · dsimp only
      split
      · intro h; simp at h
      · exact id
    · cases e : A i with
      | none => exact absurd e hA
      | some v => rfl
theorem AR_rem {m : Nat} {arr : Nat → Int32} {A : Nat → Option Nat} (h : AR m arr A) (i : Nat) : AR m (upd arr i (-9)) (fun j => if j = i then none else A j) := by
  intro j hj
  rw [upd_eq]
  dsimp only
  split
  · exact ⟨rfl, fun v hv => by cases hv⟩
  · exact h j hj
theorem lr_inj2 {a b : Option Nat} (ha : le2 a) (hb : le2 b) : (lr a = lr b) = (a = b) := propext (lr_eq (le2_big ha) (le2_big hb))
theorem lr_n2 {a : Option Nat} (ha : le2 a) : (lr a = -9) = (a = none) := propext (lr_none (le2_big ha))
theorem lr_n3 {a : Option Nat} (ha : le2 a) : (lr a = -9) = (a.isNone = true) := by rw [lr_n2 ha, Option.isNone_iff_eq_none]
section ST
variable {N c m : Nat} {L : Nat → Nat → Option Nat} {A A0 : Nat → Option Nat} {leads leadsTo arr : Nat → Int32}
theorem q_other6 (hN : 20000 ≤ N) (hc : c ≤ 12) (hm : m ≤ 462) (hL : ∀ i k, i < m → k < c → leads (12 * i + k) = lc (L i k) ∧ ∀ j, L i k = some j → j < m) (hA : AR m arr A) {i : Nat} (hi : i < m) :
    (bad c L A i → f_X3_leadsToOtherAnswer N (nI i) (nI c) leads arr = some 1) ∧ (¬ bad c L A i → f_X3_leadsToOtherAnswer N (nI i) (nI c) leads arr = some 0) := by
  have B : ∀ k, k < c → ((∃ j, L i k = some j ∧ A j ≠ A i) ∧ f_X3_leadsToOtherAnswer_b2 N (nI i) (nI c) leads arr (nI k) = some (.inr (.inl 1))) ∨ ((¬ ∃ j, L i k = some j ∧ A j ≠ A i) ∧ f_X3_leadsToOtherAnswer_b2 N (nI i) (nI c) leads arr (nI k) = some (.inl (nI (k + 1)))) := by
    intro k hk
    have z1 : nI i * 12 + nI k = nI (12 * i + k) := by rw [zl 12, zmul, zadd, Nat.mul_comm]
    have l := hL i k hi hk
    unfold f_X3_leadsToOtherAnswer_b2 f_X3_leadAt nm
    rw [if_neg (by rw [zle (by omega) (by omega)]; omega), z1, gd_t (zinb (show 12 * i + k < 5544 by omega) (by omega)), zcl (show 12 * i + k < 2147483648 by omega), l.1]
    simp only [bd1]
    cases e : L i k with
    | none =>
      refine Or.inr ⟨fun ⟨j, h, _⟩ => (by cases h), ?_⟩
      rw [if_pos (show lc none < 0 by decide), nI_1]
    | some j =>
      have hj := l.2 j e
      have hlt : ¬ lc (some j) < 0 := nI_pos (by omega)
      rw [if_neg hlt, show lc (some j) = nI j from rfl, gd_t (zinb (show j < 462 by omega) (by omega)), gd_t (zinb (show i < 462 by omega) (by omega)), zcl (show j < 2147483648 by omega), zcl (show i < 2147483648 by omega), (hA j hj).1, (hA i hi).1, nI_1]
      by_cases q : A j = A i
      · exact Or.inr ⟨by rintro ⟨t, h, h2⟩; cases h; exact h2 q, by rw [if_pos (by rw [q])]⟩
      · exact Or.inl ⟨⟨j, rfl, q⟩, by rw [if_neg (by rw [lr_inj2 (hA j hj).2 (hA i hi).2]; exact q)]⟩
  obtain ⟨z, h1, h2⟩ := loop_idx (b := fun (w9 : Int32) => f_X3_leadsToOtherAnswer_b2 N (nI i) (nI c) leads arr w9) (fun k x => x = nI k ∧ ∀ k', k' < k → ¬ ∃ j, L i k' = some j ∧ A j ≠ A i) (fun z => (z = .inl 1 ∧ bad c L A i) ∨ (z = .inr () ∧ ¬ bad c L A i)) c
    (fun k x hk hI => by
      obtain ⟨rfl, h⟩ := hI
      rcases B k hk with ⟨q, e⟩ | ⟨q, e⟩
      · exact Or.inr ⟨_, e, Or.inl ⟨rfl, k, hk, q⟩⟩
      · refine Or.inl ⟨_, e, rfl, fun k' hk' => ?_⟩
        rcases Nat.lt_or_ge k' k with p | p
        · exact h k' p
        · have : k' = k := by omega
          rw [this]; exact q)
    (fun x hI => by
      obtain ⟨rfl, h⟩ := hI
      refine ⟨.inr (), ?_, Or.inr ⟨rfl, fun ⟨k, hk, hb⟩ => h k hk hb⟩⟩
      show f_X3_leadsToOtherAnswer_b2 N (nI i) (nI c) leads arr (nI c) = _
      unfold f_X3_leadsToOtherAnswer_b2
      rw [if_pos (Int32.le_refl _)]) N 0 0 (Nat.zero_le _) (by omega) ⟨rfl, fun k hk => absurd hk (Nat.not_lt_zero k)⟩
  unfold f_X3_leadsToOtherAnswer
  rw [h1]
  rcases h2 with ⟨rfl, h⟩ | ⟨rfl, h⟩
  · exact ⟨fun _ => rfl, fun z => absurd h z⟩
  · exact ⟨fun z => absurd z h, fun _ => rfl⟩
theorem q_kept7 (hN : 20000 ≤ N) (hc : c ≤ 12) (hm : m ≤ 462) (hL : ∀ i k, i < m → k < c → leadsTo (12 * i + k) = lr (L i k) ∧ ∀ j, L i k = some j → j < m) (hA : AR m arr A) {i : Nat} (hi : i < m) :
    (bad c L A i → f_X7_isKept N (nI i) (nI c) leadsTo arr = some 0) ∧ (¬ bad c L A i → f_X7_isKept N (nI i) (nI c) leadsTo arr = some 1) := by
  have B : ∀ k, k < c → ∀ x : Int32, (x = 0 ∨ x = 1) → ((x = 0 ∨ ∃ j, L i k = some j ∧ A j ≠ A i) ∧ f_X7_isKept_b4 N (nI i) (nI c) leadsTo arr x (nI k) = some (.inl (0, nI (k + 1)))) ∨ ((x = 1 ∧ ¬ ∃ j, L i k = some j ∧ A j ≠ A i) ∧ f_X7_isKept_b4 N (nI i) (nI c) leadsTo arr x (nI k) = some (.inl (1, nI (k + 1)))) := by
    intro k hk x hx
    have z1 : 12 * nI i + nI k = nI (12 * i + k) := by rw [zl 12, zmul, zadd]
    have l := hL i k hi hk
    unfold f_X7_isKept_b4 nm
    rw [if_neg (by rw [zle (by omega) (by omega)]; omega), z1, gd_t (zinb (show 12 * i + k < 5544 by omega) (by omega)), zcl (show 12 * i + k < 2147483648 by omega), l.1]
    dsimp only
    rcases hx with rfl | rfl
    · exact Or.inl ⟨Or.inl rfl, by rw [if_pos rfl, nI_1]⟩
    · rw [if_neg (by decide)]
      cases e : L i k with
      | none =>
        exact Or.inr ⟨⟨rfl, fun ⟨j, h, _⟩ => (by cases h)⟩, by rw [if_pos (show lr none = -9 from rfl), nI_1]⟩
      | some j =>
        have hj := l.2 j e
        have h9 : ¬ lr (some j) = -9 := by
          intro h
          have h' : nI j = -nI 9 := h
          rw [zeqn (by omega) (by omega) (by omega)] at h'
          exact h'
        rw [if_neg h9, show lr (some j) = nI j from rfl, gd_t (zinb (show j < 462 by omega) (by omega)), gd_t (zinb (show i < 462 by omega) (by omega)), zcl (show j < 2147483648 by omega), zcl (show i < 2147483648 by omega), (hA j hj).1, (hA i hi).1, nI_1]
        by_cases q : A j = A i
        · exact Or.inr ⟨⟨rfl, by rintro ⟨t, h, h2⟩; cases h; exact h2 q⟩, by rw [if_pos (by rw [q])]⟩
        · exact Or.inl ⟨Or.inr ⟨j, rfl, q⟩, by rw [if_neg (by rw [lr_inj2 (hA j hj).2 (hA i hi).2]; exact q)]⟩
  obtain ⟨z, h1, h2⟩ := loop_idx (b := fun (w9 : Int32 × Int32) => f_X7_isKept_b4 N (nI i) (nI c) leadsTo arr w9.1 w9.2) (fun k x => x.2 = nI k ∧ ((x.1 = 0 ∧ bad c L A i) ∨ (x.1 = 1 ∧ ∀ k', k' < k → ¬ ∃ j, L i k' = some j ∧ A j ≠ A i))) (fun z => (z = 0 ∧ bad c L A i) ∨ (z = 1 ∧ ¬ bad c L A i)) c
    (fun k x hk hI => by
      obtain ⟨x1, x2⟩ := x
      obtain ⟨e1, e2⟩ := hI
      dsimp only at e1 e2
      subst e1
      have hx : x1 = 0 ∨ x1 = 1 := by rcases e2 with h | h; exact Or.inl h.1; exact Or.inr h.1
      rcases B k hk x1 hx with ⟨q, e⟩ | ⟨⟨q1, q⟩, e⟩
      · refine Or.inl ⟨_, e, rfl, Or.inl ⟨rfl, ?_⟩⟩
        rcases e2 with h | ⟨h1, h2⟩
        · exact h.2
        · rcases q with q | q
          · rw [h1] at q; exact absurd q (by decide)
          · exact ⟨k, hk, q⟩
      · refine Or.inl ⟨_, e, rfl, Or.inr ⟨rfl, fun k' hk' => ?_⟩⟩
        rcases e2 with ⟨h1, h2⟩ | ⟨h1, h2⟩
        · rw [h1] at q1; exact absurd q1 (by decide)
        · rcases Nat.lt_or_ge k' k with p | p
          · exact h2 k' p
          · have : k' = k := by omega
            rw [this]; exact q)
    (fun x hI => by
      obtain ⟨x1, x2⟩ := x
      obtain ⟨e1, e2⟩ := hI
      dsimp only at e1 e2
      subst e1
      refine ⟨x1, ?_, ?_⟩
      · show f_X7_isKept_b4 N (nI i) (nI c) leadsTo arr x1 (nI c) = _
        unfold f_X7_isKept_b4
        rw [if_pos (Int32.le_refl _)]
      · rcases e2 with h | ⟨h1, h2⟩
        · exact Or.inl h
        · exact Or.inr ⟨h1, fun ⟨k, hk, hb⟩ => h2 k hk hb⟩) N 0 (1, 0) (Nat.zero_le _) (by omega) ⟨rfl, Or.inr ⟨rfl, fun k hk => absurd hk (Nat.not_lt_zero k)⟩⟩
  unfold f_X7_isKept
  rw [h1]
  rcases h2 with ⟨rfl, h⟩ | ⟨rfl, h⟩
  · exact ⟨fun _ => rfl, fun z => absurd h z⟩
  · exact ⟨fun z => absurd z h, fun _ => rfl⟩
def Sw (c m : Nat) (L : Nat → Nat → Option Nat) (A0 A : Nat → Option Nat) (chg : Int32) (arr' : Nat → Int32) : Prop := ∃ A', AR m arr' A' ∧ Gre c m L A0 A' ∧ ((chg = 0 ∧ Clo c m L A' ∧ cA m A' ≤ cA m A) ∨ (chg = 1 ∧ cA m A' < cA m A))
theorem q_sweep6 (hN : 20000 ≤ N) (hc : c ≤ 12) (hm : m ≤ 462) (hL : ∀ i k, i < m → k < c → leads (12 * i + k) = lc (L i k) ∧ ∀ j, L i k = some j → j < m) (hA : AR m arr A) (hG : Gre c m L A0 A) :
    ∃ chg arr', f_X3_takeAnswersAway N (nI c) (nI m) leads arr = some (chg, arr') ∧ Sw c m L A0 A chg arr' := by
  have hL' : ∀ i k j, i < m → k < c → L i k = some j → j < m := fun i k j hi hk e => (hL i k hi hk).2 j e
  obtain ⟨⟨z1, z2⟩, h1, h2⟩ := loop_idx (b := fun (w9 : Int32 × Int32 × (Nat → Int32)) => f_X3_takeAnswersAway_b9 N (nI c) (nI m) leads w9.1 w9.2.1 w9.2.2)
    (fun t x => x.2.1 = nI (m - t) - 1 ∧ ∃ A', AR m x.2.2 A' ∧ Gre c m L A0 A' ∧ ((x.1 = 0 ∧ cA m A' ≤ cA m A ∧ ∀ i, m - t ≤ i → i < m → A' i ≠ none → ¬ bad c L A' i) ∨ (x.1 = 1 ∧ cA m A' < cA m A)))
    (fun z => Sw c m L A0 A z.1 z.2) m
    (fun t x ht hI => by
      obtain ⟨x1, x2, x3⟩ := x
      obtain ⟨e1, A', a1, a2, a3⟩ := hI
      dsimp only at e1 a1 a3
      have e2 : nI (m - t) - 1 = nI (m - (t + 1)) := by rw [zl 1, zsub (by omega)]; rfl
      rw [e2] at e1
      subst e1
      have hi : m - (t + 1) < m := by omega
      have et : m - t = m - (t + 1) + 1 := by omega
      rw [et] at a3
      generalize hg : m - (t + 1) = i at hi a3 ⊢
      have b : inb (nI i) 462 = true := zinb (by omega) (by omega)
      have en : nI i + -1 = nI i - 1 := by rw [Int32.sub_eq_add_neg]
      have ha := a1 i hi
      have hq := q_other6 (N := N) hN hc hm hL a1 hi
      have BB1 : A' i = none → f_X3_takeAnswersAway_b9 N (nI c) (nI m) leads x1 (nI i) x3 = some (.inl (x1, nI i - 1, x3)) := by
        intro h0
        unfold f_X3_takeAnswersAway_b9 nm
        rw [if_neg (nI_pos (by omega)), gd_t b, zcl (show i < 2147483648 by omega), ha.1, if_pos ((lr_none (le2_big ha.2)).mpr h0), en]
      have BB2 : A' i ≠ none → f_X3_takeAnswersAway_b9 N (nI c) (nI m) leads x1 (nI i) x3 = bd1 (f_X3_leadsToOtherAnswer N (nI i) (nI c) leads x3) (fun r_6 => if r_6 = 0 then some (.inl (x1, nI i - 1, x3)) else some (.inl (1, nI i - 1, upd x3 i (-9)))) := by
        intro h0
        unfold f_X3_takeAnswersAway_b9 nm
        rw [if_neg (nI_pos (by omega)), gd_t b, zcl (show i < 2147483648 by omega), ha.1, if_neg (fun z => h0 ((lr_none (le2_big ha.2)).mp z)), en]
        simp only [gd_t b]
      refine Or.inl ?_
      show ∃ y, f_X3_takeAnswersAway_b9 N (nI c) (nI m) leads x1 (nI i) x3 = _ ∧ _
      by_cases q0 : A' i = none
      · rw [BB1 q0]
        refine ⟨_, rfl, rfl, A', a1, a2, ?_⟩
        dsimp only
        rcases a3 with ⟨p1, p2, p3⟩ | p
        · refine Or.inl ⟨p1, p2, fun j hj1 hj2 hj3 => ?_⟩
          rcases Nat.lt_or_ge i j with r | r
          · exact p3 j r hj2 hj3
          · have : j = i := by omega
            subst this; exact absurd q0 hj3
        · exact Or.inr p
      · rw [BB2 q0]
        by_cases q1 : bad c L A' i
        · rw [hq.1 q1]
          simp only [bd1]
          rw [if_neg (by decide)]
          have gr := Gre_rem hL' a2 hi q0 q1
          refine ⟨_, rfl, rfl, _, AR_rem a1 i, gr.1, Or.inr ⟨rfl, ?_⟩⟩
          rcases a3 with ⟨p1, p2, p3⟩ | ⟨p1, p2⟩
          · exact Nat.lt_of_lt_of_le gr.2 p2
          · exact Nat.lt_trans gr.2 p2
        · rw [hq.2 q1]
          simp only [bd1]
          rw [if_pos trivial]
          refine ⟨_, rfl, rfl, A', a1, a2, ?_⟩
          dsimp only
          rcases a3 with ⟨p1, p2, p3⟩ | p
          · refine Or.inl ⟨p1, p2, fun j hj1 hj2 hj3 => ?_⟩
            rcases Nat.lt_or_ge i j with r | r
            · exact p3 j r hj2 hj3
            · have : j = i := by omega
              subst this; exact q1
          · exact Or.inr p)
    (fun x hI => by
      obtain ⟨x1, x2, x3⟩ := x
      obtain ⟨e1, A', a1, a2, a3⟩ := hI
      dsimp only at e1 a1 a3
      rw [Nat.sub_self] at e1 a3
      subst e1
      refine ⟨(x1, x3), ?_, A', a1, a2, ?_⟩
      · show f_X3_takeAnswersAway_b9 N (nI c) (nI m) leads x1 (nI 0 - 1) x3 = _
        unfold f_X3_takeAnswersAway_b9
        rw [if_pos (by decide)]
      · rcases a3 with ⟨p1, p2, p3⟩ | p
        · exact Or.inl ⟨p1, fun i hi => p3 i (Nat.zero_le _) hi, p2⟩
        · exact Or.inr p) N 0 (0, nI m - 1, arr) (Nat.zero_le _) (by omega) ⟨rfl, A, hA, hG, Or.inl ⟨rfl, Nat.le_refl _, fun i h1 h2 => by omega⟩⟩
  dsimp only at h2
  refine ⟨z1, z2, ?_, h2⟩
  have hz : gd (bz z1) (some (z1, z2)) = some (z1, z2) := by
    obtain ⟨_, _, _, h⟩ := h2
    rcases h with h | h
    · rw [h.1]; rfl
    · rw [h.1]; rfl
  unfold f_X3_takeAnswersAway nm
  dsimp only
  rw [h1]
  exact hz
theorem q_sweep7 (hN : 20000 ≤ N) (hc : c ≤ 12) (hm : m ≤ 462) (hL : ∀ i k, i < m → k < c → leadsTo (12 * i + k) = lr (L i k) ∧ ∀ j, L i k = some j → j < m) (hA : AR m arr A) (hG : Gre c m L A0 A) (toldBy manyIn : Nat → Int32) :
    ∃ chg arr', loopN (fun (w9 : Int32 × Int32 × (Nat → Int32)) => f_X7_findStable_b37 N (nI c) (nI m) toldBy manyIn leadsTo w9.1 w9.2.1 w9.2.2) N (0, 0, arr) = some (chg, arr') ∧ Sw c m L A0 A chg arr' := by
  have hL' : ∀ i k j, i < m → k < c → L i k = some j → j < m := fun i k j hi hk e => (hL i k hi hk).2 j e
  obtain ⟨⟨z1, z2⟩, h1, h2⟩ := loop_idx (b := fun (w9 : Int32 × Int32 × (Nat → Int32)) => f_X7_findStable_b37 N (nI c) (nI m) toldBy manyIn leadsTo w9.1 w9.2.1 w9.2.2)
    (fun t x => x.2.1 = nI t ∧ ∃ A', AR m x.2.2 A' ∧ Gre c m L A0 A' ∧ ((x.1 = 0 ∧ cA m A' ≤ cA m A ∧ ∀ i, i < t → A' i ≠ none → ¬ bad c L A' i) ∨ (x.1 = 1 ∧ cA m A' < cA m A)))
    (fun z => Sw c m L A0 A z.1 z.2) m
    (fun i x hi hI => by
      obtain ⟨x1, x2, x3⟩ := x
      obtain ⟨e1, A', a1, a2, a3⟩ := hI
      dsimp only at e1 a1 a3
      subst e1
      have b : inb (nI i) 462 = true := zinb (by omega) (by omega)
      have ha := a1 i hi
      have hq := q_kept7 (N := N) hN hc hm hL a1 hi
      have BB1 : A' i = none → f_X7_findStable_b37 N (nI c) (nI m) toldBy manyIn leadsTo x1 (nI i) x3 = some (.inl (x1, nI (i + 1), x3)) := by
        intro h0
        unfold f_X7_findStable_b37 nm
        rw [if_neg (by rw [zle (by omega) (by omega)]; omega), gd_t b, zcl (show i < 2147483648 by omega), ha.1, if_pos ((lr_none (le2_big ha.2)).mpr h0), nI_1]
      have BB2 : A' i ≠ none → f_X7_findStable_b37 N (nI c) (nI m) toldBy manyIn leadsTo x1 (nI i) x3 = bd1 (f_X7_isKept N (nI i) (nI c) leadsTo x3) (fun r_6 => if r_6 = 0 then some (.inl (1, nI (i + 1), upd x3 i (-9))) else some (.inl (x1, nI (i + 1), x3))) := by
        intro h0
        unfold f_X7_findStable_b37 nm
        rw [if_neg (by rw [zle (by omega) (by omega)]; omega), gd_t b, zcl (show i < 2147483648 by omega), ha.1, if_neg (fun z => h0 ((lr_none (le2_big ha.2)).mp z)), nI_1]
        simp only [gd_t b]
      refine Or.inl ?_
      show ∃ y, f_X7_findStable_b37 N (nI c) (nI m) toldBy manyIn leadsTo x1 (nI i) x3 = _ ∧ _
      by_cases q0 : A' i = none
      · rw [BB1 q0]
        refine ⟨_, rfl, rfl, A', a1, a2, ?_⟩
        dsimp only
        rcases a3 with ⟨p1, p2, p3⟩ | p
        · refine Or.inl ⟨p1, p2, fun j hj1 hj3 => ?_⟩
          rcases Nat.lt_or_ge j i with r | r
          · exact p3 j r hj3
          · have : j = i := by omega
            subst this; exact absurd q0 hj3
        · exact Or.inr p
      · rw [BB2 q0]
        by_cases q1 : bad c L A' i
        · rw [hq.1 q1]
          simp only [bd1]
          rw [if_pos trivial]
          have gr := Gre_rem hL' a2 hi q0 q1
          refine ⟨_, rfl, rfl, _, AR_rem a1 i, gr.1, Or.inr ⟨rfl, ?_⟩⟩
          rcases a3 with ⟨p1, p2, p3⟩ | ⟨p1, p2⟩
          · exact Nat.lt_of_lt_of_le gr.2 p2
          · exact Nat.lt_trans gr.2 p2
        · rw [hq.2 q1]
          simp only [bd1]
          rw [if_neg (by decide)]
          refine ⟨_, rfl, rfl, A', a1, a2, ?_⟩
          dsimp only
          rcases a3 with ⟨p1, p2, p3⟩ | p
          · refine Or.inl ⟨p1, p2, fun j hj1 hj3 => ?_⟩
            rcases Nat.lt_or_ge j i with r | r
            · exact p3 j r hj3
            · have : j = i := by omega
              subst this; exact q1
          · exact Or.inr p)
    (fun x hI => by
      obtain ⟨x1, x2, x3⟩ := x
      obtain ⟨e1, A', a1, a2, a3⟩ := hI
      dsimp only at e1 a1 a3
      subst e1
      refine ⟨(x1, x3), ?_, A', a1, a2, ?_⟩
      · show f_X7_findStable_b37 N (nI c) (nI m) toldBy manyIn leadsTo x1 (nI m) x3 = _
        unfold f_X7_findStable_b37
        rw [if_pos (Int32.le_refl _)]
      · rcases a3 with ⟨p1, p2, p3⟩ | p
        · exact Or.inl ⟨p1, fun i hi => p3 i hi, p2⟩
        · exact Or.inr p) N 0 (0, 0, arr) (Nat.zero_le _) (by omega) ⟨rfl, A, hA, hG, Or.inl ⟨rfl, Nat.le_refl _, fun i h1 => by omega⟩⟩
  exact ⟨z1, z2, h1, h2⟩
end ST
