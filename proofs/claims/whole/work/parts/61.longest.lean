/-! ===== longest: paths; the reference ===== -/
def Pth (c : Nat) (L : Nat → Nat → Option Nat) : Nat → Nat → Nat → Prop
  | 0, i, j => i = j
  | n + 1, i, j => ∃ k, k < c ∧ ∃ t, L i k = some t ∧ Pth c L n t j
def Mx (c : Nat) (L : Nat → Nat → Option Nat) (i h : Nat) : Prop := (∃ j, Pth c L h i j) ∧ ∀ n j, Pth c L n i j → n ≤ h
def Unb (c : Nat) (L : Nat → Nat → Option Nat) (i : Nat) : Prop := ∀ n, ∃ n' j, n ≤ n' ∧ Pth c L n' i j
section PA
variable {c m : Nat} {L : Nat → Nat → Option Nat}
theorem Pth_app : ∀ (n : Nat) {n' i t j : Nat}, Pth c L n i t → Pth c L n' t j → Pth c L (n + n') i j := by
  intro n
  induction n with
  | zero => intro n' i t j h1 h2; rw [Nat.zero_add]; have : i = t := h1; rw [this]; exact h2
  | succ n ih =>
    intro n' i t j h1 h2
    obtain ⟨k, hk, u, e, h⟩ := h1
    rw [Nat.add_right_comm]
    exact ⟨k, hk, u, e, ih h h2⟩
theorem Pth_snoc {n i t j k : Nat} (h : Pth c L n i t) (hk : k < c) (e : L t k = some j) : Pth c L (n + 1) i j :=
  Pth_app n h ⟨k, hk, j, e, rfl⟩
theorem Mx_uni {i a b : Nat} (h1 : Mx c L i a) (h2 : Mx c L i b) : a = b := by
  obtain ⟨⟨x, hx⟩, ha⟩ := h1
  obtain ⟨⟨y, hy⟩, hb⟩ := h2
  have := ha _ _ hy
  have := hb _ _ hx
  omega
theorem Mx_unb {i a : Nat} (h1 : Mx c L i a) (h2 : Unb c L i) : False := by
  obtain ⟨n', j, h3, h4⟩ := h2 (a + 1)
  have := h1.2 _ _ h4
  omega
end PA
def KI (c m : Nat) (L : Nat → Nat → Option Nat) (arr : Nat → Int32) (H : Nat → Option Nat) : Prop := ∀ i, i < m → arr i = lr (H i) ∧ ∀ h, H i = some h → Mx c L i h ∧ h ≤ cA m H
def KC (c m : Nat) (L : Nat → Nat → Option Nat) (H : Nat → Option Nat) : Prop := ∀ i, i < m → H i = none → ∃ k, k < c ∧ ∃ j, L i k = some j ∧ H j = none
section KN
variable {N n c m : Nat} {L : Nat → Nat → Option Nat} {H : Nat → Option Nat} {leadsTo arr : Nat → Int32}
theorem cA_le (A : Nat → Option Nat) (m : Nat) : cA m A ≤ m := ct_le _ m
theorem q_knows (hN : 20000 ≤ N) (hc : c ≤ 12) (hm : m ≤ 462) (hL : ∀ i k, i < m → k < c → leadsTo (12 * i + k) = lr (L i k) ∧ ∀ j, L i k = some j → j < m) (hK : KI c m L arr H) {i : Nat} (hi : i < m) (hn : H i = none) :
    ((∃ k, k < c ∧ ∃ j, L i k = some j ∧ H j = none) ∧ f_X7_knows N (nI i) (nI c) leadsTo arr = some (0, arr)) ∨
    (∃ h, f_X7_knows N (nI i) (nI c) leadsTo arr = some (1, upd arr i (nI h)) ∧ KI c m L (upd arr i (nI h)) (fun j => if j = i then some h else H j) ∧ cA m H < cA m (fun j => if j = i then some h else H j)) := by
  have hcm := cA_le H m
  obtain ⟨z, l1, l2⟩ := loop_idx (b := fun (w9 : Int32 × Int32) => f_X7_knows_b4 N (nI i) (nI c) leadsTo arr w9.1 w9.2)
    (fun k x => x.2 = nI k ∧ ∃ h, x.1 = nI h ∧ h ≤ cA m H + 1 ∧ (h = 0 ∨ ∃ k' j h', k' < k ∧ L i k' = some j ∧ H j = some h' ∧ h = h' + 1) ∧ ∀ k' j, k' < k → L i k' = some j → ∃ h', H j = some h' ∧ h' + 1 ≤ h)
    (fun z => (z = .inl (0, arr) ∧ ∃ k, k < c ∧ ∃ j, L i k = some j ∧ H j = none) ∨ ∃ h, z = .inr (nI h) ∧ h ≤ cA m H + 1 ∧ (h = 0 ∨ ∃ k' j h', k' < c ∧ L i k' = some j ∧ H j = some h' ∧ h = h' + 1) ∧ ∀ k' j, k' < c → L i k' = some j → ∃ h', H j = some h' ∧ h' + 1 ≤ h) c
    (fun k x hk hI => by
      obtain ⟨x1, x2⟩ := x
      obtain ⟨e1, h, e2, hb, h1, h2⟩ := hI
      dsimp only at e1 e2
      subst e1; subst e2
      have z1 : 12 * nI i + nI k = nI (12 * i + k) := by rw [zl 12, zmul, zadd]
      have l := hL i k hi hk
      have B : f_X7_knows_b4 N (nI i) (nI c) leadsTo arr (nI h) (nI k) = (if lr (L i k) = -9 then f_X7_knows_j46 N (nI i) (nI h) (nI k) (lr (L i k)) (nI c) leadsTo arr else gd (inb (lr (L i k)) 462) ((if (arr (lr (L i k)).toNatClampNeg) = (-9) then some (Sum.inr (Sum.inl (0, arr))) else f_X7_knows_j46 N (nI i) (nI h) (nI k) (lr (L i k)) (nI c) leadsTo arr))) := by
        unfold f_X7_knows_b4 nm
        rw [if_neg (by rw [zle (by omega) (by omega)]; omega), z1, gd_t (zinb (show 12 * i + k < 5544 by omega) (by omega)), zcl (show 12 * i + k < 2147483648 by omega), l.1]
      show (∃ y, f_X7_knows_b4 N (nI i) (nI c) leadsTo arr (nI h) (nI k) = _ ∧ _) ∨ ∃ e, f_X7_knows_b4 N (nI i) (nI c) leadsTo arr (nI h) (nI k) = _ ∧ _
      rw [B]
      cases e : L i k with
      | none =>
        left
        refine ⟨(nI h, nI (k + 1)), ?_, rfl, h, rfl, hb, ?_, fun k' j hk' e' => ?_⟩
        · rw [if_pos (show lr none = -9 from rfl)]
          unfold f_X7_knows_j46 nm
          rw [if_pos (show lr none = -9 from rfl), nI_1]
        · rcases h1 with h1 | ⟨k', j, h', p1, p2, p3, p4⟩
          · exact Or.inl h1
          · exact Or.inr ⟨k', j, h', by omega, p2, p3, p4⟩
        · rcases Nat.lt_or_ge k' k with r | r
          · exact h2 k' j r e'
          · have : k' = k := by omega
            rw [this, e] at e'; cases e'
      | some j =>
        have hj := l.2 j e
        have h9 : ¬ lr (some j) = -9 := by
          intro h
          have h' : nI j = -nI 9 := h
          rw [zeqn (by omega) (by omega) (by omega)] at h'
          exact h'
        have kj := hK j hj
        rw [if_neg h9, show lr (some j) = nI j from rfl, gd_t (zinb (show j < 462 by omega) (by omega)), zcl (show j < 2147483648 by omega), kj.1]
        cases eh : H j with
        | none =>
          rw [if_pos (show lr none = -9 from rfl)]
          exact Or.inr ⟨_, rfl, Or.inl ⟨rfl, k, hk, j, e, eh⟩⟩
        | some h' =>
          have hh' := (kj.2 h' eh).2
          have h9' : ¬ lr (some h') = -9 := by
            intro h
            have h' : nI h' = -nI 9 := h
            rw [zeqn (by omega) (by omega) (by omega)] at h'
            exact h'
          have h9'' : ¬ nI j = -9 := h9
          rw [if_neg h9']
          left
          have J : f_X7_knows_j46 N (nI i) (nI h) (nI k) (nI j) (nI c) leadsTo arr = some (.inl (nI (if h' + 1 ≤ h then h else h' + 1), nI (k + 1))) := by
            unfold f_X7_knows_j46 nm
            rw [if_neg h9'', gd_t (zinb (show j < 462 by omega) (by omega)), gd_t (zinb (show j < 462 by omega) (by omega)), zcl (show j < 2147483648 by omega), kj.1, eh, show lr (some h') = nI h' from rfl, nI_1, nI_1]
            by_cases q : h' + 1 ≤ h
            · rw [if_pos (by rw [zle (by omega) (by omega)]; exact q), if_pos q]
            · rw [if_neg (by rw [zle (by omega) (by omega)]; exact q), if_neg q]
          refine ⟨_, J, rfl, (if h' + 1 ≤ h then h else h' + 1), rfl, by split <;> omega, ?_, fun k' t hk' e' => ?_⟩
          · by_cases q : h' + 1 ≤ h
            · rw [if_pos q]
              rcases h1 with h1 | ⟨k', j, h', p1, p2, p3, p4⟩
              · exact Or.inl h1
              · exact Or.inr ⟨k', j, h', by omega, p2, p3, p4⟩
            · rw [if_neg q]
              exact Or.inr ⟨k, j, h', by omega, e, eh, rfl⟩
          · rcases Nat.lt_or_ge k' k with r | r
            · obtain ⟨a, a1, a2⟩ := h2 k' t r e'
              exact ⟨a, a1, by split <;> omega⟩
            · have : k' = k := by omega
              rw [this, e] at e'; cases e'
              exact ⟨h', eh, by split <;> omega⟩)
    (fun x hI => by
      obtain ⟨x1, x2⟩ := x
      obtain ⟨e1, h, e2, hb, h1, h2⟩ := hI
      dsimp only at e1 e2
      subst e1; subst e2
      refine ⟨.inr (nI h), ?_, Or.inr ⟨h, rfl, hb, h1, h2⟩⟩
      show f_X7_knows_b4 N (nI i) (nI c) leadsTo arr (nI h) (nI c) = _
      unfold f_X7_knows_b4
      rw [if_pos (Int32.le_refl _)]) N 0 (0, 0) (Nat.zero_le _) (by omega) ⟨rfl, 0, rfl, by omega, Or.inl rfl, fun k' j hk' => absurd hk' (Nat.not_lt_zero k')⟩
  unfold f_X7_knows
  rw [l1]
  rcases l2 with ⟨rfl, h⟩ | ⟨h, rfl, hb, h1, h2⟩
  · exact Or.inl ⟨h, rfl⟩
  · have hlt : cA m H < cA m (fun j => if j = i then some h else H j) := by
      refine ct_lt (i := i) m (fun j hj hjj => ?_) hi (by rw [hn]; rfl) (by simp)
      by_cases q : j = i
      · simp [q]
      · dsimp only; rw [if_neg q]; exact hjj
    refine Or.inr ⟨h, ?_, ?_, hlt⟩
    · show gd (inb (nI i) 462) _ = _
      rw [gd_t (zinb (show i < 462 by omega) (by omega)), zcl (show i < 2147483648 by omega)]
      rfl
    · intro t ht
      rw [upd_eq]
      by_cases q : t = i
      · subst q
        rw [if_pos rfl]
        dsimp only
        rw [if_pos rfl]
        refine ⟨rfl, fun g hg => ?_⟩
        cases hg
        refine ⟨⟨?_, fun a j hp => ?_⟩, by omega⟩
        · rcases h1 with rfl | ⟨k', j, h', p1, p2, p3, rfl⟩
          · exact ⟨t, rfl⟩
          · obtain ⟨⟨u, hu⟩, _⟩ := ((hK j ((hL t k' ht p1).2 j p2)).2 h' p3).1
            exact ⟨u, k', p1, j, p2, hu⟩
        · cases a with
          | zero => exact Nat.zero_le _
          | succ a =>
            obtain ⟨k', hk', u, e', hu⟩ := hp
            obtain ⟨h', p1, p2⟩ := h2 k' u hk' e'
            have := ((hK u ((hL t k' ht hk').2 u e')).2 h' p1).1.2 a j hu
            omega
      · rw [if_neg q]
        dsimp only
        rw [if_neg q]
        exact ⟨(hK t ht).1, fun g hg => ⟨((hK t ht).2 g hg).1, by have := ((hK t ht).2 g hg).2; omega⟩⟩
theorem q_lsweep (hN : 20000 ≤ N) (hc : c ≤ 12) (hm : m ≤ 462) (hL : ∀ i k, i < m → k < c → leadsTo (12 * i + k) = lr (L i k) ∧ ∀ j, L i k = some j → j < m) (hK : KI c m L arr H) (mA : Int32) (pOf qOf xOf yOf toldBy stateOf manyIn codeOf farOf answerOf : Nat → Int32) :
    ∃ chg arr', loopN (fun (w9 : Int32 × Int32 × (Nat → Int32)) => f_X7_longest_b48 N (nI c) mA (nI m) pOf qOf xOf yOf toldBy stateOf manyIn codeOf farOf leadsTo answerOf w9.1 w9.2.1 w9.2.2) N (0, 0, arr) = some (chg, arr') ∧ ∃ H', KI c m L arr' H' ∧ ((chg = 0 ∧ KC c m L H') ∨ (chg = 1 ∧ cA m H < cA m H')) := by
  obtain ⟨⟨z1, z2⟩, h1, h2⟩ := loop_idx (b := fun (w9 : Int32 × Int32 × (Nat → Int32)) => f_X7_longest_b48 N (nI c) mA (nI m) pOf qOf xOf yOf toldBy stateOf manyIn codeOf farOf leadsTo answerOf w9.1 w9.2.1 w9.2.2)
    (fun t x => x.2.1 = nI t ∧ ∃ H', KI c m L x.2.2 H' ∧ ((x.1 = 0 ∧ H' = H ∧ ∀ i, i < t → H' i = none → ∃ k, k < c ∧ ∃ j, L i k = some j ∧ H' j = none) ∨ (x.1 = 1 ∧ cA m H < cA m H')))
    (fun z => ∃ H', KI c m L z.2 H' ∧ ((z.1 = 0 ∧ KC c m L H') ∨ (z.1 = 1 ∧ cA m H < cA m H'))) m
    (fun i x hi hI => by
      obtain ⟨x1, x2, x3⟩ := x
      obtain ⟨e1, H', a1, a3⟩ := hI
      dsimp only at e1 a1 a3
      subst e1
      have b : inb (nI i) 462 = true := zinb (by omega) (by omega)
      have b0 : ¬ nI m ≤ nI i := by rw [zle (by omega) (by omega)]; omega
      have ha := a1 i hi
      have hx : x1 = 0 ∨ x1 = 1 := by rcases a3 with h | h; exact Or.inl h.1; exact Or.inr h.1
      have J : f_X7_longest_j75 N x1 (nI i) (nI c) mA (nI m) pOf qOf xOf yOf toldBy stateOf manyIn codeOf farOf leadsTo answerOf x3 = some (.inl (x1, nI (i + 1), x3)) := by
        unfold f_X7_longest_j75 nm
        rcases hx with rfl | rfl
        · rw [if_pos rfl, nI_1]
        · rw [if_neg (by decide), nI_1]
      refine Or.inl ?_
      show ∃ y, f_X7_longest_b48 N (nI c) mA (nI m) pOf qOf xOf yOf toldBy stateOf manyIn codeOf farOf leadsTo answerOf x1 (nI i) x3 = _ ∧ _
      unfold f_X7_longest_b48 nm
      rw [if_neg b0, gd_t b, zcl (show i < 2147483648 by omega), ha.1]
      cases q0 : H' i with
      | some h =>
        have hh := (ha.2 h q0).2
        have hcm := cA_le H' m
        have h9' : ¬ lr (some h) = -9 := by
          intro h
          have h' : nI _ = -nI 9 := h
          rw [zeqn (by omega) (by omega) (by omega)] at h'
          exact h'
        rw [if_neg h9', J]
        refine ⟨_, rfl, rfl, H', a1, ?_⟩
        dsimp only
        rcases a3 with ⟨p1, p2, p3⟩ | p
        · refine Or.inl ⟨p1, p2, fun j hj2 hj3 => ?_⟩
          rcases Nat.lt_or_ge j i with r | r
          · exact p3 j r hj3
          · have : j = i := by omega
            subst this; rw [q0] at hj3; cases hj3
        · exact Or.inr p
      | none =>
        rw [if_pos (show lr none = -9 from rfl)]
        rcases q_knows (N := N) hN hc hm hL a1 hi q0 with ⟨q1, q2⟩ | ⟨h, q2, q3, q4⟩
        · rw [q2]
          simp only [bd2]
          rw [if_pos trivial, J]
          refine ⟨_, rfl, rfl, H', a1, ?_⟩
          dsimp only
          rcases a3 with ⟨p1, p2, p3⟩ | p
          · refine Or.inl ⟨p1, p2, fun j hj2 hj3 => ?_⟩
            rcases Nat.lt_or_ge j i with r | r
            · exact p3 j r hj3
            · have : j = i := by omega
              subst this; exact q1
          · exact Or.inr p
        · rw [q2]
          simp only [bd2]
          rw [if_neg (by decide), nI_1]
          refine ⟨_, rfl, rfl, _, q3, Or.inr ⟨rfl, ?_⟩⟩
          rcases a3 with ⟨p1, p2, p3⟩ | ⟨p1, p2⟩
          · rw [← p2]; exact q4
          · exact Nat.lt_trans p2 q4)
    (fun x hI => by
      obtain ⟨x1, x2, x3⟩ := x
      obtain ⟨e1, H', a1, a3⟩ := hI
      dsimp only at e1 a1 a3
      subst e1
      refine ⟨(x1, x3), ?_, H', a1, ?_⟩
      · show f_X7_longest_b48 N (nI c) mA (nI m) pOf qOf xOf yOf toldBy stateOf manyIn codeOf farOf leadsTo answerOf x1 (nI m) x3 = _
        unfold f_X7_longest_b48
        rw [if_pos (Int32.le_refl _)]
      · rcases a3 with ⟨p1, p2, p3⟩ | p
        · exact Or.inl ⟨p1, fun i hi => p3 i hi⟩
        · exact Or.inr p) N 0 (0, 0, arr) (Nat.zero_le _) (by omega) ⟨rfl, H, hK, Or.inl ⟨rfl, rfl, fun i h1 => by omega⟩⟩
  exact ⟨z1, z2, h1, h2⟩
theorem q_lref (hN : 20000 ≤ N) (hc : c ≤ 12) (hm1 : 1 ≤ m) (hm : m ≤ 462) (hL : ∀ i k, i < m → k < c → leadsTo (12 * i + k) = lr (L i k) ∧ ∀ j, L i k = some j → j < m) (mA : Int32) (pOf qOf xOf yOf toldBy stateOf manyIn codeOf farOf answerOf mostOn : Nat → Int32) :
    ∃ a1 a2, loopN (fun (w9 : Int32 × (Nat → Int32)) => f_X7_longest_b16 N (nI c) mA (nI m) pOf qOf xOf yOf toldBy stateOf manyIn codeOf farOf leadsTo answerOf w9.1 w9.2) N (0, mostOn) = some a1 ∧ loopN (fun (w9 : Int32 × (Nat → Int32)) => f_X7_longest_b40 N (nI c) mA (nI m) pOf qOf xOf yOf toldBy stateOf manyIn codeOf farOf leadsTo answerOf w9.1 w9.2) N (1, a1) = some a2 ∧
      ((∃ h, a2 0 = nI h ∧ Mx c L 0 h) ∨ (a2 0 = -9 ∧ Unb c L 0)) := by
  obtain ⟨a1, h1, h2⟩ := loop_idx (b := fun (w9 : Int32 × (Nat → Int32)) => f_X7_longest_b16 N (nI c) mA (nI m) pOf qOf xOf yOf toldBy stateOf manyIn codeOf farOf leadsTo answerOf w9.1 w9.2)
    (fun i x => x.1 = nI i ∧ ∀ t, t < i → x.2 t = -9) (fun z => ∀ t, t < m → z t = -9) m
    (fun i x hi hI => by
      obtain ⟨x1, x2⟩ := x
      obtain ⟨e1, h⟩ := hI
      dsimp only at e1 h
      subst e1
      refine Or.inl ⟨(nI (i + 1), upd x2 i (-9)), ?_, rfl, fun t ht => ?_⟩
      · show f_X7_longest_b16 N (nI c) mA (nI m) pOf qOf xOf yOf toldBy stateOf manyIn codeOf farOf leadsTo answerOf (nI i) x2 = _
        unfold f_X7_longest_b16 nm
        rw [if_neg (by rw [zle (by omega) (by omega)]; omega), gd_t (zinb (show i < 462 by omega) (by omega)), zcl (show i < 2147483648 by omega), nI_1]
      · dsimp only
        rw [upd_eq]
        by_cases q : t = i
        · rw [if_pos q]
        · rw [if_neg q]; exact h t (by omega))
    (fun x hI => by
      obtain ⟨x1, x2⟩ := x
      obtain ⟨e1, h⟩ := hI
      dsimp only at e1 h
      subst e1
      refine ⟨x2, ?_, h⟩
      show f_X7_longest_b16 N (nI c) mA (nI m) pOf qOf xOf yOf toldBy stateOf manyIn codeOf farOf leadsTo answerOf (nI m) x2 = _
      unfold f_X7_longest_b16
      rw [if_pos (Int32.le_refl _)]) N 0 (0, mostOn) (Nat.zero_le _) (by omega) ⟨rfl, fun t ht => absurd ht (Nat.not_lt_zero t)⟩
  obtain ⟨a2, k1, H, k2, k3⟩ := loop_idx (b := fun (w9 : Int32 × (Nat → Int32)) => f_X7_longest_b40 N (nI c) mA (nI m) pOf qOf xOf yOf toldBy stateOf manyIn codeOf farOf leadsTo answerOf w9.1 w9.2)
    (fun t x => ∃ H', KI c m L x.2 H' ∧ ((x.1 = 0 ∧ KC c m L H') ∨ (x.1 = 1 ∧ t ≤ cA m H')))
    (fun z => ∃ H', KI c m L z H' ∧ KC c m L H') 463
    (fun t x ht hI => by
      obtain ⟨x1, x3⟩ := x
      obtain ⟨H', a1, a3⟩ := hI
      dsimp only at a1 a3
      rcases a3 with ⟨rfl, a3⟩ | ⟨rfl, a3⟩
      · refine Or.inr ⟨x3, ?_, H', a1, a3⟩
        show f_X7_longest_b40 N (nI c) mA (nI m) pOf qOf xOf yOf toldBy stateOf manyIn codeOf farOf leadsTo answerOf 0 x3 = _
        unfold f_X7_longest_b40
        rw [if_pos rfl]
      · obtain ⟨chg, arr', g1, H2, g2, g4⟩ := q_lsweep (N := N) hN hc hm hL a1 mA pOf qOf xOf yOf toldBy stateOf manyIn codeOf farOf answerOf
        refine Or.inl ⟨(chg, arr'), ?_, H2, g2, ?_⟩
        · show f_X7_longest_b40 N (nI c) mA (nI m) pOf qOf xOf yOf toldBy stateOf manyIn codeOf farOf leadsTo answerOf 1 x3 = _
          unfold f_X7_longest_b40
          rw [if_neg (by decide), g1]
          rfl
        · rcases g4 with ⟨p1, p2⟩ | ⟨p1, p2⟩
          · exact Or.inl ⟨p1, p2⟩
          · exact Or.inr ⟨p1, by omega⟩)
    (fun x hI => by
      obtain ⟨x1, x3⟩ := x
      obtain ⟨H', a1, a3⟩ := hI
      dsimp only at a1 a3
      rcases a3 with ⟨rfl, a3⟩ | ⟨rfl, a3⟩
      · refine ⟨x3, ?_, H', a1, a3⟩
        show f_X7_longest_b40 N (nI c) mA (nI m) pOf qOf xOf yOf toldBy stateOf manyIn codeOf farOf leadsTo answerOf 0 x3 = _
        unfold f_X7_longest_b40
        rw [if_pos rfl]
      · have := cA_le H' m
        omega) N 0 (1, a1) (Nat.zero_le _) (by omega) ⟨fun _ => none, fun i hi => ⟨h2 i hi, fun h hh => by cases hh⟩, Or.inr ⟨rfl, Nat.zero_le _⟩⟩
  refine ⟨a1, a2, h1, k1, ?_⟩
  have k0 := k2 0 (by omega)
  cases e : H 0 with
  | some h =>
    rw [e] at k0
    exact Or.inl ⟨h, k0.1, (k0.2 h rfl).1⟩
  | none =>
    rw [e] at k0
    refine Or.inr ⟨k0.1, fun n => ?_⟩
    have key : ∀ n i, i < m → H i = none → ∃ j, Pth c L n i j := by
      intro n
      induction n with
      | zero => intro i _ _; exact ⟨i, rfl⟩
      | succ n ih =>
        intro i hi hn
        obtain ⟨k, hk, j, e1, e2⟩ := k3 i hi hn
        obtain ⟨t, ht⟩ := ih j ((hL i k hi hk).2 j e1) e2
        exact ⟨t, k, hk, j, e1, ht⟩
    obtain ⟨j, hj⟩ := key n 0 (by omega) e
    exact ⟨n, j, Nat.le_refl _, hj⟩
end KN
