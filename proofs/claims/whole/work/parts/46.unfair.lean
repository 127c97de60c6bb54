/-! ===== unfair ===== -/
def ct (p : Nat → Bool) : Nat → Nat
  | 0 => 0
  | n + 1 => ct p n + (if p n = true then 1 else 0)
def tot (f : Nat → Nat) : Nat → Nat
  | 0 => 0
  | n + 1 => tot f n + f n
theorem ct_le (p : Nat → Bool) (n : Nat) : ct p n ≤ n := by
  induction n with
  | zero => exact Nat.le_refl _
  | succ n ih => rw [ct]; split <;> omega
theorem ct_mono (p : Nat → Bool) (m n : Nat) : ct p m ≤ ct p (m + n) := by
  induction n with
  | zero => exact Nat.le_refl _
  | succ n ih => rw [← Nat.add_assoc, ct]; omega
theorem tot_le (f : Nat → Nat) (b : Nat) (h : ∀ k, f k ≤ b) (n : Nat) : tot f n ≤ n * b := by
  induction n with
  | zero => exact Nat.zero_le _
  | succ n ih => rw [tot, Nat.succ_mul]; have := h n; omega
theorem tot_mono (f : Nat → Nat) (m n : Nat) : tot f m ≤ tot f (m + n) := by
  induction n with
  | zero => exact Nat.le_refl _
  | succ n ih => rw [← Nat.add_assoc, tot]; omega
def gF (p : Nat → Bool) (a : Nat) (acc : Int32) (n : Nat) : Nat → Int32
  | 0 => acc
  | k + 1 => if p (n - (k + 1)) = true then nI (10 * a + (n - (k + 1))) else gF p a acc n k
def rF (p : Nat → Nat → Bool) (n : Nat) : Nat → Int32
  | 0 => -9
  | k + 1 => gF (p (n - (k + 1))) (n - (k + 1)) (rF p n k) n n
section UU
variable {N n : Nat} {lastMet metAt : Nat → Int32} {v mm : Int32}
def pA (mm v : Int32) (M : Nat → Int32) (a b : Nat) : Bool := decide (a ≠ b ∧ ¬ (mm - M (6 * a + b) ≤ v))
theorem q_isAbove (hM : ∀ j, j < 36 → lastMet j = metAt j) {a b : Nat} (ha : a < 6) (hb : b < 6) : f_X2_isAbove N (nI a) (nI b) v mm lastMet = some (if pA mm v metAt a b = true then 1 else 0) := by
  unfold f_X2_isAbove pA
  by_cases e : a = b
  · subst e
    rw [if_pos rfl, if_neg]
    simp
  · rw [if_neg (by rw [zeq (by omega) (by omega)]; exact e), (q_waitOf ha hb hM mm).1]
    show (if mm - metAt (6 * a + b) ≤ v then some 0 else some 1) = _
    by_cases q : mm - metAt (6 * a + b) ≤ v
    · rw [if_pos q, if_neg]
      simp [q]
    · rw [if_neg q, if_pos]
      simp [q, e]
theorem q_many (hN : 20000 ≤ N) (hn : n ≤ 6) (hM : ∀ j, j < 36 → lastMet j = metAt j) : f_X2_howManyAbove N v (nI n) mm lastMet = some (nI (tot (fun a => ct (pA mm v metAt a) n) n)) := by
  have hb : ∀ a, ct (pA mm v metAt a) n ≤ 6 := fun a => Nat.le_trans (ct_le _ n) hn
  have inner : ∀ a base, a < n → base ≤ 36 → loopN (fun (w9 : Int32 × Int32) => f_X2_howManyAbove_b15 N v (nI a) (nI n) mm lastMet w9.1 w9.2) N (nI base, 0) = some (nI (base + ct (pA mm v metAt a) n)) := by
    intro a base ha hbase
    refine loop_cnt (b := fun (w9 : Int32 × Int32) => f_X2_howManyAbove_b15 N v (nI a) (nI n) mm lastMet w9.1 w9.2) (fun j => (nI (base + ct (pA mm v metAt a) j), nI j)) _ n (fun j hj => ?_) ?_ N 0 (Nat.zero_le _) (by omega)
    · show f_X2_howManyAbove_b15 N v (nI a) (nI n) mm lastMet (nI (base + ct (pA mm v metAt a) j)) (nI j) = _
      unfold f_X2_howManyAbove_b15 nm
      rw [if_neg (by rw [zle (by omega) (by omega)]; omega), q_isAbove hM (by omega) (by omega)]
      simp only [bd1, ct, nI_1]
      split
      · rw [if_neg (by decide)]; rfl
      · rw [if_pos rfl]; rfl
    · show f_X2_howManyAbove_b15 N v (nI a) (nI n) mm lastMet (nI (base + ct (pA mm v metAt a) n)) (nI n) = _
      unfold f_X2_howManyAbove_b15
      rw [if_pos (Int32.le_refl _)]
  have outer := loop_cnt (b := fun (w9 : Int32 × Int32) => f_X2_howManyAbove_b4 N v (nI n) mm lastMet w9.1 w9.2) (fun a => (nI (tot (fun a => ct (pA mm v metAt a) n) a), nI a)) (nI (tot (fun a => ct (pA mm v metAt a) n) n)) n
    (fun a ha => by
      show f_X2_howManyAbove_b4 N v (nI n) mm lastMet (nI (tot (fun a => ct (pA mm v metAt a) n) a)) (nI a) = _
      have ht := tot_le (fun a => ct (pA mm v metAt a) n) 6 hb a
      unfold f_X2_howManyAbove_b4 nm
      rw [if_neg (by rw [zle (by omega) (by omega)]; omega), inner a _ ha (by omega), nI_1]
      rfl)
    (by
      show f_X2_howManyAbove_b4 N v (nI n) mm lastMet (nI (tot (fun a => ct (pA mm v metAt a) n) n)) (nI n) = _
      unfold f_X2_howManyAbove_b4
      rw [if_pos (Int32.le_refl _)]) N 0 (Nat.zero_le _) (by omega)
  unfold f_X2_howManyAbove
  show bd1 (loopN _ N (nI (tot (fun a => ct (pA mm v metAt a) n) 0), nI 0)) _ = _
  rw [outer]; rfl
theorem gF_step (p : Nat → Bool) (a : Nat) (acc : Int32) {j : Nat} (hj : j < n) : gF p a acc n (n - j) = if p j = true then nI (10 * a + j) else gF p a acc n (n - (j + 1)) := by
  have e : n - j = (n - (j + 1)) + 1 := by omega
  rw [e, gF, show n - (n - (j + 1) + 1) = j by omega]
theorem q_firstA (hN : 20000 ≤ N) (hn : n ≤ 6) (hM : ∀ j, j < 36 → lastMet j = metAt j) : f_X2_firstAbove N v (nI n) mm lastMet = some (rF (pA mm v metAt) n n) := by
  have inner : ∀ a, a < n → ∃ z, loopN (fun (w9 : Int32) => f_X2_firstAbove_b12 N v (nI a) (nI n) mm lastMet w9) N 0 = some z ∧ ((∃ x, z = .inl x ∧ ∀ acc, gF (pA mm v metAt a) a acc n n = x) ∨ (z = .inr () ∧ ∀ acc, gF (pA mm v metAt a) a acc n n = acc)) := by
    intro a ha
    refine loop_idx (b := fun (w9 : Int32) => f_X2_firstAbove_b12 N v (nI a) (nI n) mm lastMet w9) (fun j x => x = nI j ∧ ∀ acc, gF (pA mm v metAt a) a acc n n = gF (pA mm v metAt a) a acc n (n - j)) _ n (fun j x hj hI => ?_) (fun x hI => ?_) N 0 0 (Nat.zero_le _) (by omega) ⟨rfl, fun acc => rfl⟩
    · obtain ⟨rfl, h2⟩ := hI
      have st := fun acc => gF_step (n := n) (pA mm v metAt a) a acc hj
      have B : f_X2_firstAbove_b12 N v (nI a) (nI n) mm lastMet (nI j) = if pA mm v metAt a j = true then some (.inr (.inl (nI (10 * a + j)))) else some (.inl (nI (j + 1))) := by
        unfold f_X2_firstAbove_b12 nm
        rw [if_neg (by rw [zle (by omega) (by omega)]; omega), q_isAbove hM (by omega) (by omega)]
        simp only [bd1, nI_1]
        split
        · rw [if_neg (by decide), zl 10, zmul, zadd]
        · rw [if_pos rfl]
      by_cases q : pA mm v metAt a j = true
      · refine Or.inr ⟨_, by rw [B, if_pos q], Or.inl ⟨_, rfl, fun acc => ?_⟩⟩
        rw [h2, st, if_pos q]
      · refine Or.inl ⟨_, by rw [B, if_neg q], rfl, fun acc => ?_⟩
        rw [h2, st, if_neg q]
    · obtain ⟨rfl, h2⟩ := hI
      refine ⟨.inr (), ?_, Or.inr ⟨rfl, fun acc => ?_⟩⟩
      · unfold f_X2_firstAbove_b12
        rw [if_pos (Int32.le_refl _)]
      · rw [h2, Nat.sub_self]; rfl
  obtain ⟨z, h1, h2⟩ := loop_idx (b := fun (w9 : Int32) => f_X2_firstAbove_b2 N v (nI n) mm lastMet w9) (fun a x => x = nI a ∧ rF (pA mm v metAt) n n = rF (pA mm v metAt) n (n - a)) (fun z => (z = .inl (rF (pA mm v metAt) n n)) ∨ (z = .inr () ∧ rF (pA mm v metAt) n n = -9)) n
    (fun a x ha hI => by
      obtain ⟨rfl, h2⟩ := hI
      obtain ⟨z, g1, g2⟩ := inner a ha
      have st : rF (pA mm v metAt) n (n - a) = gF (pA mm v metAt a) a (rF (pA mm v metAt) n (n - (a + 1))) n n := by
        have e : n - a = (n - (a + 1)) + 1 := by omega
        rw [e, rF, show n - (n - (a + 1) + 1) = a by omega]
      have B : f_X2_firstAbove_b2 N v (nI n) mm lastMet (nI a) = bs0 (some z) (fun x9 => some (Sum.inr (Sum.inl x9))) (some (Sum.inl (nI (a + 1)))) := by
        unfold f_X2_firstAbove_b2 nm
        rw [if_neg (by rw [zle (by omega) (by omega)]; omega), g1, nI_1]
      rcases g2 with ⟨x, rfl, g3⟩ | ⟨rfl, g3⟩
      · exact Or.inr ⟨_, B, Or.inl (by rw [h2, st, g3])⟩
      · exact Or.inl ⟨_, B, rfl, by rw [h2, st, g3]⟩)
    (fun x hI => by
      obtain ⟨rfl, h2⟩ := hI
      refine ⟨.inr (), ?_, Or.inr ⟨rfl, by rw [h2, Nat.sub_self]; rfl⟩⟩
      unfold f_X2_firstAbove_b2
      rw [if_pos (Int32.le_refl _)]) N 0 0 (Nat.zero_le _) (by omega) ⟨rfl, rfl⟩
  unfold f_X2_firstAbove
  rw [h1]
  rcases h2 with rfl | ⟨rfl, h2⟩
  · rfl
  · rw [h2]; rfl
theorem dn1 {i : Nat} (hi : i < n) : nI (n - i) - 1 = nI (n - (i + 1)) := by
  rw [zl 1, zsub (by omega)]; congr 1
theorem q_unfair7 (hN : 20000 ≤ N) (hn0 : 0 < n) (hn : n ≤ 6) (hM : ∀ j, j < 36 → lastMet j = metAt j) (a2 : Int32) :
    loopN (fun (w9 : Int32 × Int32 × Int32) => f_X7_unfair_b46 N v a2 (nI n) mm metAt w9.1 w9.2.1 w9.2.2) N (0, (-9), nI n - 1) = some (nI (tot (fun a => ct (pA mm v metAt a) n) n), rF (pA mm v metAt) n n) := by
  have hb : ∀ a, ct (pA mm v metAt a) n ≤ 6 := fun a => Nat.le_trans (ct_le _ n) hn
  have inner : ∀ a base acc, a < n → base ≤ 36 → loopN (fun (w9 : Int32 × Int32 × Int32) => f_X7_unfair_b59 N v a2 (nI a) (nI n) mm metAt w9.1 w9.2.1 w9.2.2) N (nI base, acc, nI n - 1) = some (nI (base + ct (pA mm v metAt a) n), gF (pA mm v metAt a) a acc n n) := by
    intro a base acc ha hbase
    have L := loop_cnt (b := fun (w9 : Int32 × Int32 × Int32) => f_X7_unfair_b59 N v a2 (nI a) (nI n) mm metAt w9.1 w9.2.1 w9.2.2) (fun i => (nI (base + (ct (pA mm v metAt a) n - ct (pA mm v metAt a) (n - i))), gF (pA mm v metAt a) a acc n i, nI (n - i) - 1)) (nI (base + ct (pA mm v metAt a) n), gF (pA mm v metAt a) a acc n n) n
      (fun i hi => by
        show f_X7_unfair_b59 N v a2 (nI a) (nI n) mm metAt (nI (base + (ct (pA mm v metAt a) n - ct (pA mm v metAt a) (n - i)))) (gF (pA mm v metAt a) a acc n i) (nI (n - i) - 1) = some (.inl (nI (base + (ct (pA mm v metAt a) n - ct (pA mm v metAt a) (n - (i + 1)))), gF (pA mm v metAt a) a acc n (i + 1), nI (n - (i + 1)) - 1))
        rw [dn1 hi]
        have em : nI (n - (i + 1)) + (-1) = nI (n - (i + 1)) - 1 := (Int32.sub_eq_add_neg _ _).symm
        have hct : ct (pA mm v metAt a) (n - i) = ct (pA mm v metAt a) (n - (i + 1)) + (if pA mm v metAt a (n - (i + 1)) = true then 1 else 0) := by
          rw [show n - i = (n - (i + 1)) + 1 by omega, ct]
        have hmn := ct_mono (pA mm v metAt a) (n - i) i
        rw [show n - i + i = n by omega] at hmn
        rw [gF]
        unfold f_X7_unfair_b59 nm
        rw [if_neg (nI_pos (by omega))]
        by_cases e : a = n - (i + 1)
        · have np : ¬ pA mm v metAt a (n - (i + 1)) = true := by unfold pA; simp [e]
          rw [if_pos (by rw [← e]), if_neg np, em]
          rw [if_neg np] at hct
          rw [hct]
          rfl
        · rw [if_neg (by rw [zeq (by omega) (by omega)]; exact e), (q_waitOf (by omega) (by omega) hM mm).2]
          show (if mm - metAt (6 * a + (n - (i + 1))) ≤ v then _ else _) = _
          by_cases q : mm - metAt (6 * a + (n - (i + 1))) ≤ v
          · have np : ¬ pA mm v metAt a (n - (i + 1)) = true := by unfold pA; simp [q]
            rw [if_pos q, if_neg np, em]
            rw [if_neg np] at hct
            rw [hct]
            rfl
          · have np : pA mm v metAt a (n - (i + 1)) = true := by unfold pA; simp [q, e]
            rw [if_neg q, if_pos np, em, nI_1, zl 10, zmul, zadd]
            rw [if_pos np] at hct
            congr 4
            omega)
      (by
        show f_X7_unfair_b59 N v a2 (nI a) (nI n) mm metAt (nI (base + (ct (pA mm v metAt a) n - ct (pA mm v metAt a) (n - n)))) (gF (pA mm v metAt a) a acc n n) (nI (n - n) - 1) = _
        rw [Nat.sub_self]
        unfold f_X7_unfair_b59
        rw [if_pos (by decide)]
        rfl) N 0 (Nat.zero_le _) (by omega)
    rw [Nat.sub_zero, Nat.sub_self] at L
    exact L
  have L := loop_cnt (b := fun (w9 : Int32 × Int32 × Int32) => f_X7_unfair_b46 N v a2 (nI n) mm metAt w9.1 w9.2.1 w9.2.2) (fun i => (nI (tot (fun a => ct (pA mm v metAt a) n) n - tot (fun a => ct (pA mm v metAt a) n) (n - i)), rF (pA mm v metAt) n i, nI (n - i) - 1)) (nI (tot (fun a => ct (pA mm v metAt a) n) n), rF (pA mm v metAt) n n) n
    (fun i hi => by
      show f_X7_unfair_b46 N v a2 (nI n) mm metAt (nI (tot (fun a => ct (pA mm v metAt a) n) n - tot (fun a => ct (pA mm v metAt a) n) (n - i))) (rF (pA mm v metAt) n i) (nI (n - i) - 1) = some (.inl (nI (tot (fun a => ct (pA mm v metAt a) n) n - tot (fun a => ct (pA mm v metAt a) n) (n - (i + 1))), rF (pA mm v metAt) n (i + 1), nI (n - (i + 1)) - 1))
      rw [dn1 hi]
      have em : nI (n - (i + 1)) + (-1) = nI (n - (i + 1)) - 1 := (Int32.sub_eq_add_neg _ _).symm
      have ht := tot_le (fun a => ct (pA mm v metAt a) n) 6 hb n
      have hmn := tot_mono (fun a => ct (pA mm v metAt a) n) (n - i) i
      rw [show n - i + i = n by omega] at hmn
      have hto : tot (fun a => ct (pA mm v metAt a) n) (n - i) = tot (fun a => ct (pA mm v metAt a) n) (n - (i + 1)) + ct (pA mm v metAt (n - (i + 1))) n := by
        rw [show n - i = (n - (i + 1)) + 1 by omega, tot]
      unfold f_X7_unfair_b46 nm
      rw [if_neg (nI_pos (by omega))]
      dsimp only
      rw [inner (n - (i + 1)) _ _ (by omega) (by omega), em, rF]
      show some (Sum.inl (_, _, _)) = _
      congr 4
      omega)
    (by
      show f_X7_unfair_b46 N v a2 (nI n) mm metAt (nI (tot (fun a => ct (pA mm v metAt a) n) n - tot (fun a => ct (pA mm v metAt a) n) (n - n))) (rF (pA mm v metAt) n n) (nI (n - n) - 1) = _
      rw [Nat.sub_self]
      unfold f_X7_unfair_b46
      rw [if_pos (by decide)]
      rfl) N 0 (Nat.zero_le _) (by omega)
  rw [Nat.sub_zero, Nat.sub_self] at L
  exact L
theorem q_unfair (hN : 20000 ≤ N) (hn2 : n = 0 ∨ 2 ≤ n) (hn : n ≤ 6) (hM : ∀ j, j < 36 → lastMet j = metAt j) (a1 a2 : Int32) : ∃ r : Int32, f_X6_unfair N a1 a2 (nI n) mm lastMet = some r ∧ f_X7_unfair N a1 a2 (nI n) mm metAt = some r := by
  unfold f_X6_unfair f_X7_unfair
  by_cases h1 : a1 < 0
  · rw [if_pos h1, q_w0 (Or.inl h1)]
    exact ⟨-2, rfl, rfl⟩
  rw [if_neg h1]
  by_cases h2 : 1000000 < a1
  · rw [if_pos h2, q_w0 (Or.inr (Int32.not_le.mpr h2))]
    exact ⟨-2, rfl, rfl⟩
  rw [if_neg h2, q_w1 h1 (Int32.not_lt.mp h2)]
  by_cases h3 : a2 < 0
  · rw [if_pos h3, q_w0 (Or.inl h3)]
    exact ⟨-2, rfl, rfl⟩
  rw [if_neg h3]
  by_cases h4 : a2 ≤ 1
  · rw [if_pos h4, q_w1 h3 h4]
    rcases hn2 with rfl | hn2
    · exact ⟨-3, rfl, rfl⟩
    · have hz : ¬ nI n = 0 := nI_ne0 (by omega) (by omega)
      rw [if_neg hz]
      have U := q_unfair7 (v := a1) (mm := mm) hN (by omega) hn hM a2
      by_cases h5 : a2 = 0
      · refine ⟨_, by rw [if_pos h5, q_many hN hn hM]; rfl, ?_⟩
        show (if nI n = 0 then _ else nm (nI n - 1) _) = _
        unfold nm
        rw [if_neg hz]
        dsimp only
        rw [U]
        show (if a2 = 0 then _ else _) = _
        rw [if_pos h5]
      · refine ⟨_, by rw [if_neg h5, q_firstA hN hn hM]; rfl, ?_⟩
        show (if nI n = 0 then _ else nm (nI n - 1) _) = _
        unfold nm
        rw [if_neg hz]
        dsimp only
        rw [U]
        show (if a2 = 0 then _ else _) = _
        rw [if_neg h5]
  · rw [if_neg h4, q_w0 (Or.inr h4)]
    exact ⟨-2, rfl, rfl⟩
end UU
