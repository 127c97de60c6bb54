/-! ===== longest: the class ===== -/
def eg (c : Nat) (L : Nat → Nat → Option Nat) (t : Nat) : Option Nat := if t % 12 < c then L (t / 12) (t % 12) else none
def od (c m : Nat) (L : Nat → Nat → Option Nat) (lv : Nat → Bool) (j : Nat) : Nat := ct (fun t => lv t && decide (eg c L t = some j)) (12 * m)
theorem ct_ext {p q : Nat → Bool} : ∀ n, (∀ i, i < n → p i = q i) → ct p n = ct q n := by
  intro n
  induction n with
  | zero => intro _; rfl
  | succ n ih =>
    intro h
    rw [ct, ct, ih (fun i hi => h i (by omega)), h n (by omega)]
theorem ct_one {p q : Nat → Bool} {t : Nat} : ∀ n, t < n → (∀ i, i < n → i ≠ t → p i = q i) → p t = false → q t = true → ct q n = ct p n + 1 := by
  intro n
  induction n with
  | zero => intro h; omega
  | succ n ih =>
    intro ht h h1 h2
    rw [ct, ct]
    by_cases e : t = n
    · subst e
      rw [ct_ext t (fun i hi => (h i (by omega) (by omega)).symm), h1, h2]
      rfl
    · rw [ih (by omega) (fun i hi hne => h i (by omega) hne) h1 h2, h n (by omega) (by omega)]
      omega
theorem ct_ex {p : Nat → Bool} : ∀ n, ct p n ≠ 0 → ∃ i, i < n ∧ p i = true := by
  intro n
  induction n with
  | zero => intro h; exact absurd rfl h
  | succ n ih =>
    intro h
    rw [ct] at h
    by_cases e : p n = true
    · exact ⟨n, by omega, e⟩
    · rw [if_neg e] at h
      obtain ⟨i, hi, hp⟩ := ih (by omega)
      exact ⟨i, by omega, hp⟩
section CO
variable {N c m : Nat} {L : Nat → Nat → Option Nat} {leads : Nat → Int32}
theorem eg_at {i k : Nat} (hc : c ≤ 12) (hk : k < c) : eg c L (12 * i + k) = L i k := by
  unfold eg
  have e1 : (12 * i + k) % 12 = k := by omega
  have e2 : (12 * i + k) / 12 = i := by omega
  rw [e1, e2, if_pos hk]
theorem eg_off {i k : Nat} (hk : c ≤ k) (hk2 : k < 12) : eg c L (12 * i + k) = none := by
  unfold eg
  have e1 : (12 * i + k) % 12 = k := by omega
  rw [e1, if_neg (by omega)]
theorem eg_row (hc : c ≤ 12) (i j : Nat) : ct (fun t => decide (eg c L t = some j)) (12 * i + c) = ct (fun t => decide (eg c L t = some j)) (12 * (i + 1)) := by
  have key : ∀ d, c + d ≤ 12 → ct (fun t => decide (eg c L t = some j)) (12 * i + (c + d)) = ct (fun t => decide (eg c L t = some j)) (12 * i + c) := by
    intro d
    induction d with
    | zero => intro _; rfl
    | succ d ih =>
      intro h
      rw [show 12 * i + (c + (d + 1)) = (12 * i + (c + d)) + 1 by omega, ct, ih (by omega), eg_off (by omega) (by omega)]
      rfl
  have := key (12 - c) (by omega)
  rw [← this]
  congr 1
  omega
theorem q_countOpen (hN : 20000 ≤ N) (hc : c ≤ 12) (hm : m ≤ 462) (hL : ∀ i k, i < m → k < c → leads (12 * i + k) = lc (L i k) ∧ ∀ j, L i k = some j → j < m) (opens most : Nat → Int32) :
    ∃ opens' most', f_X3_countOpen N (nI c) (nI m) leads opens most = some (opens', most') ∧ (∀ j, j < m → opens' j = nI (od c m L (fun _ => true) j)) ∧ ∀ j, j < 462 → most' j = 0 := by
  obtain ⟨o1, f1, f2⟩ := q_fill (N := N) (n := 462) (by omega) (by omega) 0 opens
  obtain ⟨m1, g1, g2⟩ := q_fill (N := N) (n := 462) (by omega) (by omega) 0 most
  have inner : ∀ i, i < m → ∀ op : Nat → Int32, (∀ j, j < m → op j = nI (ct (fun t => decide (eg c L t = some j)) (12 * i))) → ∃ z, loopN (fun (w9 : Int32 × (Nat → Int32)) => f_X3_countOpen_b28 N (nI i) (nI c) (nI m) leads m1 w9.1 w9.2) N (0, op) = some z ∧ ∀ j, j < m → z j = nI (ct (fun t => decide (eg c L t = some j)) (12 * (i + 1))) := by
    intro i hi op hop
    refine loop_idx (b := fun (w9 : Int32 × (Nat → Int32)) => f_X3_countOpen_b28 N (nI i) (nI c) (nI m) leads m1 w9.1 w9.2)
      (fun k x => x.1 = nI k ∧ ∀ j, j < m → x.2 j = nI (ct (fun t => decide (eg c L t = some j)) (12 * i + k))) _ c (fun k x hk hI => ?_) (fun x hI => ?_) N 0 (0, op) (Nat.zero_le _) (by omega) ⟨rfl, hop⟩
    · obtain ⟨x1, x2⟩ := x
      obtain ⟨e1, h⟩ := hI
      dsimp only at e1 h
      subst e1
      have z1 : nI i * 12 + nI k = nI (12 * i + k) := by rw [zl 12, zmul, zadd, Nat.mul_comm]
      have l := hL i k hi hk
      left
      show ∃ y, f_X3_countOpen_b28 N (nI i) (nI c) (nI m) leads m1 (nI k) x2 = _ ∧ _
      unfold f_X3_countOpen_b28 f_X3_leadAt nm
      rw [if_neg (by rw [zle (by omega) (by omega)]; omega), z1, gd_t (zinb (show 12 * i + k < 5544 by omega) (by omega)), zcl (show 12 * i + k < 2147483648 by omega), l.1]
      simp only [bd1]
      cases e : L i k with
      | none =>
        rw [if_pos (show lc none < 0 by decide), nI_1]
        refine ⟨_, rfl, rfl, fun j hj => ?_⟩
        dsimp only
        rw [← Nat.add_assoc, ct, eg_at hc hk, e, h j hj]
        rfl
      | some j' =>
        have hj' := l.2 j' e
        have hlt : ¬ lc (some j') < 0 := nI_pos (by omega)
        have b : inb (nI j') 462 = true := zinb (by omega) (by omega)
        rw [if_neg hlt, show lc (some j') = nI j' from rfl, gd_t b, gd_t b, zcl (show j' < 2147483648 by omega), nI_1, h j' hj', nI_1]
        refine ⟨_, rfl, rfl, fun j hj => ?_⟩
        dsimp only
        rw [upd_eq, ← Nat.add_assoc, ct, eg_at hc hk, e]
        by_cases q : j = j'
        · subst q
          rw [if_pos rfl, decide_eq_true rfl, if_pos rfl]
        · rw [if_neg q, decide_eq_false (fun z => q (by cases z; rfl)), h j hj]
          rfl
    · obtain ⟨x1, x2⟩ := x
      obtain ⟨e1, h⟩ := hI
      dsimp only at e1 h
      subst e1
      refine ⟨x2, ?_, fun j hj => ?_⟩
      · show f_X3_countOpen_b28 N (nI i) (nI c) (nI m) leads m1 (nI c) x2 = _
        unfold f_X3_countOpen_b28
        rw [if_pos (Int32.le_refl _)]
      · rw [h j hj, eg_row hc]
  obtain ⟨z, l1, l2⟩ := loop_idx (b := fun (w9 : Int32 × (Nat → Int32)) => f_X3_countOpen_b18 N (nI c) (nI m) leads m1 w9.1 w9.2)
    (fun i x => x.1 = nI i ∧ ∀ j, j < m → x.2 j = nI (ct (fun t => decide (eg c L t = some j)) (12 * i))) (fun z => ∀ j, j < m → z j = nI (ct (fun t => decide (eg c L t = some j)) (12 * m))) m
    (fun i x hi hI => by
      obtain ⟨x1, x2⟩ := x
      obtain ⟨e1, h⟩ := hI
      dsimp only at e1 h
      subst e1
      obtain ⟨z, k1, k2⟩ := inner i hi x2 h
      refine Or.inl ⟨(nI (i + 1), z), ?_, rfl, k2⟩
      show f_X3_countOpen_b18 N (nI c) (nI m) leads m1 (nI i) x2 = _
      unfold f_X3_countOpen_b18 nm
      rw [if_neg (by rw [zle (by omega) (by omega)]; omega), k1, nI_1]
      rfl)
    (fun x hI => by
      obtain ⟨x1, x2⟩ := x
      obtain ⟨e1, h⟩ := hI
      dsimp only at e1 h
      subst e1
      refine ⟨x2, ?_, h⟩
      show f_X3_countOpen_b18 N (nI c) (nI m) leads m1 (nI m) x2 = _
      unfold f_X3_countOpen_b18
      rw [if_pos (Int32.le_refl _)]) N 0 (0, o1) (Nat.zero_le _) (by omega) ⟨rfl, fun j hj => by show o1 j = _; rw [f2 j (by omega)]; rfl⟩
  refine ⟨z, m1, ?_, fun j hj => ?_, g2⟩
  · unfold f_X3_countOpen
    rw [f1]
    simp only [bd1]
    rw [g1]
    simp only []
    rw [l1]
  · rw [l2 j hj]
    unfold od
    congr 1
end CO
/-- while the node R d is left -/
def LI (c m : Nat) (L : Nat → Nat → Option Nat) (d K r : Nat) (R M : Nat → Nat) (lv : Nat → Bool) (opens most ready : Nat → Int32) : Prop :=
  d < r ∧ r ≤ m ∧ (∀ p, p < r → R p < m ∧ ready p = nI (R p)) ∧ (∀ p q, p < q → q < r → R p ≠ R q) ∧
  (∀ j, j < m → opens j = nI (od c m L lv j) ∧ most j = nI (M j) ∧ M j ≤ d + 1 ∧ (M j ≠ 0 → Pth c L (M j) 0 j) ∧ (od c m L lv j = 0 ↔ ∃ p, p < r ∧ R p = j)) ∧
  (∀ t, t < 12 * m → eg c L t ≠ none → (lv t = true ↔ (¬ ∃ p, p < d ∧ R p = t / 12) ∧ ¬ (t / 12 = R d ∧ t % 12 < K))) ∧
  (∀ p, p < d → ∀ k j, k < c → L (R p) k = some j → M (R p) + 1 ≤ M j) ∧ (∀ k j, k < K → L (R d) k = some j → M (R d) + 1 ≤ M j)
section LV
variable {N c m : Nat} {L : Nat → Nat → Option Nat} {leads : Nat → Int32}
theorem LI_step (hN : 20000 ≤ N) (hc : c ≤ 12) (hm : m ≤ 462) (hL : ∀ i k, i < m → k < c → leads (12 * i + k) = lc (L i k) ∧ ∀ j, L i k = some j → j < m)
    {d K r : Nat} {R M : Nat → Nat} {lv : Nat → Bool} {opens most ready : Nat → Int32} (hK : K < c) (h : LI c m L d K r R M lv opens most ready) (hMd : M (R d) ≤ d) (hM0 : M (R d) ≠ 0 ∨ R d = 0) :
    ∃ r' R' M' lv' opens' most' ready', f_X3_leave_b5 N (nI (R d)) (nI c) leads (nI r) (nI K) opens most ready = some (.inl (nI r', nI (K + 1), opens', most', ready')) ∧ LI c m L d (K + 1) r' R' M' lv' opens' most' ready' ∧ (∀ p, p ≤ d → R' p = R p) ∧ (∀ p, p < r → M' (R p) = M (R p)) := by
  obtain ⟨h1, h2, h3, h4, h5, h6, h7, h8⟩ := h
  have hv := (h3 d h1).1
  generalize hvv : R d = v at hv hMd hM0 h6 h8 ⊢
  have z1 : nI v * 12 + nI K = nI (12 * v + K) := by rw [zl 12, zmul, zadd, Nat.mul_comm]
  have l := hL v K hv hK
  have ht0 : 12 * v + K < 12 * m := by omega
  have B : f_X3_leave_b5 N (nI v) (nI c) leads (nI r) (nI K) opens most ready = bd1 (some (lc (L v K))) (fun r_2 => (if r_2 < 0 then some (Sum.inl (nI r, nI (K + 1), opens, most, ready)) else gd (inb r_2 462) (gd (inb (nI v) 462) (gd (inb r_2 462) (nm (upd most r_2.toNatClampNeg (if (most r_2.toNatClampNeg) < ((most v) + 1) then ((most v) + 1) else (most r_2.toNatClampNeg))) (fun most_8 => gd (inb r_2 462) (gd (inb r_2 462) (nm (upd opens r_2.toNatClampNeg ((opens r_2.toNatClampNeg) - 1)) (fun opens_11 => gd (inb r_2 462) ((if (opens_11 r_2.toNatClampNeg) = 0 then (if 462 ≤ nI r then some (Sum.inl (nI r, nI (K + 1), opens_11, most_8, ready)) else gd (inb (nI r) 462) (some (Sum.inl (nI (r + 1), nI (K + 1), opens_11, most_8, upd ready r r_2)))) else some (Sum.inl (nI r, nI (K + 1), opens_11, most_8, ready))))))))))))) := by
    unfold f_X3_leave_b5 f_X3_leadAt
    rw [if_neg (by rw [zle (by omega) (by omega)]; omega), z1, gd_t (zinb (show 12 * v + K < 5544 by omega) (by omega)), zcl (show 12 * v + K < 2147483648 by omega), l.1]
    unfold nm
    dsimp only
    rw [zcl (show v < 2147483648 by omega), zcl (show r < 2147483648 by omega), nI_1, nI_1]
  rw [B]
  simp only [bd1]
  cases e : L v K with
  | none =>
    rw [if_pos (show lc none < 0 by decide)]
    refine ⟨r, R, M, lv, opens, most, ready, rfl, ⟨h1, h2, h3, h4, h5, fun t ht hne => ?_, h7, fun k j hk ek => ?_⟩, fun _ _ => rfl, fun _ _ => rfl⟩
    · rw [h6 t ht hne, hvv]
      have : (t / 12 = v ∧ t % 12 < K) ↔ (t / 12 = v ∧ t % 12 < K + 1) := by
        constructor
        · rintro ⟨a, b⟩; exact ⟨a, by omega⟩
        · rintro ⟨a, b⟩
          refine ⟨a, ?_⟩
          rcases Nat.lt_or_ge (t % 12) K with q | q
          · exact q
          · exfalso
            apply hne
            have et : t = 12 * v + K := by omega
            rw [et, eg_at hc hK]; exact e
      rw [this]
    · rw [hvv] at ek ⊢
      rcases Nat.lt_or_ge k K with q | q
      · exact h8 k j q ek
      · have : k = K := by omega
        rw [this, e] at ek; cases ek
  | some j =>
    have hj := l.2 j e
    have b : inb (nI j) 462 = true := zinb (by omega) (by omega)
    have hlt : ¬ lc (some j) < 0 := nI_pos (by omega)
    obtain ⟨j1, j2, j3, j4, j5⟩ := h5 j hj
    obtain ⟨v1, v2, v3, v4, v5⟩ := h5 v hv
    have egt : eg c L (12 * v + K) = some j := by rw [eg_at hc hK]; exact e
    have lvt : lv (12 * v + K) = true := by
      rw [h6 _ ht0 (by rw [egt]; exact fun z => by cases z)]
      have e1 : (12 * v + K) / 12 = v := by omega
      have e2 : (12 * v + K) % 12 = K := by omega
      rw [e1, e2]
      refine ⟨fun ⟨p, hp, hq⟩ => h4 p d hp h1 (hq.trans hvv.symm), fun z => by omega⟩
    have od1 : od c m L lv j = od c m L (fun t => if t = 12 * v + K then false else lv t) j + 1 := by
      refine ct_one (t := 12 * v + K) _ ht0 (fun i hi hne => ?_) ?_ ?_
      · dsimp only; rw [if_neg hne]
      · dsimp only; rw [if_pos rfl]; rfl
      · rw [lvt, egt]; simp
    have od2 : ∀ i, i ≠ j → od c m L (fun t => if t = 12 * v + K then false else lv t) i = od c m L lv i := by
      intro i hij
      refine ct_ext _ (fun t ht => ?_)
      dsimp only
      by_cases q : t = 12 * v + K
      · rw [if_pos q, q, egt, decide_eq_false (fun z => hij (by cases z; rfl))]
        simp
      · rw [if_neg q]
    have odb : od c m L lv j ≤ 12 * m := ct_le _ _
    have jno : ∀ p, p < r → R p ≠ j := fun p hp hq => by
      have := j5.mpr ⟨p, hp, hq⟩
      omega
    have jv : v ≠ j := by rw [← hvv]; exact jno d h1
    have room : r < m := by
      have := holes m (r + 1) (fun p => if p < r then R p else j) (fun p hp => by
        split
        · next q => exact (h3 p q).1
        · exact hj) (fun p q hpq hq => by
        rw [if_pos (by omega)]
        split
        · next q2 => exact h4 p q hpq q2
        · exact jno p (by omega))
      omega
    have C : (if lc (some j) < 0 then some (Sum.inl (nI r, nI (K + 1), opens, most, ready)) else gd (inb (lc (some j)) 462) (gd (inb (nI v) 462) (gd (inb (lc (some j)) 462) (nm (upd most (lc (some j)).toNatClampNeg (if (most (lc (some j)).toNatClampNeg) < ((most v) + 1) then ((most v) + 1) else (most (lc (some j)).toNatClampNeg))) (fun most_8 => gd (inb (lc (some j)) 462) (gd (inb (lc (some j)) 462) (nm (upd opens (lc (some j)).toNatClampNeg ((opens (lc (some j)).toNatClampNeg) - 1)) (fun opens_11 => gd (inb (lc (some j)) 462) ((if (opens_11 (lc (some j)).toNatClampNeg) = 0 then (if 462 ≤ nI r then some (Sum.inl (nI r, nI (K + 1), opens_11, most_8, ready)) else gd (inb (nI r) 462) (some (Sum.inl (nI (r + 1), nI (K + 1), opens_11, most_8, upd ready r (lc (some j)))))) else some (Sum.inl (nI r, nI (K + 1), opens_11, most_8, ready)))))))))))) = (if od c m L lv j = 1 then some (Sum.inl (nI (r + 1), nI (K + 1), upd opens j (nI (od c m L lv j - 1)), upd most j (nI (if M j < M v + 1 then M v + 1 else M j)), upd ready r (nI j))) else some (Sum.inl (nI r, nI (K + 1), upd opens j (nI (od c m L lv j - 1)), upd most j (nI (if M j < M v + 1 then M v + 1 else M j)), ready)) : Option ((Int32 × Int32 × (Nat → Int32) × (Nat → Int32) × (Nat → Int32)) ⊕ (Int32 × (Nat → Int32) × (Nat → Int32) × (Nat → Int32)))) := by
      have emost : (if nI (M j) < nI (M v) + 1 then nI (M v) + 1 else nI (M j)) = nI (if M j < M v + 1 then M v + 1 else M j) := by
        rw [nI_1]
        by_cases q : M j < M v + 1
        · rw [if_pos q, if_pos (by rw [zlt (by omega) (by omega)]; exact q)]
        · rw [if_neg q, if_neg (by rw [zlt (by omega) (by omega)]; exact q)]
      have eopen : nI (od c m L lv j) - 1 = nI (od c m L lv j - 1) := zsub (b := 1) (by omega)
      unfold nm
      dsimp only
      rw [if_neg hlt, show lc (some j) = nI j from rfl, gd_t b, gd_t (zinb (show v < 462 by omega) (by omega)), gd_t b, gd_t b, gd_t b, gd_t b, zcl (show j < 2147483648 by omega), j1, j2, v2, emost, eopen, upd_eq, if_pos rfl, if_neg (show ¬ 462 ≤ nI r by rw [zl 462, zle (by omega) (by omega)]; omega), gd_t (zinb (show r < 462 by omega) (by omega))]
      by_cases q : od c m L lv j = 1
      · rw [if_pos q, if_pos (by rw [q]; rfl)]
      · rw [if_neg q, if_neg (by rw [zl 0, zeq (by omega) (by omega)]; omega)]
    rw [C]
    have hM'p : M v + 1 ≠ 0 → Pth c L (M v + 1) 0 j := by
      intro _
      refine Pth_snoc (t := v) ?_ hK e
      rcases hM0 with q | q
      · exact v4 q
      · by_cases q2 : M v = 0
        · rw [q2, q]; exact rfl
        · exact v4 q2
    have lvspec : ∀ (R' : Nat → Nat), (∀ p, p ≤ d → R' p = R p) → ∀ t, t < 12 * m → eg c L t ≠ none → ((if t = 12 * v + K then false else lv t) = true ↔ (¬ ∃ p, p < d ∧ R' p = t / 12) ∧ ¬ (t / 12 = R' d ∧ t % 12 < K + 1)) := by
      intro R' hR' t ht hne
      have ex : (∃ p, p < d ∧ R' p = t / 12) ↔ ∃ p, p < d ∧ R p = t / 12 := by
        constructor
        · rintro ⟨p, a, b⟩; exact ⟨p, a, by rw [← hR' p (by omega)]; exact b⟩
        · rintro ⟨p, a, b⟩; exact ⟨p, a, by rw [hR' p (by omega)]; exact b⟩
      rw [ex, hR' d (Nat.le_refl _), hvv]
      by_cases q : t = 12 * v + K
      · rw [if_pos q]
        constructor
        · intro z; cases z
        · rintro ⟨_, z⟩; exact absurd ⟨by omega, by omega⟩ z
      · rw [if_neg q, h6 t ht hne]
        constructor
        · rintro ⟨a, b⟩; exact ⟨a, fun z => b ⟨z.1, by omega⟩⟩
        · rintro ⟨a, b⟩; exact ⟨a, fun z => b ⟨z.1, by omega⟩⟩
    have perj : ∀ (r' : Nat) (R' : Nat → Nat), (∀ i, i < m → i ≠ j → ((∃ p, p < r' ∧ R' p = i) ↔ ∃ p, p < r ∧ R p = i)) → (od c m L lv j = 1 ↔ ∃ p, p < r' ∧ R' p = j) → ∀ i, i < m → upd opens j (nI (od c m L lv j - 1)) i = nI (od c m L (fun t => if t = 12 * v + K then false else lv t) i) ∧ upd most j (nI (if M j < M v + 1 then M v + 1 else M j)) i = nI (if i = j then (if M j < M v + 1 then M v + 1 else M j) else M i) ∧ (if i = j then (if M j < M v + 1 then M v + 1 else M j) else M i) ≤ d + 1 ∧ ((if i = j then (if M j < M v + 1 then M v + 1 else M j) else M i) ≠ 0 → Pth c L (if i = j then (if M j < M v + 1 then M v + 1 else M j) else M i) 0 i) ∧ (od c m L (fun t => if t = 12 * v + K then false else lv t) i = 0 ↔ ∃ p, p < r' ∧ R' p = i) := by
      intro r' R' hr1 hr2 i hi
      rw [upd_eq, upd_eq]
      by_cases q : i = j
      · subst q
        rw [if_pos rfl, if_pos rfl, if_pos rfl]
        refine ⟨by rw [od1]; rfl, rfl, ?_, ?_, by rw [← hr2, od1]; omega⟩
        · split <;> omega
        · by_cases q2 : M i < M v + 1
          · rw [if_pos q2]; exact hM'p
          · rw [if_neg q2]; exact j4
      · rw [if_neg q, if_neg q, if_neg q, od2 i q]
        obtain ⟨a1, a2, a3, a4, a5⟩ := h5 i hi
        exact ⟨a1, a2, a3, a4, by rw [hr1 i hi q]; exact a5⟩
    have mono : ∀ i, M i ≤ (if i = j then (if M j < M v + 1 then M v + 1 else M j) else M i) := by
      intro i
      by_cases q : i = j
      · rw [if_pos q, q]; split <;> omega
      · rw [if_neg q]; exact Nat.le_refl _
    have same : ∀ p, p < r → (if R p = j then (if M j < M v + 1 then M v + 1 else M j) else M (R p)) = M (R p) := fun p hp => by rw [if_neg (jno p hp)]
    by_cases q1 : od c m L lv j = 1
    · rw [if_pos q1]
      refine ⟨r + 1, fun p => if p = r then j else R p, fun i => if i = j then (if M j < M v + 1 then M v + 1 else M j) else M i, fun t => if t = 12 * v + K then false else lv t, _, _, _, rfl, ⟨by omega, by omega, fun p hp => ?_, fun p q hpq hq => ?_, perj (r + 1) _ (fun i hi hij => ?_) ?_, ?_, fun p hp k i hk ek => ?_, fun k i hk ek => ?_⟩, fun p hp => if_neg (by omega), same⟩
      · rw [upd_eq]
        by_cases q : p = r
        · simp only [if_pos q]; exact ⟨hj, trivial⟩
        · simp only [if_neg q]; exact h3 p (by omega)
      · dsimp only
        rw [if_neg (show ¬ p = r by omega)]
        split
        · exact jno p (by omega)
        · exact h4 p q hpq (by omega)
      · constructor
        · rintro ⟨p, a, b⟩
          by_cases q : p = r
          · rw [if_pos q] at b; exact absurd b.symm hij
          · rw [if_neg q] at b; exact ⟨p, by omega, b⟩
        · rintro ⟨p, a, b⟩
          exact ⟨p, by omega, by rw [if_neg (by omega)]; exact b⟩
      · exact ⟨fun _ => ⟨r, by omega, if_pos rfl⟩, fun _ => q1⟩
      · exact lvspec _ (fun p hp => if_neg (by omega))
      · dsimp only at ek ⊢
        rw [if_neg (show ¬ p = r by omega)] at ek ⊢
        rw [same p (by omega)]
        exact Nat.le_trans (h7 p hp k i hk ek) (mono i)
      · dsimp only at ek ⊢
        rw [if_neg (show ¬ d = r by omega)] at ek ⊢
        rw [same d (by omega)]
        rw [hvv] at ek ⊢
        rcases Nat.lt_or_ge k K with q | q
        · exact Nat.le_trans (h8 k i q ek) (mono i)
        · have : k = K := by omega
          rw [this, e] at ek; cases ek
          rw [if_pos rfl]
          split <;> omega
    · rw [if_neg q1]
      refine ⟨r, R, fun i => if i = j then (if M j < M v + 1 then M v + 1 else M j) else M i, fun t => if t = 12 * v + K then false else lv t, _, _, _, rfl, ⟨h1, h2, h3, h4, perj r R (fun i hi hij => Iff.rfl) ⟨fun z => absurd z q1, fun ⟨p, a, b⟩ => absurd b (jno p a)⟩, lvspec R (fun _ _ => rfl), fun p hp k i hk ek => ?_, fun k i hk ek => ?_⟩, fun _ _ => rfl, same⟩
      · dsimp only
        rw [same p (by omega)]
        exact Nat.le_trans (h7 p hp k i hk ek) (mono i)
      · dsimp only
        rw [same d (by omega)]
        rw [hvv] at ek ⊢
        rcases Nat.lt_or_ge k K with q | q
        · exact Nat.le_trans (h8 k i q ek) (mono i)
        · have : k = K := by omega
          rw [this, e] at ek; cases ek
          rw [if_pos rfl]
          split <;> omega
end LV
