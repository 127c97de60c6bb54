/-! ===== configurations that are reached: the class and the reference list them alike ===== -/
theorem holes : ∀ (m n : Nat) (f : Nat → Nat), (∀ i, i < n → f i < m) → (∀ i j, i < j → j < n → f i ≠ f j) → n ≤ m := by
  intro m
  induction m with
  | zero =>
    intro n f h _
    rcases Nat.eq_zero_or_pos n with q | q
    · omega
    · exact absurd (h 0 q) (Nat.not_lt_zero _)
  | succ m ih =>
    intro n f h1 h2
    rcases Nat.eq_zero_or_pos n with q | q
    · omega
    · -- the value of the last one is swapped with m
      have hl : f (n - 1) < m + 1 := h1 _ (by omega)
      have := ih (n - 1) (fun i => if f i = m then f (n - 1) else f i) (fun i hi => by
        have hi1 := h1 i (by omega)
        have hne := h2 i (n - 1) (by omega) (by omega)
        split <;> omega) (fun i j hij hj => by
        have a := h2 i j hij (by omega)
        have b := h2 i (n - 1) (by omega) (by omega)
        have c := h2 j (n - 1) (by omega) (by omega)
        split <;> split <;> omega)
      omega
def JJ (n m : Nat) (Cs : Nat → Nat → Nat) (D : Nat → Nat) (por confs near manyIn codeOf farOf : Nat → Int32) : Prop :=
  m ≤ 462 ∧
  (∀ i, i < m → csum (Cs i) = n ∧ D i ≤ i ∧ confs i = nI (pak (Cs i)) ∧ near i = nI (D i) ∧ codeOf i = nI (cod (Cs i)) ∧ farOf i = nI (D i) ∧ ∀ s, s < 6 → manyIn (6 * i + s) = nI (Cs i s)) ∧
  (∀ i j, i < m → j < m → rk (Cs i) = rk (Cs j) → i = j) ∧
  (∀ r, r < 462 → (∃ i, i < m ∧ rk (Cs i) = r ∧ por r = nI i) ∨ ((∀ i, i < m → rk (Cs i) ≠ r) ∧ por r = -1))
theorem rk_cod_iff {n : Nat} {C D : Nat → Nat} (hn : n ≤ 6) (hC : csum C = n) (hD : csum D = n) : rk C = rk D ↔ cod C = cod D :=
  ⟨fun h => cod_ext (rk_inj (by rw [hC]; exact hn) (hC.trans hD.symm) h), fun h => rk_ext (cod_inj (by rw [hC]; exact hn) (by rw [hD]; exact hn) h)⟩
theorem cod_lt {C : Nat → Nat} (h : csum C ≤ 6) : cod C < 117649 := by
  unfold csum at h; unfold cod; omega
def hor (C : Nat → Nat) : Nat → Nat
  | 0 => 0
  | s + 1 => 7 * hor C s + C s
theorem hor_cod (C : Nat → Nat) : hor C 6 = cod C := by
  show 7 * (7 * (7 * (7 * (7 * (7 * 0 + C 0) + C 1) + C 2) + C 3) + C 4) + C 5 = _
  unfold cod
  omega
theorem q_codeAt {N i : Nat} (hN : 20000 ≤ N) (hi : i < 462) {C : Nat → Nat} {manyIn : Nat → Int32} (h : ∀ s, s < 6 → manyIn (6 * i + s) = nI (C s)) : f_X7_codeAt N (nI i) manyIn = some (nI (cod C)) := by
  have L := loop_cnt (b := fun (w9 : Int32 × Int32) => f_X7_codeAt_b4 N (nI i) manyIn w9.1 w9.2) (fun s => (nI (hor C s), nI s)) (nI (hor C 6)) 6
    (fun s hs => by
      show f_X7_codeAt_b4 N (nI i) manyIn (nI (hor C s)) (nI s) = _
      have e1 : 6 * nI i + nI s = nI (6 * i + s) := by rw [zl 6, zmul, zadd]
      unfold f_X7_codeAt_b4 nm
      rw [if_neg (by rw [zl 6, zle (by omega) (by omega)]; omega), e1, gd_t (zinb (show 6 * i + s < 2772 by omega) (by omega)), zcl (show 6 * i + s < 2147483648 by omega), h s hs, nI_1, zl 7, zmul, zadd]
      rfl)
    (by
      show f_X7_codeAt_b4 N (nI i) manyIn (nI (hor C 6)) (nI 6) = _
      unfold f_X7_codeAt_b4
      rw [if_pos (by decide)]) N 0 (Nat.zero_le _) (by omega)
  unfold f_X7_codeAt
  show bd1 (loopN _ N (nI (hor C 0), nI 0)) _ = _
  rw [L, hor_cod]; rfl
section BB
variable {N n m : Nat} {Cs : Nat → Nat → Nat} {D : Nat → Nat} {por confs near manyIn codeOf farOf : Nat → Int32}
theorem JJ_room (hn : n ≤ 6) (h : JJ n m Cs D por confs near manyIn codeOf farOf) {C : Nat → Nat} (hC : csum C = n) (hno : ∀ i, i < m → rk (Cs i) ≠ rk C) : m < 462 := by
  obtain ⟨h1, h2, h3, -⟩ := h
  have hr : rk C < 462 := rk_lt (by rw [hC]; exact hn)
  have hrs : ∀ i, i < m → rk (Cs i) < 462 := fun i hi => rk_lt (by rw [(h2 i hi).1]; exact hn)
  generalize rk C = r at hno hr
  have := holes 462 (m + 1) (fun i => if i < m then rk (Cs i) else r) (fun i hi => by
    split
    · next q => exact hrs i q
    · exact hr) (fun i j hij hj => by
    rw [if_pos (by omega)]
    split
    · next q => exact fun e => absurd (h3 i j (by omega) q e) (by omega)
    · exact hno i (by omega))
  omega
theorem q_place (hN : 20000 ≤ N) (hn : n ≤ 6) (h : JJ n m Cs D por confs near manyIn codeOf farOf) {C : Nat → Nat} (hC : csum C = n) (d : Nat) :
    (∃ j, j < m ∧ rk (Cs j) = rk C ∧ f_X3_place N (nI (pak C)) (nI d) (nI m) por confs near = some (nI j, nI m, por, confs, near)) ∨
    ((∀ i, i < m → rk (Cs i) ≠ rk C) ∧ m < 462 ∧ f_X3_place N (nI (pak C)) (nI d) (nI m) por confs near = some (nI m, nI (m + 1), upd por (rk C) (nI m), upd confs m (nI (pak C)), upd near m (nI d))) := by
  have hr : rk C < 462 := rk_lt (by rw [hC]; exact hn)
  have hq := q_rank (N := N) hN (C := C) (by rw [hC]; exact hn)
  have hcase := h.2.2.2 (rk C) hr
  have hroom := JJ_room hn h hC
  have hm := h.1
  generalize rk C = r at hr hq hcase hroom
  have A : f_X3_place N (nI (pak C)) (nI d) (nI m) por confs near = (if 0 ≤ por r then some (por r, nI m, por, confs, near) else (if 462 ≤ nI m then some (por r, nI m, por, confs, near) else gd (inb (nI m) 462) (gd (inb (nI m) 462) (some (upd por r (nI m) r, nI m + 1, upd por r (nI m), upd confs m (nI (pak C)), upd near m (nI d)))))) := by
    unfold f_X3_place nm
    rw [hq]
    simp only [bd1]
    rw [if_neg (nI_pos (by omega)), if_pos (by rw [zl 462, zlt (by omega) (by omega)]; exact hr), zcl (show r < 2147483648 by omega)]
    repeat rw [gd_t (zinb hr (by omega))]
    rw [zcl (show m < 2147483648 by omega)]
  rcases hcase with ⟨j, hj, e1, e2⟩ | ⟨hno, e2⟩
  · refine Or.inl ⟨j, hj, e1, ?_⟩
    rw [A, e2, if_pos (nI_pos' (by omega))]
  · have hm462 := hroom hno
    refine Or.inr ⟨hno, hm462, ?_⟩
    rw [A, e2, if_neg (by decide), if_neg (by rw [zl 462, zle (by omega) (by omega)]; omega), gd_t (zinb hm462 (by omega)), gd_t (zinb hm462 (by omega)), nI_1, upd_eq, if_pos rfl]
theorem q_takesOn (hN : 20000 ≤ N) (hn : n ≤ 6) (h : JJ n m Cs D por confs near manyIn codeOf farOf) {many : Nat → Int32} {C : Nat → Nat} (hC : csum C = n) (hm : m < 462) (hrow : ∀ s, s < 6 → many (6 * m + s) = nI (C s)) (d : Nat) :
    (∀ j, j < m → rk (Cs j) = rk C → f_X7_takesOn N (nI d) (nI m) many codeOf farOf = some (nI j, nI m, codeOf, farOf)) ∧
    ((∀ i, i < m → rk (Cs i) ≠ rk C) → f_X7_takesOn N (nI d) (nI m) many codeOf farOf = some (nI m, nI (m + 1), upd codeOf m (nI (cod C)), upd farOf m (nI d))) := by
  have hcl := cod_lt (C := C) (by rw [hC]; exact hn)
  have B : ∀ i, i < m → f_X7_takesOn_b11 N (nI d) (nI (cod C)) (nI m) many codeOf farOf (nI i) = if rk (Cs i) = rk C then some (.inr (.inl (nI i, nI m, codeOf, farOf))) else some (.inl (nI (i + 1))) := by
    intro i hi
    have hi2 := h.2.1 i hi
    have hci := cod_lt (C := Cs i) (by rw [hi2.1]; exact hn)
    have hiff := rk_cod_iff hn hi2.1 hC
    unfold f_X7_takesOn_b11 nm
    rw [if_neg (by rw [zle (by omega) (by omega)]; omega), gd_t (zinb (show i < 462 by omega) (by omega)), zcl (show i < 2147483648 by omega), hi2.2.2.2.2.1, nI_1]
    by_cases q : cod (Cs i) = cod C
    · rw [if_pos (by rw [q]), if_pos (hiff.mpr q)]
    · rw [if_neg (by rw [zeq (by omega) (by omega)]; exact q), if_neg (fun z => q (hiff.mp z))]
  have hcode := q_codeAt (N := N) hN hm hrow
  constructor
  · intro j hj e
    have L := loop_cnt (b := fun (w9 : Int32) => f_X7_takesOn_b11 N (nI d) (nI (cod C)) (nI m) many codeOf farOf w9) (fun i => nI i) (.inl (nI j, nI m, codeOf, farOf)) j (fun i hi => by rw [B i (by omega), if_neg (fun z => absurd (h.2.2.1 i j (by omega) hj (z.trans e.symm)) (by omega))]) (by rw [B j hj, if_pos e]) N 0 (Nat.zero_le _) (by omega)
    unfold f_X7_takesOn
    rw [hcode]
    show bs0 (loopN _ N (nI 0)) _ _ = _
    rw [L]; rfl
  · intro hno
    have L := loop_cnt (b := fun (w9 : Int32) => f_X7_takesOn_b11 N (nI d) (nI (cod C)) (nI m) many codeOf farOf w9) (fun i => nI i) (.inr ()) m (fun i hi => by rw [B i hi, if_neg (hno i hi)]) (by unfold f_X7_takesOn_b11; rw [if_pos (Int32.le_refl _)]) N 0 (Nat.zero_le _) (by omega)
    unfold f_X7_takesOn
    rw [hcode]
    show bs0 (loopN _ N (nI 0)) _ _ = _
    rw [L]
    show gd _ _ = _
    unfold nm
    dsimp only
    repeat rw [gd_t (zinb hm (by omega))]
    rw [zcl (show m < 2147483648 by omega), nI_1, nI_pred]
/-- a new configuration is listed -/
theorem JJ_new (hn : n ≤ 6) (h : JJ n m Cs D por confs near manyIn codeOf farOf) {many : Nat → Int32} {C : Nat → Nat} (hC : csum C = n) (hm : m < 462) (hno : ∀ i, i < m → rk (Cs i) ≠ rk C) (hrow : ∀ s, s < 6 → many (6 * m + s) = nI (C s)) (hkeep : ∀ t, t < 6 * m → many t = manyIn t) {d : Nat} (hd : d ≤ m) :
    JJ n (m + 1) (fun i => if i = m then C else Cs i) (fun i => if i = m then d else D i) (upd por (rk C) (nI m)) (upd confs m (nI (pak C))) (upd near m (nI d)) many (upd codeOf m (nI (cod C))) (upd farOf m (nI d)) := by
  obtain ⟨-, h2, h3, h4⟩ := h
  refine ⟨by omega, fun i hi => ?_, fun i j hi hj e => ?_, fun r hr => ?_⟩
  · simp only [upd_eq]
    by_cases q : i = m
    · simp only [if_pos q]
      exact ⟨hC, by omega, trivial, trivial, trivial, trivial, fun s hs => by rw [q]; exact hrow s hs⟩
    · simp only [if_neg q]
      obtain ⟨a1, a2, a3, a4, a5, a6, a7⟩ := h2 i (by omega)
      exact ⟨a1, a2, a3, a4, a5, a6, fun s hs => by rw [hkeep _ (by omega)]; exact a7 s hs⟩
  · by_cases q1 : i = m
    · by_cases q2 : j = m
      · omega
      · simp only [if_pos q1, if_neg q2] at e
        exact absurd e.symm (hno j (by omega))
    · by_cases q2 : j = m
      · simp only [if_neg q1, if_pos q2] at e
        exact absurd e (hno i (by omega))
      · simp only [if_neg q1, if_neg q2] at e
        exact h3 i j (by omega) (by omega) e
  · rw [upd_eq]
    by_cases q : r = rk C
    · exact Or.inl ⟨m, by omega, by simp only [if_pos rfl]; exact q.symm, by rw [if_pos q]⟩
    · rw [if_neg q]
      rcases h4 r hr with ⟨i, hi, e1, e2⟩ | ⟨hn2, e2⟩
      · exact Or.inl ⟨i, by omega, by simp only [if_neg (show ¬ i = m by omega)]; exact e1, e2⟩
      · refine Or.inr ⟨fun i hi => ?_, e2⟩
        by_cases q1 : i = m
        · simp only [if_pos q1]; exact fun z => q z.symm
        · simp only [if_neg q1]; exact hn2 i (by omega)
theorem JJ_many (h : JJ n m Cs D por confs near manyIn codeOf farOf) {many : Nat → Int32} (hkeep : ∀ t, t < 6 * m → many t = manyIn t) : JJ n m Cs D por confs near many codeOf farOf := by
  obtain ⟨h1, h2, h3, h4⟩ := h
  refine ⟨h1, fun i hi => ?_, h3, h4⟩
  obtain ⟨a1, a2, a3, a4, a5, a6, a7⟩ := h2 i hi
  exact ⟨a1, a2, a3, a4, a5, a6, fun s hs => by rw [hkeep _ (by omega)]; exact a7 s hs⟩
end BB
