/-! ===== rules: a rule goes, a rule comes ===== -/
def sk (d j : Nat) : Nat := if j < d then j else j + 1
theorem q_take {N c d t : Nat} (hN : 20000 ≤ N) (hc : c ≤ 12) (hd : d < c) (ht : t < 36) {T : Nat → Nat} {twos outs : Nat → Int32} (hT : ∀ k, k < c → twos k = nI (T k) ∧ T k < 36) (hTd : T d = t) (hne : ∀ k, k < c → k ≠ d → T k ≠ t) :
    ∃ tw : Nat → Int32, f_X4_take N (nI t) (nI c) twos outs = some (nI (c - 1), tw, upd outs t (-1)) ∧ ∀ j, j < c - 1 → tw j = twos (sk d j) := by
  obtain ⟨e, h1, h2, h3⟩ := loop_idx (b := fun (w9 : Int32 × Int32 × (Nat → Int32)) => f_X4_take_b4 N (nI t) (nI c) outs w9.1 w9.2.1 w9.2.2)
    (fun k x => x.2.1 = nI k ∧ x.1 = nI (if k ≤ d then k else k - 1) ∧ (∀ j, j < (if k ≤ d then k else k - 1) → x.2.2 j = twos (sk d j)) ∧ (∀ j, (if k ≤ d then k else k - 1) ≤ j → x.2.2 j = twos j))
    (fun e => e.1 = nI (c - 1) ∧ ∀ j, j < c - 1 → e.2 j = twos (sk d j)) c
    (fun k x hk hI => by
      obtain ⟨x2, x3, tw⟩ := x
      obtain ⟨e1, e2, h3, h4⟩ := hI
      dsimp only at e1 e2 h3 h4
      subst e1; subst e2
      have hTk := hT k hk
      have hr : tw k = nI (T k) := by rw [h4 k (by split <;> omega)]; exact hTk.1
      by_cases hkd : k = d
      · subst hkd
        refine Or.inl ⟨(nI (if k ≤ k then k else k - 1), nI (k + 1), tw), ?_, rfl, ?_, ?_, ?_⟩
        · simp (disch := omega) only [f_X4_take_b4, zle, Nat.not_le.mpr hk, if_false, gd, zinb, zcl, if_true, hr, hTd, nm, nI_1]
        · dsimp only; rw [if_pos (Nat.le_refl k), if_neg (by omega)]; rfl
        · intro j hj
          rw [if_neg (by omega)] at hj
          exact h3 j (by rw [if_pos (Nat.le_refl k)]; omega)
        · intro j hj
          rw [if_neg (by omega)] at hj
          exact h4 j (by rw [if_pos (Nat.le_refl k)]; omega)
      · have hne' : ¬ (T k = t) := hne k hk hkd
        have hl : (if k ≤ d then k else k - 1) < 12 := by split <;> omega
        refine Or.inl ⟨(nI ((if k ≤ d then k else k - 1) + 1), nI (k + 1), upd tw (if k ≤ d then k else k - 1) (twos k)), ?_, rfl, ?_, ?_, ?_⟩
        · have hr2 : tw k = twos k := h4 k (by split <;> omega)
          simp (disch := omega) only [f_X4_take_b4, zle, Nat.not_le.mpr hk, if_false, gd, zinb, zcl, if_true, hr2, nm, nI_1, hTk.1, zeq, hne', zinb hl]
        · dsimp only
          by_cases q : k ≤ d
          · rw [if_pos q, if_pos (by omega)]
          · rw [if_neg q, if_neg (by omega)]; congr 1; omega
        · intro j hj
          show upd tw _ _ j = _
          rw [upd_eq]
          by_cases q : k ≤ d
          · rw [if_pos (by omega)] at hj
            rw [if_pos q]
            split
            · next e => subst e; rw [sk, if_pos (by omega)]
            · exact h3 j (by rw [if_pos q]; omega)
          · rw [if_neg (by omega)] at hj
            rw [if_neg q]
            split
            · next e => subst e; rw [sk, if_neg (by omega)]; congr 1; omega
            · exact h3 j (by rw [if_neg q]; omega)
        · intro j hj
          show upd tw _ _ j = _
          rw [upd_eq]
          by_cases q : k ≤ d
          · rw [if_pos (by omega)] at hj
            rw [if_pos q, if_neg (by omega)]
            exact h4 j (by rw [if_pos q]; omega)
          · rw [if_neg (by omega)] at hj
            rw [if_neg q, if_neg (by omega)]
            exact h4 j (by rw [if_neg q]; omega))
    (fun x hI => by
      obtain ⟨x2, x3, tw⟩ := x
      obtain ⟨e1, e2, h3, h4⟩ := hI
      dsimp only at e1 e2 h3 h4
      subst e1; subst e2
      rw [if_neg (by omega)] at h3
      exact ⟨(nI (if c ≤ d then c else c - 1), tw), by simp only [f_X4_take_b4, Int32.le_refl, if_true], by dsimp only; rw [if_neg (by omega)], h3⟩) N 0 (0, 0, twos) (Nat.zero_le _) (by omega)
    ⟨nI_0.symm, by dsimp only; rw [if_pos (Nat.zero_le _)]; rfl, fun j hj => by rw [if_pos (Nat.zero_le _)] at hj; omega, fun j _ => rfl⟩
  refine ⟨e.2, ?_, h3⟩
  unfold f_X4_take
  rw [h1]
  show bd2 (some (e.1, e.2)) _ = _
  simp (disch := omega) only [bd2, gd, zinb, if_true, nm, zcl, h2]
theorem q_goes {N c d : Nat} (hN : 20000 ≤ N) (hc : c ≤ 12) (hd : d < c) (p q x y : Nat → Int32) :
    ∃ p' q' x' y' : Nat → Int32, f_X7_goes N (nI d) (nI c) p q x y = some (nI (c - 1), p', q', x', y') ∧ ∀ j, j < c - 1 → p' j = p (sk d j) ∧ q' j = q (sk d j) ∧ x' j = x (sk d j) ∧ y' j = y (sk d j) := by
  have e0 : nI c - 1 = nI (c - 1) := zsub (b := 1) (by omega)
  obtain ⟨e, h1, h2⟩ := loop_idx (b := fun (w9 : Int32 × (Nat → Int32) × (Nat → Int32) × (Nat → Int32) × (Nat → Int32)) => f_X7_goes_b12 N (nI (c - 1)) w9.1 w9.2.1 w9.2.2.1 w9.2.2.2.1 w9.2.2.2.2)
    (fun i z => z.1 = nI (d + i) ∧ ∀ j, (z.2.1 j = if j < d + i then p (sk d j) else p j) ∧ (z.2.2.1 j = if j < d + i then q (sk d j) else q j) ∧ (z.2.2.2.1 j = if j < d + i then x (sk d j) else x j) ∧ (z.2.2.2.2 j = if j < d + i then y (sk d j) else y j))
    (fun e => ∀ j, j < c - 1 → e.1 j = p (sk d j) ∧ e.2.1 j = q (sk d j) ∧ e.2.2.1 j = x (sk d j) ∧ e.2.2.2 j = y (sk d j)) (c - 1 - d)
    (fun i z hi hI => by
      obtain ⟨z1, zp, zq, zx, zy⟩ := z
      obtain ⟨e1, h2⟩ := hI
      dsimp only at e1 h2
      subst e1
      have hn : ¬ (c - 1 ≤ d + i) := by omega
      refine Or.inl ⟨(nI (d + i + 1), upd zp (d + i) (zp (d + i + 1)), upd zq (d + i) (zq (d + i + 1)), upd zx (d + i) (zx (d + i + 1)), upd zy (d + i) (zy (d + i + 1))), ?_, rfl, ?_⟩
      · simp (disch := omega) only [f_X7_goes_b12, zle, hn, if_false, gd, zinb, nI_1, zcl, if_true, nm]
      · intro j
        have g : ∀ (u o : Nat → Int32), (∀ j, u j = if j < d + i then o (sk d j) else o j) → upd u (d + i) (u (d + i + 1)) j = if j < d + (i + 1) then o (sk d j) else o j := by
          intro u o hu
          rw [upd_eq]
          split
          · next e => subst e; rw [hu, if_neg (by omega), if_pos (by omega), sk, if_neg (by omega)]
          · rw [hu j]
            by_cases q : j < d + i
            · rw [if_pos q, if_pos (by omega)]
            · rw [if_neg q, if_neg (by omega)]
        exact ⟨g _ _ (fun j => (h2 j).1), g _ _ (fun j => (h2 j).2.1), g _ _ (fun j => (h2 j).2.2.1), g _ _ (fun j => (h2 j).2.2.2)⟩)
    (fun z hI => by
      obtain ⟨z1, zp, zq, zx, zy⟩ := z
      obtain ⟨e1, h2⟩ := hI
      dsimp only at e1 h2
      subst e1
      refine ⟨(zp, zq, zx, zy), ?_, fun j hj => ?_⟩
      · simp (disch := omega) only [f_X7_goes_b12, zle, show c - 1 ≤ d + (c - 1 - d) by omega, if_true]
      · have := h2 j
        rw [if_pos (by omega), if_pos (by omega), if_pos (by omega), if_pos (by omega)] at this
        exact this) N 0 (nI d, p, q, x, y) (Nat.zero_le _) (by omega)
    ⟨rfl, fun j => by
      have g : ∀ o : Nat → Int32, o j = if j < d + 0 then o (sk d j) else o j := by
        intro o
        split
        · next h => rw [sk, if_pos (by omega)]
        · rfl
      exact ⟨g p, g q, g x, g y⟩⟩
  refine ⟨e.1, e.2.1, e.2.2.1, e.2.2.2, ?_, h2⟩
  unfold f_X7_goes nm
  rw [e0]
  dsimp only
  rw [h1]
  rfl
section RE
variable {N c : Nat} {P Q X Y : Nat → Nat} {twos outs pOf qOf xOf yOf : Nat → Int32}
theorem q_ruleFor (hN : 20000 ≤ N) (h : RBd c P Q X Y twos outs pOf qOf xOf yOf) {p q : Nat} (hp : p < 6) (hq : q < 6) :
    (∃ d, d < c ∧ P d = p ∧ Q d = q ∧ f_X7_ruleFor N (nI p) (nI q) (nI c) pOf qOf = some (nI d)) ∨ ((∀ k, k < c → 6 * P k + Q k ≠ 6 * p + q) ∧ f_X7_ruleFor N (nI p) (nI q) (nI c) pOf qOf = some (-9)) := by
  have hc := h.1
  have B : ∀ k, k < c → f_X7_ruleFor_b2 N (nI p) (nI q) (nI c) pOf qOf (nI k) = if P k = p ∧ Q k = q then some (.inr (.inl (nI k))) else some (.inl (nI (k + 1))) := by
    intro k hk
    have r := h.2.1 k hk
    have m := h.2.2.1 k hk
    simp (disch := omega) only [f_X7_ruleFor_b2, zle, Nat.not_le.mpr hk, if_false, gd, zinb, zcl, if_true, m.1, m.2.1, zeq, nm, nI_1]
    by_cases h1 : P k = p
    · by_cases h2 : Q k = q
      · rw [if_pos h1, if_pos h2, if_pos ⟨h1, h2⟩]
      · rw [if_pos h1, if_neg h2, if_neg (fun z => h2 z.2)]
    · rw [if_neg h1, if_neg (fun z => h1 z.1)]
  by_cases hex : ∃ k, k < c ∧ P k = p ∧ Q k = q
  · obtain ⟨d, ⟨hd, h1, h2⟩, hl⟩ := pk_least _ hex
    refine Or.inl ⟨d, hd, h1, h2, ?_⟩
    have a := loop_cnt (b := fun (w9 : Int32) => f_X7_ruleFor_b2 N (nI p) (nI q) (nI c) pOf qOf w9) (fun i => nI i) (.inl (nI d)) d (fun i hi => by rw [B i (by omega), if_neg (fun z => hl i hi ⟨by omega, z⟩)]) (by rw [B d hd, if_pos ⟨h1, h2⟩]) N 0 (Nat.zero_le _) (by omega)
    show bs0 (loopN _ N (nI 0)) _ _ = _
    rw [a]; rfl
  · refine Or.inr ⟨fun k hk e => hex ⟨k, hk, ?_⟩, ?_⟩
    · have r := h.2.1 k hk
      omega
    · have a := loop_cnt (b := fun (w9 : Int32) => f_X7_ruleFor_b2 N (nI p) (nI q) (nI c) pOf qOf w9) (fun i => nI i) (.inr ()) c (fun i hi => by rw [B i hi, if_neg (fun z => hex ⟨i, hi, z⟩)]) (by simp only [f_X7_ruleFor_b2, Int32.le_refl, if_true]) N 0 (Nat.zero_le _) (by omega)
      show bs0 (loopN _ N (nI 0)) _ _ = _
      rw [a]; rfl
theorem q_rem (hN : 20000 ≤ N) (h : RBd c P Q X Y twos outs pOf qOf xOf yOf) {d : Nat} (hd : d < c) :
    ∃ tw p' q' x' y' : Nat → Int32, f_X4_take N (nI (6 * P d + Q d)) (nI c) twos outs = some (nI (c - 1), tw, upd outs (6 * P d + Q d) (-1)) ∧ f_X7_goes N (nI d) (nI c) pOf qOf xOf yOf = some (nI (c - 1), p', q', x', y') ∧
      RBd (c - 1) (fun j => P (sk d j)) (fun j => Q (sk d j)) (fun j => X (sk d j)) (fun j => Y (sk d j)) tw (upd outs (6 * P d + Q d) (-1)) p' q' x' y' := by
  obtain ⟨hc, r, m, t, dis, no⟩ := h
  obtain ⟨tw, h1, h2⟩ := q_take (N := N) (outs := outs) (T := fun k => 6 * P k + Q k) hN hc hd (t := 6 * P d + Q d) (by have := r d hd; omega) (fun k hk => ⟨(t k hk).1, by have := r k hk; omega⟩) rfl (fun k hk hne e => hne (dis k d hk hd e))
  obtain ⟨p', q', x', y', h3, h4⟩ := q_goes (N := N) hN hc hd pOf qOf xOf yOf
  have hs : ∀ j, j < c - 1 → sk d j < c ∧ sk d j ≠ d := fun j hj => by rw [sk]; split <;> omega
  refine ⟨tw, p', q', x', y', h1, h3, by omega, fun k hk => r _ (hs k hk).1, fun k hk => ?_, fun k hk => ⟨?_, ?_⟩, fun i j hi hj e => ?_, fun u hu hno => ?_⟩
  · have a := h4 k hk
    have b := m _ (hs k hk).1
    exact ⟨a.1.trans b.1, a.2.1.trans b.2.1, a.2.2.1.trans b.2.2.1, a.2.2.2.trans b.2.2.2⟩
  · rw [h2 k hk]; exact (t _ (hs k hk).1).1
  · dsimp only
    rw [upd_eq, if_neg (fun e => (hs k hk).2 (dis _ _ (hs k hk).1 hd e))]
    exact (t _ (hs k hk).1).2
  · have := dis _ _ (hs i hi).1 (hs j hj).1 e
    simp only [sk] at this
    split at this <;> split at this <;> omega
  · rw [upd_eq]
    split
    · rfl
    · next hne =>
      refine no u hu fun k hk e => ?_
      rcases Nat.lt_trichotomy k d with q | q | q
      · exact hno k (by omega) (by dsimp only; rw [show sk d k = k by rw [sk, if_pos q]]; exact e)
      · subst q; exact hne e.symm
      · exact hno (k - 1) (by omega) (by dsimp only; rw [show sk d (k - 1) = k by rw [sk, if_neg (by omega)]; omega]; exact e)
theorem q_app (h : RBd c P Q X Y twos outs pOf qOf xOf yOf) (hc : c < 12) {p q x y : Nat} (hp : p < 6) (hq : q < 6) (hx : x < 6) (hy : y < 6) (hf : ∀ k, k < c → 6 * P k + Q k ≠ 6 * p + q) :
    f_X4_put_j36 N (nI (6 * p + q)) (nI (6 * x + y)) (nI c) twos outs = some (nI (c + 1), upd twos c (nI (6 * p + q)), upd outs (6 * p + q) (nI (6 * x + y))) ∧
    f_X7_comes_j38 N (nI p) (nI q) (nI x) (nI y) (nI c) pOf qOf xOf yOf = some (nI (c + 1), upd pOf c (nI p), upd qOf c (nI q), upd xOf c (nI x), upd yOf c (nI y)) ∧
    RBd (c + 1) (fun k => if k = c then p else P k) (fun k => if k = c then q else Q k) (fun k => if k = c then x else X k) (fun k => if k = c then y else Y k) (upd twos c (nI (6 * p + q))) (upd outs (6 * p + q) (nI (6 * x + y))) (upd pOf c (nI p)) (upd qOf c (nI q)) (upd xOf c (nI x)) (upd yOf c (nI y)) := by
  obtain ⟨-, r, m, t, dis, no⟩ := h
  refine ⟨?_, ?_, by omega, fun k hk => ?_, fun k hk => ?_, fun k hk => ?_, fun i j hi hj e => ?_, fun u hu hno => ?_⟩
  · simp (disch := omega) only [f_X4_put_j36, gd, zinb, zcl, if_true, nm, nI_1]
  · simp (disch := omega) only [f_X7_comes_j38, gd, zinb, zcl, if_true, nm, nI_1]
  · by_cases e : k = c
    · simp only [e, if_true]; exact ⟨hp, hq, hx, hy⟩
    · simp only [e, if_false]; exact r k (by omega)
  · simp only [upd_eq]
    by_cases e : k = c
    · simp only [e, if_true]; exact ⟨trivial, trivial, trivial, trivial⟩
    · simp only [e, if_false]; exact m k (by omega)
  · simp only [upd_eq]
    by_cases e : k = c
    · simp only [e, if_true]; exact ⟨trivial, trivial⟩
    · simp only [e, if_false]
      rw [if_neg (hf k (by omega))]
      exact t k (by omega)
  · by_cases e1 : i = c
    · by_cases e2 : j = c
      · omega
      · simp only [e1, e2, if_true, if_false] at e
        exact absurd e.symm (hf j (by omega))
    · by_cases e2 : j = c
      · simp only [e1, e2, if_true, if_false] at e
        exact absurd e (hf i (by omega))
      · simp only [e1, e2, if_false] at e
        exact dis i j (by omega) (by omega) e
  · rw [upd_eq, if_neg (fun e => hno c (by omega) (by simp only [if_true]; exact e.symm))]
    refine no u hu fun k hk e => hno k (by omega) ?_
    simp only [show ¬ k = c by omega, if_false]
    exact e
/-- a rule comes, in the class and in the reference -/
theorem q_put (hN : 20000 ≤ N) (h : RBd c P Q X Y twos outs pOf qOf xOf yOf) {p q x y : Nat} (hp : p < 6) (hq : q < 6) (hx : x < 6) (hy : y < 6) :
    ∃ (c' : Nat) (P' Q' X' Y' : Nat → Nat) (tw ou p' q' x' y' : Nat → Int32), f_X4_put N (nI (6 * p + q)) (nI (6 * x + y)) (nI c) twos outs = some (nI c', tw, ou) ∧ f_X7_comes N (nI p) (nI q) (nI x) (nI y) (nI c) pOf qOf xOf yOf = some (nI c', p', q', x', y') ∧ RBd c' P' Q' X' Y' tw ou p' q' x' y' := by
  have hc := h.1
  have hr := h.2.1
  rcases q_ruleFor hN h hp hq with ⟨d, hd, rfl, rfl, hrf⟩ | ⟨hfree, hrf⟩
  · obtain ⟨tw, p', q', x', y', h1, h2, h3⟩ := q_rem hN h hd
    have hfr : ∀ k, k < c - 1 → 6 * P (sk d k) + Q (sk d k) ≠ 6 * P d + Q d := by
      intro k hk e
      have := h.2.2.2.2.1 (sk d k) d (by rw [sk]; split <;> omega) hd e
      rw [sk] at this
      split at this <;> omega
    obtain ⟨g1, g2, g3⟩ := q_app (N := N) h3 (by omega) hp hq hx hy hfr
    refine ⟨_, _, _, _, _, _, _, _, _, _, _, ?_, ?_, g3⟩
    · have ho := (h.2.2.2.1 d hd).2
      have hrd := hr d hd
      simp (disch := omega) only [f_X4_put, gd, zinb, zcl, if_true, ho, nI_pos, if_false, h1, bd3]
      exact g1
    · simp (disch := omega) only [f_X7_comes, hrf, bd1, show (-9 : Int32) = -nI 9 from rfl, zeqn, if_false, h2, bd5]
      exact g2
  · have ho : outs (6 * p + q) = -1 := h.2.2.2.2.2 _ (by omega) hfree
    by_cases hc12 : c = 12
    · subst hc12
      obtain ⟨tw, p', q', x', y', h1, h2, h3⟩ := q_rem hN h (d := 0) (by omega)
      have hfr : ∀ k, k < 12 - 1 → 6 * P (sk 0 k) + Q (sk 0 k) ≠ 6 * p + q := fun k hk => hfree _ (by rw [sk, if_neg (by omega)]; omega)
      obtain ⟨g1, g2, g3⟩ := q_app (N := N) h3 (by omega) hp hq hx hy hfr
      refine ⟨_, _, _, _, _, _, _, _, _, _, _, ?_, ?_, g3⟩
      · have ht := (h.2.2.2.1 0 (by omega)).1
        have e0 : (0 : Int32).toNatClampNeg = 0 := rfl
        simp (disch := omega) only [f_X4_put, gd, zinb, zcl, if_true, ho, show ((-1 : Int32) < 0) = True by decide, show (nI 12 < (12 : Int32)) = False by decide, if_false, show inb 0 12 = true by decide, e0, ht, h1, bd3]
        exact g1
      · have h2' : f_X7_goes N 0 (nI 12) pOf qOf xOf yOf = some (nI (12 - 1), p', q', x', y') := h2
        simp only [f_X7_comes, hrf, bd1, if_true, show (nI 12 = (12 : Int32)) = True by decide, h2', bd5]
        exact g2
    · obtain ⟨g1, g2, g3⟩ := q_app (N := N) h (by omega) hp hq hx hy hfree
      refine ⟨_, _, _, _, _, _, _, _, _, _, _, ?_, ?_, g3⟩
      · simp (disch := omega) only [f_X4_put, gd, zinb, zcl, if_true, ho, show ((-1 : Int32) < 0) = True by decide, zl 12, zlt, show c < 12 by omega]
        exact g1
      · simp (disch := omega) only [f_X7_comes, hrf, bd1, if_true, zl 12, zeq, hc12, if_false]
        exact g2
end RE
