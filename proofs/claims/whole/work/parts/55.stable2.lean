/-! ===== stable configurations: both sides ===== -/
section S2
variable {N n c m : Nat} {L : Nat → Nat → Option Nat} {A A0 : Nat → Option Nat} {T : Nat → Nat} {Cs : Nat → Nat → Nat} {D : Nat → Nat} {told toldBy confs near leads manyIn farOf leadsTo arr : Nat → Int32}
theorem q_loop6 (hN : 20000 ≤ N) (hc : c ≤ 12) (hm : m ≤ 462) (hL : ∀ i k, i < m → k < c → leads (12 * i + k) = lc (L i k) ∧ ∀ j, L i k = some j → j < m) (hA : AR m arr A) (hG : Gre c m L A0 A) (told confs agrees : Nat → Int32) :
    ∃ arr' A', loopN (fun (w9 : Int32 × Int32 × (Nat → Int32)) => f_X3_judge_told_b48 N (nI c) (nI m) told confs leads agrees w9.1 w9.2.1 w9.2.2) N (1, 0, arr) = some arr' ∧ AR m arr' A' ∧ Gre c m L A0 A' ∧ Clo c m L A' := by
  obtain ⟨z, h1, A', h2⟩ := loop_idx (b := fun (w9 : Int32 × Int32 × (Nat → Int32)) => f_X3_judge_told_b48 N (nI c) (nI m) told confs leads agrees w9.1 w9.2.1 w9.2.2)
    (fun t x => x.2.1 = nI t ∧ ∃ A', AR m x.2.2 A' ∧ Gre c m L A0 A' ∧ ((x.1 = 0 ∧ Clo c m L A') ∨ (x.1 = 1 ∧ cA m A' + t ≤ 462)))
    (fun z => ∃ A', AR m z A' ∧ Gre c m L A0 A' ∧ Clo c m L A') 463
    (fun t x ht hI => by
      obtain ⟨x1, x2, x3⟩ := x
      obtain ⟨e1, A', a1, a2, a3⟩ := hI
      dsimp only at e1 a1 a3
      subst e1
      rcases a3 with ⟨rfl, a3⟩ | ⟨rfl, a3⟩
      · refine Or.inr ⟨x3, ?_, A', a1, a2, a3⟩
        show f_X3_judge_told_b48 N (nI c) (nI m) told confs leads agrees 0 (nI t) x3 = _
        unfold f_X3_judge_told_b48
        rw [if_pos rfl]
      · by_cases q : t = 462
        · refine Or.inr ⟨x3, ?_, A', a1, a2, ?_⟩
          · show f_X3_judge_told_b48 N (nI c) (nI m) told confs leads agrees 1 (nI t) x3 = _
            unfold f_X3_judge_told_b48
            rw [if_neg (by decide), if_pos (by rw [q]; decide)]
          · intro i hi hne
            have h0 : cA m A' = 0 := by omega
            have := ct_zero m h0 i hi
            cases e : A' i with
            | none => exact absurd e hne
            | some v => rw [e] at this; cases this
        · obtain ⟨chg, arr', g1, A2, g2, g3, g4⟩ := q_sweep6 (N := N) hN hc hm hL a1 a2
          refine Or.inl ⟨(chg, nI (t + 1), arr'), ?_, rfl, A2, g2, g3, ?_⟩
          · show f_X3_judge_told_b48 N (nI c) (nI m) told confs leads agrees 1 (nI t) x3 = _
            unfold f_X3_judge_told_b48 nm
            rw [if_neg (by decide), if_neg (by rw [zl 462, zle (by omega) (by omega)]; omega), g1, nI_1]
            rfl
          · rcases g4 with ⟨p1, p2, p3⟩ | ⟨p1, p2⟩
            · exact Or.inl ⟨p1, p2⟩
            · exact Or.inr ⟨p1, by omega⟩)
    (fun x hI => by
      obtain ⟨x1, x2, x3⟩ := x
      obtain ⟨e1, A', a1, a2, a3⟩ := hI
      dsimp only at e1 a1 a3
      rcases a3 with ⟨rfl, a3⟩ | ⟨rfl, a3⟩
      · refine ⟨x3, ?_, A', a1, a2, a3⟩
        show f_X3_judge_told_b48 N (nI c) (nI m) told confs leads agrees 0 x2 x3 = _
        unfold f_X3_judge_told_b48
        rw [if_pos rfl]
      · omega) N 0 (1, 0, arr) (Nat.zero_le _) (by omega) ⟨rfl, A, hA, hG, Or.inr ⟨rfl, by have := ct_le (fun i => (A i).isSome) m; unfold cA; omega⟩⟩
  exact ⟨z, A', h1, h2⟩
theorem q_loop7 (hN : 20000 ≤ N) (hc : c ≤ 12) (hm : m ≤ 462) (hL : ∀ i k, i < m → k < c → leadsTo (12 * i + k) = lr (L i k) ∧ ∀ j, L i k = some j → j < m) (hA : AR m arr A) (hG : Gre c m L A0 A) (toldBy manyIn : Nat → Int32) :
    ∃ arr' A', loopN (fun (w9 : Int32 × (Nat → Int32)) => f_X7_findStable_b29 N (nI c) (nI m) toldBy manyIn leadsTo w9.1 w9.2) N (1, arr) = some arr' ∧ AR m arr' A' ∧ Gre c m L A0 A' ∧ Clo c m L A' := by
  obtain ⟨z, h1, A', h2⟩ := loop_idx (b := fun (w9 : Int32 × (Nat → Int32)) => f_X7_findStable_b29 N (nI c) (nI m) toldBy manyIn leadsTo w9.1 w9.2)
    (fun t x => ∃ A', AR m x.2 A' ∧ Gre c m L A0 A' ∧ ((x.1 = 0 ∧ Clo c m L A') ∨ (x.1 = 1 ∧ cA m A' + t ≤ 462)))
    (fun z => ∃ A', AR m z A' ∧ Gre c m L A0 A' ∧ Clo c m L A') 463
    (fun t x ht hI => by
      obtain ⟨x1, x3⟩ := x
      obtain ⟨A', a1, a2, a3⟩ := hI
      dsimp only at a1 a3
      rcases a3 with ⟨rfl, a3⟩ | ⟨rfl, a3⟩
      · refine Or.inr ⟨x3, ?_, A', a1, a2, a3⟩
        show f_X7_findStable_b29 N (nI c) (nI m) toldBy manyIn leadsTo 0 x3 = _
        unfold f_X7_findStable_b29
        rw [if_pos rfl]
      · obtain ⟨chg, arr', g1, A2, g2, g3, g4⟩ := q_sweep7 (N := N) hN hc hm hL a1 a2 toldBy manyIn
        refine Or.inl ⟨(chg, arr'), ?_, A2, g2, g3, ?_⟩
        · show f_X7_findStable_b29 N (nI c) (nI m) toldBy manyIn leadsTo 1 x3 = _
          unfold f_X7_findStable_b29
          rw [if_neg (by decide), g1]
          rfl
        · rcases g4 with ⟨p1, p2, p3⟩ | ⟨p1, p2⟩
          · exact Or.inl ⟨p1, p2⟩
          · exact Or.inr ⟨p1, by omega⟩)
    (fun x hI => by
      obtain ⟨x1, x3⟩ := x
      obtain ⟨A', a1, a2, a3⟩ := hI
      dsimp only at a1 a3
      rcases a3 with ⟨rfl, a3⟩ | ⟨rfl, a3⟩
      · refine ⟨x3, ?_, A', a1, a2, a3⟩
        show f_X7_findStable_b29 N (nI c) (nI m) toldBy manyIn leadsTo 0 x3 = _
        unfold f_X7_findStable_b29
        rw [if_pos rfl]
      · omega) N 0 (1, arr) (Nat.zero_le _) (by omega) ⟨A, hA, hG, Or.inr ⟨rfl, by have := ct_le (fun i => (A i).isSome) m; unfold cA; omega⟩⟩
  exact ⟨z, A', h1, h2⟩
/-- what all of it gives -/
theorem q_stable (hN : 20000 ≤ N) (hc : c ≤ 12) (hn : n ≤ 6) (hG : GG n c m Cs D L confs near leads manyIn farOf leadsTo) (hT : ∀ s, s < 6 → T s ≤ 2 ∧ told s = nI (T s) ∧ toldBy s = nI (T s)) (agrees answers answerOf : Nat → Int32) :
    ∃ agrees' answers' answerOf' A, f_X3_judge_told N (nI c) (nI m) told confs leads agrees answers = some (agrees', answers') ∧ f_X7_findStable N (nI c) (nI m) toldBy manyIn leadsTo answerOf = some answerOf' ∧ (∀ i, i < m → agrees' i = lr (ag (Cs i) T) ∧ le2 (ag (Cs i) T)) ∧ AR m answers' A ∧ AR m answerOf' A ∧ Clo c m L A ∧ Und m (fun i => ag (Cs i) T) A := by
  obtain ⟨g1, g2, g3, g4, -⟩ := hG
  have hle : ∀ i, le2 (ag (Cs i) T) := fun i => ag_le2 (fun s hs => (hT s hs).1)
  have hL6 : ∀ i k, i < m → k < c → leads (12 * i + k) = lc (L i k) ∧ ∀ j, L i k = some j → j < m := fun i k hi hk => ⟨(g4 i k hi hk).1, (g4 i k hi hk).2.2⟩
  have hL7 : ∀ i k, i < m → k < c → leadsTo (12 * i + k) = lr (L i k) ∧ ∀ j, L i k = some j → j < m := fun i k hi hk => ⟨(g4 i k hi hk).2.1, (g4 i k hi hk).2.2⟩
  have hG0 : Gre c m L (fun i => ag (Cs i) T) (fun i => ag (Cs i) T) := by
    refine ⟨fun i _ => Or.inl rfl, fun B hB _ i hi hb => ?_⟩
    rcases hB i hi with e | e
    · exact fun z => hb (e.trans z)
    · exact absurd e hb
  obtain ⟨⟨agr, ans⟩, h1, h2⟩ := loop_idx (b := fun (w9 : Int32 × (Nat → Int32) × (Nat → Int32)) => f_X3_judge_told_b2 N (nI c) (nI m) told confs leads w9.1 w9.2.1 w9.2.2)
    (fun i x => x.1 = nI i ∧ ∀ t, t < i → x.2.1 t = lr (ag (Cs t) T) ∧ x.2.2 t = lr (ag (Cs t) T)) (fun z => ∀ t, t < m → z.1 t = lr (ag (Cs t) T) ∧ z.2 t = lr (ag (Cs t) T)) m
    (fun i x hi hI => by
      obtain ⟨x1, x2, x3⟩ := x
      obtain ⟨e1, h⟩ := hI
      dsimp only at e1 h
      subst e1
      have gi := g3 i hi
      refine Or.inl ⟨(nI (i + 1), upd x2 i (lr (ag (Cs i) T)), upd x3 i (lr (ag (Cs i) T))), ?_, rfl, fun t ht => ?_⟩
      · show f_X3_judge_told_b2 N (nI c) (nI m) told confs leads (nI i) x2 x3 = _
        unfold f_X3_judge_told_b2 nm
        rw [if_neg (by rw [zle (by omega) (by omega)]; omega)]
        have b : inb (nI i) 462 = true := zinb (by omega) (by omega)
        rw [gd_t b, zcl (show i < 2147483648 by omega), gi.2.2.1, q_agree6 hN (by rw [gi.1]; exact hn) (fun s hs => ⟨(hT s hs).1, (hT s hs).2.1⟩)]
        simp only [bd1]
        repeat rw [gd_t b]
        rw [upd_eq, if_pos rfl, nI_1]
      · dsimp only
        rw [upd_eq, upd_eq]
        by_cases q : t = i
        · rw [if_pos q, if_pos q, q]; exact ⟨rfl, rfl⟩
        · rw [if_neg q, if_neg q]; exact h t (by omega))
    (fun x hI => by
      obtain ⟨x1, x2, x3⟩ := x
      obtain ⟨e1, h⟩ := hI
      dsimp only at e1 h
      subst e1
      refine ⟨(x2, x3), ?_, h⟩
      show f_X3_judge_told_b2 N (nI c) (nI m) told confs leads (nI m) x2 x3 = _
      unfold f_X3_judge_told_b2
      rw [if_pos (Int32.le_refl _)]) N 0 (0, agrees, answers) (Nat.zero_le _) (by omega) ⟨rfl, fun t ht => absurd ht (Nat.not_lt_zero t)⟩
  obtain ⟨ans7, k1, k2⟩ := loop_idx (b := fun (w9 : Int32 × (Nat → Int32)) => f_X7_findStable_b2 N (nI c) (nI m) toldBy manyIn leadsTo w9.1 w9.2)
    (fun i x => x.1 = nI i ∧ ∀ t, t < i → x.2 t = lr (ag (Cs t) T)) (fun z => ∀ t, t < m → z t = lr (ag (Cs t) T)) m
    (fun i x hi hI => by
      obtain ⟨x1, x2⟩ := x
      obtain ⟨e1, h⟩ := hI
      dsimp only at e1 h
      subst e1
      have gi := g3 i hi
      refine Or.inl ⟨(nI (i + 1), upd x2 i (lr (ag (Cs i) T))), ?_, rfl, fun t ht => ?_⟩
      · show f_X7_findStable_b2 N (nI c) (nI m) toldBy manyIn leadsTo (nI i) x2 = _
        unfold f_X7_findStable_b2 nm
        rw [if_neg (by rw [zle (by omega) (by omega)]; omega)]
        have b : inb (nI i) 462 = true := zinb (by omega) (by omega)
        rw [q_agree7 hN (by rw [gi.1]; exact hn) (by omega) gi.2.2.2.2.2 (fun s hs => ⟨(hT s hs).1, (hT s hs).2.2⟩)]
        simp only [bd1]
        rw [gd_t b, zcl (show i < 2147483648 by omega), nI_1]
      · dsimp only
        rw [upd_eq]
        by_cases q : t = i
        · rw [if_pos q, q]
        · rw [if_neg q]; exact h t (by omega))
    (fun x hI => by
      obtain ⟨x1, x2⟩ := x
      obtain ⟨e1, h⟩ := hI
      dsimp only at e1 h
      subst e1
      refine ⟨x2, ?_, h⟩
      show f_X7_findStable_b2 N (nI c) (nI m) toldBy manyIn leadsTo (nI m) x2 = _
      unfold f_X7_findStable_b2
      rw [if_pos (Int32.le_refl _)]) N 0 (0, answerOf) (Nat.zero_le _) (by omega) ⟨rfl, fun t ht => absurd ht (Nat.not_lt_zero t)⟩
  dsimp only at h2
  obtain ⟨a6, A6, p1, p2, p3, p4⟩ := q_loop6 (N := N) (arr := ans) hN hc g2 hL6 (A := fun i => ag (Cs i) T) (fun i hi => ⟨(h2 i hi).2, hle i⟩) hG0 told confs agr
  obtain ⟨a7, A7, r1, r2, r3, r4⟩ := q_loop7 (N := N) (arr := ans7) hN hc g2 hL7 (A := fun i => ag (Cs i) T) (fun i hi => ⟨k2 i hi, hle i⟩) hG0 toldBy manyIn
  refine ⟨agr, a6, a7, A6, ?_, ?_, fun i hi => ⟨(h2 i hi).1, hle i⟩, p2, fun i hi => ?_, p4, p3.1⟩
  · unfold f_X3_judge_told
    rw [h1]
    show bd1 (loopN _ N (1, 0, ans)) _ = _
    rw [p1]; rfl
  · unfold f_X7_findStable
    rw [k1]
    show bd1 (loopN _ N (1, ans7)) _ = _
    rw [r1]; rfl
  · have := r2 i hi
    rw [Gre_uni r3 p3 r4 p4 i hi] at this
    exact this
end S2
