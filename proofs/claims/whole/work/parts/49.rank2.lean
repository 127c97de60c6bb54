theorem q_rank {N : Nat} (hN : 20000 ≤ N) {C : Nat → Nat} (h : csum C ≤ 6) : f_X1_rank N (nI (pak C)) = some (nI (rk C)) := by
  obtain ⟨n, rfl⟩ : ∃ n, N = n + 6 := ⟨N - 6, by omega⟩
  have h' := h
  unfold csum at h'
  have b0 := q_rankb (N := n + 6) h (s := 0) (r := 0) (t := 0) (by omega) (by omega)
  have b1 := q_rankb (N := n + 6) h (s := 1) (r := 0 + tN (12 * 0 + (0 + C 0))) (t := 0 + C 0) (by omega) (by omega)
  have b2 := q_rankb (N := n + 6) h (s := 2) (r := 0 + tN (12 * 0 + (0 + C 0)) + tN (12 * 1 + (0 + C 0 + C 1))) (t := 0 + C 0 + C 1) (by omega) (by omega)
  have b3 := q_rankb (N := n + 6) h (s := 3) (r := 0 + tN (12 * 0 + (0 + C 0)) + tN (12 * 1 + (0 + C 0 + C 1)) + tN (12 * 2 + (0 + C 0 + C 1 + C 2))) (t := 0 + C 0 + C 1 + C 2) (by omega) (by omega)
  have b4 := q_rankb (N := n + 6) h (s := 4) (r := 0 + tN (12 * 0 + (0 + C 0)) + tN (12 * 1 + (0 + C 0 + C 1)) + tN (12 * 2 + (0 + C 0 + C 1 + C 2)) + tN (12 * 3 + (0 + C 0 + C 1 + C 2 + C 3))) (t := 0 + C 0 + C 1 + C 2 + C 3) (by omega) (by omega)
  unfold f_X1_rank
  show bs1 (loopN (fun (w9 : Int32 × Int32 × Int32) => f_X1_rank_b6 (n + 6) (nI (pak C)) w9.1 w9.2.1 w9.2.2) (n + 6) (nI 0, nI 0, nI 0)) _ _ = _
  rw [loopN_l (n + 5) b0, loopN_l (n + 4) b1, loopN_l (n + 3) b2, loopN_l (n + 2) b3, loopN_l (n + 1) b4]
  have be : ∀ x y : Int32, f_X1_rank_b6 (n + 6) (nI (pak C)) x y (nI (4 + 1)) = some (.inr (.inr x)) := by
    intro x y
    unfold f_X1_rank_b6
    rw [if_pos (by decide)]
  rw [loopN_r n (be _ _)]
  show some (nI _) = some (nI _)
  congr 2
  unfold rk rkT
  simp only [Nat.zero_add, Nat.mul_zero, Nat.reduceMul]
