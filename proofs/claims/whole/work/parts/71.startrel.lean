theorem fill_start (N : Nat) (hN : 20000 ≤ N) : ∃ outs9 : Nat → Int32, f_J7_fill_53178 N 36 (-1) (fun _ => 0) = some outs9 ∧ ∀ t, t < 36 → outs9 t = -1 := by
  sorry
theorem rel_start {outs9 : Nat → Int32} (h : ∀ t, t < 36 → outs9 t = -1) : Rel 0 (fun _ => 0) outs9 0 (fun _ => 0) (fun _ => 0) (fun _ => 0) (fun _ => 0) 0 0 0 1 (fun _ => 0) (fun _ => 0) 0 0 0 1 (fun _ => 0) (fun _ => 0) (fun _ => 0) (fun _ => 0) (fun _ => 0) (fun _ => 0) := by
  sorry
