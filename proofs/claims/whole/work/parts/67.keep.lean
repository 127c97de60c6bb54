/-! ===== keepers: how many ===== -/
def alB (p : Nat → Bool) : Nat → Bool
  | 0 => true
  | n + 1 => alB p n && p n
theorem alB_iff {p : Nat → Bool} : ∀ n, alB p n = true ↔ ∀ k, k < n → p k = true := by
  intro n
  induction n with
  | zero => exact ⟨fun _ k hk => absurd hk (Nat.not_lt_zero k), fun _ => rfl⟩
  | succ n ih =>
    rw [alB, Bool.and_eq_true, ih]
    constructor
    · rintro ⟨h1, h2⟩ k hk
      rcases Nat.lt_or_ge k n with q | q
      · exact h1 k q
      · have : k = n := by omega
        rw [this]; exact h2
    · intro h
      exact ⟨fun k hk => h k (by omega), h n (by omega)⟩
theorem alB_ext {p q : Nat → Bool} : ∀ n, (∀ k, k < n → p k = q k) → alB p n = alB q n := by
  intro n
  induction n with
  | zero => intro _; rfl
  | succ n ih => intro h; rw [alB, alB, ih (fun k hk => h k (by omega)), h n (by omega)]
theorem ct_add (p : Nat → Bool) (m : Nat) : ∀ n, ct p (m + n) = ct p m + ct (fun i => p (m + i)) n := by
  intro n
  induction n with
  | zero => rfl
  | succ n ih => rw [← Nat.add_assoc, ct, ih, ct]; omega
theorem ct_res (p : Nat → Bool) : ∀ M, ct p (5 * M) = tot (fun w => ct (fun e => p (5 * e + w)) M) 5 := by
  intro M
  induction M with
  | zero => rfl
  | succ M ih =>
    rw [Nat.mul_add, Nat.mul_one, ct_add, ih]
    show (0 + ct (fun e => p (5 * e + 0)) M + ct (fun e => p (5 * e + 1)) M + ct (fun e => p (5 * e + 2)) M + ct (fun e => p (5 * e + 3)) M + ct (fun e => p (5 * e + 4)) M) + (0 + (if p (5 * M + 0) = true then 1 else 0) + (if p (5 * M + 1) = true then 1 else 0) + (if p (5 * M + 2) = true then 1 else 0) + (if p (5 * M + 3) = true then 1 else 0) + (if p (5 * M + 4) = true then 1 else 0)) = 0 + (ct (fun e => p (5 * e + 0)) M + (if p (5 * M + 0) = true then 1 else 0)) + (ct (fun e => p (5 * e + 1)) M + (if p (5 * M + 1) = true then 1 else 0)) + (ct (fun e => p (5 * e + 2)) M + (if p (5 * M + 2) = true then 1 else 0)) + (ct (fun e => p (5 * e + 3)) M + (if p (5 * M + 3) = true then 1 else 0)) + (ct (fun e => p (5 * e + 4)) M + (if p (5 * M + 4) = true then 1 else 0))
    omega
section KP
variable (c : Nat) (P Q X Y : Nat → Nat)
def kp (d : Nat → Nat) (k : Nat) : Bool := decide (d (P k) + d (Q k) = d (X k) + d (Y k))
def tp (k : Nat) : Nat := max (max (P k) (Q k)) (max (X k) (Y k))
def okS (s : Nat) (d : Nat → Nat) : Bool := alB (fun k => !decide (tp P Q X Y k = s) || kp P Q X Y d k) c
def loS (s : Nat) (d : Nat → Nat) : Bool := alB (fun k => !decide (tp P Q X Y k < s) || kp P Q X Y d k) c
def st (d : Nat → Nat) (s w : Nat) : Nat → Nat := fun t => if t = s then w else d t
def Nk : Nat → (Nat → Nat) → Nat
  | 0, _ => 1
  | j + 1, d => tot (fun w => if okS c P Q X Y (5 - j) (st d (5 - j) w) = true then Nk j (st d (5 - j) w) else 0) 5
def dd (j : Nat) (d : Nat → Nat) (e : Nat) : Nat → Nat := fun s => if s < 6 - j then d s else e / 5 ^ (s - (6 - j)) % 5
end KP
section KQ
variable {N c : Nat} {P Q X Y : Nat → Nat}
theorem tp_le (k : Nat) : P k ≤ tp P Q X Y k ∧ Q k ≤ tp P Q X Y k ∧ X k ≤ tp P Q X Y k ∧ Y k ≤ tp P Q X Y k := by
  unfold tp
  omega
theorem tp_is (k : Nat) : tp P Q X Y k = P k ∨ tp P Q X Y k = Q k ∨ tp P Q X Y k = X k ∨ tp P Q X Y k = Y k := by
  unfold tp
  omega
theorem kp_ext {d d' : Nat → Nat} {k : Nat} (h1 : d (P k) = d' (P k)) (h2 : d (Q k) = d' (Q k)) (h3 : d (X k) = d' (X k)) (h4 : d (Y k) = d' (Y k)) : kp P Q X Y d k = kp P Q X Y d' k := by
  unfold kp; rw [h1, h2, h3, h4]
theorem kp_low {d d' : Nat → Nat} {k s : Nat} (ht : tp P Q X Y k < s) (h : ∀ t, t < s → d t = d' t) : kp P Q X Y d k = kp P Q X Y d' k := by
  have := tp_le (P := P) (Q := Q) (X := X) (Y := Y) k
  exact kp_ext (h _ (by omega)) (h _ (by omega)) (h _ (by omega)) (h _ (by omega))
theorem okS_iff {s : Nat} {d : Nat → Nat} : okS c P Q X Y s d = true ↔ ∀ k, k < c → tp P Q X Y k = s → kp P Q X Y d k = true := by
  unfold okS
  rw [alB_iff]
  constructor
  · intro h k hk e
    have := h k hk
    rw [e, decide_eq_true rfl] at this
    simpa using this
  · intro h k hk
    by_cases e : tp P Q X Y k = s
    · rw [h k hk e, Bool.or_true]
    · rw [decide_eq_false e]; rfl
theorem loS_iff {s : Nat} {d : Nat → Nat} : loS c P Q X Y s d = true ↔ ∀ k, k < c → tp P Q X Y k < s → kp P Q X Y d k = true := by
  unfold loS
  rw [alB_iff]
  constructor
  · intro h k hk e
    have := h k hk
    rw [decide_eq_true e] at this
    simpa using this
  · intro h k hk
    by_cases e : tp P Q X Y k < s
    · rw [h k hk e, Bool.or_true]
    · rw [decide_eq_false e]; rfl
theorem loS_st {s w : Nat} {d : Nat → Nat} : loS c P Q X Y (s + 1) (st d s w) = true ↔ loS c P Q X Y s d = true ∧ okS c P Q X Y s (st d s w) = true := by
  rw [loS_iff, loS_iff, okS_iff]
  have same : ∀ k, tp P Q X Y k < s → kp P Q X Y (st d s w) k = kp P Q X Y d k := fun k hk => kp_low hk (fun t ht => if_neg (by omega))
  constructor
  · intro h
    exact ⟨fun k hk ht => by rw [← same k ht]; exact h k hk (by omega), fun k hk ht => h k hk (by omega)⟩
  · rintro ⟨h1, h2⟩ k hk ht
    rcases Nat.lt_or_ge (tp P Q X Y k) s with q | q
    · rw [same k q]; exact h1 k hk q
    · exact h2 k hk (by omega)
theorem dd_step {j e w : Nat} (hj : j ≤ 5) (hw : w < 5) (d : Nat → Nat) (t : Nat) : dd (j + 1) d (5 * e + w) t = dd j (st d (5 - j) w) e t := by
  unfold dd st
  by_cases h1 : t < 6 - (j + 1)
  · rw [if_pos h1, if_pos (by omega), if_neg (by omega)]
  · rw [if_neg h1]
    by_cases h2 : t = 5 - j
    · rw [if_pos (by omega), if_pos h2, show t - (6 - (j + 1)) = 0 by omega, Nat.pow_zero, Nat.div_one]
      omega
    · rw [if_neg (by omega)]
      have e1 : t - (6 - (j + 1)) = (t - (6 - j)) + 1 := by omega
      rw [e1, Nat.pow_succ, Nat.mul_comm (5 ^ (t - (6 - j))) 5, ← Nat.div_div_eq_div_mul]
      rw [show (5 * e + w) / 5 = e by omega]
theorem tG (hr : ∀ k, k < c → P k < 6 ∧ Q k < 6 ∧ X k < 6 ∧ Y k < 6) : ∀ j, j ≤ 6 → ∀ d, ct (fun e => alB (kp P Q X Y (dd j d e)) c) (5 ^ j) = if loS c P Q X Y (6 - j) d = true then Nk c P Q X Y j d else 0 := by
  intro j
  induction j with
  | zero =>
    intro _ d
    have e : alB (kp P Q X Y (dd 0 d 0)) c = loS c P Q X Y 6 d := by
      unfold loS
      refine alB_ext c (fun k hk => ?_)
      have r := hr k hk
      have ht : tp P Q X Y k < 6 := by unfold tp; omega
      rw [decide_eq_true ht]
      have : kp P Q X Y (dd 0 d 0) k = kp P Q X Y d k := kp_low ht (fun t ht => if_pos (by omega))
      rw [this]; rfl
    show 0 + (if alB (kp P Q X Y (dd 0 d 0)) c = true then 1 else 0) = if loS c P Q X Y 6 d = true then 1 else 0
    rw [e, Nat.zero_add]
  | succ j ih =>
    intro hj d
    rw [Nat.pow_succ, Nat.mul_comm, ct_res]
    have e1 : 6 - j = (5 - j) + 1 := by omega
    have e2 : 6 - (j + 1) = 5 - j := by omega
    have a : tot (fun w => ct (fun e => alB (kp P Q X Y (dd (j + 1) d (5 * e + w))) c) (5 ^ j)) 5 = tot (fun w => if loS c P Q X Y (6 - j) (st d (5 - j) w) = true then Nk c P Q X Y j (st d (5 - j) w) else 0) 5 := by
      refine tot_ext 5 (fun w hw => ?_)
      rw [← ih (by omega)]
      refine ct_ext _ (fun e _ => alB_ext c (fun k _ => ?_))
      exact kp_ext (dd_step (by omega) hw d _) (dd_step (by omega) hw d _) (dd_step (by omega) hw d _) (dd_step (by omega) hw d _)
    rw [a, e1, e2]
    by_cases q : loS c P Q X Y (5 - j) d = true
    · rw [if_pos q, Nk]
      refine tot_ext 5 (fun w hw => ?_)
      by_cases q2 : okS c P Q X Y (5 - j) (st d (5 - j) w) = true
      · rw [if_pos q2, if_pos (loS_st.mpr ⟨q, q2⟩)]
      · rw [if_neg q2, if_neg (fun z => q2 (loS_st.mp z).2)]
    · rw [if_neg q]
      have := tot_le (fun w => if loS c P Q X Y (5 - j + 1) (st d (5 - j) w) = true then Nk c P Q X Y j (st d (5 - j) w) else 0) 0 (fun w => by
        rw [if_neg (fun z => q (loS_st.mp z).1)]
        exact Nat.le_refl _) 5
      omega
def Nam (c : Nat) (P Q X Y : Nat → Nat) (t : Nat) : Prop := ∃ k, k < c ∧ (P k = t ∨ Q k = t ∨ X k = t ∨ Y k = t)
theorem Nk_ext : ∀ (j : Nat) (d d' : Nat → Nat), (∀ t, Nam c P Q X Y t → d t = d' t) → Nk c P Q X Y j d = Nk c P Q X Y j d' := by
  intro j
  induction j with
  | zero => intro d d' _; rfl
  | succ j ih =>
    intro d d' h
    rw [Nk, Nk]
    refine tot_ext 5 (fun w hw => ?_)
    have h' : ∀ t, Nam c P Q X Y t → st d (5 - j) w t = st d' (5 - j) w t := by
      intro t ht
      unfold st
      split
      · rfl
      · exact h t ht
    rw [ih _ _ h']
    have e : okS c P Q X Y (5 - j) (st d (5 - j) w) = okS c P Q X Y (5 - j) (st d' (5 - j) w) := by
      unfold okS
      refine alB_ext c (fun k hk => ?_)
      rw [kp_ext (h' _ ⟨k, hk, Or.inl rfl⟩) (h' _ ⟨k, hk, Or.inr (Or.inl rfl)⟩) (h' _ ⟨k, hk, Or.inr (Or.inr (Or.inl rfl))⟩) (h' _ ⟨k, hk, Or.inr (Or.inr (Or.inr rfl))⟩)]
    rw [e]
theorem Nk_free {j : Nat} {d : Nat → Nat} (h : ¬ Nam c P Q X Y (5 - j)) : Nk c P Q X Y (j + 1) d = 5 * Nk c P Q X Y j d := by
  have e : Nk c P Q X Y (j + 1) d = tot (fun _ => Nk c P Q X Y j d) 5 := by
    rw [Nk]
    refine tot_ext 5 (fun w hw => ?_)
    rw [if_pos]
    · refine Nk_ext j _ _ (fun t ht => if_neg (fun z => h (by rw [← z]; exact ht)))
    · rw [okS_iff]
      intro k hk ht
      exfalso
      apply h
      rcases tp_is (P := P) (Q := Q) (X := X) (Y := Y) k with q | q | q | q
      · exact ⟨k, hk, Or.inl (by omega)⟩
      · exact ⟨k, hk, Or.inr (Or.inl (by omega))⟩
      · exact ⟨k, hk, Or.inr (Or.inr (Or.inl (by omega)))⟩
      · exact ⟨k, hk, Or.inr (Or.inr (Or.inr (by omega)))⟩
  rw [e]
  show 0 + Nk c P Q X Y j d + Nk c P Q X Y j d + Nk c P Q X Y j d + Nk c P Q X Y j d + Nk c P Q X Y j d = _
  omega
/-! ===== keepers: the reference ===== -/
theorem w4 {a b : Nat} (ha : a < 5) (hb : b < 5) : (nI a - 2) + (nI b - 2) = nI (a + b) - 4 := by
  have h : ∀ a : Fin 5, ∀ b : Fin 5, (nI a.val - 2) + (nI b.val - 2) = nI (a.val + b.val) - 4 := by decide
  exact h ⟨a, ha⟩ ⟨b, hb⟩
theorem w8 {a b : Nat} (ha : a < 9) (hb : b < 9) : nI a - 4 = nI b - 4 ↔ a = b := by
  have h : ∀ a : Fin 9, ∀ b : Fin 9, nI a.val - 4 = nI b.val - 4 ↔ a.val = b.val := by decide
  exact h ⟨a, ha⟩ ⟨b, hb⟩
theorem wq {a b x y : Nat} (ha : a < 5) (hb : b < 5) (hx : x < 5) (hy : y < 5) : ((nI a - 2) + (nI b - 2) = (nI x - 2) + (nI y - 2)) ↔ a + b = x + y := by
  rw [w4 ha hb, w4 hx hy, w8 (by omega) (by omega)]
theorem q_weightBy (hN : 20000 ≤ N) {e s : Nat} (he : e < 15625) (hs : s < 6) : f_X7_weightBy N (nI e) (nI s) = some (nI (e / 5 ^ s % 5) - 2) := by
  have hle : ∀ t, e / 5 ^ t ≤ e := fun t => Nat.div_le_self _ _
  have L := loop_cnt (b := fun (w9 : Int32 × Int32) => f_X7_weightBy_b4 N (nI s) w9.1 w9.2) (fun t => (nI (e / 5 ^ t), nI t)) (nI (e / 5 ^ s)) s
    (fun t ht => by
      show f_X7_weightBy_b4 N (nI s) (nI (e / 5 ^ t)) (nI t) = _
      have := hle t
      unfold f_X7_weightBy_b4 nm
      rw [if_neg (by rw [zle (by omega) (by omega)]; omega), zl 5, zdiv (by omega) (by omega) (by omega), nI_1, Nat.div_div_eq_div_mul, ← Nat.pow_succ])
    (by
      show f_X7_weightBy_b4 N (nI s) (nI (e / 5 ^ s)) (nI s) = _
      unfold f_X7_weightBy_b4
      rw [if_pos (Int32.le_refl _)]) N 0 (Nat.zero_le _) (by omega)
  have L' : loopN (fun (w9 : Int32 × Int32) => f_X7_weightBy_b4 N (nI s) w9.1 w9.2) N (nI e, 0) = some (nI (e / 5 ^ s)) := by
    rw [Nat.pow_zero, Nat.div_one] at L
    exact L
  have := hle s
  unfold f_X7_weightBy
  rw [L']
  simp only [bd1]
  rw [zl 5, zrem (by omega) (by omega) (by omega)]
theorem q_doKeep (hN : 20000 ≤ N) {twos outs pOf qOf xOf yOf : Nat → Int32} (hB : RBd c P Q X Y twos outs pOf qOf xOf yOf) {e : Nat} (he : e < 15625) (d : Nat → Nat) : f_X7_doKeep N (nI e) (nI c) pOf qOf xOf yOf = some (if alB (kp P Q X Y (dd 6 d e)) c = true then 1 else 0) := by
  have hc := hB.1
  have dg : ∀ s, dd 6 d e s = e / 5 ^ s % 5 := fun s => if_neg (by omega)
  have B : ∀ k, k < c → f_X7_doKeep_b4 N (nI e) (nI c) pOf qOf xOf yOf 1 (nI k) = some (.inl (if kp P Q X Y (dd 6 d e) k = true then 1 else 0, nI (k + 1))) := by
    intro k hk
    have r := hB.2.1 k hk
    have m := hB.2.2.1 k hk
    have b13 : inb (nI k) 13 = true := zinb (by omega) (by omega)
    unfold f_X7_doKeep_b4 nm
    rw [if_neg (by rw [zle (by omega) (by omega)]; omega), if_neg (by decide), zcl (show k < 2147483648 by omega), m.1, m.2.1, m.2.2.1, m.2.2.2, q_weightBy hN he r.1, q_weightBy hN he r.2.1, q_weightBy hN he r.2.2.1, q_weightBy hN he r.2.2.2]
    simp only [bd1, gd_t b13]
    have iff := wq (a := e / 5 ^ P k % 5) (b := e / 5 ^ Q k % 5) (x := e / 5 ^ X k % 5) (y := e / 5 ^ Y k % 5) (by omega) (by omega) (by omega) (by omega)
    have ek : kp P Q X Y (dd 6 d e) k = decide (e / 5 ^ P k % 5 + e / 5 ^ Q k % 5 = e / 5 ^ X k % 5 + e / 5 ^ Y k % 5) := by
      unfold kp; rw [dg, dg, dg, dg]
    rw [ek, nI_1]
    by_cases q : e / 5 ^ P k % 5 + e / 5 ^ Q k % 5 = e / 5 ^ X k % 5 + e / 5 ^ Y k % 5
    · rw [if_pos (iff.mpr q), decide_eq_true q, if_pos rfl]
    · rw [if_neg (fun z => q (iff.mp z)), decide_eq_false q, if_neg (by decide)]
  obtain ⟨z, l1, l2⟩ := loop_idx (b := fun (w9 : Int32 × Int32) => f_X7_doKeep_b4 N (nI e) (nI c) pOf qOf xOf yOf w9.1 w9.2)
    (fun k x => x.2 = nI k ∧ ((x.1 = 1 ∧ ∀ k', k' < k → kp P Q X Y (dd 6 d e) k' = true) ∨ (x.1 = 0 ∧ ∃ k', k' < c ∧ kp P Q X Y (dd 6 d e) k' = false))) (fun z => (z = 1 ∧ ∀ k', k' < c → kp P Q X Y (dd 6 d e) k' = true) ∨ (z = 0 ∧ ∃ k', k' < c ∧ kp P Q X Y (dd 6 d e) k' = false)) c
    (fun k x hk hI => by
      obtain ⟨x1, x2⟩ := x
      obtain ⟨e1, h⟩ := hI
      dsimp only at e1 h
      subst e1
      rcases h with ⟨rfl, h⟩ | ⟨rfl, h⟩
      · left
        cases q : kp P Q X Y (dd 6 d e) k with
        | true =>
          refine ⟨(1, nI (k + 1)), ?_, rfl, Or.inl ⟨rfl, fun k' hk' => ?_⟩⟩
          · show f_X7_doKeep_b4 N (nI e) (nI c) pOf qOf xOf yOf 1 (nI k) = _
            rw [B k hk, if_pos q]
          · rcases Nat.lt_or_ge k' k with p | p
            · exact h k' p
            · have : k' = k := by omega
              rw [this]; exact q
        | false =>
          refine ⟨(0, nI (k + 1)), ?_, rfl, Or.inr ⟨rfl, k, hk, q⟩⟩
          show f_X7_doKeep_b4 N (nI e) (nI c) pOf qOf xOf yOf 1 (nI k) = _
          rw [B k hk, q]; rfl
      · right
        refine ⟨0, ?_, Or.inr ⟨rfl, h⟩⟩
        show f_X7_doKeep_b4 N (nI e) (nI c) pOf qOf xOf yOf 0 (nI k) = _
        unfold f_X7_doKeep_b4
        rw [if_neg (by rw [zle (by omega) (by omega)]; omega), if_pos rfl])
    (fun x hI => by
      obtain ⟨x1, x2⟩ := x
      obtain ⟨e1, h⟩ := hI
      dsimp only at e1 h
      subst e1
      refine ⟨x1, ?_, ?_⟩
      · show f_X7_doKeep_b4 N (nI e) (nI c) pOf qOf xOf yOf x1 (nI c) = _
        unfold f_X7_doKeep_b4
        rw [if_pos (Int32.le_refl _)]
      · exact h) N 0 (1, 0) (Nat.zero_le _) (by omega) ⟨rfl, Or.inl ⟨rfl, fun k' hk' => absurd hk' (Nat.not_lt_zero k')⟩⟩
  unfold f_X7_doKeep
  rw [l1]
  rcases l2 with ⟨rfl, h⟩ | ⟨rfl, k', hk', h⟩
  · rw [if_pos ((alB_iff c).mpr h)]; rfl
  · rw [if_neg (fun z => by rw [(alB_iff c).mp z k' hk'] at h; cases h)]; rfl
theorem q_keep7 (hN : 20000 ≤ N) {twos outs pOf qOf xOf yOf : Nat → Int32} (hB : RBd c P Q X Y twos outs pOf qOf xOf yOf) (d : Nat → Nat) : f_X7_keepers N (nI c) pOf qOf xOf yOf = some (nI (Nk c P Q X Y 6 d)) := by
  have C := count (b := fun x y => f_X7_keepers_b4 N (nI c) pOf qOf xOf yOf x y) (fun e => alB (kp P Q X Y (dd 6 d e)) c) (N := N) (m := 15625) (by omega)
    (fun a e he => by
      unfold f_X7_keepers_b4 nm
      dsimp only
      rw [if_neg (by rw [zl 15625, zle (by omega) (by omega)]; omega), q_doKeep hN hB he d]
      simp only [bd1]
      by_cases q : alB (kp P Q X Y (dd 6 d e)) c = true
      · rw [if_pos q, if_neg (by decide), nI_1, nI_1, if_pos q]
      · rw [if_neg q, if_pos rfl, zl 0, zadd, nI_1, if_neg q])
    (fun x => by
      show f_X7_keepers_b4 N (nI c) pOf qOf xOf yOf x (nI 15625) = _
      unfold f_X7_keepers_b4
      rw [if_pos (by decide)])
  have G := tG hB.2.1 6 (by omega) d
  rw [if_pos (loS_iff.mpr (fun k hk ht => absurd ht (Nat.not_lt_zero _)))] at G
  unfold f_X7_keepers
  rw [C]
  show some (nI (ct (fun e => alB (kp P Q X Y (dd 6 d e)) c) (5 ^ 6))) = _
  rw [G]
end KQ
