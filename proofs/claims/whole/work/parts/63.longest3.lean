/-! ===== longest: both ===== -/
def OI (c m : Nat) (L : Nat → Nat → Option Nat) (d r b : Nat) (R M : Nat → Nat) (lv : Nat → Bool) (opens most ready : Nat → Int32) : Prop :=
  d ≤ r ∧ r ≤ m ∧ (∀ p, p < r → R p < m ∧ ready p = nI (R p)) ∧ (∀ p q, p < q → q < r → R p ≠ R q) ∧
  (∀ j, j < m → opens j = nI (od c m L lv j) ∧ most j = nI (M j) ∧ M j ≤ d ∧ (M j ≠ 0 → Pth c L (M j) 0 j) ∧ (od c m L lv j = 0 ↔ ∃ p, p < r ∧ R p = j)) ∧
  (∀ t, t < 12 * m → eg c L t ≠ none → (lv t = true ↔ ¬ ∃ p, p < d ∧ R p = t / 12)) ∧
  (∀ p, p < d → ∀ k j, k < c → L (R p) k = some j → M (R p) + 1 ≤ M j) ∧ b ≤ d ∧ (b = 0 ∨ ∃ j, Pth c L b 0 j) ∧ ∀ p, p < d → M (R p) ≤ b
section LO
variable {N c m : Nat} {L : Nat → Nat → Option Nat} {leads : Nat → Int32}
theorem OI_step (hN : 20000 ≤ N) (hc : c ≤ 12) (hm : m ≤ 462) (hL : ∀ i k, i < m → k < c → leads (12 * i + k) = lc (L i k) ∧ ∀ j, L i k = some j → j < m) (hpre : ∀ j, 0 < j → j < m → ∃ i k, i < j ∧ k < c ∧ L i k = some j)
    {d r b : Nat} {R M : Nat → Nat} {lv : Nat → Bool} {opens most ready : Nat → Int32} (hd : d < r) (h : OI c m L d r b R M lv opens most ready) :
    ∃ r' b' R' M' lv' opens' most' ready', f_X3_mostChanges_b28 N (nI c) (nI m) leads (nI r) (nI b) (nI d) opens most ready = some (.inl (nI r', nI b', nI (d + 1), opens', most', ready')) ∧ OI c m L (d + 1) r' b' R' M' lv' opens' most' ready' := by
  obtain ⟨h1, h2, h3, h4, h5, h6, h7, h8, h9, h10⟩ := h
  have hv := h3 d hd
  obtain ⟨v1, v2, v3, v4, v5⟩ := h5 (R d) hv.1
  have hM0 : M (R d) ≠ 0 ∨ R d = 0 := by
    by_cases q : R d = 0
    · exact Or.inr q
    · left
      obtain ⟨i, k, hi, hk, e⟩ := hpre (R d) (by omega) hv.1
      have hz := ct_zero _ (v5.mpr ⟨d, hd, rfl⟩) (12 * i + k) (by omega)
      have eg1 : eg c L (12 * i + k) = some (R d) := by rw [eg_at hc hk]; exact e
      rw [eg1] at hz
      simp only [decide_true, Bool.and_true] at hz
      have sp := h6 (12 * i + k) (by omega) (by rw [eg1]; exact fun z => by cases z)
      have ex : ∃ p, p < d ∧ R p = i := by
        by_cases q2 : ∃ p, p < d ∧ R p = i
        · exact q2
        · exfalso
          have e2 : (12 * i + k) / 12 = i := by omega
          rw [e2] at sp
          have := sp.mpr q2
          rw [hz] at this; cases this
      obtain ⟨p, hp, ep⟩ := ex
      have := h7 p hp k (R d) hk (by rw [ep]; exact e)
      omega
  have I0 : LI c m L d 0 r R M lv opens most ready := by
    refine ⟨hd, h2, h3, h4, fun j hj => ?_, fun t ht hne => ?_, h7, fun k j hk => absurd hk (Nat.not_lt_zero k)⟩
    · obtain ⟨a1, a2, a3, a4, a5⟩ := h5 j hj
      exact ⟨a1, a2, by omega, a4, a5⟩
    · rw [h6 t ht hne]
      constructor
      · intro z; exact ⟨z, fun y => by omega⟩
      · intro z; exact z.1
  obtain ⟨z, l1, l2⟩ := loop_idx (b := fun (w9 : Int32 × Int32 × (Nat → Int32) × (Nat → Int32) × (Nat → Int32)) => f_X3_leave_b5 N (nI (R d)) (nI c) leads w9.1 w9.2.1 w9.2.2.1 w9.2.2.2.1 w9.2.2.2.2)
    (fun K x => x.2.1 = nI K ∧ ∃ r' R' M' lv', x.1 = nI r' ∧ LI c m L d K r' R' M' lv' x.2.2.1 x.2.2.2.1 x.2.2.2.2 ∧ (∀ p, p ≤ d → R' p = R p ∧ M' (R p) = M (R p)))
    (fun z => ∃ r' R' M' lv', z.1 = nI r' ∧ LI c m L d c r' R' M' lv' z.2.1 z.2.2.1 z.2.2.2 ∧ (∀ p, p ≤ d → R' p = R p ∧ M' (R p) = M (R p))) c
    (fun K x hK hI => by
      obtain ⟨x1, x2, x3, x4, x5⟩ := x
      obtain ⟨e1, r', R', M', lv', e2, i1, i2⟩ := hI
      dsimp only at e1 e2 i1
      subst e1; subst e2
      have id := i2 d (Nat.le_refl _)
      obtain ⟨r2, R2, M2, lv2, o2, m2, y2, g1, g2, g3, g4⟩ := LI_step (N := N) hN hc hm hL hK i1 (by rw [id.1, id.2]; exact v3) (by rw [id.1, id.2]; exact hM0)
      rw [id.1] at g1
      refine Or.inl ⟨_, g1, rfl, r2, R2, M2, lv2, rfl, g2, fun p hp => ?_⟩
      have ip := i2 p hp
      have g4p := g4 p (Nat.lt_of_le_of_lt hp i1.1)
      rw [ip.1] at g4p
      exact ⟨(g3 p hp).trans ip.1, g4p.trans ip.2⟩)
    (fun x hI => by
      obtain ⟨x1, x2, x3, x4, x5⟩ := x
      obtain ⟨e1, r', R', M', lv', e2, i1, i2⟩ := hI
      dsimp only at e1 e2 i1
      subst e1; subst e2
      refine ⟨(nI r', x3, x4, x5), ?_, r', R', M', lv', rfl, i1, i2⟩
      show f_X3_leave_b5 N (nI (R d)) (nI c) leads (nI r') (nI c) x3 x4 x5 = _
      unfold f_X3_leave_b5
      rw [if_pos (Int32.le_refl _)]) N 0 (nI r, 0, opens, most, ready) (Nat.zero_le _) (by omega) ⟨rfl, r, R, M, lv, rfl, I0, fun p _ => ⟨rfl, rfl⟩⟩
  obtain ⟨z1, z2, z3, z4⟩ := z
  obtain ⟨r', R', M', lv', e2, ⟨i1, i2, i3, i4, i5, i6, i7, i8⟩, i9⟩ := l2
  dsimp only at e2 i3 i5
  subst e2
  have id := i9 d (Nat.le_refl _)
  refine ⟨r', (if b < M (R d) then M (R d) else b), R', M', lv', z2, z3, z4, ?_, by omega, i2, i3, i4, i5, fun t ht hne => ?_, fun p hp k j hk e => ?_, by split <;> omega, ?_, fun p hp => ?_⟩
  · unfold f_X3_mostChanges_b28 f_X3_leave nm
    have bd : inb (nI d) 462 = true := zinb (by omega) (by omega)
    dsimp only
    rw [if_neg (by rw [zle (by omega) (by omega)]; omega), if_neg (by rw [zl 462, zle (by omega) (by omega)]; omega), gd_t bd, zcl (show d < 2147483648 by omega), hv.2, gd_t (zinb (show R d < 462 by omega) (by omega)), zcl (show R d < 2147483648 by omega), gd_t bd, l1]
    simp only [bd4]
    rw [v2, nI_1]
    have eb : (if nI b < nI (M (R d)) then nI (M (R d)) else nI b) = nI (if b < M (R d) then M (R d) else b) := by
      by_cases q : b < M (R d)
      · rw [if_pos q, if_pos (by rw [zlt (by omega) (by omega)]; exact q)]
      · rw [if_neg q, if_neg (by rw [zlt (by omega) (by omega)]; exact q)]
    rw [eb]
  · rw [i6 t ht hne]
    have hmod : t % 12 < c := by
      rcases Nat.lt_or_ge (t % 12) c with q | q
      · exact q
      · exfalso
        apply hne
        unfold eg
        rw [if_neg (by omega)]
    constructor
    · rintro ⟨a, b⟩ ⟨p, hp, e⟩
      rcases Nat.lt_or_ge p d with q | q
      · exact a ⟨p, q, e⟩
      · have : p = d := by omega
        rw [this] at e
        exact b ⟨e.symm, hmod⟩
    · intro z
      refine ⟨fun ⟨p, hp, e⟩ => z ⟨p, by omega, e⟩, fun ⟨e, _⟩ => z ⟨d, by omega, e.symm⟩⟩
  · rcases Nat.lt_or_ge p d with q | q
    · exact i7 p q k j hk e
    · have : p = d := by omega
      rw [this] at e ⊢
      exact i8 k j hk e
  · by_cases q : b < M (R d)
    · rw [if_pos q]; exact Or.inr ⟨R d, v4 (by omega)⟩
    · rw [if_neg q]; exact h9
  · have ip := i9 p (by omega)
    rw [ip.1, ip.2]
    rcases Nat.lt_or_ge p d with q | q
    · have := h10 p q
      split <;> omega
    · have : p = d := by omega
      rw [this]
      split <;> omega
theorem reach0 (hpre : ∀ j, 0 < j → j < m → ∃ i k, i < j ∧ k < c ∧ L i k = some j) : ∀ j, j < m → ∃ a, Pth c L a 0 j := by
  intro j
  induction j using Nat.strongRecOn with
  | _ j ih =>
    intro hj
    rcases Nat.eq_zero_or_pos j with q | q
    · exact ⟨0, q.symm⟩
    · obtain ⟨i, k, hi, hk, e⟩ := hpre j q hj
      obtain ⟨a, ha⟩ := ih i hi (by omega)
      exact ⟨a + 1, Pth_snoc ha hk e⟩
theorem OI_end (hm1 : 1 ≤ m) (hL' : ∀ i k j, i < m → k < c → L i k = some j → j < m) (hpre : ∀ j, 0 < j → j < m → ∃ i k, i < j ∧ k < c ∧ L i k = some j)
    {d b : Nat} {R M : Nat → Nat} {lv : Nat → Bool} {opens most ready : Nat → Int32} (h : OI c m L d d b R M lv opens most ready) : (m ≤ d → Mx c L 0 b) ∧ (d < m → Unb c L 0) := by
  obtain ⟨h1, h2, h3, h4, h5, h6, h7, h8, h9, h10⟩ := h
  constructor
  · intro hmd
    have all : ∀ i, i < m → ∃ p, p < d ∧ R p = i := by
      intro i hi
      by_cases q : ∃ p, p < d ∧ R p = i
      · exact q
      · exfalso
        have := holes m (m + 1) (fun p => if p < m then R p else i) (fun p hp => by
          split
          · next q => exact (h3 p (by omega)).1
          · exact hi) (fun p q' hpq hq => by
          rw [if_pos (by omega)]
          split
          · next q2 => exact h4 p q' hpq (by omega)
          · exact fun z => q ⟨p, by omega, z⟩)
        omega
    have up : ∀ n i j, i < m → Pth c L n i j → j < m ∧ M i + n ≤ M j := by
      intro n
      induction n with
      | zero => intro i j hi hp; have : i = j := hp; rw [← this]; exact ⟨hi, Nat.le_refl _⟩
      | succ n ih =>
        intro i j hi hp
        obtain ⟨k, hk, t, e, ht⟩ := hp
        obtain ⟨p, hp, ep⟩ := all i hi
        have a := h7 p hp k t hk (by rw [ep]; exact e)
        rw [ep] at a
        obtain ⟨b1, b2⟩ := ih t j (hL' i k t hi hk e) ht
        exact ⟨b1, by omega⟩
    refine ⟨?_, fun n j hp => ?_⟩
    · rcases h9 with q | q
      · rw [q]; exact ⟨0, rfl⟩
      · exact q
    · obtain ⟨b1, b2⟩ := up n 0 j (by omega) hp
      obtain ⟨p, hp, ep⟩ := all j b1
      have := h10 p hp
      rw [ep] at this
      omega
  · intro hdm
    have ex : ∃ u, u < m ∧ ¬ ∃ p, p < d ∧ R p = u := by
      by_cases q : ∃ u, u < m ∧ ¬ ∃ p, p < d ∧ R p = u
      · exact q
      · exfalso
        have al : ∀ u, ∃ p, u < m → p < d ∧ R p = u := by
          intro u
          by_cases hu : u < m
          · by_cases q2 : ∃ p, p < d ∧ R p = u
            · obtain ⟨p, hp⟩ := q2
              exact ⟨p, fun _ => hp⟩
            · exact absurd ⟨u, hu, q2⟩ q
          · exact ⟨0, fun z => absurd z hu⟩
        obtain ⟨f, hf⟩ := Classical.axiomOfChoice al
        have := holes d m f (fun i hi => (hf i hi).1) (fun i j hij hj e => by
          have a := (hf i (by omega)).2
          have b := (hf j hj).2
          rw [e, b] at a
          omega)
        omega
    have back : ∀ n u, u < m → (¬ ∃ p, p < d ∧ R p = u) → ∃ w, w < m ∧ Pth c L n w u := by
      intro n
      induction n with
      | zero => intro u hu _; exact ⟨u, hu, rfl⟩
      | succ n ih =>
        intro u hu hno
        have hne : od c m L lv u ≠ 0 := fun z => hno ((h5 u hu).2.2.2.2.mp z)
        obtain ⟨t, ht, hp⟩ := ct_ex _ hne
        rw [Bool.and_eq_true] at hp
        have et := of_decide_eq_true hp.2
        have hmod : t % 12 < c := by
          rcases Nat.lt_or_ge (t % 12) c with q | q
          · exact q
          · exfalso
            unfold eg at et
            rw [if_neg (by omega)] at et
            cases et
        have et2 : L (t / 12) (t % 12) = some u := by
          unfold eg at et
          rw [if_pos hmod] at et
          exact et
        have hno2 := (h6 t ht (by rw [et]; exact fun z => by cases z)).mp hp.1
        obtain ⟨w, hw, hpw⟩ := ih (t / 12) (by omega) hno2
        exact ⟨w, hw, Pth_snoc hpw hmod et2⟩
    intro n
    obtain ⟨u, hu, hno⟩ := ex
    obtain ⟨w, hw, hp⟩ := back n u hu hno
    obtain ⟨a, ha⟩ := reach0 hpre w hw
    exact ⟨a + n, u, by omega, Pth_app a ha hp⟩
theorem q_most (hN : 20000 ≤ N) (hc : c ≤ 12) (hm1 : 1 ≤ m) (hm : m ≤ 462) (hL : ∀ i k, i < m → k < c → leads (12 * i + k) = lc (L i k) ∧ ∀ j, L i k = some j → j < m) (hpre : ∀ j, 0 < j → j < m → ∃ i k, i < j ∧ k < c ∧ L i k = some j) (opens most ready : Nat → Int32) :
    ∃ v opens' most' ready', f_X3_mostChanges N (nI c) (nI m) leads opens most ready = some (v, opens', most', ready') ∧ ((∃ h, v = nI h ∧ Mx c L 0 h) ∨ (v = -9 ∧ Unb c L 0)) := by
  have hL' : ∀ i k j, i < m → k < c → L i k = some j → j < m := fun i k j hi hk e => (hL i k hi hk).2 j e
  obtain ⟨o1, m1, g1, g2, g3⟩ := q_countOpen (N := N) hN hc hm hL opens most
  have pos : ∀ j, 0 < j → j < m → od c m L (fun _ => true) j ≠ 0 := by
    intro j h0 hj hz
    obtain ⟨i, k, hi, hk, e⟩ := hpre j h0 hj
    have := ct_zero _ hz (12 * i + k) (by omega)
    rw [eg_at hc hk, e] at this
    simp at this
  have run : ∀ (r : Nat) (R : Nat → Nat) (rd : Nat → Int32), OI c m L 0 r 0 R (fun _ => 0) (fun _ => true) o1 m1 rd →
      ∃ v opens' most' ready', bd5 (loopN (fun (w9 : Int32 × Int32 × Int32 × (Nat → Int32) × (Nat → Int32) × (Nat → Int32)) => f_X3_mostChanges_b28 N (nI c) (nI m) leads w9.1 w9.2.1 w9.2.2.1 w9.2.2.2.1 w9.2.2.2.2.1 w9.2.2.2.2.2) N (nI r, 0, 0, o1, m1, rd)) (fun x1_24 x2_25 opens_26 most_27 ready_28 => f_X3_mostChanges_j74 N x1_24 x2_25 (nI c) (nI m) leads opens_26 most_27 ready_28) = some (v, opens', most', ready') ∧ ((∃ h, v = nI h ∧ Mx c L 0 h) ∨ (v = -9 ∧ Unb c L 0)) := by
    intro r R rd h0
    obtain ⟨⟨z1, z2, z3, z4, z5⟩, l1, d, b, R', M', lv', e1, e2, l2⟩ := loop_idx (b := fun (w9 : Int32 × Int32 × Int32 × (Nat → Int32) × (Nat → Int32) × (Nat → Int32)) => f_X3_mostChanges_b28 N (nI c) (nI m) leads w9.1 w9.2.1 w9.2.2.1 w9.2.2.2.1 w9.2.2.2.2.1 w9.2.2.2.2.2)
      (fun d x => x.2.2.1 = nI d ∧ ∃ r b R M lv, x.1 = nI r ∧ x.2.1 = nI b ∧ OI c m L d r b R M lv x.2.2.2.1 x.2.2.2.2.1 x.2.2.2.2.2)
      (fun z => ∃ d b R M lv, z.1 = nI d ∧ z.2.1 = nI b ∧ OI c m L d d b R M lv z.2.2.1 z.2.2.2.1 z.2.2.2.2) m
      (fun d x hd hI => by
        obtain ⟨x1, x2, x3, x4, x5, x6⟩ := x
        obtain ⟨e1, r, b, R, M, lv, e2, e3, hO⟩ := hI
        dsimp only at e1 e2 e3 hO
        subst e1; subst e2; subst e3
        have o1 := hO.1
        have o2 := hO.2.1
        by_cases q : d < r
        · obtain ⟨r', b', R', M', lv', a1, a2, a3, k1, k2⟩ := OI_step (N := N) hN hc hm hL hpre q hO
          exact Or.inl ⟨_, k1, rfl, r', b', R', M', lv', rfl, rfl, k2⟩
        · have : r = d := by omega
          subst this
          refine Or.inr ⟨(nI r, nI b, x4, x5, x6), ?_, r, b, R, M, lv, rfl, rfl, hO⟩
          show f_X3_mostChanges_b28 N (nI c) (nI m) leads (nI r) (nI b) (nI r) x4 x5 x6 = _
          unfold f_X3_mostChanges_b28
          rw [if_pos (Int32.le_refl _)])
      (fun x hI => by
        obtain ⟨x1, x2, x3, x4, x5, x6⟩ := x
        obtain ⟨e1, r, b, R, M, lv, e2, e3, hO⟩ := hI
        dsimp only at e1 e2 e3 hO
        subst e1; subst e2; subst e3
        have o1 := hO.1
        have o2 := hO.2.1
        have : r = m := by omega
        subst this
        refine ⟨(nI r, nI b, x4, x5, x6), ?_, r, b, R, M, lv, rfl, rfl, hO⟩
        show f_X3_mostChanges_b28 N (nI c) (nI r) leads (nI r) (nI b) (nI r) x4 x5 x6 = _
        unfold f_X3_mostChanges_b28
        rw [if_pos (Int32.le_refl _)]) N 0 (nI r, 0, 0, o1, m1, rd) (Nat.zero_le _) (by omega) ⟨rfl, r, 0, R, fun _ => 0, fun _ => true, rfl, rfl, h0⟩
    dsimp only at e1 e2 l2
    subst e1; subst e2
    have fin := OI_end hm1 hL' hpre l2
    have hdm := l2.2.1
    rw [l1]
    simp only [bd5]
    unfold f_X3_mostChanges_j74
    by_cases q : m ≤ d
    · rw [if_pos (by rw [zle (by omega) (by omega)]; exact q)]
      exact ⟨_, _, _, _, rfl, Or.inl ⟨b, rfl, fin.1 q⟩⟩
    · rw [if_neg (by rw [zle (by omega) (by omega)]; exact q)]
      exact ⟨_, _, _, _, rfl, Or.inr ⟨rfl, fin.2 (by omega)⟩⟩
  unfold f_X3_mostChanges
  rw [g1]
  simp only [bd2]
  rw [gd_t (by decide), show (0 : Int32).toNatClampNeg = 0 from rfl, g2 0 (by omega), gd_t (by decide)]
  have hle : od c m L (fun _ => true) 0 ≤ 12 * m := ct_le _ _
  by_cases q : od c m L (fun _ => true) 0 = 0
  · rw [if_pos (by rw [q]; rfl)]
    unfold nm
    refine run 1 (fun _ => 0) (upd ready 0 0) ⟨by omega, hm1, fun p hp => ⟨show 0 < m by omega, ?_⟩, fun p q h1 h2 => by omega, fun j hj => ⟨g2 j hj, g3 j (by omega), Nat.le_refl _, fun z => absurd rfl z, ?_⟩, fun t ht hne => ⟨fun _ ⟨p, hp, _⟩ => absurd hp (Nat.not_lt_zero p), fun _ => rfl⟩, fun p hp => absurd hp (Nat.not_lt_zero p), Nat.le_refl _, Or.inl rfl, fun p hp => absurd hp (Nat.not_lt_zero p)⟩
    · have : p = 0 := by omega
      rw [this]; rfl
    · constructor
      · intro z
        rcases Nat.eq_zero_or_pos j with q2 | q2
        · exact ⟨0, by omega, q2.symm⟩
        · exact absurd z (pos j q2 hj)
      · rintro ⟨p, hp, e⟩
        rw [← e]; exact q
  · rw [if_neg (by rw [zl 0, zeq (by omega) (by omega)]; exact q)]
    refine run 0 (fun _ => 0) ready ⟨Nat.le_refl _, Nat.zero_le _, fun p hp => absurd hp (Nat.not_lt_zero p), fun p q h1 h2 => by omega, fun j hj => ⟨g2 j hj, g3 j (by omega), Nat.le_refl _, fun z => absurd rfl z, ?_⟩, fun t ht hne => ⟨fun _ ⟨p, hp, _⟩ => absurd hp (Nat.not_lt_zero p), fun _ => rfl⟩, fun p hp => absurd hp (Nat.not_lt_zero p), Nat.le_refl _, Or.inl rfl, fun p hp => absurd hp (Nat.not_lt_zero p)⟩
    constructor
    · intro z
      rcases Nat.eq_zero_or_pos j with q2 | q2
      · rw [q2] at z; exact absurd z q
      · exact absurd z (pos j q2 hj)
    · rintro ⟨p, hp, e⟩
      exact absurd hp (Nat.not_lt_zero p)
end LO
theorem op_longest {N : Nat} (hN : 20000 ≤ N) {bCount : Int32} {cSize : Int32} {cMeet : Int32} {cChg : Int32} {cSeed : Int32} {mRules : Int32} {mAgents : Int32} {mMeet : Int32} {mChg : Int32} {mSeed : Int32} {told : Nat → Int32} {weights : Nat → Int32} {twos : Nat → Int32} {outs : Nat → Int32} {states : Nat → Int32} {lastMet : Nat → Int32} {pOf : Nat → Int32} {qOf : Nat → Int32} {xOf : Nat → Int32} {yOf : Nat → Int32} {toldBy : Nat → Int32} {weightOf : Nat → Int32} {stateOf : Nat → Int32} {metAt : Nat → Int32} (hR : Rel bCount twos outs mRules pOf qOf xOf yOf cSize cMeet cChg cSeed states lastMet mAgents mMeet mChg mSeed stateOf metAt told toldBy weights weightOf) (rRules : Int32) (rCount : Int32) (mListed : Int32) (por : Nat → Int32) (confs : Nat → Int32) (near : Nat → Int32) (leads : Nat → Int32) (agrees : Nat → Int32) (answers : Nat → Int32) (opens : Nat → Int32) (most : Nat → Int32) (ready : Nat → Int32) (manyIn : Nat → Int32) (codeOf : Nat → Int32) (farOf : Nat → Int32) (leadsTo : Nat → Int32) (answerOf : Nat → Int32) (mostOn : Nat → Int32) : ∃ (r9 : Int32) (rRules9 : Int32) (rCount9 : Int32) (por9 : Nat → Int32) (confs9 : Nat → Int32) (near9 : Nat → Int32) (leads9 : Nat → Int32) (agrees9 : Nat → Int32) (answers9 : Nat → Int32) (opens9 : Nat → Int32) (most9 : Nat → Int32) (ready9 : Nat → Int32) (mListed9 : Int32) (manyIn9 : Nat → Int32) (codeOf9 : Nat → Int32) (farOf9 : Nat → Int32) (leadsTo9 : Nat → Int32) (answerOf9 : Nat → Int32) (mostOn9 : Nat → Int32), f_X6_longest N bCount cSize rRules rCount told twos outs states por confs near leads agrees answers opens most ready = some (r9, rRules9, rCount9, por9, confs9, near9, leads9, agrees9, answers9, opens9, most9, ready9) ∧ f_X7_longest N mRules mAgents mListed pOf qOf xOf yOf toldBy stateOf manyIn codeOf farOf leadsTo answerOf mostOn = some (r9, mListed9, manyIn9, codeOf9, farOf9, leadsTo9, answerOf9, mostOn9) ∧ Rel bCount twos outs mRules pOf qOf xOf yOf cSize cMeet cChg cSeed states lastMet mAgents mMeet mChg mSeed stateOf metAt told toldBy weights weightOf := by
  have hR0 := hR
  obtain ⟨⟨c, P, Q, X, Y, eb, er, hB⟩, ⟨n, S, hn0, hn, ec, em, -, -, -, hS, -⟩, ⟨T, hT⟩, -⟩ := hR
  subst eb; subst er; subst ec; subst em
  have hc := hB.1
  by_cases h0 : n = 0
  · subst h0
    refine ⟨-3, rRules, rCount, por, confs, near, leads, agrees, answers, opens, most, ready, mListed, manyIn, codeOf, farOf, leadsTo, answerOf, mostOn, ?_, ?_, hR0⟩
    · unfold f_X6_longest
      rw [if_pos (by decide)]
    · unfold f_X7_longest
      rw [if_pos (by decide)]
  · have hn3 : ¬ nI n = 0 := by rw [zl 0, zeq (by omega) (by omega)]; exact h0
    obtain ⟨m, Cs, D, L, A, por', confs', near', leads', agrees', answers', many', code', far', leadsTo', answerOf', g1, g2, g3⟩ := q_present (N := N) hN hn hB hT hS rRules rCount mListed por confs near leads agrees answers manyIn codeOf farOf leadsTo answerOf
    obtain ⟨⟨hm1, hm, -, g4, g5⟩, -⟩ := g3
    have hL6 : ∀ i k, i < m → k < c → leads' (12 * i + k) = lc (L i k) ∧ ∀ j, L i k = some j → j < m := fun i k hi hk => ⟨(g4 i k hi hk).1, (g4 i k hi hk).2.2⟩
    have hL7 : ∀ i k, i < m → k < c → leadsTo' (12 * i + k) = lr (L i k) ∧ ∀ j, L i k = some j → j < m := fun i k hi hk => ⟨(g4 i k hi hk).2.1, (g4 i k hi hk).2.2⟩
    obtain ⟨v, o', m', r', k1, k2⟩ := q_most (N := N) hN hc hm1 hm hL6 g5 opens most ready
    obtain ⟨a1, a2, l1, l2, l3⟩ := q_lref (N := N) hN hc hm1 hm hL7 (nI n) pOf qOf xOf yOf toldBy stateOf many' code' far' answerOf' mostOn
    have ev : a2 0 = v := by
      rcases k2 with ⟨h, rfl, p⟩ | ⟨rfl, p⟩ <;> rcases l3 with ⟨h', e', p'⟩ | ⟨e', p'⟩
      · rw [e', Mx_uni p p']
      · exact (Mx_unb p p').elim
      · exact (Mx_unb p' p).elim
      · exact e'
    refine ⟨v, nI c, nI m, por', confs', near', leads', agrees', answers', o', m', r', nI m, many', code', far', leadsTo', answerOf', a2, ?_, ?_, hR0⟩
    · unfold f_X6_longest
      rw [if_neg hn3, g1]
      simp only [bd8]
      rw [k1]; rfl
    · unfold f_X7_longest
      rw [if_neg hn3, g2]
      simp only [bd6]
      rw [l1]
      simp only [bd1]
      rw [l2]
      simp only []
      rw [gd_t (by decide), show (0 : Int32).toNatClampNeg = 0 from rfl, ev]
