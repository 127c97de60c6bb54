/-! ===== what ties the class's state to the reference's ===== -/
/-- rules: c of them; the k-th is P k, Q k, X k, Y k -/
def RBd (c : Nat) (P Q X Y : Nat → Nat) (twos outs pOf qOf xOf yOf : Nat → Int32) : Prop :=
  c ≤ 12 ∧ (∀ k, k < c → P k < 6 ∧ Q k < 6 ∧ X k < 6 ∧ Y k < 6) ∧
    (∀ k, k < c → pOf k = nI (P k) ∧ qOf k = nI (Q k) ∧ xOf k = nI (X k) ∧ yOf k = nI (Y k)) ∧
    (∀ k, k < c → twos k = nI (6 * P k + Q k) ∧ outs (6 * P k + Q k) = nI (6 * X k + Y k)) ∧
    (∀ i j, i < c → j < c → 6 * P i + Q i = 6 * P j + Q j → i = j) ∧
    (∀ t, t < 36 → (∀ k, k < c → 6 * P k + Q k ≠ t) → outs t = -1)
def RelB (bCount : Int32) (twos outs : Nat → Int32) (mRules : Int32) (pOf qOf xOf yOf : Nat → Int32) : Prop :=
  ∃ (c : Nat) (P Q X Y : Nat → Nat), bCount = nI c ∧ mRules = nI c ∧ RBd c P Q X Y twos outs pOf qOf xOf yOf
/-- agents: n of them; a is in the state S a -/
def RelC (cSize cMeet cChg cSeed : Int32) (states lastMet : Nat → Int32) (mAgents mMeet mChg mSeed : Int32) (stateOf metAt : Nat → Int32) : Prop :=
  ∃ (n : Nat) (S : Nat → Nat), (n = 0 ∨ 2 ≤ n) ∧ n ≤ 6 ∧ cSize = nI n ∧ mAgents = nI n ∧ cMeet = mMeet ∧ cChg = mChg ∧ cSeed = mSeed ∧
    (∀ a, a < n → S a < 6 ∧ states a = nI (S a) ∧ stateOf a = nI (S a)) ∧ (∀ j, j < 36 → lastMet j = metAt j)
def RelT (told toldBy : Nat → Int32) : Prop := ∃ T : Nat → Nat, ∀ s, s < 6 → T s ≤ 2 ∧ told s = nI (T s) ∧ toldBy s = nI (T s)
def RelW (weights weightOf : Nat → Int32) : Prop := ∀ s, s < 6 → weights s = weightOf s
def Rel (bCount : Int32) (twos outs : Nat → Int32) (mRules : Int32) (pOf qOf xOf yOf : Nat → Int32) (cSize cMeet cChg cSeed : Int32) (states lastMet : Nat → Int32) (mAgents mMeet mChg mSeed : Int32) (stateOf metAt : Nat → Int32) (told toldBy weights weightOf : Nat → Int32) : Prop :=
  RelB bCount twos outs mRules pOf qOf xOf yOf ∧ RelC cSize cMeet cChg cSeed states lastMet mAgents mMeet mChg mSeed stateOf metAt ∧ RelT told toldBy ∧ RelW weights weightOf
