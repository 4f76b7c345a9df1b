def Ch_knows_17 (Q : Int → Mem → Prop) (s0 : Int) (σ : Mem) : Prop :=
  (s0 = 0 ∨ s0 = 1) ∧ Q s0 σ

def Ch_knows_16 (Q : Int → Mem → Prop) (σ : Mem) : Prop :=
  Ch_knows_17 Q 0 σ

def Ch_knows (l1 : Int) (σ : Mem) (Q : Int → Mem → Prop) : Prop :=
  InR l1 ∧
  ((l1 < 0 →
    Ch_knows_16 Q σ) ∧
  (0 ≤ l1 →
    InR l1 ∧
    InR (σ 0 0 0 0) ∧
    (((σ 0 0 0 0) ≤ l1 →
      Ch_knows_16 Q σ) ∧
    (l1 < (σ 0 0 0 0) →
      Ch_knows_17 Q 1 σ))))

def Ch_knowsValue_27 (Q : Int → Mem → Prop) (s0 : Int) (σ : Mem) : Prop :=
  (s0 = 0 ∨ s0 = 1) ∧ Q s0 σ

def Ch_knowsValue_26 (Q : Int → Mem → Prop) (σ : Mem) : Prop :=
  Ch_knowsValue_27 Q 0 σ

def Ch_knowsValue (l1 : Int) (l2 : Int) (σ : Mem) (Q : Int → Mem → Prop) : Prop :=
  Ch_knows l1 σ (fun r1 σ1 =>
  InR r1 ∧
  ((r1 = 0 →
    Ch_knowsValue_26 Q σ1) ∧
  (r1 ≠ 0 →
    InR l2 ∧
    ((l2 < 0 →
      Ch_knowsValue_26 Q σ1) ∧
    (0 ≤ l2 →
      0 ≤ l1 ∧ l1 < 6 ∧
      InR l2 ∧
      InR (σ1 0 0 1 l1) ∧
      (((σ1 0 0 1 l1) ≤ l2 →
        Ch_knowsValue_26 Q σ1) ∧
      (l2 < (σ1 0 0 1 l1) →
        Ch_knowsValue_27 Q 1 σ1)))))))

def Cu_knows_17 (Q : Int → Mem → Prop) (s0 : Int) (σ : Mem) : Prop :=
  (s0 = 0 ∨ s0 = 1) ∧ Q s0 σ

def Cu_knows_16 (Q : Int → Mem → Prop) (σ : Mem) : Prop :=
  Cu_knows_17 Q 0 σ

def Cu_knows (l1 : Int) (σ : Mem) (Q : Int → Mem → Prop) : Prop :=
  InR l1 ∧
  ((l1 < 0 →
    Cu_knows_16 Q σ) ∧
  (0 ≤ l1 →
    InR l1 ∧
    InR (σ 1 0 0 0) ∧
    (((σ 1 0 0 0) ≤ l1 →
      Cu_knows_16 Q σ) ∧
    (l1 < (σ 1 0 0 0) →
      Cu_knows_17 Q 1 σ))))

def Cu_add_106 (k47 : Int → Int → Int → Mem → Prop) (Q : Mem → Prop) (l5 : Int) (l6 : Int) (l7 : Int) (σ : Mem) : Prop :=
  ∀ x1 : Int, x1 = (l7 + 1) →
  k47 l5 l6 x1 σ

def Cu_add_47 (Q : Mem → Prop) : Nat → Int → Int → Int → Mem → Prop
  | 0, _, _, _, _ => False
  | n + 1, l5, l6, l7, σ =>
  InR l7 ∧
  InR (σ 3 l5 0 0) ∧
  (((σ 3 l5 0 0) ≤ l7 →
    0 ≤ (σ 1 0 0 0) ∧ (σ 1 0 0 0) < 200 ∧
    ∀ σ3 : Mem, σ3 = up σ 1 0 5 (σ 1 0 0 0) l6 →
    ∀ σ4 : Mem, σ4 = up σ3 1 0 0 0 ((σ3 1 0 0 0) + 1) →
    Q σ4) ∧
  (l7 < (σ 3 l5 0 0) →
    0 ≤ l7 ∧ l7 < 3 ∧
    InR (σ 3 l5 15 l7) ∧
    (((σ 3 l5 15 l7) = (-1) →
      Cu_add_106 (fun z0 z1 z2 z3 => Cu_add_47 Q n z0 z1 z2 z3) Q l5 l6 l7 σ) ∧
    ((σ 3 l5 15 l7) ≠ (-1) →
      0 ≤ l7 ∧ l7 < 3 ∧
      0 ≤ l7 ∧ l7 < 3 ∧
      0 ≤ (((σ 1 0 0 0) * 3) + l6) ∧ (((σ 1 0 0 0) * 3) + l6) < 600 ∧
      ∀ σ10 : Mem, σ10 = up σ 1 0 6 (((σ 1 0 0 0) * 3) + l6) ((10 * (σ 3 l5 1 l7)) + (σ 3 l5 15 l7)) →
      ∀ x11 : Int, x11 = (l6 + 1) →
      Cu_add_106 (fun z0 z1 z2 z3 => Cu_add_47 Q n z0 z1 z2 z3) Q l5 x11 l7 σ10))))

def Cu_add (l1 : Int) (l2 : Int) (l3 : Int) (l4 : Int) (l5 : Int) (σ : Mem) (Q : Mem → Prop) : Prop :=
  0 ≤ (σ 1 0 0 0) ∧ (σ 1 0 0 0) < 200 ∧
  ∀ σ1 : Mem, σ1 = up σ 1 0 1 (σ 1 0 0 0) l1 →
  0 ≤ (σ1 1 0 0 0) ∧ (σ1 1 0 0 0) < 200 ∧
  ∀ σ2 : Mem, σ2 = up σ1 1 0 2 (σ1 1 0 0 0) l2 →
  0 ≤ (σ2 1 0 0 0) ∧ (σ2 1 0 0 0) < 200 ∧
  ∀ σ3 : Mem, σ3 = up σ2 1 0 3 (σ2 1 0 0 0) l3 →
  0 ≤ (σ3 1 0 0 0) ∧ (σ3 1 0 0 0) < 200 ∧
  ∀ σ4 : Mem, σ4 = up σ3 1 0 4 (σ3 1 0 0 0) l4 →
  ∃ nn, Cu_add_47 Q nn l5 0 0 σ4

def Cu_isMetBy_2 (Q : Int → Mem → Prop) : Nat → Int → Nat → Int → Nat → Int → Mem → Prop
  | 0, _, _, _, _, _, _ => False
  | n + 1, l1, l2c, l2p, l2k, l3, σ =>
  0 ≤ l1 ∧ l1 < 200 ∧
  InR l3 ∧
  InR (σ 1 0 5 l1) ∧
  (((σ 1 0 5 l1) ≤ l3 →
    Q 1 σ) ∧
  (l3 < (σ 1 0 5 l1) →
    0 ≤ ((l1 * 3) + l3) ∧ ((l1 * 3) + l3) < 600 ∧
    ∀ x5 : Int, x5 = (σ 1 0 6 ((l1 * 3) + l3)) →
    0 ≤ (iDiv x5 10) ∧ (iDiv x5 10) < 6 ∧
    InR (σ l2c l2p l2k (iDiv x5 10)) ∧
    InR (iRem x5 10) ∧
    (((σ l2c l2p l2k (iDiv x5 10)) = (iRem x5 10) →
      ∀ x9 : Int, x9 = (l3 + 1) →
      Cu_isMetBy_2 Q n l1 l2c l2p l2k x9 σ) ∧
    ((σ l2c l2p l2k (iDiv x5 10)) ≠ (iRem x5 10) →
      Q 0 σ))))

def Cu_isMetBy (l1 : Int) (l2c : Nat) (l2p : Int) (l2k : Nat) (σ : Mem) (Q : Int → Mem → Prop) : Prop :=
  ∃ nn, Cu_isMetBy_2 Q nn l1 l2c l2p l2k 0 σ

def Cu_move_62 (Q : Mem → Prop) : Nat → Int → Int → Int → Mem → Prop
  | 0, _, _, _, _ => False
  | n + 1, l1, l2, l3, σ =>
  InR l3 ∧
  ((3 ≤ l3 →
    Q σ) ∧
  (l3 < 3 →
    0 ≤ ((l1 * 3) + l3) ∧ ((l1 * 3) + l3) < 600 ∧
    0 ≤ ((l2 * 3) + l3) ∧ ((l2 * 3) + l3) < 600 ∧
    ∀ σ4 : Mem, σ4 = up σ 1 0 6 ((l2 * 3) + l3) (σ 1 0 6 ((l1 * 3) + l3)) →
    ∀ x5 : Int, x5 = (l3 + 1) →
    Cu_move_62 Q n l1 l2 x5 σ4))

def Cu_move (l1 : Int) (l2 : Int) (σ : Mem) (Q : Mem → Prop) : Prop :=
  0 ≤ l1 ∧ l1 < 200 ∧
  0 ≤ l2 ∧ l2 < 200 ∧
  ∀ σ2 : Mem, σ2 = up σ 1 0 1 l2 (σ 1 0 1 l1) →
  0 ≤ l1 ∧ l1 < 200 ∧
  0 ≤ l2 ∧ l2 < 200 ∧
  ∀ σ4 : Mem, σ4 = up σ2 1 0 2 l2 (σ2 1 0 2 l1) →
  0 ≤ l1 ∧ l1 < 200 ∧
  0 ≤ l2 ∧ l2 < 200 ∧
  ∀ σ6 : Mem, σ6 = up σ4 1 0 3 l2 (σ4 1 0 3 l1) →
  0 ≤ l1 ∧ l1 < 200 ∧
  0 ≤ l2 ∧ l2 < 200 ∧
  ∀ σ8 : Mem, σ8 = up σ6 1 0 4 l2 (σ6 1 0 4 l1) →
  0 ≤ l1 ∧ l1 < 200 ∧
  0 ≤ l2 ∧ l2 < 200 ∧
  ∀ σ10 : Mem, σ10 = up σ8 1 0 5 l2 (σ8 1 0 5 l1) →
  ∃ nn, Cu_move_62 Q nn l1 l2 0 σ10

def Cu_takeAway_31 (k4 : Int → Int → Int → Mem → Prop) (Q : Mem → Prop) (l1 : Int) (l2 : Int) (l3 : Int) (σ : Mem) : Prop :=
  ∀ x1 : Int, x1 = (l3 + 1) →
  k4 l1 l2 x1 σ

def Cu_takeAway_4 (Q : Mem → Prop) : Nat → Int → Int → Int → Mem → Prop
  | 0, _, _, _, _ => False
  | n + 1, l1, l2, l3, σ =>
  InR l3 ∧
  InR (σ 1 0 0 0) ∧
  (((σ 1 0 0 0) ≤ l3 →
    ∀ σ3 : Mem, σ3 = up σ 1 0 0 0 l2 →
    Q σ3) ∧
  (l3 < (σ 1 0 0 0) →
    0 ≤ l3 ∧ l3 < 200 ∧
    InR (σ 1 0 1 l3) ∧
    InR l1 ∧
    (((σ 1 0 1 l3) = l1 →
      Cu_takeAway_31 (fun z0 z1 z2 z3 => Cu_takeAway_4 Q n z0 z1 z2 z3) Q l1 l2 l3 σ) ∧
    ((σ 1 0 1 l3) ≠ l1 →
      Cu_move l3 l2 σ (fun σ7 =>
      ∀ x8 : Int, x8 = (l2 + 1) →
      Cu_takeAway_31 (fun z0 z1 z2 z3 => Cu_takeAway_4 Q n z0 z1 z2 z3) Q l1 x8 l3 σ7)))))

def Cu_takeAway (l1 : Int) (σ : Mem) (Q : Mem → Prop) : Prop :=
  ∃ nn, Cu_takeAway_4 Q nn l1 0 0 σ

def Fu_knows_17 (Q : Int → Mem → Prop) (s0 : Int) (σ : Mem) : Prop :=
  (s0 = 0 ∨ s0 = 1) ∧ Q s0 σ

def Fu_knows_16 (Q : Int → Mem → Prop) (σ : Mem) : Prop :=
  Fu_knows_17 Q 0 σ

def Fu_knows (l1 : Int) (σ : Mem) (Q : Int → Mem → Prop) : Prop :=
  InR l1 ∧
  ((l1 < 0 →
    Fu_knows_16 Q σ) ∧
  (0 ≤ l1 →
    InR l1 ∧
    InR (σ 2 0 0 0) ∧
    (((σ 2 0 0 0) ≤ l1 →
      Fu_knows_16 Q σ) ∧
    (l1 < (σ 2 0 0 0) →
      Fu_knows_17 Q 1 σ))))

def Fu_sumOfWeights_4 (Q : Int → Mem → Prop) : Nat → Int → Int → Mem → Prop
  | 0, _, _, _ => False
  | n + 1, l1, l2, σ =>
  InR l2 ∧
  InR (σ 2 0 0 0) ∧
  (((σ 2 0 0 0) ≤ l2 →
    Q l1 σ) ∧
  (l2 < (σ 2 0 0 0) →
    0 ≤ l2 ∧ l2 < 4 ∧
    ∀ x4 : Int, x4 = (l1 + (σ 2 0 1 l2)) →
    ∀ x5 : Int, x5 = (l2 + 1) →
    Fu_sumOfWeights_4 Q n x4 x5 σ))

def Fu_sumOfWeights (σ : Mem) (Q : Int → Mem → Prop) : Prop :=
  ∃ nn, Fu_sumOfWeights_4 Q nn 0 0 σ

def Pa_forget (l0 : Int) (σ : Mem) (Q : Mem → Prop) : Prop :=
  ∀ σ1 : Mem, σ1 = fl σ 3 l0 10 256 (-9) →
  ∀ σ2 : Mem, σ2 = fl σ1 3 l0 11 256 0 →
  Q σ2

def Pa_isJoinedTo_2 (Q : Int → Mem → Prop) : Nat → Int → Int → Int → Mem → Prop
  | 0, _, _, _, _ => False
  | n + 1, l0, l1, l2, σ =>
  InR l2 ∧
  InR (σ 3 l0 0 0) ∧
  (((σ 3 l0 0 0) ≤ l2 →
    Q 0 σ) ∧
  (l2 < (σ 3 l0 0 0) →
    0 ≤ l2 ∧ l2 < 3 ∧
    InR (σ 3 l0 1 l2) ∧
    InR l1 ∧
    (((σ 3 l0 1 l2) ≠ l1 →
      ∀ x6 : Int, x6 = (l2 + 1) →
      Pa_isJoinedTo_2 Q n l0 l1 x6 σ) ∧
    ((σ 3 l0 1 l2) = l1 →
      Q 1 σ))))

def Pa_isJoinedTo (l0 : Int) (l1 : Int) (σ : Mem) (Q : Int → Mem → Prop) : Prop :=
  ∃ nn, Pa_isJoinedTo_2 Q nn l0 l1 0 σ

def Pa_knowsLocal_17 (Q : Int → Mem → Prop) (s0 : Int) (σ : Mem) : Prop :=
  (s0 = 0 ∨ s0 = 1) ∧ Q s0 σ

def Pa_knowsLocal_16 (Q : Int → Mem → Prop) (σ : Mem) : Prop :=
  Pa_knowsLocal_17 Q 0 σ

def Pa_knowsLocal (l0 : Int) (l1 : Int) (σ : Mem) (Q : Int → Mem → Prop) : Prop :=
  InR l1 ∧
  ((l1 < 0 →
    Pa_knowsLocal_16 Q σ) ∧
  (0 ≤ l1 →
    InR l1 ∧
    InR (σ 3 l0 3 0) ∧
    (((σ 3 l0 3 0) ≤ l1 →
      Pa_knowsLocal_16 Q σ) ∧
    (l1 < (σ 3 l0 3 0) →
      Pa_knowsLocal_17 Q 1 σ))))

def Pa_joinTo_55 (Q : Mem → Prop) (l0 : Int) (l1 : Int) (l2 : Int) (l3 : Int) (σ : Mem) : Prop :=
  0 ≤ l3 ∧ l3 < 3 ∧
  ∀ σ1 : Mem, σ1 = up σ 3 l0 1 l3 l1 →
  0 ≤ l3 ∧ l3 < 3 ∧
  ∀ σ2 : Mem, σ2 = up σ1 3 l0 2 l3 l2 →
  ∀ σ3 : Mem, σ3 = up σ2 3 l0 0 0 ((σ2 3 l0 0 0) + 1) →
  Q σ3

def Pa_joinTo_5 (Q : Mem → Prop) : Nat → Int → Int → Int → Int → Mem → Prop
  | 0, _, _, _, _, _ => False
  | n + 1, l0, l1, l2, l3, σ =>
  InR l3 ∧
  ((l3 ≤ 0 →
    Pa_joinTo_55 Q l0 l1 l2 l3 σ) ∧
  (0 < l3 →
    0 ≤ (l3 - 1) ∧ (l3 - 1) < 3 ∧
    InR (σ 3 l0 1 (l3 - 1)) ∧
    InR l1 ∧
    (((σ 3 l0 1 (l3 - 1)) ≤ l1 →
      Pa_joinTo_55 Q l0 l1 l2 l3 σ) ∧
    (l1 < (σ 3 l0 1 (l3 - 1)) →
      0 ≤ (l3 - 1) ∧ (l3 - 1) < 3 ∧
      0 ≤ l3 ∧ l3 < 3 ∧
      ∀ σ6 : Mem, σ6 = up σ 3 l0 1 l3 (σ 3 l0 1 (l3 - 1)) →
      0 ≤ (l3 - 1) ∧ (l3 - 1) < 3 ∧
      0 ≤ l3 ∧ l3 < 3 ∧
      ∀ σ8 : Mem, σ8 = up σ6 3 l0 2 l3 (σ6 3 l0 2 (l3 - 1)) →
      ∀ x9 : Int, x9 = (l3 + (-1)) →
      Pa_joinTo_5 Q n l0 l1 l2 x9 σ8))))

def Pa_joinTo (l0 : Int) (l1 : Int) (l2 : Int) (σ : Mem) (Q : Mem → Prop) : Prop :=
  ∀ x1 : Int, x1 = (σ 3 l0 0 0) →
  ∃ nn, Pa_joinTo_5 Q nn l0 l1 l2 x1 σ

def Pa_settledAt_24 (Q : Int → Mem → Prop) (s0 : Int) (σ : Mem) : Prop :=
  Q s0 σ

def Pa_settledAt (l0 : Int) (σ : Mem) (Q : Int → Mem → Prop) : Prop :=
  InR (σ 3 l0 0 0) ∧
  (((σ 3 l0 0 0) ≠ 0 →
    0 ≤ ((σ 3 l0 0 0) - 1) ∧ ((σ 3 l0 0 0) - 1) < 3 ∧
    Pa_settledAt_24 Q ((σ 3 l0 1 ((σ 3 l0 0 0) - 1)) + 1) σ) ∧
  ((σ 3 l0 0 0) = 0 →
    Pa_settledAt_24 Q 0 σ))

def Pa_spotOf_4 (Q : Int → Mem → Prop) : Nat → Int → Nat → Int → Nat → Int → Int → Mem → Prop
  | 0, _, _, _, _, _, _, _ => False
  | n + 1, l0, l1c, l1p, l1k, l2, l3, σ =>
  InR l3 ∧
  InR (σ 3 l0 0 0) ∧
  (((σ 3 l0 0 0) ≤ l3 →
    Q l2 σ) ∧
  (l3 < (σ 3 l0 0 0) →
    0 ≤ l3 ∧ l3 < 3 ∧
    0 ≤ (σ 3 l0 1 l3) ∧ (σ 3 l0 1 l3) < 6 ∧
    ∀ x5 : Int, x5 = (iOr l2 (iShl (σ l1c l1p l1k (σ 3 l0 1 l3)) (l3 * 2))) →
    ∀ x6 : Int, x6 = (l3 + 1) →
    Pa_spotOf_4 Q n l0 l1c l1p l1k x5 x6 σ))

def Pa_spotOf (l0 : Int) (l1c : Nat) (l1p : Int) (l1k : Nat) (σ : Mem) (Q : Int → Mem → Prop) : Prop :=
  ∃ nn, Pa_spotOf_4 Q nn l0 l1c l1p l1k 0 0 σ

def Pa_clearLastUsed_37 (Q : Int → Mem → Prop) (l1 : Int) (σ : Mem) : Prop :=
  Q l1 σ

def Pa_clearLastUsed_26 (Q : Int → Mem → Prop) (l0 : Int) (l1 : Int) (σ : Mem) : Prop :=
  InR l1 ∧
  ((l1 < 0 →
    Pa_clearLastUsed_37 Q l1 σ) ∧
  (0 ≤ l1 →
    0 ≤ l1 ∧ l1 < 4 ∧
    ∀ σ2 : Mem, σ2 = up σ 3 l0 13 l1 0 →
    Pa_clearLastUsed_37 Q l1 σ2))

def Pa_clearLastUsed_7 (Q : Int → Mem → Prop) : Nat → Int → Int → Mem → Prop
  | 0, _, _, _ => False
  | n + 1, l0, l1, σ =>
  InR l1 ∧
  ((l1 ≤ 0 →
    Pa_clearLastUsed_26 Q l0 l1 σ) ∧
  (0 < l1 →
    0 ≤ l1 ∧ l1 < 4 ∧
    InR (σ 3 l0 13 l1) ∧
    (((σ 3 l0 13 l1) ≠ 0 →
      Pa_clearLastUsed_26 Q l0 l1 σ) ∧
    ((σ 3 l0 13 l1) = 0 →
      ∀ x4 : Int, x4 = (l1 + (-1)) →
      Pa_clearLastUsed_7 Q n l0 x4 σ))))

def Pa_clearLastUsed (l0 : Int) (σ : Mem) (Q : Int → Mem → Prop) : Prop :=
  ∀ x1 : Int, x1 = ((σ 3 l0 3 0) - 1) →
  ∃ nn, Pa_clearLastUsed_7 Q nn l0 x1 σ

def Pa_measureRooms_33 (k2 : Int → Int → Int → Int → Mem → Prop) (Q : Mem → Prop) : Nat → Int → Int → Int → Int → Int → Int → Mem → Prop
  | 0, _, _, _, _, _, _, _ => False
  | n + 1, l0, l1, l2, l3, l4, l5, σ =>
  InR l5 ∧
  InR (σ 3 l0 0 0) ∧
  (((σ 3 l0 0 0) ≤ l5 →
    0 ≤ l3 ∧ l3 < 6 ∧
    ∀ σ3 : Mem, σ3 = up σ 3 l0 12 l3 l4 →
    ∀ x4 : Int, x4 = (l3 + 1) →
    k2 l0 l1 l2 x4 σ3) ∧
  (l5 < (σ 3 l0 0 0) →
    ∀ x5 : Int, x5 = (iAnd (iShr l1 (l5 * 2)) 3) →
    0 ≤ l5 ∧ l5 < 3 ∧
    0 ≤ (((l3 * 10) + 4) + (σ 3 l0 1 l5)) ∧ (((l3 * 10) + 4) + (σ 3 l0 1 l5)) < 60 ∧
    ∀ x8 : Int, x8 = (l4 - ((σ 3 l0 8 (((l3 * 10) + 4) + (σ 3 l0 1 l5))) * x5)) →
    ∀ x9 : Int, x9 = (l5 + 1) →
    Pa_measureRooms_33 k2 Q n l0 l1 l2 l3 x8 x9 σ))

def Pa_measureRooms_2 (Q : Mem → Prop) : Nat → Int → Int → Int → Int → Mem → Prop
  | 0, _, _, _, _, _ => False
  | n + 1, l0, l1, l2, l3, σ =>
  InR l3 ∧
  InR (σ 3 l0 6 0) ∧
  (((σ 3 l0 6 0) ≤ l3 →
    Q σ) ∧
  (l3 < (σ 3 l0 6 0) →
    0 ≤ l3 ∧ l3 < 6 ∧
    0 ≤ ((l2 * 6) + l3) ∧ ((l2 * 6) + l3) < 24 ∧
    ∀ x5 : Int, x5 = ((σ 3 l0 7 l3) + (σ 3 l0 9 ((l2 * 6) + l3))) →
    ∃ nn, Pa_measureRooms_33 (fun z0 z1 z2 z3 z4 => Pa_measureRooms_2 Q n z0 z1 z2 z3 z4) Q nn l0 l1 l2 l3 x5 0 σ))

def Pa_measureRooms (l0 : Int) (l1 : Int) (l2 : Int) (σ : Mem) (Q : Mem → Prop) : Prop :=
  ∃ nn, Pa_measureRooms_2 Q nn l0 l1 l2 0 σ

def Pa_priceOfUnits_4 (Q : Int → Mem → Prop) : Nat → Int → Int → Int → Mem → Prop
  | 0, _, _, _, _ => False
  | n + 1, l0, l1, l2, σ =>
  InR l2 ∧
  InR (σ 3 l0 3 0) ∧
  (((σ 3 l0 3 0) ≤ l2 →
    Q l1 σ) ∧
  (l2 < (σ 3 l0 3 0) →
    0 ≤ l2 ∧ l2 < 4 ∧
    0 ≤ l2 ∧ l2 < 4 ∧
    ∀ x5 : Int, x5 = (l1 + ((σ 3 l0 13 l2) * (σ 3 l0 5 l2))) →
    ∀ x6 : Int, x6 = (l2 + 1) →
    Pa_priceOfUnits_4 Q n l0 x5 x6 σ))

def Pa_priceOfUnits (l0 : Int) (σ : Mem) (Q : Int → Mem → Prop) : Prop :=
  ∃ nn, Pa_priceOfUnits_4 Q nn l0 0 0 σ

def Pa_raiseFrom_2 (Q : Int → Mem → Prop) : Nat → Int → Int → Mem → Prop
  | 0, _, _, _ => False
  | n + 1, l0, l2, σ =>
  InR l2 ∧
  ((l2 < 0 →
    Q 0 σ) ∧
  (0 ≤ l2 →
    0 ≤ l2 ∧ l2 < 4 ∧
    0 ≤ l2 ∧ l2 < 4 ∧
    InR (σ 3 l0 13 l2) ∧
    InR (σ 3 l0 4 l2) ∧
    (((σ 3 l0 4 l2) ≤ (σ 3 l0 13 l2) →
      0 ≤ l2 ∧ l2 < 4 ∧
      ∀ σ6 : Mem, σ6 = up σ 3 l0 13 l2 0 →
      ∀ x7 : Int, x7 = (l2 + (-1)) →
      Pa_raiseFrom_2 Q n l0 x7 σ6) ∧
    ((σ 3 l0 13 l2) < (σ 3 l0 4 l2) →
      0 ≤ l2 ∧ l2 < 4 ∧
      0 ≤ l2 ∧ l2 < 4 ∧
      ∀ σ9 : Mem, σ9 = up σ 3 l0 13 l2 ((σ 3 l0 13 l2) + 1) →
      Q 1 σ9))))

def Pa_raiseFrom (l0 : Int) (l1 : Int) (σ : Mem) (Q : Int → Mem → Prop) : Prop :=
  ∃ nn, Pa_raiseFrom_2 Q nn l0 l1 σ

def Pa_rowsHold_14 (k2 : Int → Int → Mem → Prop) (Q : Int → Mem → Prop) : Nat → Int → Int → Int → Int → Mem → Prop
  | 0, _, _, _, _, _ => False
  | n + 1, l0, l1, l2, l3, σ =>
  InR l3 ∧
  InR (σ 3 l0 3 0) ∧
  (((σ 3 l0 3 0) ≤ l3 →
    0 ≤ l1 ∧ l1 < 6 ∧
    InR l2 ∧
    InR (σ 3 l0 12 l1) ∧
    ((l2 ≤ (σ 3 l0 12 l1) →
      ∀ x6 : Int, x6 = (l1 + 1) →
      k2 l0 x6 σ) ∧
    ((σ 3 l0 12 l1) < l2 →
      Q 0 σ))) ∧
  (l3 < (σ 3 l0 3 0) →
    0 ≤ ((l1 * 10) + l3) ∧ ((l1 * 10) + l3) < 60 ∧
    0 ≤ l3 ∧ l3 < 4 ∧
    ∀ x9 : Int, x9 = (l2 + ((σ 3 l0 8 ((l1 * 10) + l3)) * (σ 3 l0 13 l3))) →
    ∀ x10 : Int, x10 = (l3 + 1) →
    Pa_rowsHold_14 k2 Q n l0 l1 x9 x10 σ))

def Pa_rowsHold_2 (Q : Int → Mem → Prop) : Nat → Int → Int → Mem → Prop
  | 0, _, _, _ => False
  | n + 1, l0, l1, σ =>
  InR l1 ∧
  InR (σ 3 l0 6 0) ∧
  (((σ 3 l0 6 0) ≤ l1 →
    Q 1 σ) ∧
  (l1 < (σ 3 l0 6 0) →
    ∃ nn, Pa_rowsHold_14 (fun z0 z1 z2 => Pa_rowsHold_2 Q n z0 z1 z2) Q nn l0 l1 0 0 σ))

def Pa_rowsHold (l0 : Int) (σ : Mem) (Q : Int → Mem → Prop) : Prop :=
  ∃ nn, Pa_rowsHold_2 Q nn l0 0 σ

def Pa_solve_125 (Q : Int → Mem → Prop) (l3 : Int) (σ : Mem) : Prop :=
  Q l3 σ

def Pa_solve_114 (k23 : Int → Int → Int → Int → Mem → Prop) (Q : Int → Mem → Prop) (l0 : Int) (l3 : Int) (l5 : Int) (s0 : Int) (s1 : Int) (σ : Mem) : Prop :=
  Pa_raiseFrom s0 s1 σ (fun r1 σ1 =>
  ∀ x2 : Int, x2 = (l5 + 1) →
  k23 l0 l3 r1 x2 σ1)

def Pa_solve_93 (k23 : Int → Int → Int → Int → Mem → Prop) (Q : Int → Mem → Prop) (l0 : Int) (l3 : Int) (l5 : Int) (l7 : Int) (σ : Mem) : Prop :=
  InR l7 ∧
  ((l7 = 0 →
    Pa_solve_114 k23 Q l0 l3 l5 l0 ((σ 3 l0 3 0) - 1) σ) ∧
  (l7 ≠ 0 →
    Pa_clearLastUsed l0 σ (fun r2 σ2 =>
    Pa_solve_114 k23 Q l0 l3 l5 l0 (r2 - 1) σ2)))

def Pa_solve_59 (k23 : Int → Int → Int → Int → Mem → Prop) (Q : Int → Mem → Prop) (l0 : Int) (l3 : Int) (l5 : Int) (l6 : Int) (s0 : Int) (σ : Mem) : Prop :=
  InR s0 ∧
  ((s0 ≠ 0 →
    Pa_solve_93 k23 Q l0 l3 l5 s0 σ) ∧
  (s0 = 0 →
    Pa_rowsHold l0 σ (fun r2 σ2 =>
    InR r2 ∧
    ((r2 = 0 →
      Pa_solve_93 k23 Q l0 l3 l5 s0 σ2) ∧
    (r2 ≠ 0 →
      ∀ σ4 : Mem, σ4 = cp σ2 3 l0 13 3 l0 14 4 →
      Pa_solve_93 k23 Q l0 l6 l5 1 σ4)))))

def Pa_solve_58 (k23 : Int → Int → Int → Int → Mem → Prop) (Q : Int → Mem → Prop) (l0 : Int) (l3 : Int) (l5 : Int) (l6 : Int) (σ : Mem) : Prop :=
  Pa_solve_59 k23 Q l0 l3 l5 l6 0 σ

def Pa_solve_23 (Q : Int → Mem → Prop) : Nat → Int → Int → Int → Int → Mem → Prop
  | 0, _, _, _, _, _ => False
  | n + 1, l0, l3, l4, l5, σ =>
  InR l5 ∧
  ((256 ≤ l5 →
    Pa_solve_125 Q l3 σ) ∧
  (l5 < 256 →
    InR l4 ∧
    ((l4 = 0 →
      Pa_solve_125 Q l3 σ) ∧
    (l4 ≠ 0 →
      Pa_priceOfUnits l0 σ (fun r4 σ4 =>
      InR l3 ∧
      ((l3 = (-4) →
        Pa_solve_58 (fun z0 z1 z2 z3 z4 => Pa_solve_23 Q n z0 z1 z2 z3 z4) Q l0 l3 l5 r4 σ4) ∧
      (l3 ≠ (-4) →
        InR r4 ∧
        InR l3 ∧
        ((r4 < l3 →
          Pa_solve_58 (fun z0 z1 z2 z3 z4 => Pa_solve_23 Q n z0 z1 z2 z3 z4) Q l0 l3 l5 r4 σ4) ∧
        (l3 ≤ r4 →
          Pa_solve_59 (fun z0 z1 z2 z3 z4 => Pa_solve_23 Q n z0 z1 z2 z3 z4) Q l0 l3 l5 r4 1 σ4)))))))))

def Pa_solve (l0 : Int) (l1 : Int) (l2 : Int) (σ : Mem) (Q : Int → Mem → Prop) : Prop :=
  Pa_measureRooms l0 l1 l2 σ (fun σ1 =>
  ∀ σ2 : Mem, σ2 = fl σ1 3 l0 13 4 0 →
  ∃ nn, Pa_solve_23 Q nn l0 (-4) 1 0 σ2)

def Pa_answerTo_30 (Q : Int → Mem → Prop) (l0 : Int) (l3 : Int) (σ : Mem) : Prop :=
  0 ≤ l3 ∧ l3 < 256 ∧
  Q (σ 3 l0 10 l3) σ

def Pa_answerTo (l0 : Int) (l1 : Int) (l2 : Int) (σ : Mem) (Q : Int → Mem → Prop) : Prop :=
  ∀ x1 : Int, x1 = ((l2 * 64) + l1) →
  0 ≤ x1 ∧ x1 < 256 ∧
  InR (σ 3 l0 10 x1) ∧
  (((σ 3 l0 10 x1) ≠ (-9) →
    Pa_answerTo_30 Q l0 x1 σ) ∧
  ((σ 3 l0 10 x1) = (-9) →
    Pa_solve l0 l1 l2 σ (fun r5 σ5 =>
    0 ≤ x1 ∧ x1 < 256 ∧
    ∀ σ6 : Mem, σ6 = up σ5 3 l0 10 x1 r5 →
    Pa_answerTo_30 Q l0 x1 σ6)))

def Pa_costTo_50 (k13 : Int → Int → Int → Int → Int → Mem → Prop) (Q : Int → Mem → Prop) (l0 : Int) (l3 : Int) (l4 : Int) (l5 : Int) (l6 : Int) (s0 : Int) (σ : Mem) : Prop :=
  InR s0 ∧
  ((s0 ≠ (-4) →
    0 ≤ l6 ∧ l6 < 4 ∧
    ∀ x4 : Int, x4 = (l5 + ((σ 2 0 1 l6) * s0)) →
    ∀ x5 : Int, x5 = (l6 + 1) →
    k13 l0 l3 l4 x4 x5 σ) ∧
  (s0 = (-4) →
    Q (-4) σ))

def Pa_costTo_13 (Q : Int → Mem → Prop) : Nat → Int → Int → Int → Int → Int → Mem → Prop
  | 0, _, _, _, _, _, _ => False
  | n + 1, l0, l3, l4, l5, l6, σ =>
  InR l6 ∧
  InR (σ 2 0 0 0) ∧
  (((σ 2 0 0 0) ≤ l6 →
    Q l5 σ) ∧
  (l6 < (σ 2 0 0 0) →
    InR l3 ∧
    ((l3 = 0 →
      Pa_answerTo l0 l4 l6 σ (fun r4 σ4 =>
      Pa_costTo_50 (fun z0 z1 z2 z3 z4 z5 => Pa_costTo_13 Q n z0 z1 z2 z3 z4 z5) Q l0 l3 l4 l5 l6 r4 σ4)) ∧
    (l3 ≠ 0 →
      0 ≤ ((l6 * 64) + l4) ∧ ((l6 * 64) + l4) < 256 ∧
      Pa_costTo_50 (fun z0 z1 z2 z3 z4 z5 => Pa_costTo_13 Q n z0 z1 z2 z3 z4 z5) Q l0 l3 l4 l5 l6 (σ 3 l0 11 ((l6 * 64) + l4)) σ))))

def Pa_costTo (l0 : Int) (l1c : Nat) (l1p : Int) (l1k : Nat) (l3 : Int) (σ : Mem) (Q : Int → Mem → Prop) : Prop :=
  Pa_spotOf l0 l1c l1p l1k σ (fun r1 σ1 =>
  ∃ nn, Pa_costTo_13 Q nn l0 l3 r1 0 0 σ1)

def Pa_meets_50 (k2 : Int → Int → Int → Mem → Prop) (Q : Int → Mem → Prop) (l0 : Int) (l1 : Int) (l2 : Int) (σ : Mem) : Prop :=
  ∀ x1 : Int, x1 = (l2 + 1) →
  k2 l0 l1 x1 σ

def Pa_meets_48 (Q : Int → Mem → Prop) (σ : Mem) : Prop :=
  Q 0 σ

def Pa_meets_2 (Q : Int → Mem → Prop) : Nat → Int → Int → Int → Mem → Prop
  | 0, _, _, _, _ => False
  | n + 1, l0, l1, l2, σ =>
  InR l2 ∧
  InR (σ 3 l0 0 0) ∧
  (((σ 3 l0 0 0) ≤ l2 →
    Q 1 σ) ∧
  (l2 < (σ 3 l0 0 0) →
    ∀ x3 : Int, x3 = (iAnd (iShr l1 (l2 * 2)) 3) →
    0 ≤ l2 ∧ l2 < 3 ∧
    InR x3 ∧
    InR (σ 3 l0 2 l2) ∧
    (((σ 3 l0 2 l2) ≤ x3 →
      Pa_meets_48 Q σ) ∧
    (x3 < (σ 3 l0 2 l2) →
      0 ≤ l2 ∧ l2 < 3 ∧
      InR (σ 3 l0 15 l2) ∧
      (((σ 3 l0 15 l2) = (-1) →
        Pa_meets_50 (fun z0 z1 z2 z3 => Pa_meets_2 Q n z0 z1 z2 z3) Q l0 l1 l2 σ) ∧
      ((σ 3 l0 15 l2) ≠ (-1) →
        0 ≤ l2 ∧ l2 < 3 ∧
        InR (σ 3 l0 15 l2) ∧
        InR x3 ∧
        (((σ 3 l0 15 l2) = x3 →
          Pa_meets_50 (fun z0 z1 z2 z3 => Pa_meets_2 Q n z0 z1 z2 z3) Q l0 l1 l2 σ) ∧
        ((σ 3 l0 15 l2) ≠ x3 →
          Pa_meets_48 Q σ))))))))

def Pa_meets (l0 : Int) (l1 : Int) (σ : Mem) (Q : Int → Mem → Prop) : Prop :=
  ∃ nn, Pa_meets_2 Q nn l0 l1 0 σ

def Pa_isTrue_57 (k12 : Int → Int → Int → Int → Int → Mem → Prop) (Q : Int → Mem → Prop) (l0 : Int) (l1 : Int) (l2 : Int) (l3 : Int) (l4 : Int) (σ : Mem) : Prop :=
  ∀ x1 : Int, x1 = (l4 + 1) →
  k12 l0 l1 l2 l3 x1 σ

def Pa_isTrue_55 (Q : Int → Mem → Prop) (σ : Mem) : Prop :=
  Q 0 σ

def Pa_isTrue_12 (Q : Int → Mem → Prop) : Nat → Int → Int → Int → Int → Int → Mem → Prop
  | 0, _, _, _, _, _, _ => False
  | n + 1, l0, l1, l2, l3, l4, σ =>
  InR l4 ∧
  InR l3 ∧
  ((l3 ≤ l4 →
    Q 1 σ) ∧
  (l4 < l3 →
    Pa_meets l0 l4 σ (fun r3 σ3 =>
    InR r3 ∧
    ((r3 = 0 →
      Pa_isTrue_57 (fun z0 z1 z2 z3 z4 z5 => Pa_isTrue_12 Q n z0 z1 z2 z3 z4 z5) Q l0 l1 l2 l3 l4 σ3) ∧
    (r3 ≠ 0 →
      Pa_answerTo l0 l4 l1 σ3 (fun r5 σ5 =>
      InR r5 ∧
      ((r5 = (-4) →
        Pa_isTrue_57 (fun z0 z1 z2 z3 z4 z5 => Pa_isTrue_12 Q n z0 z1 z2 z3 z4 z5) Q l0 l1 l2 l3 l4 σ5) ∧
      (r5 ≠ (-4) →
        InR l2 ∧
        ((l2 = (-4) →
          Pa_isTrue_55 Q σ5) ∧
        (l2 ≠ (-4) →
          InR r5 ∧
          InR l2 ∧
          ((l2 ≤ r5 →
            Pa_isTrue_57 (fun z0 z1 z2 z3 z4 z5 => Pa_isTrue_12 Q n z0 z1 z2 z3 z4 z5) Q l0 l1 l2 l3 l4 σ5) ∧
          (r5 < l2 →
            Pa_isTrue_55 Q σ5))))))))))))

def Pa_isTrue (l0 : Int) (l1 : Int) (l2 : Int) (σ : Mem) (Q : Int → Mem → Prop) : Prop :=
  ∀ x1 : Int, x1 = (iShl 1 ((σ 3 l0 0 0) * 2)) →
  ∃ nn, Pa_isTrue_12 Q nn l0 l1 l2 x1 0 σ

def Pa_findReasons_80 (k36 : Int → Int → Int → Int → Mem → Prop) (Q : Mem → Prop) (l0 : Int) (l2 : Int) (l3 : Int) (l4 : Int) (σ : Mem) : Prop :=
  ∀ x1 : Int, x1 = (l4 + 1) →
  k36 l0 l2 l3 x1 σ

def Pa_findReasons_36 (Q : Mem → Prop) : Nat → Int → Int → Int → Int → Mem → Prop
  | 0, _, _, _, _, _ => False
  | n + 1, l0, l2, l3, l4, σ =>
  InR l4 ∧
  InR (σ 3 l0 0 0) ∧
  (((σ 3 l0 0 0) ≤ l4 →
    Q σ) ∧
  (l4 < (σ 3 l0 0 0) →
    0 ≤ l4 ∧ l4 < 3 ∧
    ∀ x4 : Int, x4 = (σ 3 l0 15 l4) →
    0 ≤ l4 ∧ l4 < 3 ∧
    ∀ σ5 : Mem, σ5 = up σ 3 l0 15 l4 (-1) →
    Pa_isTrue l0 l2 l3 σ5 (fun r6 σ6 =>
    InR r6 ∧
    ((r6 ≠ 0 →
      Pa_findReasons_80 (fun z0 z1 z2 z3 z4 => Pa_findReasons_36 Q n z0 z1 z2 z3 z4) Q l0 l2 l3 l4 σ6) ∧
    (r6 = 0 →
      0 ≤ l4 ∧ l4 < 3 ∧
      ∀ σ8 : Mem, σ8 = up σ6 3 l0 15 l4 x4 →
      Pa_findReasons_80 (fun z0 z1 z2 z3 z4 => Pa_findReasons_36 Q n z0 z1 z2 z3 z4) Q l0 l2 l3 l4 σ8)))))

def Pa_findReasons_3 (Q : Mem → Prop) : Nat → Int → Int → Int → Int → Int → Mem → Prop
  | 0, _, _, _, _, _, _ => False
  | n + 1, l0, l1, l2, l3, l4, σ =>
  InR l4 ∧
  InR (σ 3 l0 0 0) ∧
  (((σ 3 l0 0 0) ≤ l4 →
    ∃ nn, Pa_findReasons_36 Q nn l0 l2 l3 0 σ) ∧
  (l4 < (σ 3 l0 0 0) →
    0 ≤ l4 ∧ l4 < 3 ∧
    ∀ σ3 : Mem, σ3 = up σ 3 l0 15 l4 (iAnd (iShr l1 (l4 * 2)) 3) →
    ∀ x4 : Int, x4 = (l4 + 1) →
    Pa_findReasons_3 Q n l0 l1 l2 l3 x4 σ3))

def Pa_findReasons (l0 : Int) (l1 : Int) (l2 : Int) (l3 : Int) (σ : Mem) (Q : Mem → Prop) : Prop :=
  ∃ nn, Pa_findReasons_3 Q nn l0 l1 l2 l3 0 σ

def Pa_raiseFloors_73 (k12 : Int → Int → Int → Int → Int → Mem → Prop) (Q : Mem → Prop) (l0 : Int) (l1 : Int) (l2 : Int) (l3 : Int) (l4 : Int) (σ : Mem) : Prop :=
  ∀ x1 : Int, x1 = (l4 + 1) →
  k12 l0 l1 l2 l3 x1 σ

def Pa_raiseFloors_65 (k12 : Int → Int → Int → Int → Int → Mem → Prop) (Q : Mem → Prop) (l0 : Int) (l1 : Int) (l2 : Int) (l3 : Int) (l4 : Int) (l5 : Int) (σ : Mem) : Prop :=
  0 ≤ l5 ∧ l5 < 256 ∧
  ∀ σ1 : Mem, σ1 = up σ 3 l0 11 l5 l2 →
  Pa_raiseFloors_73 k12 Q l0 l1 l2 l3 l4 σ1

def Pa_raiseFloors_12 (Q : Mem → Prop) : Nat → Int → Int → Int → Int → Int → Mem → Prop
  | 0, _, _, _, _, _, _ => False
  | n + 1, l0, l1, l2, l3, l4, σ =>
  InR l4 ∧
  InR l3 ∧
  ((l3 ≤ l4 →
    Q σ) ∧
  (l4 < l3 →
    ∀ x3 : Int, x3 = ((l1 * 64) + l4) →
    Pa_meets l0 l4 σ (fun r4 σ4 =>
    InR r4 ∧
    ((r4 = 0 →
      Pa_raiseFloors_73 (fun z0 z1 z2 z3 z4 z5 => Pa_raiseFloors_12 Q n z0 z1 z2 z3 z4 z5) Q l0 l1 l2 l3 l4 σ4) ∧
    (r4 ≠ 0 →
      0 ≤ x3 ∧ x3 < 256 ∧
      InR (σ4 3 l0 11 x3) ∧
      (((σ4 3 l0 11 x3) = (-4) →
        Pa_raiseFloors_73 (fun z0 z1 z2 z3 z4 z5 => Pa_raiseFloors_12 Q n z0 z1 z2 z3 z4 z5) Q l0 l1 l2 l3 l4 σ4) ∧
      ((σ4 3 l0 11 x3) ≠ (-4) →
        InR l2 ∧
        ((l2 = (-4) →
          Pa_raiseFloors_65 (fun z0 z1 z2 z3 z4 z5 => Pa_raiseFloors_12 Q n z0 z1 z2 z3 z4 z5) Q l0 l1 l2 l3 l4 x3 σ4) ∧
        (l2 ≠ (-4) →
          0 ≤ x3 ∧ x3 < 256 ∧
          InR l2 ∧
          InR (σ4 3 l0 11 x3) ∧
          ((l2 ≤ (σ4 3 l0 11 x3) →
            Pa_raiseFloors_73 (fun z0 z1 z2 z3 z4 z5 => Pa_raiseFloors_12 Q n z0 z1 z2 z3 z4 z5) Q l0 l1 l2 l3 l4 σ4) ∧
          ((σ4 3 l0 11 x3) < l2 →
            Pa_raiseFloors_65 (fun z0 z1 z2 z3 z4 z5 => Pa_raiseFloors_12 Q n z0 z1 z2 z3 z4 z5) Q l0 l1 l2 l3 l4 x3 σ4)))))))))))

def Pa_raiseFloors (l0 : Int) (l1 : Int) (l2 : Int) (σ : Mem) (Q : Mem → Prop) : Prop :=
  ∀ x1 : Int, x1 = (iShl 1 ((σ 3 l0 0 0) * 2)) →
  ∃ nn, Pa_raiseFloors_12 Q nn l0 l1 l2 x1 0 σ

def Pg_restart (σ : Mem) (Q : Mem → Prop) : Prop :=
  ∀ σ1 : Mem, σ1 = up σ 4 0 0 0 0 →
  ∀ σ2 : Mem, σ2 = up σ1 4 0 1 0 0 →
  ∀ σ3 : Mem, σ3 = up σ2 4 0 2 0 (-4) →
  ∀ σ4 : Mem, σ4 = up σ3 4 0 3 0 (-4) →
  Q σ4

def Pg_hasMaster_14 (Q : Int → Mem → Prop) (s0 : Int) (σ : Mem) : Prop :=
  (s0 = 0 ∨ s0 = 1) ∧ Q s0 σ

def Pg_hasMaster (σ : Mem) (Q : Int → Mem → Prop) : Prop :=
  InR (σ 4 0 2 0) ∧
  (((σ 4 0 2 0) = (-4) →
    Pg_hasMaster_14 Q 0 σ) ∧
  ((σ 4 0 2 0) ≠ (-4) →
    Pg_hasMaster_14 Q 1 σ))

def Pg_hasBest_14 (Q : Int → Mem → Prop) (s0 : Int) (σ : Mem) : Prop :=
  (s0 = 0 ∨ s0 = 1) ∧ Q s0 σ

def Pg_hasBest (σ : Mem) (Q : Int → Mem → Prop) : Prop :=
  InR (σ 4 0 3 0) ∧
  (((σ 4 0 3 0) = (-4) →
    Pg_hasBest_14 Q 0 σ) ∧
  ((σ 4 0 3 0) ≠ (-4) →
    Pg_hasBest_14 Q 1 σ))

def Pg_takeMaster_31 (Q : Mem → Prop) (σ : Mem) : Prop :=
  Q σ

def Pg_takeMaster (l1c : Nat) (l1p : Int) (l1k : Nat) (l2 : Int) (σ : Mem) (Q : Mem → Prop) : Prop :=
  ∀ σ1 : Mem, σ1 = up σ 4 0 2 0 l2 →
  InR l2 ∧
  ((l2 ≠ (-4) →
    ∀ σ4 : Mem, σ4 = cp σ1 l1c l1p l1k 4 0 4 6 →
    Pg_takeMaster_31 Q σ4) ∧
  (l2 = (-4) →
    ∀ σ5 : Mem, σ5 = up σ1 4 0 1 0 2 →
    Pg_takeMaster_31 Q σ5))

def Pg_takeCost_68 (Q : Mem → Prop) (σ : Mem) : Prop :=
  Q σ

def Pg_takeCost_43 (Q : Mem → Prop) (σ : Mem) : Prop :=
  InR (σ 4 0 3 0) ∧
  (((σ 4 0 3 0) = (-4) →
    Pg_takeCost_68 Q σ) ∧
  ((σ 4 0 3 0) ≠ (-4) →
    InR (σ 4 0 2 0) ∧
    InR (σ 4 0 3 0) ∧
    (((σ 4 0 2 0) < (σ 4 0 3 0) →
      Pg_takeCost_68 Q σ) ∧
    ((σ 4 0 3 0) ≤ (σ 4 0 2 0) →
      ∀ σ5 : Mem, σ5 = up σ 4 0 1 0 1 →
      Pg_takeCost_68 Q σ5))))

def Pg_takeCost_23 (Q : Mem → Prop) (l1 : Int) (σ : Mem) : Prop :=
  ∀ σ1 : Mem, σ1 = up σ 4 0 3 0 l1 →
  ∀ σ2 : Mem, σ2 = cp σ1 4 0 4 4 0 5 6 →
  Pg_takeCost_43 Q σ2

def Pg_takeCost (l1 : Int) (σ : Mem) (Q : Mem → Prop) : Prop :=
  InR l1 ∧
  ((l1 = (-4) →
    Pg_takeCost_43 Q σ) ∧
  (l1 ≠ (-4) →
    InR (σ 4 0 3 0) ∧
    (((σ 4 0 3 0) = (-4) →
      Pg_takeCost_23 Q l1 σ) ∧
    ((σ 4 0 3 0) ≠ (-4) →
      InR l1 ∧
      InR (σ 4 0 3 0) ∧
      (((σ 4 0 3 0) ≤ l1 →
        Pg_takeCost_43 Q σ) ∧
      (l1 < (σ 4 0 3 0) →
        Pg_takeCost_23 Q l1 σ))))))

def Sr_choice_10 (Q : Int → Mem → Prop) (σ : Mem) : Prop :=
  Q (-2) σ

def Sr_choice (l1 : Int) (σ : Mem) (Q : Int → Mem → Prop) : Prop :=
  InR l1 ∧
  ((l1 < 2 →
    Sr_choice_10 Q σ) ∧
  (2 ≤ l1 →
    InR l1 ∧
    ((l1 ≤ 4 →
      InR (σ 0 0 0 0) ∧
      (((σ 0 0 0 0) < 6 →
        0 ≤ (σ 0 0 0 0) ∧ (σ 0 0 0 0) < 6 ∧
        ∀ σ7 : Mem, σ7 = up σ 0 0 1 (σ 0 0 0 0) l1 →
        ∀ σ8 : Mem, σ8 = up σ7 0 0 0 0 ((σ7 0 0 0 0) + 1) →
        Pg_restart σ8 (fun σ9 =>
        Q ((σ9 0 0 0 0) - 1) σ9)) ∧
      (6 ≤ (σ 0 0 0 0) →
        Q (-3) σ))) ∧
    (4 < l1 →
      Sr_choice_10 Q σ))))

def Sr_price_34 (Q : Int → Mem → Prop) (l1 : Int) (l2 : Int) (l3 : Int) (σ : Mem) : Prop :=
  0 ≤ ((l1 * 4) + l2) ∧ ((l1 * 4) + l2) < 24 ∧
  ∀ σ1 : Mem, σ1 = up σ 0 0 2 ((l1 * 4) + l2) l3 →
  Pg_restart σ1 (fun σ2 =>
  Q 1 σ2)

def Sr_price_31 (Q : Int → Mem → Prop) (σ : Mem) : Prop :=
  Q (-2) σ

def Sr_price (l1 : Int) (l2 : Int) (l3 : Int) (σ : Mem) (Q : Int → Mem → Prop) : Prop :=
  Ch_knowsValue l1 l2 σ (fun r1 σ1 =>
  InR r1 ∧
  ((r1 ≠ 0 →
    InR l3 ∧
    ((l3 = (-4) →
      Sr_price_34 Q l1 l2 l3 σ1) ∧
    (l3 ≠ (-4) →
      InR l3 ∧
      ((l3 < 0 →
        Sr_price_31 Q σ1) ∧
      (0 ≤ l3 →
        InR l3 ∧
        ((l3 ≤ 200 →
          Sr_price_34 Q l1 l2 l3 σ1) ∧
        (200 < l3 →
          Sr_price_31 Q σ1))))))) ∧
  (r1 = 0 →
    Q (-1) σ1)))

def Sr_isWeight_16 (Q : Int → Mem → Prop) (s0 : Int) (σ : Mem) : Prop :=
  (s0 = 0 ∨ s0 = 1) ∧ Q s0 σ

def Sr_isWeight_15 (Q : Int → Mem → Prop) (σ : Mem) : Prop :=
  Sr_isWeight_16 Q 0 σ

def Sr_isWeight (l0 : Int) (σ : Mem) (Q : Int → Mem → Prop) : Prop :=
  InR l0 ∧
  ((l0 < 1 →
    Sr_isWeight_15 Q σ) ∧
  (1 ≤ l0 →
    InR l0 ∧
    ((20 < l0 →
      Sr_isWeight_15 Q σ) ∧
    (l0 ≤ 20 →
      Sr_isWeight_16 Q 1 σ))))

def Sr_future (l1 : Int) (σ : Mem) (Q : Int → Mem → Prop) : Prop :=
  Sr_isWeight l1 σ (fun r1 σ1 =>
  InR r1 ∧
  ((r1 ≠ 0 →
    InR (σ1 2 0 0 0) ∧
    (((σ1 2 0 0 0) < 4 →
      0 ≤ (σ1 2 0 0 0) ∧ (σ1 2 0 0 0) < 4 ∧
      ∀ σ5 : Mem, σ5 = up σ1 2 0 1 (σ1 2 0 0 0) l1 →
      ∀ σ6 : Mem, σ6 = up σ5 2 0 0 0 ((σ5 2 0 0 0) + 1) →
      Pg_restart σ6 (fun σ7 =>
      Q ((σ7 2 0 0 0) - 1) σ7)) ∧
    (4 ≤ (σ1 2 0 0 0) →
      Q (-3) σ1))) ∧
  (r1 = 0 →
    Q (-2) σ1)))

def Sr_weight (l1 : Int) (l2 : Int) (σ : Mem) (Q : Int → Mem → Prop) : Prop :=
  Fu_knows l1 σ (fun r1 σ1 =>
  InR r1 ∧
  ((r1 ≠ 0 →
    Sr_isWeight l2 σ1 (fun r3 σ3 =>
    InR r3 ∧
    ((r3 ≠ 0 →
      0 ≤ l1 ∧ l1 < 4 ∧
      ∀ x6 : Int, x6 = (σ3 2 0 1 l1) →
      0 ≤ l1 ∧ l1 < 4 ∧
      ∀ σ7 : Mem, σ7 = up σ3 2 0 1 l1 l2 →
      Pg_restart σ7 (fun σ8 =>
      Q x6 σ8)) ∧
    (r3 = 0 →
      Q (-2) σ3)))) ∧
  (r1 = 0 →
    Q (-1) σ1)))

def Sr_part (σ : Mem) (Q : Int → Mem → Prop) : Prop :=
  InR (σ 5 0 3 0) ∧
  (((σ 5 0 3 0) < 4 →
    ∀ σ3 : Mem, σ3 = up σ 5 0 3 0 ((σ 5 0 3 0) + 1) →
    Pg_restart σ3 (fun σ4 =>
    Q ((σ4 5 0 3 0) - 1) σ4)) ∧
  (4 ≤ (σ 5 0 3 0) →
    Q (-3) σ))

def Sr_knowsPart_17 (Q : Int → Mem → Prop) (s0 : Int) (σ : Mem) : Prop :=
  (s0 = 0 ∨ s0 = 1) ∧ Q s0 σ

def Sr_knowsPart_16 (Q : Int → Mem → Prop) (σ : Mem) : Prop :=
  Sr_knowsPart_17 Q 0 σ

def Sr_knowsPart (l1 : Int) (σ : Mem) (Q : Int → Mem → Prop) : Prop :=
  InR l1 ∧
  ((l1 < 0 →
    Sr_knowsPart_16 Q σ) ∧
  (0 ≤ l1 →
    InR l1 ∧
    InR (σ 5 0 3 0) ∧
    (((σ 5 0 3 0) ≤ l1 →
      Sr_knowsPart_16 Q σ) ∧
    (l1 < (σ 5 0 3 0) →
      Sr_knowsPart_17 Q 1 σ))))

def Sr_retell (l1 : Int) (σ : Mem) (Q : Mem → Prop) : Prop :=
  0 ≤ l1 ∧ l1 < 4 ∧
  Pa_forget l1 σ (fun σ2 =>
  Cu_takeAway l1 σ2 (fun σ3 =>
  Pg_restart σ3 (fun σ4 =>
  Q σ4)))

def Sr_join_19 (Q : Int → Mem → Prop) (σ : Mem) : Prop :=
  Q (-1) σ

def Sr_join (l1 : Int) (l2 : Int) (σ : Mem) (Q : Int → Mem → Prop) : Prop :=
  Sr_knowsPart l1 σ (fun r1 σ1 =>
  InR r1 ∧
  ((r1 = 0 →
    Sr_join_19 Q σ1) ∧
  (r1 ≠ 0 →
    Ch_knows l2 σ1 (fun r3 σ3 =>
    InR r3 ∧
    ((r3 ≠ 0 →
      0 ≤ l1 ∧ l1 < 4 ∧
      Pa_isJoinedTo l1 l2 σ3 (fun r6 σ6 =>
      InR r6 ∧
      ((r6 = 0 →
        0 ≤ l1 ∧ l1 < 4 ∧
        InR (σ6 3 l1 0 0) ∧
        (((σ6 3 l1 0 0) < 3 →
          0 ≤ l1 ∧ l1 < 4 ∧
          0 ≤ l2 ∧ l2 < 6 ∧
          Pa_joinTo l1 l2 (σ6 0 0 1 l2) σ6 (fun σ13 =>
          Sr_retell l1 σ13 (fun σ14 =>
          0 ≤ l1 ∧ l1 < 4 ∧
          Q (σ14 3 l1 0 0) σ14))) ∧
        (3 ≤ (σ6 3 l1 0 0) →
          Q (-3) σ6))) ∧
      (r6 ≠ 0 →
        Q (-4) σ6)))) ∧
    (r3 = 0 →
      Sr_join_19 Q σ3))))))

def Sr_local_30 (Q : Int → Mem → Prop) (σ : Mem) : Prop :=
  Q (-2) σ

def Sr_local (l1 : Int) (l2 : Int) (l3 : Int) (σ : Mem) (Q : Int → Mem → Prop) : Prop :=
  Sr_knowsPart l1 σ (fun r1 σ1 =>
  InR r1 ∧
  ((r1 ≠ 0 →
    InR l2 ∧
    ((l2 < 1 →
      Sr_local_30 Q σ1) ∧
    (1 ≤ l2 →
      InR l2 ∧
      ((3 < l2 →
        Sr_local_30 Q σ1) ∧
      (l2 ≤ 3 →
        InR l3 ∧
        ((l3 < 0 →
          Sr_local_30 Q σ1) ∧
        (0 ≤ l3 →
          InR l3 ∧
          ((l3 ≤ 50 →
            0 ≤ l1 ∧ l1 < 4 ∧
            InR (σ1 3 l1 3 0) ∧
            (((σ1 3 l1 3 0) < 4 →
              0 ≤ (σ1 3 l1 3 0) ∧ (σ1 3 l1 3 0) < 4 ∧
              ∀ σ13 : Mem, σ13 = up σ1 3 l1 4 (σ1 3 l1 3 0) l2 →
              0 ≤ (σ13 3 l1 3 0) ∧ (σ13 3 l1 3 0) < 4 ∧
              ∀ σ14 : Mem, σ14 = up σ13 3 l1 5 (σ13 3 l1 3 0) l3 →
              ∀ σ15 : Mem, σ15 = up σ14 3 l1 3 0 ((σ14 3 l1 3 0) + 1) →
              Sr_retell l1 σ15 (fun σ16 =>
              Q ((σ16 3 l1 3 0) - 1) σ16)) ∧
            (4 ≤ (σ1 3 l1 3 0) →
              Q (-3) σ1))) ∧
          (50 < l3 →
            Sr_local_30 Q σ1))))))))) ∧
  (r1 = 0 →
    Q (-1) σ1)))

def Sr_isWithin_16 (Q : Int → Mem → Prop) (s0 : Int) (σ : Mem) : Prop :=
  (s0 = 0 ∨ s0 = 1) ∧ Q s0 σ

def Sr_isWithin_15 (Q : Int → Mem → Prop) (σ : Mem) : Prop :=
  Sr_isWithin_16 Q 0 σ

def Sr_isWithin (l0 : Int) (l1 : Int) (σ : Mem) (Q : Int → Mem → Prop) : Prop :=
  InR l0 ∧
  InR (-l1) ∧
  ((l0 < (-l1) →
    Sr_isWithin_15 Q σ) ∧
  ((-l1) ≤ l0 →
    InR l0 ∧
    InR l1 ∧
    ((l1 < l0 →
      Sr_isWithin_15 Q σ) ∧
    (l0 ≤ l1 →
      Sr_isWithin_16 Q 1 σ))))

def Sr_row (l1 : Int) (l2 : Int) (σ : Mem) (Q : Int → Mem → Prop) : Prop :=
  Sr_knowsPart l1 σ (fun r1 σ1 =>
  InR r1 ∧
  ((r1 ≠ 0 →
    Sr_isWithin l2 99 σ1 (fun r3 σ3 =>
    InR r3 ∧
    ((r3 ≠ 0 →
      0 ≤ l1 ∧ l1 < 4 ∧
      InR (σ3 3 l1 6 0) ∧
      (((σ3 3 l1 6 0) < 6 →
        0 ≤ (σ3 3 l1 6 0) ∧ (σ3 3 l1 6 0) < 6 ∧
        ∀ σ8 : Mem, σ8 = up σ3 3 l1 7 (σ3 3 l1 6 0) l2 →
        ∀ σ9 : Mem, σ9 = up σ8 3 l1 6 0 ((σ8 3 l1 6 0) + 1) →
        Sr_retell l1 σ9 (fun σ10 =>
        Q ((σ10 3 l1 6 0) - 1) σ10)) ∧
      (6 ≤ (σ3 3 l1 6 0) →
        Q (-3) σ3))) ∧
    (r3 = 0 →
      Q (-2) σ3)))) ∧
  (r1 = 0 →
    Q (-1) σ1)))

def Sr_knowsRow_30 (Q : Int → Mem → Prop) (s0 : Int) (σ : Mem) : Prop :=
  (s0 = 0 ∨ s0 = 1) ∧ Q s0 σ

def Sr_knowsRow_29 (Q : Int → Mem → Prop) (σ : Mem) : Prop :=
  Sr_knowsRow_30 Q 0 σ

def Sr_knowsRow (l1 : Int) (l2 : Int) (σ : Mem) (Q : Int → Mem → Prop) : Prop :=
  Sr_knowsPart l1 σ (fun r1 σ1 =>
  InR r1 ∧
  ((r1 = 0 →
    Sr_knowsRow_29 Q σ1) ∧
  (r1 ≠ 0 →
    InR l2 ∧
    ((l2 < 0 →
      Sr_knowsRow_29 Q σ1) ∧
    (0 ≤ l2 →
      0 ≤ l1 ∧ l1 < 4 ∧
      InR l2 ∧
      InR (σ1 3 l1 6 0) ∧
      (((σ1 3 l1 6 0) ≤ l2 →
        Sr_knowsRow_29 Q σ1) ∧
      (l2 < (σ1 3 l1 6 0) →
        Sr_knowsRow_30 Q 1 σ1)))))))

def Sr_weigh_78 (Q : Int → Mem → Prop) (l1 : Int) (l5 : Int) (l6 : Int) (s0 : Int) (s1 : Int) (σ : Mem) : Prop :=
  ∀ x1 : Int, x1 = (s0 + s1) →
  0 ≤ x1 ∧ x1 < 60 ∧
  ∀ x3 : Int, x3 = (σ 3 l6 8 x1) →
  0 ≤ x1 ∧ x1 < 60 ∧
  ∀ σ4 : Mem, σ4 = up σ 3 l6 8 x1 l5 →
  Sr_retell l1 σ4 (fun σ5 =>
  Q x3 σ5)

def Sr_weigh_48 (Q : Int → Mem → Prop) (l1 : Int) (l2 : Int) (l3 : Int) (l4 : Int) (l5 : Int) (l6 : Int) (σ : Mem) : Prop :=
  Sr_isWithin l5 9 σ (fun r1 σ1 =>
  InR r1 ∧
  ((r1 ≠ 0 →
    InR l3 ∧
    ((l3 = 0 →
      Sr_weigh_78 Q l1 l5 l6 (l2 * 10) l4 σ1) ∧
    (l3 ≠ 0 →
      Sr_weigh_78 Q l1 l5 l6 (l2 * 10) (4 + l4) σ1))) ∧
  (r1 = 0 →
    Q (-2) σ1)))

def Sr_weigh_46 (Q : Int → Mem → Prop) (σ : Mem) : Prop :=
  Q (-1) σ

def Sr_weigh (l1 : Int) (l2 : Int) (l3 : Int) (l4 : Int) (l5 : Int) (σ : Mem) (Q : Int → Mem → Prop) : Prop :=
  Sr_knowsRow l1 l2 σ (fun r1 σ1 =>
  InR r1 ∧
  ((r1 ≠ 0 →
    0 ≤ l1 ∧ l1 < 4 ∧
    InR l3 ∧
    ((l3 = 0 →
      Pa_knowsLocal l1 l4 σ1 (fun r5 σ5 =>
      InR r5 ∧
      ((r5 ≠ 0 →
        Sr_weigh_48 Q l1 l2 l3 l4 l5 l1 σ5) ∧
      (r5 = 0 →
        Sr_weigh_46 Q σ5)))) ∧
    (l3 ≠ 0 →
      Pa_isJoinedTo l1 l4 σ1 (fun r7 σ7 =>
      InR r7 ∧
      ((r7 ≠ 0 →
        Sr_weigh_48 Q l1 l2 l3 l4 l5 l1 σ7) ∧
      (r7 = 0 →
        Sr_weigh_46 Q σ7)))))) ∧
  (r1 = 0 →
    Q (-1) σ1)))

def Sr_shift_20 (Q : Int → Mem → Prop) (σ : Mem) : Prop :=
  Q (-1) σ

def Sr_shift (l1 : Int) (l2 : Int) (l3 : Int) (l4 : Int) (σ : Mem) (Q : Int → Mem → Prop) : Prop :=
  Fu_knows l1 σ (fun r1 σ1 =>
  InR r1 ∧
  ((r1 = 0 →
    Sr_shift_20 Q σ1) ∧
  (r1 ≠ 0 →
    Sr_knowsRow l2 l3 σ1 (fun r3 σ3 =>
    InR r3 ∧
    ((r3 ≠ 0 →
      Sr_isWithin l4 99 σ3 (fun r5 σ5 =>
      InR r5 ∧
      ((r5 ≠ 0 →
        ∀ x7 : Int, x7 = ((l1 * 6) + l3) →
        0 ≤ l2 ∧ l2 < 4 ∧
        0 ≤ x7 ∧ x7 < 24 ∧
        ∀ x10 : Int, x10 = (σ5 3 l2 9 x7) →
        0 ≤ l2 ∧ l2 < 4 ∧
        0 ≤ x7 ∧ x7 < 24 ∧
        ∀ σ12 : Mem, σ12 = up σ5 3 l2 9 x7 l4 →
        Sr_retell l2 σ12 (fun σ13 =>
        Q x10 σ13)) ∧
      (r5 = 0 →
        Q (-2) σ5)))) ∧
    (r3 = 0 →
      Sr_shift_20 Q σ3))))))

def Sr_costOfStage_113 (k54 : Int → Int → Int → Int → Mem → Prop) (Q : Int → Mem → Prop) (l1 : Int) (l2 : Int) (l3 : Int) (l4 : Int) (σ : Mem) : Prop :=
  ∀ x1 : Int, x1 = (l4 + 1) →
  k54 l1 l2 l3 x1 σ

def Sr_costOfStage_54 (Q : Int → Mem → Prop) : Nat → Int → Int → Int → Int → Mem → Prop
  | 0, _, _, _, _, _ => False
  | n + 1, l1, l2, l3, l4, σ =>
  InR l4 ∧
  InR (σ 5 0 3 0) ∧
  (((σ 5 0 3 0) ≤ l4 →
    Q l3 σ) ∧
  (l4 < (σ 5 0 3 0) →
    0 ≤ l4 ∧ l4 < 4 ∧
    Pa_settledAt l4 σ (fun r4 σ4 =>
    InR r4 ∧
    InR l1 ∧
    ((r4 ≠ l1 →
      Sr_costOfStage_113 (fun z0 z1 z2 z3 z4 => Sr_costOfStage_54 Q n z0 z1 z2 z3 z4) Q l1 l2 l3 l4 σ4) ∧
    (r4 = l1 →
      0 ≤ l4 ∧ l4 < 4 ∧
      Pa_costTo l4 5 0 6 l2 σ4 (fun r8 σ8 =>
      InR r8 ∧
      ((r8 ≠ (-4) →
        ∀ x11 : Int, x11 = (l3 + r8) →
        Sr_costOfStage_113 (fun z0 z1 z2 z3 z4 => Sr_costOfStage_54 Q n z0 z1 z2 z3 z4) Q l1 l2 x11 l4 σ8) ∧
      (r8 = (-4) →
        Q (-4) σ8))))))))

def Sr_costOfStage_51 (Q : Int → Mem → Prop) (l1 : Int) (l2 : Int) (l3 : Int) (σ : Mem) : Prop :=
  ∃ nn, Sr_costOfStage_54 Q nn l1 l2 l3 0 σ

def Sr_costOfStage (l1 : Int) (l2 : Int) (σ : Mem) (Q : Int → Mem → Prop) : Prop :=
  InR l1 ∧
  ((l1 ≤ 0 →
    Sr_costOfStage_51 Q l1 l2 0 σ) ∧
  (0 < l1 →
    0 ≤ (l1 - 1) ∧ (l1 - 1) < 6 ∧
    0 ≤ (((l1 - 1) * 4) + (σ 5 0 6 (l1 - 1))) ∧ (((l1 - 1) * 4) + (σ 5 0 6 (l1 - 1))) < 24 ∧
    ∀ x4 : Int, x4 = (σ 0 0 2 (((l1 - 1) * 4) + (σ 5 0 6 (l1 - 1)))) →
    InR x4 ∧
    ((x4 ≠ (-4) →
      Fu_sumOfWeights σ (fun r7 σ7 =>
      ∀ x8 : Int, x8 = (x4 * r7) →
      Sr_costOfStage_51 Q l1 l2 x8 σ7)) ∧
    (x4 = (-4) →
      Q (-4) σ))))

def Sr_followTried_74 (k10 : Int → Int → Int → Mem → Prop) (Q : Int → Mem → Prop) (l2 : Int) (l3 : Int) (l4 : Int) (σ : Mem) : Prop :=
  ∀ x1 : Int, x1 = (l4 + 1) →
  k10 l2 l3 x1 σ

def Sr_followTried_10 (Q : Int → Mem → Prop) : Nat → Int → Int → Int → Mem → Prop
  | 0, _, _, _, _ => False
  | n + 1, l2, l3, l4, σ =>
  InR l4 ∧
  InR (σ 0 0 0 0) ∧
  (((σ 0 0 0 0) < l4 →
    ∀ σ3 : Mem, σ3 = up σ 5 0 9 0 l3 →
    ∀ σ4 : Mem, σ4 = cp σ3 5 0 6 5 0 8 6 →
    Q (σ4 0 0 0 0) σ4) ∧
  (l4 ≤ (σ 0 0 0 0) →
    0 ≤ l4 ∧ l4 < 7 ∧
    ∀ σ5 : Mem, σ5 = up σ 5 0 7 l4 l3 →
    Sr_costOfStage l4 l2 σ5 (fun r6 σ6 =>
    InR r6 ∧
    ((r6 ≠ (-4) →
      ∀ x9 : Int, x9 = (l3 + r6) →
      InR (σ6 5 0 9 0) ∧
      (((σ6 5 0 9 0) = (-4) →
        Sr_followTried_74 (fun z0 z1 z2 z3 => Sr_followTried_10 Q n z0 z1 z2 z3) Q l2 x9 l4 σ6) ∧
      ((σ6 5 0 9 0) ≠ (-4) →
        InR x9 ∧
        InR (σ6 5 0 9 0) ∧
        ((x9 < (σ6 5 0 9 0) →
          Sr_followTried_74 (fun z0 z1 z2 z3 => Sr_followTried_10 Q n z0 z1 z2 z3) Q l2 x9 l4 σ6) ∧
        ((σ6 5 0 9 0) ≤ x9 →
          Q l4 σ6))))) ∧
    (r6 = (-4) →
      Q l4 σ6)))))

def Sr_followTried (l1 : Int) (l2 : Int) (σ : Mem) (Q : Int → Mem → Prop) : Prop :=
  0 ≤ l1 ∧ l1 < 7 ∧
  ∀ x2 : Int, x2 = (σ 5 0 7 l1) →
  ∃ nn, Sr_followTried_10 Q nn l2 x2 l1 σ

def Sr_moveOn_2 (Q : Int → Mem → Prop) : Nat → Int → Mem → Prop
  | 0, _, _ => False
  | n + 1, l2, σ =>
  InR l2 ∧
  ((l2 ≤ 0 →
    Q 0 σ) ∧
  (0 < l2 →
    0 ≤ (l2 - 1) ∧ (l2 - 1) < 6 ∧
    0 ≤ (l2 - 1) ∧ (l2 - 1) < 6 ∧
    InR ((σ 5 0 6 (l2 - 1)) + 1) ∧
    InR (σ 0 0 1 (l2 - 1)) ∧
    (((σ 0 0 1 (l2 - 1)) ≤ ((σ 5 0 6 (l2 - 1)) + 1) →
      0 ≤ (l2 - 1) ∧ (l2 - 1) < 6 ∧
      ∀ σ6 : Mem, σ6 = up σ 5 0 6 (l2 - 1) 0 →
      ∀ x7 : Int, x7 = (l2 + (-1)) →
      Sr_moveOn_2 Q n x7 σ6) ∧
    (((σ 5 0 6 (l2 - 1)) + 1) < (σ 0 0 1 (l2 - 1)) →
      0 ≤ (l2 - 1) ∧ (l2 - 1) < 6 ∧
      0 ≤ (l2 - 1) ∧ (l2 - 1) < 6 ∧
      ∀ σ9 : Mem, σ9 = up σ 5 0 6 (l2 - 1) ((σ 5 0 6 (l2 - 1)) + 1) →
      Q l2 σ9))))

def Sr_moveOn (l1 : Int) (σ : Mem) (Q : Int → Mem → Prop) : Prop :=
  ∃ nn, Sr_moveOn_2 Q nn l1 σ

def Sr_findLeast_60 (Q : Mem → Prop) (σ : Mem) : Prop :=
  Q σ

def Sr_findLeast_53 (k21 : Int → Int → Int → Int → Mem → Prop) (Q : Mem → Prop) (l1 : Int) (l2 : Int) (l4 : Int) (s0 : Int) (σ : Mem) : Prop :=
  ∀ x1 : Int, x1 = (l4 + 1) →
  k21 l1 l2 s0 x1 σ

def Sr_findLeast_21 (Q : Mem → Prop) : Nat → Int → Int → Int → Int → Mem → Prop
  | 0, _, _, _, _, _ => False
  | n + 1, l1, l2, l3, l4, σ =>
  InR l4 ∧
  ((4096 ≤ l4 →
    Sr_findLeast_60 Q σ) ∧
  (l4 < 4096 →
    InR l3 ∧
    ((l3 = 0 →
      Sr_findLeast_60 Q σ) ∧
    (l3 ≠ 0 →
      Sr_followTried l2 l1 σ (fun r4 σ4 =>
      Sr_moveOn r4 σ4 (fun r5 σ5 =>
      InR r5 ∧
      ((r5 ≤ 0 →
        Sr_findLeast_53 (fun z0 z1 z2 z3 z4 => Sr_findLeast_21 Q n z0 z1 z2 z3 z4) Q l1 r5 l4 0 σ5) ∧
      (0 < r5 →
        Sr_findLeast_53 (fun z0 z1 z2 z3 z4 => Sr_findLeast_21 Q n z0 z1 z2 z3 z4) Q l1 r5 l4 1 σ5))))))))

def Sr_findLeast (l1 : Int) (σ : Mem) (Q : Mem → Prop) : Prop :=
  ∀ σ1 : Mem, σ1 = up σ 5 0 9 0 (-4) →
  ∀ σ2 : Mem, σ2 = fl σ1 5 0 6 6 0 →
  ∃ nn, Sr_findLeast_21 Q nn l1 0 1 0 σ2

def Sr_bringCut (l1 : Int) (l2 : Int) (l3 : Int) (l4 : Int) (σ : Mem) (Q : Mem → Prop) : Prop :=
  InR (σ 1 0 0 0) ∧
  (((σ 1 0 0 0) < 200 →
    0 ≤ l1 ∧ l1 < 4 ∧
    Pa_findReasons l1 l3 l2 l4 σ (fun σ4 =>
    0 ≤ l1 ∧ l1 < 4 ∧
    Pa_raiseFloors l1 l2 l4 σ4 (fun σ6 =>
    0 ≤ l1 ∧ l1 < 4 ∧
    Cu_add l1 l2 l4 (σ6 4 0 0 0) l1 σ6 (fun σ8 =>
    Q σ8)))) ∧
  (200 ≤ (σ 1 0 0 0) →
    Q σ))

def Sr_costOfValues_4 (Q : Int → Mem → Prop) : Nat → Nat → Int → Nat → Int → Int → Mem → Prop
  | 0, _, _, _, _, _, _ => False
  | n + 1, l1c, l1p, l1k, l2, l3, σ =>
  InR l3 ∧
  InR (σ 0 0 0 0) ∧
  (((σ 0 0 0 0) ≤ l3 →
    Fu_sumOfWeights σ (fun r3 σ3 =>
    Q (l2 * r3) σ3)) ∧
  (l3 < (σ 0 0 0 0) →
    0 ≤ l3 ∧ l3 < 6 ∧
    0 ≤ ((l3 * 4) + (σ l1c l1p l1k l3)) ∧ ((l3 * 4) + (σ l1c l1p l1k l3)) < 24 ∧
    ∀ x6 : Int, x6 = (l2 + (σ 0 0 2 ((l3 * 4) + (σ l1c l1p l1k l3)))) →
    ∀ x7 : Int, x7 = (l3 + 1) →
    Sr_costOfValues_4 Q n l1c l1p l1k x6 x7 σ))

def Sr_costOfValues (l1c : Nat) (l1p : Int) (l1k : Nat) (σ : Mem) (Q : Int → Mem → Prop) : Prop :=
  ∃ nn, Sr_costOfValues_4 Q nn l1c l1p l1k 0 0 σ

def Sr_hearParts_165 (Q : Int → Mem → Prop) (s0 : Int) (σ : Mem) : Prop :=
  Q s0 σ

def Sr_hearParts_143 (k44 : Int → Int → Int → Int → Int → Mem → Prop) (Q : Int → Mem → Prop) (l2 : Int) (l3 : Int) (l4 : Int) (l5 : Int) (l6 : Int) (σ : Mem) : Prop :=
  ∀ x1 : Int, x1 = (l6 + 1) →
  k44 l2 l3 l4 l5 x1 σ

def Sr_hearParts_115 (k44 : Int → Int → Int → Int → Int → Mem → Prop) (Q : Int → Mem → Prop) (l2 : Int) (l3 : Int) (l4 : Int) (l5 : Int) (l6 : Int) (l7 : Int) (σ : Mem) : Prop :=
  InR l7 ∧
  ((l7 ≠ (-4) →
    0 ≤ l6 ∧ l6 < 4 ∧
    ∀ x4 : Int, x4 = (l2 + ((σ 2 0 1 l6) * l7)) →
    Sr_hearParts_143 k44 Q x4 l3 l4 l5 l6 σ) ∧
  (l7 = (-4) →
    Sr_hearParts_143 k44 Q l2 0 l4 l5 l6 σ))

def Sr_hearParts_103 (k44 : Int → Int → Int → Int → Int → Mem → Prop) (Q : Int → Mem → Prop) (l2 : Int) (l3 : Int) (l4 : Int) (l5 : Int) (l6 : Int) (l7 : Int) (σ : Mem) : Prop :=
  Sr_bringCut l4 l6 l5 l7 σ (fun σ1 =>
  Sr_hearParts_115 k44 Q l2 l3 l4 l5 l6 l7 σ1)

def Sr_hearParts_44 (k19 : Int → Int → Int → Mem → Prop) (Q : Int → Mem → Prop) : Nat → Int → Int → Int → Int → Int → Mem → Prop
  | 0, _, _, _, _, _, _ => False
  | n + 1, l2, l3, l4, l5, l6, σ =>
  InR l6 ∧
  InR (σ 2 0 0 0) ∧
  (((σ 2 0 0 0) ≤ l6 →
    ∀ x3 : Int, x3 = (l4 + 1) →
    k19 l2 l3 x3 σ) ∧
  (l6 < (σ 2 0 0 0) →
    0 ≤ l4 ∧ l4 < 4 ∧
    Pa_answerTo l4 l5 l6 σ (fun r5 σ5 =>
    InR r5 ∧
    ((r5 = (-4) →
      Sr_hearParts_103 (fun z0 z1 z2 z3 z4 z5 => Sr_hearParts_44 k19 Q n z0 z1 z2 z3 z4 z5) Q l2 l3 l4 l5 l6 r5 σ5) ∧
    (r5 ≠ (-4) →
      0 ≤ l4 ∧ l4 < 4 ∧
      0 ≤ ((l6 * 64) + l5) ∧ ((l6 * 64) + l5) < 256 ∧
      InR r5 ∧
      InR (σ5 3 l4 11 ((l6 * 64) + l5)) ∧
      ((r5 ≤ (σ5 3 l4 11 ((l6 * 64) + l5)) →
        Sr_hearParts_115 (fun z0 z1 z2 z3 z4 z5 => Sr_hearParts_44 k19 Q n z0 z1 z2 z3 z4 z5) Q l2 l3 l4 l5 l6 r5 σ5) ∧
      ((σ5 3 l4 11 ((l6 * 64) + l5)) < r5 →
        Sr_hearParts_103 (fun z0 z1 z2 z3 z4 z5 => Sr_hearParts_44 k19 Q n z0 z1 z2 z3 z4 z5) Q l2 l3 l4 l5 l6 r5 σ5)))))))

def Sr_hearParts_19 (Q : Int → Mem → Prop) : Nat → Int → Int → Int → Mem → Prop
  | 0, _, _, _, _ => False
  | n + 1, l2, l3, l4, σ =>
  InR l4 ∧
  InR (σ 5 0 3 0) ∧
  (((σ 5 0 3 0) ≤ l4 →
    InR l3 ∧
    ((l3 = 0 →
      Sr_hearParts_165 Q (-4) σ) ∧
    (l3 ≠ 0 →
      Sr_hearParts_165 Q l2 σ))) ∧
  (l4 < (σ 5 0 3 0) →
    0 ≤ l4 ∧ l4 < 4 ∧
    Pa_spotOf l4 4 0 4 σ (fun r5 σ5 =>
    ∃ nn, Sr_hearParts_44 (fun z0 z1 z2 z3 => Sr_hearParts_19 Q n z0 z1 z2 z3) Q nn l2 l3 l4 r5 0 σ5)))

def Sr_hearParts (σ : Mem) (Q : Int → Mem → Prop) : Prop :=
  Sr_costOfValues 4 0 4 σ (fun r1 σ1 =>
  ∃ nn, Sr_hearParts_19 Q nn r1 1 0 σ1)

def Sr_run_171 (Q : Int → Mem → Prop) (s0 : Int) (σ : Mem) : Prop :=
  Q s0 σ

def Sr_run_140 (Q : Int → Mem → Prop) (σ : Mem) : Prop :=
  InR (σ 4 0 1 0) ∧
  (((σ 4 0 1 0) ≠ 1 →
    InR (σ 4 0 1 0) ∧
    (((σ 4 0 1 0) ≠ 2 →
      Sr_run_171 Q 2 σ) ∧
    ((σ 4 0 1 0) = 2 →
      Sr_run_171 Q 0 σ))) ∧
  ((σ 4 0 1 0) = 1 →
    Sr_run_171 Q 1 σ))

def Sr_run_134 (k16 : Int → Int → Mem → Prop) (Q : Int → Mem → Prop) (l1 : Int) (l2 : Int) (σ : Mem) : Prop :=
  ∀ x1 : Int, x1 = (l2 + 1) →
  k16 l1 x1 σ

def Sr_run_80 (k16 : Int → Int → Mem → Prop) (Q : Int → Mem → Prop) (l1 : Int) (l2 : Int) (l3 : Int) (σ : Mem) : Prop :=
  ∀ σ1 : Mem, σ1 = up σ 4 0 0 0 ((σ 4 0 0 0) + 1) →
  InR (σ1 4 0 1 0) ∧
  (((σ1 4 0 1 0) ≠ 0 →
    Sr_run_134 k16 Q l1 l2 σ1) ∧
  ((σ1 4 0 1 0) = 0 →
    InR (σ1 1 0 0 0) ∧
    InR l3 ∧
    (((σ1 1 0 0 0) ≠ l3 →
      Sr_run_134 k16 Q l1 l2 σ1) ∧
    ((σ1 1 0 0 0) = l3 →
      ∀ σ5 : Mem, σ5 = up σ1 4 0 0 0 ((σ1 4 0 0 0) + ((l1 - 1) - l2)) →
      Sr_run_140 Q σ5))))

def Sr_run_16 (Q : Int → Mem → Prop) : Nat → Int → Int → Mem → Prop
  | 0, _, _, _ => False
  | n + 1, l1, l2, σ =>
  InR l2 ∧
  InR l1 ∧
  ((l1 ≤ l2 →
    Sr_run_140 Q σ) ∧
  (l2 < l1 →
    InR (σ 4 0 1 0) ∧
    (((σ 4 0 1 0) ≠ 0 →
      Sr_run_140 Q σ) ∧
    ((σ 4 0 1 0) = 0 →
      ∀ x4 : Int, x4 = (σ 1 0 0 0) →
      Sr_findLeast 1 σ (fun σ5 =>
      Pg_takeMaster 5 0 8 (σ5 5 0 9 0) σ5 (fun σ6 =>
      Pg_hasMaster σ6 (fun r7 σ7 =>
      InR r7 ∧
      ((r7 = 0 →
        Sr_run_80 (fun z0 z1 z2 => Sr_run_16 Q n z0 z1 z2) Q l1 l2 x4 σ7) ∧
      (r7 ≠ 0 →
        Sr_hearParts σ7 (fun r9 σ9 =>
        Pg_takeCost r9 σ9 (fun σ10 =>
        Sr_run_80 (fun z0 z1 z2 => Sr_run_16 Q n z0 z1 z2) Q l1 l2 x4 σ10)))))))))))

def Sr_run_11 (Q : Int → Mem → Prop) (σ : Mem) : Prop :=
  Q (-2) σ

def Sr_run (l1 : Int) (σ : Mem) (Q : Int → Mem → Prop) : Prop :=
  InR l1 ∧
  ((l1 < 1 →
    Sr_run_11 Q σ) ∧
  (1 ≤ l1 →
    InR l1 ∧
    ((l1 ≤ 50 →
      ∃ nn, Sr_run_16 Q nn l1 0 σ) ∧
    (50 < l1 →
      Sr_run_11 Q σ))))

def Sr_told (l1 : Int) (σ : Mem) (Q : Int → Mem → Prop) : Prop :=
  InR l1 ∧
  ((l1 = 0 →
    Q (σ 4 0 0 0) σ) ∧
  ((l1 = 1 →
    Q (σ 1 0 0 0) σ) ∧
  ((l1 = 2 →
    Q (σ 4 0 2 0) σ) ∧
  ((l1 = 3 →
    Q (σ 4 0 3 0) σ) ∧
  ((l1 = 4 →
    Fu_sumOfWeights σ (fun r2 σ2 =>
    Q r2 σ2)) ∧
  ((l1 = 5 →
    Q (σ 0 0 0 0) σ) ∧
  ((l1 = 6 →
    Q (σ 5 0 3 0) σ) ∧
  ((l1 = 7 →
    Q (σ 2 0 0 0) σ) ∧
  ((l1 = 8 →
    Q (σ 4 0 1 0) σ) ∧
  (l1 < 0 ∨ 8 < l1 →
    Q (-2) σ))))))))))

def Sr_best_37 (Q : Int → Mem → Prop) (s0 : Int) (σ : Mem) : Prop :=
  Q s0 σ

def Sr_best (l1 : Int) (σ : Mem) (Q : Int → Mem → Prop) : Prop :=
  Ch_knows l1 σ (fun r1 σ1 =>
  InR r1 ∧
  ((r1 ≠ 0 →
    Pg_hasBest σ1 (fun r3 σ3 =>
    InR r3 ∧
    ((r3 = 0 →
      Sr_best_37 Q (-4) σ3) ∧
    (r3 ≠ 0 →
      0 ≤ l1 ∧ l1 < 6 ∧
      Sr_best_37 Q (σ3 4 0 5 l1) σ3)))) ∧
  (r1 = 0 →
    Q (-1) σ1)))

def Sr_master_37 (Q : Int → Mem → Prop) (s0 : Int) (σ : Mem) : Prop :=
  Q s0 σ

def Sr_master (l1 : Int) (σ : Mem) (Q : Int → Mem → Prop) : Prop :=
  Ch_knows l1 σ (fun r1 σ1 =>
  InR r1 ∧
  ((r1 ≠ 0 →
    Pg_hasMaster σ1 (fun r3 σ3 =>
    InR r3 ∧
    ((r3 = 0 →
      Sr_master_37 Q (-4) σ3) ∧
    (r3 ≠ 0 →
      0 ≤ l1 ∧ l1 < 6 ∧
      Sr_master_37 Q (σ3 4 0 4 l1) σ3)))) ∧
  (r1 = 0 →
    Q (-1) σ1)))

def Sr_share_70 (Q : Int → Mem → Prop) (s0 : Int) (σ : Mem) : Prop :=
  Q s0 σ

def Sr_share_16 (Q : Int → Mem → Prop) (l1 : Int) (σ : Mem) : Prop :=
  Pg_hasBest σ (fun r1 σ1 =>
  InR r1 ∧
  ((r1 ≠ 0 →
    InR l1 ∧
    ((l1 ≠ (-4) →
      0 ≤ l1 ∧ l1 < 4 ∧
      Pa_costTo l1 4 0 5 0 σ1 (fun r6 σ6 =>
      Sr_share_70 Q r6 σ6)) ∧
    (l1 = (-4) →
      Sr_costOfValues 4 0 5 σ1 (fun r7 σ7 =>
      Sr_share_70 Q r7 σ7)))) ∧
  (r1 = 0 →
    Q (-4) σ1)))

def Sr_share (l1 : Int) (σ : Mem) (Q : Int → Mem → Prop) : Prop :=
  InR l1 ∧
  ((l1 = (-4) →
    Sr_share_16 Q l1 σ) ∧
  (l1 ≠ (-4) →
    Sr_knowsPart l1 σ (fun r3 σ3 =>
    InR r3 ∧
    ((r3 ≠ 0 →
      Sr_share_16 Q l1 σ3) ∧
    (r3 = 0 →
      Q (-1) σ3)))))

def Sr_ask (l1 : Int) (l2 : Int) (σ : Mem) (Q : Int → Mem → Prop) : Prop :=
  Ch_knowsValue l1 l2 σ (fun r1 σ1 =>
  InR r1 ∧
  ((r1 ≠ 0 →
    0 ≤ l1 ∧ l1 < 6 ∧
    ∀ x4 : Int, x4 = (σ1 0 0 3 l1) →
    0 ≤ l1 ∧ l1 < 6 ∧
    ∀ σ5 : Mem, σ5 = up σ1 0 0 3 l1 l2 →
    Q x4 σ5) ∧
  (r1 = 0 →
    Q (-1) σ1)))

def Sr_answer_19 (Q : Int → Mem → Prop) (σ : Mem) : Prop :=
  Q (-1) σ

def Sr_answer (l1 : Int) (l2 : Int) (σ : Mem) (Q : Int → Mem → Prop) : Prop :=
  Sr_knowsPart l1 σ (fun r1 σ1 =>
  InR r1 ∧
  ((r1 = 0 →
    Sr_answer_19 Q σ1) ∧
  (r1 ≠ 0 →
    Fu_knows l2 σ1 (fun r3 σ3 =>
    InR r3 ∧
    ((r3 ≠ 0 →
      0 ≤ l1 ∧ l1 < 4 ∧
      0 ≤ l1 ∧ l1 < 4 ∧
      Pa_spotOf l1 0 0 3 σ3 (fun r7 σ7 =>
      Pa_answerTo l1 r7 l2 σ7 (fun r8 σ8 =>
      Q r8 σ8))) ∧
    (r3 = 0 →
      Sr_answer_19 Q σ3))))))

def Sr_unit_85 (Q : Int → Mem → Prop) (s0 : Int) (σ : Mem) : Prop :=
  Q s0 σ

def Sr_unit_32 (Q : Int → Mem → Prop) (σ : Mem) : Prop :=
  Q (-1) σ

def Sr_unit (l1 : Int) (l2 : Int) (l3 : Int) (σ : Mem) (Q : Int → Mem → Prop) : Prop :=
  Sr_knowsPart l1 σ (fun r1 σ1 =>
  InR r1 ∧
  ((r1 = 0 →
    Sr_unit_32 Q σ1) ∧
  (r1 ≠ 0 →
    Fu_knows l2 σ1 (fun r3 σ3 =>
    InR r3 ∧
    ((r3 = 0 →
      Sr_unit_32 Q σ3) ∧
    (r3 ≠ 0 →
      0 ≤ l1 ∧ l1 < 4 ∧
      Pa_knowsLocal l1 l3 σ3 (fun r6 σ6 =>
      InR r6 ∧
      ((r6 ≠ 0 →
        0 ≤ l1 ∧ l1 < 4 ∧
        0 ≤ l1 ∧ l1 < 4 ∧
        Pa_spotOf l1 0 0 3 σ6 (fun r10 σ10 =>
        Pa_solve l1 r10 l2 σ10 (fun r11 σ11 =>
        InR r11 ∧
        ((r11 ≠ (-4) →
          0 ≤ l1 ∧ l1 < 4 ∧
          0 ≤ l3 ∧ l3 < 4 ∧
          Sr_unit_85 Q (σ11 3 l1 14 l3) σ11) ∧
        (r11 = (-4) →
          Sr_unit_85 Q (-4) σ11))))) ∧
      (r6 = 0 →
        Sr_unit_32 Q σ6)))))))))

def Sr_cut_149 (Q : Int → Mem → Prop) (s0 : Int) (σ : Mem) : Prop :=
  Q s0 σ

def Sr_cut_75 (Q : Int → Mem → Prop) (s0 : Int) (σ : Mem) : Prop :=
  Q s0 σ

def Sr_cut (l1 : Int) (l2 : Int) (σ : Mem) (Q : Int → Mem → Prop) : Prop :=
  Cu_knows l1 σ (fun r1 σ1 =>
  InR r1 ∧
  ((r1 ≠ 0 →
    InR l2 ∧
    ((l2 = 0 →
      0 ≤ l1 ∧ l1 < 200 ∧
      InR (σ1 1 0 3 l1) ∧
      (((σ1 1 0 3 l1) ≠ (-4) →
        Sr_cut_75 Q 1 σ1) ∧
      ((σ1 1 0 3 l1) = (-4) →
        Sr_cut_75 Q 0 σ1))) ∧
    ((l2 = 1 →
      0 ≤ l1 ∧ l1 < 200 ∧
      Q (σ1 1 0 1 l1) σ1) ∧
    ((l2 = 2 →
      0 ≤ l1 ∧ l1 < 200 ∧
      Q (σ1 1 0 2 l1) σ1) ∧
    ((l2 = 3 →
      0 ≤ l1 ∧ l1 < 200 ∧
      Q (σ1 1 0 3 l1) σ1) ∧
    ((l2 = 4 →
      0 ≤ l1 ∧ l1 < 200 ∧
      Q (σ1 1 0 5 l1) σ1) ∧
    ((l2 = 5 →
      0 ≤ l1 ∧ l1 < 200 ∧
      Q (σ1 1 0 4 l1) σ1) ∧
    ((l2 = 6 →
      Cu_isMetBy l1 0 0 3 σ1 (fun r12 σ12 =>
      InR r12 ∧
      ((r12 = 0 →
        Sr_cut_149 Q 0 σ12) ∧
      (r12 ≠ 0 →
        Sr_cut_149 Q 1 σ12)))) ∧
    (l2 < 0 ∨ 6 < l2 →
      Q (-2) σ1))))))))) ∧
  (r1 = 0 →
    Q (-1) σ1)))

def Sr_reason_48 (Q : Int → Mem → Prop) (s0 : Int) (σ : Mem) : Prop :=
  Q s0 σ

def Sr_reason_30 (Q : Int → Mem → Prop) (σ : Mem) : Prop :=
  Sr_reason_48 Q (-4) σ

def Sr_reason (l1 : Int) (l2 : Int) (σ : Mem) (Q : Int → Mem → Prop) : Prop :=
  Cu_knows l1 σ (fun r1 σ1 =>
  InR r1 ∧
  ((r1 ≠ 0 →
    InR l2 ∧
    ((l2 < 0 →
      Sr_reason_30 Q σ1) ∧
    (0 ≤ l2 →
      0 ≤ l1 ∧ l1 < 200 ∧
      InR l2 ∧
      InR (σ1 1 0 5 l1) ∧
      ((l2 < (σ1 1 0 5 l1) →
        0 ≤ ((l1 * 3) + l2) ∧ ((l1 * 3) + l2) < 600 ∧
        Sr_reason_48 Q (σ1 1 0 6 ((l1 * 3) + l2)) σ1) ∧
      ((σ1 1 0 5 l1) ≤ l2 →
        Sr_reason_30 Q σ1))))) ∧
  (r1 = 0 →
    Q (-1) σ1)))

def Sr_judge (σ : Mem) (Q : Int → Mem → Prop) : Prop :=
  Sr_findLeast 0 σ (fun σ1 =>
  Q (σ1 5 0 9 0) σ1)

def Mo_beyond_15 (Q : Int → Mem → Prop) (s0 : Int) (σ : Mem) : Prop :=
  (s0 = 0 ∨ s0 = 1) ∧ Q s0 σ

def Mo_beyond_10 (Q : Int → Mem → Prop) (σ : Mem) : Prop :=
  Mo_beyond_15 Q 1 σ

def Mo_beyond (l0 : Int) (l1 : Int) (l2 : Int) (σ : Mem) (Q : Int → Mem → Prop) : Prop :=
  InR l0 ∧
  InR l1 ∧
  ((l0 < l1 →
    Mo_beyond_10 Q σ) ∧
  (l1 ≤ l0 →
    InR l0 ∧
    InR l2 ∧
    ((l0 ≤ l2 →
      Mo_beyond_15 Q 0 σ) ∧
    (l2 < l0 →
      Mo_beyond_10 Q σ))))

def Mo_anew (σ : Mem) (Q : Mem → Prop) : Prop :=
  ∀ σ1 : Mem, σ1 = up σ 6 0 27 0 0 →
  ∀ σ2 : Mem, σ2 = up σ1 6 0 28 0 0 →
  ∀ σ3 : Mem, σ3 = up σ2 6 0 29 0 0 →
  ∀ σ4 : Mem, σ4 = up σ3 6 0 30 0 0 →
  Q σ4

def Mo_without_156 (k4 : Int → Int → Int → Mem → Prop) (Q : Mem → Prop) (l1 : Int) (l2 : Int) (l3 : Int) (σ : Mem) : Prop :=
  ∀ x1 : Int, x1 = (l3 + 1) →
  k4 l1 l2 x1 σ

def Mo_without_97 (k4 : Int → Int → Int → Mem → Prop) (Q : Mem → Prop) : Nat → Int → Int → Int → Int → Mem → Prop
  | 0, _, _, _, _, _ => False
  | n + 1, l1, l2, l3, l4, σ =>
  InR l4 ∧
  ((3 ≤ l4 →
    ∀ x3 : Int, x3 = (l2 + 1) →
    Mo_without_156 k4 Q l1 x3 l3 σ) ∧
  (l4 < 3 →
    0 ≤ ((3 * l3) + l4) ∧ ((3 * l3) + l4) < 600 ∧
    0 ≤ ((3 * l2) + l4) ∧ ((3 * l2) + l4) < 600 ∧
    ∀ σ5 : Mem, σ5 = up σ 6 0 25 ((3 * l2) + l4) (σ 6 0 25 ((3 * l3) + l4)) →
    0 ≤ ((3 * l3) + l4) ∧ ((3 * l3) + l4) < 600 ∧
    0 ≤ ((3 * l2) + l4) ∧ ((3 * l2) + l4) < 600 ∧
    ∀ σ7 : Mem, σ7 = up σ5 6 0 26 ((3 * l2) + l4) (σ5 6 0 26 ((3 * l3) + l4)) →
    ∀ x8 : Int, x8 = (l4 + 1) →
    Mo_without_97 k4 Q n l1 l2 l3 x8 σ7))

def Mo_without_4 (Q : Mem → Prop) : Nat → Int → Int → Int → Mem → Prop
  | 0, _, _, _, _ => False
  | n + 1, l1, l2, l3, σ =>
  InR l3 ∧
  InR (σ 6 0 18 0) ∧
  (((σ 6 0 18 0) ≤ l3 →
    ∀ σ3 : Mem, σ3 = up σ 6 0 18 0 l2 →
    Mo_anew σ3 (fun σ4 =>
    Q σ4)) ∧
  (l3 < (σ 6 0 18 0) →
    0 ≤ l3 ∧ l3 < 200 ∧
    InR (σ 6 0 20 l3) ∧
    InR l1 ∧
    (((σ 6 0 20 l3) = l1 →
      Mo_without_156 (fun z0 z1 z2 z3 => Mo_without_4 Q n z0 z1 z2 z3) Q l1 l2 l3 σ) ∧
    ((σ 6 0 20 l3) ≠ l1 →
      0 ≤ l3 ∧ l3 < 200 ∧
      0 ≤ l2 ∧ l2 < 200 ∧
      ((σ 6 0 19 l3) = 0 ∨ (σ 6 0 19 l3) = 1) ∧
      ∀ σ9 : Mem, σ9 = up σ 6 0 19 l2 (σ 6 0 19 l3) →
      0 ≤ l3 ∧ l3 < 200 ∧
      0 ≤ l2 ∧ l2 < 200 ∧
      ∀ σ11 : Mem, σ11 = up σ9 6 0 20 l2 (σ9 6 0 20 l3) →
      0 ≤ l3 ∧ l3 < 200 ∧
      0 ≤ l2 ∧ l2 < 200 ∧
      ∀ σ13 : Mem, σ13 = up σ11 6 0 21 l2 (σ11 6 0 21 l3) →
      0 ≤ l3 ∧ l3 < 200 ∧
      0 ≤ l2 ∧ l2 < 200 ∧
      ∀ σ15 : Mem, σ15 = up σ13 6 0 22 l2 (σ13 6 0 22 l3) →
      0 ≤ l3 ∧ l3 < 200 ∧
      0 ≤ l2 ∧ l2 < 200 ∧
      ∀ σ17 : Mem, σ17 = up σ15 6 0 23 l2 (σ15 6 0 23 l3) →
      0 ≤ l3 ∧ l3 < 200 ∧
      0 ≤ l2 ∧ l2 < 200 ∧
      ∀ σ19 : Mem, σ19 = up σ17 6 0 24 l2 (σ17 6 0 24 l3) →
      ∃ nn, Mo_without_97 (fun z0 z1 z2 z3 => Mo_without_4 Q n z0 z1 z2 z3) Q nn l1 l2 l3 0 σ19))))

def Mo_without (l1 : Int) (σ : Mem) (Q : Mem → Prop) : Prop :=
  ∃ nn, Mo_without_4 Q nn l1 0 0 σ

def Mo_choice_36 (Q : Int → Mem → Prop) : Nat → Int → Mem → Prop
  | 0, _, _ => False
  | n + 1, l2, σ =>
  InR l2 ∧
  ((4 ≤ l2 →
    0 ≤ (σ 6 0 0 0) ∧ (σ 6 0 0 0) < 6 ∧
    ∀ σ3 : Mem, σ3 = up σ 6 0 4 (σ 6 0 0 0) 0 →
    ∀ σ4 : Mem, σ4 = up σ3 6 0 0 0 ((σ3 6 0 0 0) + 1) →
    Mo_anew σ4 (fun σ5 =>
    Q ((σ5 6 0 0 0) - 1) σ5)) ∧
  (l2 < 4 →
    0 ≤ ((4 * (σ 6 0 0 0)) + l2) ∧ ((4 * (σ 6 0 0 0)) + l2) < 24 ∧
    ∀ σ6 : Mem, σ6 = up σ 6 0 2 ((4 * (σ 6 0 0 0)) + l2) 0 →
    0 ≤ ((4 * (σ6 6 0 0 0)) + l2) ∧ ((4 * (σ6 6 0 0 0)) + l2) < 24 ∧
    ∀ σ7 : Mem, σ7 = up σ6 6 0 3 ((4 * (σ6 6 0 0 0)) + l2) 0 →
    ∀ x8 : Int, x8 = (l2 + 1) →
    Mo_choice_36 Q n x8 σ7))

def Mo_choice (l1 : Int) (σ : Mem) (Q : Int → Mem → Prop) : Prop :=
  Mo_beyond l1 2 4 σ (fun r1 σ1 =>
  InR r1 ∧
  ((r1 = 0 →
    InR (σ1 6 0 0 0) ∧
    (((σ1 6 0 0 0) ≠ 6 →
      0 ≤ (σ1 6 0 0 0) ∧ (σ1 6 0 0 0) < 6 ∧
      ∀ σ5 : Mem, σ5 = up σ1 6 0 1 (σ1 6 0 0 0) l1 →
      ∃ nn, Mo_choice_36 Q nn 0 σ5) ∧
    ((σ1 6 0 0 0) = 6 →
      Q (-3) σ1))) ∧
  (r1 ≠ 0 →
    Q (-2) σ1)))

def Mo_noValue_35 (Q : Int → Mem → Prop) (s0 : Int) (σ : Mem) : Prop :=
  (s0 = 0 ∨ s0 = 1) ∧ Q s0 σ

def Mo_noValue_30 (Q : Int → Mem → Prop) (σ : Mem) : Prop :=
  Mo_noValue_35 Q 1 σ

def Mo_noValue (l1 : Int) (l2 : Int) (σ : Mem) (Q : Int → Mem → Prop) : Prop :=
  Mo_beyond l1 0 ((σ 6 0 0 0) - 1) σ (fun r1 σ1 =>
  InR r1 ∧
  ((r1 ≠ 0 →
    Mo_noValue_30 Q σ1) ∧
  (r1 = 0 →
    0 ≤ l1 ∧ l1 < 6 ∧
    Mo_beyond l2 0 ((σ1 6 0 1 l1) - 1) σ1 (fun r4 σ4 =>
    InR r4 ∧
    ((r4 = 0 →
      Mo_noValue_35 Q 0 σ4) ∧
    (r4 ≠ 0 →
      Mo_noValue_30 Q σ4))))))

def Mo_price_73 (Q : Int → Mem → Prop) (s1 : Int) (s2 : Int) (σ : Mem) : Prop :=
  0 ≤ s1 ∧ s1 < 24 ∧
  ∀ σ1 : Mem, σ1 = up σ 6 0 2 s1 s2 →
  Mo_anew σ1 (fun σ2 =>
  Q 1 σ2)

def Mo_price_55 (Q : Int → Mem → Prop) (l3 : Int) (l4 : Int) (s1 : Int) (s2 : Int) (σ : Mem) : Prop :=
  0 ≤ s1 ∧ s1 < 24 ∧
  (s2 = 0 ∨ s2 = 1) ∧
  ∀ σ1 : Mem, σ1 = up σ 6 0 3 s1 s2 →
  InR l3 ∧
  ((l3 ≠ (-4) →
    Mo_price_73 Q l4 l3 σ1) ∧
  (l3 = (-4) →
    Mo_price_73 Q l4 0 σ1))

def Mo_price_31 (Q : Int → Mem → Prop) (l1 : Int) (l2 : Int) (l3 : Int) (σ : Mem) : Prop :=
  ∀ x1 : Int, x1 = ((4 * l1) + l2) →
  InR l3 ∧
  ((l3 ≠ (-4) →
    Mo_price_55 Q l3 x1 x1 0 σ) ∧
  (l3 = (-4) →
    Mo_price_55 Q l3 x1 x1 1 σ))

def Mo_price (l1 : Int) (l2 : Int) (l3 : Int) (σ : Mem) (Q : Int → Mem → Prop) : Prop :=
  Mo_noValue l1 l2 σ (fun r1 σ1 =>
  InR r1 ∧
  ((r1 = 0 →
    InR l3 ∧
    ((l3 = (-4) →
      Mo_price_31 Q l1 l2 l3 σ1) ∧
    (l3 ≠ (-4) →
      Mo_beyond l3 0 200 σ1 (fun r5 σ5 =>
      InR r5 ∧
      ((r5 = 0 →
        Mo_price_31 Q l1 l2 l3 σ5) ∧
      (r5 ≠ 0 →
        Q (-2) σ5)))))) ∧
  (r1 ≠ 0 →
    Q (-1) σ1)))

def Mo_future (l1 : Int) (σ : Mem) (Q : Int → Mem → Prop) : Prop :=
  Mo_beyond l1 1 20 σ (fun r1 σ1 =>
  InR r1 ∧
  ((r1 = 0 →
    InR (σ1 6 0 5 0) ∧
    (((σ1 6 0 5 0) ≠ 4 →
      0 ≤ (σ1 6 0 5 0) ∧ (σ1 6 0 5 0) < 4 ∧
      ∀ σ5 : Mem, σ5 = up σ1 6 0 6 (σ1 6 0 5 0) l1 →
      ∀ σ6 : Mem, σ6 = up σ5 6 0 5 0 ((σ5 6 0 5 0) + 1) →
      Mo_anew σ6 (fun σ7 =>
      Q ((σ7 6 0 5 0) - 1) σ7)) ∧
    ((σ1 6 0 5 0) = 4 →
      Q (-3) σ1))) ∧
  (r1 ≠ 0 →
    Q (-2) σ1)))

def Mo_noFuture (l1 : Int) (σ : Mem) (Q : Int → Mem → Prop) : Prop :=
  Mo_beyond l1 0 ((σ 6 0 5 0) - 1) σ (fun r1 σ1 =>
  (r1 = 0 ∨ r1 = 1) ∧ Q r1 σ1)

def Mo_noPart (l1 : Int) (σ : Mem) (Q : Int → Mem → Prop) : Prop :=
  Mo_beyond l1 0 ((σ 6 0 7 0) - 1) σ (fun r1 σ1 =>
  (r1 = 0 ∨ r1 = 1) ∧ Q r1 σ1)

def Mo_weight (l1 : Int) (l2 : Int) (σ : Mem) (Q : Int → Mem → Prop) : Prop :=
  Mo_noFuture l1 σ (fun r1 σ1 =>
  InR r1 ∧
  ((r1 = 0 →
    Mo_beyond l2 1 20 σ1 (fun r3 σ3 =>
    InR r3 ∧
    ((r3 = 0 →
      0 ≤ l1 ∧ l1 < 4 ∧
      ∀ x6 : Int, x6 = (σ3 6 0 6 l1) →
      0 ≤ l1 ∧ l1 < 4 ∧
      ∀ σ7 : Mem, σ7 = up σ3 6 0 6 l1 l2 →
      Mo_anew σ7 (fun σ8 =>
      Q x6 σ8)) ∧
    (r3 ≠ 0 →
      Q (-2) σ3)))) ∧
  (r1 ≠ 0 →
    Q (-1) σ1)))

def Mo_part (σ : Mem) (Q : Int → Mem → Prop) : Prop :=
  InR (σ 6 0 7 0) ∧
  (((σ 6 0 7 0) ≠ 4 →
    ∀ σ3 : Mem, σ3 = up σ 6 0 7 0 ((σ 6 0 7 0) + 1) →
    Mo_anew σ3 (fun σ4 =>
    Q ((σ4 6 0 7 0) - 1) σ4)) ∧
  ((σ 6 0 7 0) = 4 →
    Q (-3) σ))

def Mo_placeOf_2 (Q : Int → Mem → Prop) : Nat → Int → Int → Int → Mem → Prop
  | 0, _, _, _, _ => False
  | n + 1, l1, l2, l3, σ =>
  0 ≤ l1 ∧ l1 < 4 ∧
  InR l3 ∧
  InR (σ 6 0 8 l1) ∧
  (((σ 6 0 8 l1) ≤ l3 →
    Q (-1) σ) ∧
  (l3 < (σ 6 0 8 l1) →
    0 ≤ ((3 * l1) + l3) ∧ ((3 * l1) + l3) < 12 ∧
    InR (σ 6 0 9 ((3 * l1) + l3)) ∧
    InR l2 ∧
    (((σ 6 0 9 ((3 * l1) + l3)) ≠ l2 →
      ∀ x7 : Int, x7 = (l3 + 1) →
      Mo_placeOf_2 Q n l1 l2 x7 σ) ∧
    ((σ 6 0 9 ((3 * l1) + l3)) = l2 →
      Q l3 σ))))

def Mo_placeOf (l1 : Int) (l2 : Int) (σ : Mem) (Q : Int → Mem → Prop) : Prop :=
  ∃ nn, Mo_placeOf_2 Q nn l1 l2 0 σ

def Mo_join_104 (Q : Int → Mem → Prop) (l1 : Int) (l2 : Int) (l3 : Int) (σ : Mem) : Prop :=
  0 ≤ ((3 * l1) + l3) ∧ ((3 * l1) + l3) < 12 ∧
  ∀ σ1 : Mem, σ1 = up σ 6 0 9 ((3 * l1) + l3) l2 →
  0 ≤ l1 ∧ l1 < 4 ∧
  0 ≤ l1 ∧ l1 < 4 ∧
  ∀ σ3 : Mem, σ3 = up σ1 6 0 8 l1 ((σ1 6 0 8 l1) + 1) →
  Mo_without l1 σ3 (fun σ4 =>
  0 ≤ l1 ∧ l1 < 4 ∧
  Q (σ4 6 0 8 l1) σ4)

def Mo_join_56 (Q : Int → Mem → Prop) : Nat → Int → Int → Int → Mem → Prop
  | 0, _, _, _, _ => False
  | n + 1, l1, l2, l3, σ =>
  InR l3 ∧
  ((l3 ≤ 0 →
    Mo_join_104 Q l1 l2 l3 σ) ∧
  (0 < l3 →
    0 ≤ (((3 * l1) + l3) - 1) ∧ (((3 * l1) + l3) - 1) < 12 ∧
    InR (σ 6 0 9 (((3 * l1) + l3) - 1)) ∧
    InR l2 ∧
    (((σ 6 0 9 (((3 * l1) + l3) - 1)) ≤ l2 →
      Mo_join_104 Q l1 l2 l3 σ) ∧
    (l2 < (σ 6 0 9 (((3 * l1) + l3) - 1)) →
      0 ≤ (((3 * l1) + l3) - 1) ∧ (((3 * l1) + l3) - 1) < 12 ∧
      0 ≤ ((3 * l1) + l3) ∧ ((3 * l1) + l3) < 12 ∧
      ∀ σ6 : Mem, σ6 = up σ 6 0 9 ((3 * l1) + l3) (σ 6 0 9 (((3 * l1) + l3) - 1)) →
      ∀ x7 : Int, x7 = (l3 + (-1)) →
      Mo_join_56 Q n l1 l2 x7 σ6))))

def Mo_join_22 (Q : Int → Mem → Prop) (σ : Mem) : Prop :=
  Q (-1) σ

def Mo_join (l1 : Int) (l2 : Int) (σ : Mem) (Q : Int → Mem → Prop) : Prop :=
  Mo_noPart l1 σ (fun r1 σ1 =>
  InR r1 ∧
  ((r1 ≠ 0 →
    Mo_join_22 Q σ1) ∧
  (r1 = 0 →
    Mo_beyond l2 0 ((σ1 6 0 0 0) - 1) σ1 (fun r3 σ3 =>
    InR r3 ∧
    ((r3 = 0 →
      Mo_placeOf l1 l2 σ3 (fun r5 σ5 =>
      InR r5 ∧
      ((r5 < 0 →
        0 ≤ l1 ∧ l1 < 4 ∧
        InR (σ5 6 0 8 l1) ∧
        (((σ5 6 0 8 l1) ≠ 3 →
          0 ≤ l1 ∧ l1 < 4 ∧
          ∀ x11 : Int, x11 = (σ5 6 0 8 l1) →
          ∃ nn, Mo_join_56 Q nn l1 l2 x11 σ5) ∧
        ((σ5 6 0 8 l1) = 3 →
          Q (-3) σ5))) ∧
      (0 ≤ r5 →
        Q (-4) σ5)))) ∧
    (r3 ≠ 0 →
      Mo_join_22 Q σ3))))))

def Mo_local_29 (Q : Int → Mem → Prop) (σ : Mem) : Prop :=
  Q (-2) σ

def Mo_local (l1 : Int) (l2 : Int) (l3 : Int) (σ : Mem) (Q : Int → Mem → Prop) : Prop :=
  Mo_noPart l1 σ (fun r1 σ1 =>
  InR r1 ∧
  ((r1 = 0 →
    Mo_beyond l2 1 3 σ1 (fun r3 σ3 =>
    InR r3 ∧
    ((r3 ≠ 0 →
      Mo_local_29 Q σ3) ∧
    (r3 = 0 →
      Mo_beyond l3 0 50 σ3 (fun r5 σ5 =>
      InR r5 ∧
      ((r5 = 0 →
        0 ≤ l1 ∧ l1 < 4 ∧
        InR (σ5 6 0 10 l1) ∧
        (((σ5 6 0 10 l1) ≠ 4 →
          0 ≤ l1 ∧ l1 < 4 ∧
          0 ≤ ((4 * l1) + (σ5 6 0 10 l1)) ∧ ((4 * l1) + (σ5 6 0 10 l1)) < 16 ∧
          ∀ σ11 : Mem, σ11 = up σ5 6 0 11 ((4 * l1) + (σ5 6 0 10 l1)) l2 →
          0 ≤ l1 ∧ l1 < 4 ∧
          0 ≤ ((4 * l1) + (σ11 6 0 10 l1)) ∧ ((4 * l1) + (σ11 6 0 10 l1)) < 16 ∧
          ∀ σ13 : Mem, σ13 = up σ11 6 0 12 ((4 * l1) + (σ11 6 0 10 l1)) l3 →
          0 ≤ l1 ∧ l1 < 4 ∧
          0 ≤ l1 ∧ l1 < 4 ∧
          ∀ σ15 : Mem, σ15 = up σ13 6 0 10 l1 ((σ13 6 0 10 l1) + 1) →
          Mo_without l1 σ15 (fun σ16 =>
          0 ≤ l1 ∧ l1 < 4 ∧
          Q ((σ16 6 0 10 l1) - 1) σ16)) ∧
        ((σ5 6 0 10 l1) = 4 →
          Q (-3) σ5))) ∧
      (r5 ≠ 0 →
        Mo_local_29 Q σ5))))))) ∧
  (r1 ≠ 0 →
    Q (-1) σ1)))

def Mo_row (l1 : Int) (l2 : Int) (σ : Mem) (Q : Int → Mem → Prop) : Prop :=
  Mo_noPart l1 σ (fun r1 σ1 =>
  InR r1 ∧
  ((r1 = 0 →
    Mo_beyond l2 (-99) 99 σ1 (fun r3 σ3 =>
    InR r3 ∧
    ((r3 = 0 →
      0 ≤ l1 ∧ l1 < 4 ∧
      InR (σ3 6 0 13 l1) ∧
      (((σ3 6 0 13 l1) ≠ 6 →
        0 ≤ l1 ∧ l1 < 4 ∧
        0 ≤ ((6 * l1) + (σ3 6 0 13 l1)) ∧ ((6 * l1) + (σ3 6 0 13 l1)) < 24 ∧
        ∀ σ9 : Mem, σ9 = up σ3 6 0 14 ((6 * l1) + (σ3 6 0 13 l1)) l2 →
        0 ≤ l1 ∧ l1 < 4 ∧
        0 ≤ l1 ∧ l1 < 4 ∧
        ∀ σ11 : Mem, σ11 = up σ9 6 0 13 l1 ((σ9 6 0 13 l1) + 1) →
        Mo_without l1 σ11 (fun σ12 =>
        0 ≤ l1 ∧ l1 < 4 ∧
        Q ((σ12 6 0 13 l1) - 1) σ12)) ∧
      ((σ3 6 0 13 l1) = 6 →
        Q (-3) σ3))) ∧
    (r3 ≠ 0 →
      Q (-2) σ3)))) ∧
  (r1 ≠ 0 →
    Q (-1) σ1)))

def Mo_noRow_29 (Q : Int → Mem → Prop) (s0 : Int) (σ : Mem) : Prop :=
  (s0 = 0 ∨ s0 = 1) ∧ Q s0 σ

def Mo_noRow_24 (Q : Int → Mem → Prop) (σ : Mem) : Prop :=
  Mo_noRow_29 Q 1 σ

def Mo_noRow (l1 : Int) (l2 : Int) (σ : Mem) (Q : Int → Mem → Prop) : Prop :=
  Mo_noPart l1 σ (fun r1 σ1 =>
  InR r1 ∧
  ((r1 ≠ 0 →
    Mo_noRow_24 Q σ1) ∧
  (r1 = 0 →
    0 ≤ l1 ∧ l1 < 4 ∧
    Mo_beyond l2 0 ((σ1 6 0 13 l1) - 1) σ1 (fun r4 σ4 =>
    InR r4 ∧
    ((r4 = 0 →
      Mo_noRow_29 Q 0 σ4) ∧
    (r4 ≠ 0 →
      Mo_noRow_24 Q σ4))))))

def Mo_weigh_132 (Q : Int → Mem → Prop) (l1 : Int) (l6 : Int) (σ : Mem) : Prop :=
  Mo_without l1 σ (fun σ1 =>
  Q l6 σ1)

def Mo_weigh_47 (Q : Int → Mem → Prop) (l1 : Int) (l2 : Int) (l3 : Int) (l4 : Int) (l5 : Int) (σ : Mem) : Prop :=
  Mo_beyond l5 (-9) 9 σ (fun r1 σ1 =>
  InR r1 ∧
  ((r1 = 0 →
    InR l3 ∧
    ((l3 = 0 →
      ∀ x4 : Int, x4 = ((4 * ((6 * l1) + l2)) + l4) →
      0 ≤ x4 ∧ x4 < 96 ∧
      ∀ x6 : Int, x6 = (σ1 6 0 15 x4) →
      0 ≤ x4 ∧ x4 < 96 ∧
      ∀ σ7 : Mem, σ7 = up σ1 6 0 15 x4 l5 →
      Mo_weigh_132 Q l1 x6 σ7) ∧
    (l3 ≠ 0 →
      ∀ x8 : Int, x8 = ((6 * ((6 * l1) + l2)) + l4) →
      0 ≤ x8 ∧ x8 < 144 ∧
      ∀ x10 : Int, x10 = (σ1 6 0 16 x8) →
      0 ≤ x8 ∧ x8 < 144 ∧
      ∀ σ11 : Mem, σ11 = up σ1 6 0 16 x8 l5 →
      Mo_weigh_132 Q l1 x10 σ11))) ∧
  (r1 ≠ 0 →
    Q (-2) σ1)))

def Mo_weigh_45 (Q : Int → Mem → Prop) (σ : Mem) : Prop :=
  Q (-1) σ

def Mo_weigh (l1 : Int) (l2 : Int) (l3 : Int) (l4 : Int) (l5 : Int) (σ : Mem) (Q : Int → Mem → Prop) : Prop :=
  Mo_noRow l1 l2 σ (fun r1 σ1 =>
  InR r1 ∧
  ((r1 = 0 →
    InR l3 ∧
    ((l3 = 0 →
      0 ≤ l1 ∧ l1 < 4 ∧
      Mo_beyond l4 0 ((σ1 6 0 10 l1) - 1) σ1 (fun r5 σ5 =>
      InR r5 ∧
      ((r5 = 0 →
        Mo_weigh_47 Q l1 l2 l3 l4 l5 σ5) ∧
      (r5 ≠ 0 →
        Mo_weigh_45 Q σ5)))) ∧
    (l3 ≠ 0 →
      Mo_placeOf l1 l4 σ1 (fun r7 σ7 =>
      InR r7 ∧
      ((0 ≤ r7 →
        Mo_weigh_47 Q l1 l2 l3 l4 l5 σ7) ∧
      (r7 < 0 →
        Mo_weigh_45 Q σ7)))))) ∧
  (r1 ≠ 0 →
    Q (-1) σ1)))

def Mo_shift_17 (Q : Int → Mem → Prop) (σ : Mem) : Prop :=
  Q (-1) σ

def Mo_shift (l1 : Int) (l2 : Int) (l3 : Int) (l4 : Int) (σ : Mem) (Q : Int → Mem → Prop) : Prop :=
  Mo_noFuture l1 σ (fun r1 σ1 =>
  InR r1 ∧
  ((r1 ≠ 0 →
    Mo_shift_17 Q σ1) ∧
  (r1 = 0 →
    Mo_noRow l2 l3 σ1 (fun r3 σ3 =>
    InR r3 ∧
    ((r3 = 0 →
      Mo_beyond l4 (-99) 99 σ3 (fun r5 σ5 =>
      InR r5 ∧
      ((r5 = 0 →
        ∀ x7 : Int, x7 = (((24 * l1) + (6 * l2)) + l3) →
        0 ≤ x7 ∧ x7 < 96 ∧
        ∀ x9 : Int, x9 = (σ5 6 0 17 x7) →
        0 ≤ x7 ∧ x7 < 96 ∧
        ∀ σ10 : Mem, σ10 = up σ5 6 0 17 x7 l4 →
        Mo_without l2 σ10 (fun σ11 =>
        Q x9 σ11)) ∧
      (r5 ≠ 0 →
        Q (-2) σ5)))) ∧
    (r3 ≠ 0 →
      Mo_shift_17 Q σ3))))))

def Mo_figure_27 (Q : Int → Mem → Prop) (s0 : Int) (σ : Mem) : Prop :=
  Q s0 σ

def Mo_figure (l0 : Int) (l1 : Int) (σ : Mem) (Q : Int → Mem → Prop) : Prop :=
  InR l1 ∧
  ((l1 ≠ 0 →
    InR l1 ∧
    ((l1 ≠ 1 →
      Mo_figure_27 Q (iRem l0 4) σ) ∧
    (l1 = 1 →
      Mo_figure_27 Q (iRem (iDiv l0 4) 4) σ))) ∧
  (l1 = 0 →
    Mo_figure_27 Q (iDiv l0 16) σ))

def Mo_answerTo_428 (k158 : Int → Int → Int → Int → Mem → Prop) (Q : Int → Mem → Prop) (l1 : Int) (l4 : Int) (l5 : Int) (l6 : Int) (σ : Mem) : Prop :=
  k158 l1 l4 l5 l6 σ

def Mo_answerTo_410 (k158 : Int → Int → Int → Int → Mem → Prop) (Q : Int → Mem → Prop) (l1 : Int) (l4 : Int) (l5 : Int) (l8 : Int) (s0 : Int) (σ : Mem) : Prop :=
  InR s0 ∧
  ((s0 = 0 →
    Mo_answerTo_428 k158 Q l1 l4 l5 s0 σ) ∧
  (s0 ≠ 0 →
    0 ≤ l8 ∧ l8 < 4 ∧
    0 ≤ l8 ∧ l8 < 4 ∧
    ∀ σ3 : Mem, σ3 = up σ 6 0 36 l8 ((σ 6 0 36 l8) + 1) →
    Mo_answerTo_428 k158 Q l1 l4 l5 s0 σ3))

def Mo_answerTo_400 (k158 : Int → Int → Int → Int → Mem → Prop) (Q : Int → Mem → Prop) (l1 : Int) (l4 : Int) (l5 : Int) (l8 : Int) (σ : Mem) : Prop :=
  InR l8 ∧
  ((l8 < 0 →
    Mo_answerTo_410 k158 Q l1 l4 l5 l8 0 σ) ∧
  (0 ≤ l8 →
    Mo_answerTo_410 k158 Q l1 l4 l5 l8 1 σ))

def Mo_answerTo_360 (k158 : Int → Int → Int → Int → Mem → Prop) (Q : Int → Mem → Prop) : Nat → Int → Int → Int → Int → Mem → Prop
  | 0, _, _, _, _, _ => False
  | n + 1, l1, l4, l5, l8, σ =>
  InR l8 ∧
  ((l8 < 0 →
    Mo_answerTo_400 k158 Q l1 l4 l5 l8 σ) ∧
  (0 ≤ l8 →
    0 ≤ l8 ∧ l8 < 4 ∧
    0 ≤ ((4 * l1) + l8) ∧ ((4 * l1) + l8) < 16 ∧
    InR (σ 6 0 36 l8) ∧
    InR (σ 6 0 11 ((4 * l1) + l8)) ∧
    (((σ 6 0 36 l8) ≠ (σ 6 0 11 ((4 * l1) + l8)) →
      Mo_answerTo_400 k158 Q l1 l4 l5 l8 σ) ∧
    ((σ 6 0 36 l8) = (σ 6 0 11 ((4 * l1) + l8)) →
      0 ≤ l8 ∧ l8 < 4 ∧
      ∀ σ6 : Mem, σ6 = up σ 6 0 36 l8 0 →
      ∀ x7 : Int, x7 = (l8 + (-1)) →
      Mo_answerTo_360 k158 Q n l1 l4 l5 x7 σ6))))

def Mo_answerTo_354 (k158 : Int → Int → Int → Int → Mem → Prop) (Q : Int → Mem → Prop) (l1 : Int) (l4 : Int) (l5 : Int) (σ : Mem) : Prop :=
  ∀ x1 : Int, x1 = (l4 - 1) →
  ∃ nn, Mo_answerTo_360 k158 Q nn l1 l4 l5 x1 σ

def Mo_answerTo_328 (k158 : Int → Int → Int → Int → Mem → Prop) (Q : Int → Mem → Prop) : Nat → Int → Int → Int → Int → Mem → Prop
  | 0, _, _, _, _, _ => False
  | n + 1, l1, l4, l5, l9, σ =>
  InR l9 ∧
  ((4 ≤ l9 →
    Mo_answerTo_354 k158 Q l1 l4 l5 σ) ∧
  (l9 < 4 →
    0 ≤ l9 ∧ l9 < 4 ∧
    0 ≤ l9 ∧ l9 < 4 ∧
    ∀ σ4 : Mem, σ4 = up σ 6 0 37 l9 (σ 6 0 36 l9) →
    ∀ x5 : Int, x5 = (l9 + 1) →
    Mo_answerTo_328 k158 Q n l1 l4 l5 x5 σ4))

def Mo_answerTo_321 (k158 : Int → Int → Int → Int → Mem → Prop) (Q : Int → Mem → Prop) (l1 : Int) (l4 : Int) (l8 : Int) (σ : Mem) : Prop :=
  ∃ nn, Mo_answerTo_328 k158 Q nn l1 l4 l8 0 σ

def Mo_answerTo_270 (k158 : Int → Int → Int → Int → Mem → Prop) (Q : Int → Mem → Prop) : Nat → Int → Int → Int → Int → Int → Mem → Prop
  | 0, _, _, _, _, _, _ => False
  | n + 1, l1, l4, l5, l8, l9, σ =>
  InR l9 ∧
  InR l4 ∧
  ((l4 ≤ l9 →
    InR l5 ∧
    ((l5 = (-4) →
      Mo_answerTo_321 k158 Q l1 l4 l8 σ) ∧
    (l5 ≠ (-4) →
      InR l8 ∧
      InR l5 ∧
      ((l5 ≤ l8 →
        Mo_answerTo_354 k158 Q l1 l4 l5 σ) ∧
      (l8 < l5 →
        Mo_answerTo_321 k158 Q l1 l4 l8 σ))))) ∧
  (l9 < l4 →
    0 ≤ ((4 * l1) + l9) ∧ ((4 * l1) + l9) < 16 ∧
    0 ≤ l9 ∧ l9 < 4 ∧
    ∀ x9 : Int, x9 = (l8 + ((σ 6 0 12 ((4 * l1) + l9)) * (σ 6 0 36 l9))) →
    ∀ x10 : Int, x10 = (l9 + 1) →
    Mo_answerTo_270 k158 Q n l1 l4 l5 x9 x10 σ))

def Mo_answerTo_259 (k158 : Int → Int → Int → Int → Mem → Prop) (Q : Int → Mem → Prop) (l1 : Int) (l4 : Int) (l5 : Int) (l7 : Int) (σ : Mem) : Prop :=
  InR l7 ∧
  ((l7 = 0 →
    Mo_answerTo_354 k158 Q l1 l4 l5 σ) ∧
  (l7 ≠ 0 →
    ∃ nn, Mo_answerTo_270 k158 Q nn l1 l4 l5 0 0 σ))

def Mo_answerTo_251 (k169 : Int → Int → Int → Int → Int → Mem → Prop) (Q : Int → Mem → Prop) (l1 : Int) (l4 : Int) (l5 : Int) (l8 : Int) (s0 : Int) (σ : Mem) : Prop :=
  ∀ x1 : Int, x1 = (l8 + 1) →
  k169 l1 l4 l5 s0 x1 σ

def Mo_answerTo_191 (k169 : Int → Int → Int → Int → Int → Mem → Prop) (Q : Int → Mem → Prop) : Nat → Int → Int → Int → Int → Int → Int → Mem → Prop
  | 0, _, _, _, _, _, _, _ => False
  | n + 1, l1, l4, l5, l8, l9, l10, σ =>
  InR l10 ∧
  InR l4 ∧
  ((l4 ≤ l10 →
    0 ≤ l8 ∧ l8 < 6 ∧
    InR l9 ∧
    InR (σ 6 0 35 l8) ∧
    (((σ 6 0 35 l8) < l9 →
      Mo_answerTo_251 k169 Q l1 l4 l5 l8 0 σ) ∧
    (l9 ≤ (σ 6 0 35 l8) →
      Mo_answerTo_251 k169 Q l1 l4 l5 l8 1 σ))) ∧
  (l10 < l4 →
    0 ≤ ((4 * ((6 * l1) + l8)) + l10) ∧ ((4 * ((6 * l1) + l8)) + l10) < 96 ∧
    0 ≤ l10 ∧ l10 < 4 ∧
    ∀ x8 : Int, x8 = (l9 + ((σ 6 0 15 ((4 * ((6 * l1) + l8)) + l10)) * (σ 6 0 36 l10))) →
    ∀ x9 : Int, x9 = (l10 + 1) →
    Mo_answerTo_191 k169 Q n l1 l4 l5 l8 x8 x9 σ))

def Mo_answerTo_169 (k158 : Int → Int → Int → Int → Mem → Prop) (Q : Int → Mem → Prop) : Nat → Int → Int → Int → Int → Int → Mem → Prop
  | 0, _, _, _, _, _, _ => False
  | n + 1, l1, l4, l5, l7, l8, σ =>
  0 ≤ l1 ∧ l1 < 4 ∧
  InR l8 ∧
  InR (σ 6 0 13 l1) ∧
  (((σ 6 0 13 l1) ≤ l8 →
    Mo_answerTo_259 k158 Q l1 l4 l5 l7 σ) ∧
  (l8 < (σ 6 0 13 l1) →
    InR l7 ∧
    ((l7 = 0 →
      Mo_answerTo_259 k158 Q l1 l4 l5 l7 σ) ∧
    (l7 ≠ 0 →
      ∃ nn, Mo_answerTo_191 (fun z0 z1 z2 z3 z4 z5 => Mo_answerTo_169 k158 Q n z0 z1 z2 z3 z4 z5) Q nn l1 l4 l5 l8 0 0 σ))))

def Mo_answerTo_158 (Q : Int → Mem → Prop) : Nat → Int → Int → Int → Int → Mem → Prop
  | 0, _, _, _, _, _ => False
  | n + 1, l1, l4, l5, l6, σ =>
  InR l6 ∧
  ((l6 = 0 →
    Q l5 σ) ∧
  (l6 ≠ 0 →
    ∃ nn, Mo_answerTo_169 (fun z0 z1 z2 z3 z4 => Mo_answerTo_158 Q n z0 z1 z2 z3 z4) Q nn l1 l4 l5 1 0 σ))

def Mo_answerTo_135 (Q : Int → Mem → Prop) : Nat → Int → Int → Int → Int → Mem → Prop
  | 0, _, _, _, _, _ => False
  | n + 1, l1, l4, l5, l6, σ =>
  InR l6 ∧
  ((4 ≤ l6 →
    ∃ nn, Mo_answerTo_158 Q nn l1 l4 l5 1 σ) ∧
  (l6 < 4 →
    0 ≤ l6 ∧ l6 < 4 ∧
    ∀ σ3 : Mem, σ3 = up σ 6 0 36 l6 0 →
    ∀ x4 : Int, x4 = (l6 + 1) →
    Mo_answerTo_135 Q n l1 l4 l5 x4 σ3))

def Mo_answerTo_49 (k3 : Int → Int → Int → Int → Mem → Prop) (Q : Int → Mem → Prop) : Nat → Int → Int → Int → Int → Int → Int → Mem → Prop
  | 0, _, _, _, _, _, _, _ => False
  | n + 1, l1, l2, l3, l4, l5, l6, σ =>
  0 ≤ l1 ∧ l1 < 4 ∧
  InR l6 ∧
  InR (σ 6 0 8 l1) ∧
  (((σ 6 0 8 l1) ≤ l6 →
    0 ≤ l4 ∧ l4 < 6 ∧
    ∀ σ4 : Mem, σ4 = up σ 6 0 35 l4 l5 →
    ∀ x5 : Int, x5 = (l4 + 1) →
    k3 l1 l2 l3 x5 σ4) ∧
  (l6 < (σ 6 0 8 l1) →
    0 ≤ ((3 * l1) + l6) ∧ ((3 * l1) + l6) < 12 ∧
    0 ≤ ((6 * ((6 * l1) + l4)) + (σ 6 0 9 ((3 * l1) + l6))) ∧ ((6 * ((6 * l1) + l4)) + (σ 6 0 9 ((3 * l1) + l6))) < 144 ∧
    Mo_figure l2 l6 σ (fun r8 σ8 =>
    ∀ x9 : Int, x9 = (l5 - ((σ 6 0 16 ((6 * ((6 * l1) + l4)) + (σ 6 0 9 ((3 * l1) + l6)))) * r8)) →
    ∀ x10 : Int, x10 = (l6 + 1) →
    Mo_answerTo_49 k3 Q n l1 l2 l3 l4 x9 x10 σ8)))

def Mo_answerTo_3 (Q : Int → Mem → Prop) : Nat → Int → Int → Int → Int → Mem → Prop
  | 0, _, _, _, _, _ => False
  | n + 1, l1, l2, l3, l4, σ =>
  0 ≤ l1 ∧ l1 < 4 ∧
  InR l4 ∧
  InR (σ 6 0 13 l1) ∧
  (((σ 6 0 13 l1) ≤ l4 →
    0 ≤ l1 ∧ l1 < 4 ∧
    ∀ x5 : Int, x5 = (σ 6 0 10 l1) →
    ∃ nn, Mo_answerTo_135 Q nn l1 x5 (-4) 0 σ) ∧
  (l4 < (σ 6 0 13 l1) →
    0 ≤ ((6 * l1) + l4) ∧ ((6 * l1) + l4) < 24 ∧
    0 ≤ (((24 * l3) + (6 * l1)) + l4) ∧ (((24 * l3) + (6 * l1)) + l4) < 96 ∧
    ∀ x8 : Int, x8 = ((σ 6 0 14 ((6 * l1) + l4)) + (σ 6 0 17 (((24 * l3) + (6 * l1)) + l4))) →
    ∃ nn, Mo_answerTo_49 (fun z0 z1 z2 z3 z4 => Mo_answerTo_3 Q n z0 z1 z2 z3 z4) Q nn l1 l2 l3 l4 x8 0 σ))

def Mo_answerTo (l1 : Int) (l2 : Int) (l3 : Int) (σ : Mem) (Q : Int → Mem → Prop) : Prop :=
  ∃ nn, Mo_answerTo_3 Q nn l1 l2 l3 0 σ

def Mo_codeOf_42 (k5 : Int → Nat → Int → Nat → Int → Int → Mem → Prop) (Q : Int → Mem → Prop) (l1 : Int) (l2c : Nat) (l2p : Int) (l2k : Nat) (l4 : Int) (s0 : Int) (s1 : Int) (σ : Mem) : Prop :=
  ∀ x1 : Int, x1 = (s0 + s1) →
  ∀ x2 : Int, x2 = (l4 + 1) →
  k5 l1 l2c l2p l2k x1 x2 σ

def Mo_codeOf_5 (Q : Int → Mem → Prop) : Nat → Int → Nat → Int → Nat → Int → Int → Mem → Prop
  | 0, _, _, _, _, _, _, _ => False
  | n + 1, l1, l2c, l2p, l2k, l3, l4, σ =>
  InR l4 ∧
  ((3 ≤ l4 →
    Q l3 σ) ∧
  (l4 < 3 →
    0 ≤ l1 ∧ l1 < 4 ∧
    InR l4 ∧
    InR (σ 6 0 8 l1) ∧
    (((σ 6 0 8 l1) ≤ l4 →
      Mo_codeOf_42 (fun z0 z1 z2 z3 z4 z5 z6 => Mo_codeOf_5 Q n z0 z1 z2 z3 z4 z5 z6) Q l1 l2c l2p l2k l4 (4 * l3) 0 σ) ∧
    (l4 < (σ 6 0 8 l1) →
      0 ≤ ((3 * l1) + l4) ∧ ((3 * l1) + l4) < 12 ∧
      0 ≤ (σ 6 0 9 ((3 * l1) + l4)) ∧ (σ 6 0 9 ((3 * l1) + l4)) < 6 ∧
      Mo_codeOf_42 (fun z0 z1 z2 z3 z4 z5 z6 => Mo_codeOf_5 Q n z0 z1 z2 z3 z4 z5 z6) Q l1 l2c l2p l2k l4 (4 * l3) (σ l2c l2p l2k (σ 6 0 9 ((3 * l1) + l4))) σ))))

def Mo_codeOf (l1 : Int) (l2c : Nat) (l2p : Int) (l2k : Nat) (σ : Mem) (Q : Int → Mem → Prop) : Prop :=
  ∃ nn, Mo_codeOf_5 Q nn l1 l2c l2p l2k 0 0 σ

def Mo_isCode_60 (k5 : Int → Int → Int → Int → Mem → Prop) (Q : Int → Mem → Prop) (l1 : Int) (l2 : Int) (l4 : Int) (s0 : Int) (σ : Mem) : Prop :=
  ∀ x1 : Int, x1 = (l4 + 1) →
  k5 l1 l2 s0 x1 σ

def Mo_isCode_59 (k5 : Int → Int → Int → Int → Mem → Prop) (Q : Int → Mem → Prop) (l1 : Int) (l2 : Int) (l4 : Int) (σ : Mem) : Prop :=
  Mo_isCode_60 k5 Q l1 l2 l4 0 σ

def Mo_isCode_52 (k5 : Int → Int → Int → Int → Mem → Prop) (Q : Int → Mem → Prop) (l1 : Int) (l2 : Int) (l4 : Int) (s0 : Int) (s1 : Int) (σ : Mem) : Prop :=
  InR s0 ∧
  InR s1 ∧
  ((s1 ≤ s0 →
    Mo_isCode_59 k5 Q l1 l2 l4 σ) ∧
  (s0 < s1 →
    Mo_isCode_60 k5 Q l1 l2 l4 1 σ))

def Mo_isCode_5 (Q : Int → Mem → Prop) : Nat → Int → Int → Int → Int → Mem → Prop
  | 0, _, _, _, _, _ => False
  | n + 1, l1, l2, l3, l4, σ =>
  InR l4 ∧
  ((3 ≤ l4 →
    (l3 = 0 ∨ l3 = 1) ∧ Q l3 σ) ∧
  (l4 < 3 →
    InR l3 ∧
    ((l3 = 0 →
      Mo_isCode_59 (fun z0 z1 z2 z3 z4 => Mo_isCode_5 Q n z0 z1 z2 z3 z4) Q l1 l2 l4 σ) ∧
    (l3 ≠ 0 →
      Mo_figure l2 l4 σ (fun r4 σ4 =>
      0 ≤ l1 ∧ l1 < 4 ∧
      InR l4 ∧
      InR (σ4 6 0 8 l1) ∧
      (((σ4 6 0 8 l1) ≤ l4 →
        Mo_isCode_52 (fun z0 z1 z2 z3 z4 => Mo_isCode_5 Q n z0 z1 z2 z3 z4) Q l1 l2 l4 r4 1 σ4) ∧
      (l4 < (σ4 6 0 8 l1) →
        0 ≤ ((3 * l1) + l4) ∧ ((3 * l1) + l4) < 12 ∧
        0 ≤ (σ4 6 0 9 ((3 * l1) + l4)) ∧ (σ4 6 0 9 ((3 * l1) + l4)) < 6 ∧
        Mo_isCode_52 (fun z0 z1 z2 z3 z4 => Mo_isCode_5 Q n z0 z1 z2 z3 z4) Q l1 l2 l4 r4 (σ4 6 0 1 (σ4 6 0 9 ((3 * l1) + l4))) σ4)))))))

def Mo_isCode (l1 : Int) (l2 : Int) (σ : Mem) (Q : Int → Mem → Prop) : Prop :=
  ∃ nn, Mo_isCode_5 Q nn l1 l2 1 0 σ

def Mo_meets_65 (k6 : Int → Int → Int → Int → Int → Mem → Prop) (Q : Int → Mem → Prop) (l1 : Int) (l2 : Int) (l3 : Int) (l5 : Int) (s0 : Int) (σ : Mem) : Prop :=
  ∀ x1 : Int, x1 = (l5 + 1) →
  k6 l1 l2 l3 s0 x1 σ

def Mo_meets_64 (k6 : Int → Int → Int → Int → Int → Mem → Prop) (Q : Int → Mem → Prop) (l1 : Int) (l2 : Int) (l3 : Int) (l5 : Int) (σ : Mem) : Prop :=
  Mo_meets_65 k6 Q l1 l2 l3 l5 0 σ

def Mo_meets_6 (Q : Int → Mem → Prop) : Nat → Int → Int → Int → Int → Int → Mem → Prop
  | 0, _, _, _, _, _, _ => False
  | n + 1, l1, l2, l3, l4, l5, σ =>
  0 ≤ l1 ∧ l1 < 200 ∧
  InR l5 ∧
  InR (σ 6 0 24 l1) ∧
  (((σ 6 0 24 l1) ≤ l5 →
    (l4 = 0 ∨ l4 = 1) ∧ Q l4 σ) ∧
  (l5 < (σ 6 0 24 l1) →
    0 ≤ ((3 * l1) + l5) ∧ ((3 * l1) + l5) < 600 ∧
    Mo_placeOf l2 (σ 6 0 25 ((3 * l1) + l5)) σ (fun r5 σ5 =>
    InR l4 ∧
    ((l4 = 0 →
      Mo_meets_64 (fun z0 z1 z2 z3 z4 z5 => Mo_meets_6 Q n z0 z1 z2 z3 z4 z5) Q l1 l2 l3 l5 σ5) ∧
    (l4 ≠ 0 →
      Mo_figure l3 r5 σ5 (fun r7 σ7 =>
      0 ≤ ((3 * l1) + l5) ∧ ((3 * l1) + l5) < 600 ∧
      InR r7 ∧
      InR (σ7 6 0 26 ((3 * l1) + l5)) ∧
      ((r7 ≠ (σ7 6 0 26 ((3 * l1) + l5)) →
        Mo_meets_64 (fun z0 z1 z2 z3 z4 z5 => Mo_meets_6 Q n z0 z1 z2 z3 z4 z5) Q l1 l2 l3 l5 σ7) ∧
      (r7 = (σ7 6 0 26 ((3 * l1) + l5)) →
        Mo_meets_65 (fun z0 z1 z2 z3 z4 z5 => Mo_meets_6 Q n z0 z1 z2 z3 z4 z5) Q l1 l2 l3 l5 1 σ7))))))))

def Mo_meets (l1 : Int) (l2 : Int) (l3 : Int) (σ : Mem) (Q : Int → Mem → Prop) : Prop :=
  ∃ nn, Mo_meets_6 Q nn l1 l2 l3 1 0 σ

def Mo_layCuts_143 (k41 : Int → Int → Mem → Prop) (Q : Mem → Prop) (l1 : Int) (l2 : Int) (σ : Mem) : Prop :=
  ∀ x1 : Int, x1 = (l2 + 1) →
  k41 l1 x1 σ

def Mo_layCuts_41 (k31 : Int → Mem → Prop) (Q : Mem → Prop) : Nat → Int → Int → Mem → Prop
  | 0, _, _, _ => False
  | n + 1, l1, l2, σ =>
  InR l2 ∧
  ((64 ≤ l2 →
    ∀ x3 : Int, x3 = (l1 + 1) →
    k31 x3 σ) ∧
  (l2 < 64 →
    0 ≤ l1 ∧ l1 < 200 ∧
    Mo_isCode (σ 6 0 20 l1) l2 σ (fun r5 σ5 =>
    InR r5 ∧
    ((r5 = 0 →
      Mo_layCuts_143 (fun z0 z1 z2 => Mo_layCuts_41 k31 Q n z0 z1 z2) Q l1 l2 σ5) ∧
    (r5 ≠ 0 →
      0 ≤ l1 ∧ l1 < 200 ∧
      Mo_meets l1 (σ5 6 0 20 l1) l2 σ5 (fun r8 σ8 =>
      InR r8 ∧
      ((r8 = 0 →
        Mo_layCuts_143 (fun z0 z1 z2 => Mo_layCuts_41 k31 Q n z0 z1 z2) Q l1 l2 σ8) ∧
      (r8 ≠ 0 →
        0 ≤ l1 ∧ l1 < 200 ∧
        0 ≤ l1 ∧ l1 < 200 ∧
        ∀ x12 : Int, x12 = ((64 * ((4 * (σ8 6 0 20 l1)) + (σ8 6 0 21 l1))) + l2) →
        0 ≤ l1 ∧ l1 < 200 ∧
        InR (σ8 6 0 19 l1) ∧
        (((σ8 6 0 19 l1) ≠ 0 →
          0 ≤ l1 ∧ l1 < 200 ∧
          0 ≤ x12 ∧ x12 < 1024 ∧
          InR (σ8 6 0 22 l1) ∧
          InR (σ8 6 0 39 x12) ∧
          (((σ8 6 0 22 l1) ≤ (σ8 6 0 39 x12) →
            Mo_layCuts_143 (fun z0 z1 z2 => Mo_layCuts_41 k31 Q n z0 z1 z2) Q l1 l2 σ8) ∧
          ((σ8 6 0 39 x12) < (σ8 6 0 22 l1) →
            0 ≤ l1 ∧ l1 < 200 ∧
            0 ≤ x12 ∧ x12 < 1024 ∧
            ∀ σ20 : Mem, σ20 = up σ8 6 0 39 x12 (σ8 6 0 22 l1) →
            Mo_layCuts_143 (fun z0 z1 z2 => Mo_layCuts_41 k31 Q n z0 z1 z2) Q l1 l2 σ20))) ∧
        ((σ8 6 0 19 l1) = 0 →
          0 ≤ x12 ∧ x12 < 1024 ∧
          ∀ σ21 : Mem, σ21 = up σ8 6 0 38 x12 1 →
          Mo_layCuts_143 (fun z0 z1 z2 => Mo_layCuts_41 k31 Q n z0 z1 z2) Q l1 l2 σ21))))))))))

def Mo_layCuts_31 (Q : Mem → Prop) : Nat → Int → Mem → Prop
  | 0, _, _ => False
  | n + 1, l1, σ =>
  InR l1 ∧
  InR (σ 6 0 18 0) ∧
  (((σ 6 0 18 0) ≤ l1 →
    Q σ) ∧
  (l1 < (σ 6 0 18 0) →
    ∃ nn, Mo_layCuts_41 (fun z0 z1 => Mo_layCuts_31 Q n z0 z1) Q nn l1 0 σ))

def Mo_layCuts_2 (Q : Mem → Prop) : Nat → Int → Mem → Prop
  | 0, _, _ => False
  | n + 1, l1, σ =>
  InR l1 ∧
  ((1024 ≤ l1 →
    ∃ nn, Mo_layCuts_31 Q nn 0 σ) ∧
  (l1 < 1024 →
    0 ≤ l1 ∧ l1 < 1024 ∧
    ∀ σ3 : Mem, σ3 = up σ 6 0 38 l1 0 →
    0 ≤ l1 ∧ l1 < 1024 ∧
    ∀ σ4 : Mem, σ4 = up σ3 6 0 39 l1 0 →
    ∀ x5 : Int, x5 = (l1 + 1) →
    Mo_layCuts_2 Q n x5 σ4))

def Mo_layCuts (σ : Mem) (Q : Mem → Prop) : Prop :=
  ∃ nn, Mo_layCuts_2 Q nn 0 σ

def Mo_isTrue_113 (k3 : Int → Int → Int → Int → Int → Int → Int → Mem → Prop) (Q : Int → Mem → Prop) (l1 : Int) (l2 : Int) (l3 : Int) (l4 : Int) (l5 : Int) (l6 : Int) (l7 : Int) (σ : Mem) : Prop :=
  ∀ x1 : Int, x1 = (l7 + 1) →
  k3 l1 l2 l3 l4 l5 l6 x1 σ

def Mo_isTrue_111 (Q : Int → Mem → Prop) (σ : Mem) : Prop :=
  Q 0 σ

def Mo_isTrue_69 (k22 : Int → Int → Int → Int → Int → Int → Int → Int → Int → Mem → Prop) (Q : Int → Mem → Prop) (l1 : Int) (l2 : Int) (l3 : Int) (l4 : Int) (l5 : Int) (l6 : Int) (l7 : Int) (l9 : Int) (s0 : Int) (σ : Mem) : Prop :=
  ∀ x1 : Int, x1 = (l9 + 1) →
  k22 l1 l2 l3 l4 l5 l6 l7 s0 x1 σ

def Mo_isTrue_68 (k22 : Int → Int → Int → Int → Int → Int → Int → Int → Int → Mem → Prop) (Q : Int → Mem → Prop) (l1 : Int) (l2 : Int) (l3 : Int) (l4 : Int) (l5 : Int) (l6 : Int) (l7 : Int) (l9 : Int) (σ : Mem) : Prop :=
  Mo_isTrue_69 k22 Q l1 l2 l3 l4 l5 l6 l7 l9 0 σ

def Mo_isTrue_64 (k22 : Int → Int → Int → Int → Int → Int → Int → Int → Int → Mem → Prop) (Q : Int → Mem → Prop) (l1 : Int) (l2 : Int) (l3 : Int) (l4 : Int) (l5 : Int) (l6 : Int) (l7 : Int) (l9 : Int) (σ : Mem) : Prop :=
  Mo_isTrue_69 k22 Q l1 l2 l3 l4 l5 l6 l7 l9 1 σ

def Mo_isTrue_22 (k3 : Int → Int → Int → Int → Int → Int → Int → Mem → Prop) (Q : Int → Mem → Prop) : Nat → Int → Int → Int → Int → Int → Int → Int → Int → Int → Mem → Prop
  | 0, _, _, _, _, _, _, _, _, _, _ => False
  | n + 1, l1, l2, l3, l4, l5, l6, l7, l8, l9, σ =>
  0 ≤ l1 ∧ l1 < 4 ∧
  InR l9 ∧
  InR (σ 6 0 8 l1) ∧
  (((σ 6 0 8 l1) ≤ l9 →
    InR l8 ∧
    ((l8 = 0 →
      Mo_isTrue_113 k3 Q l1 l2 l3 l4 l5 l6 l7 σ) ∧
    (l8 ≠ 0 →
      Mo_answerTo l1 l7 l2 σ (fun r5 σ5 =>
      InR r5 ∧
      ((r5 = (-4) →
        Mo_isTrue_113 k3 Q l1 l2 l3 l4 l5 l6 l7 σ5) ∧
      (r5 ≠ (-4) →
        InR l5 ∧
        ((l5 = 0 →
          Mo_isTrue_111 Q σ5) ∧
        (l5 ≠ 0 →
          InR r5 ∧
          InR l6 ∧
          ((l6 ≤ r5 →
            Mo_isTrue_113 k3 Q l1 l2 l3 l4 l5 l6 l7 σ5) ∧
          (r5 < l6 →
            Mo_isTrue_111 Q σ5)))))))))) ∧
  (l9 < (σ 6 0 8 l1) →
    InR l8 ∧
    ((l8 = 0 →
      Mo_isTrue_68 (fun z0 z1 z2 z3 z4 z5 z6 z7 z8 z9 => Mo_isTrue_22 k3 Q n z0 z1 z2 z3 z4 z5 z6 z7 z8 z9) Q l1 l2 l3 l4 l5 l6 l7 l9 σ) ∧
    (l8 ≠ 0 →
      InR (iAnd (iShr l4 l9) 1) ∧
      (((iAnd (iShr l4 l9) 1) = 0 →
        Mo_isTrue_64 (fun z0 z1 z2 z3 z4 z5 z6 z7 z8 z9 => Mo_isTrue_22 k3 Q n z0 z1 z2 z3 z4 z5 z6 z7 z8 z9) Q l1 l2 l3 l4 l5 l6 l7 l9 σ) ∧
      ((iAnd (iShr l4 l9) 1) ≠ 0 →
        Mo_figure l7 l9 σ (fun r13 σ13 =>
        Mo_figure l3 l9 σ13 (fun r14 σ14 =>
        InR r13 ∧
        InR r14 ∧
        ((r13 ≠ r14 →
          Mo_isTrue_68 (fun z0 z1 z2 z3 z4 z5 z6 z7 z8 z9 => Mo_isTrue_22 k3 Q n z0 z1 z2 z3 z4 z5 z6 z7 z8 z9) Q l1 l2 l3 l4 l5 l6 l7 l9 σ14) ∧
        (r13 = r14 →
          Mo_isTrue_64 (fun z0 z1 z2 z3 z4 z5 z6 z7 z8 z9 => Mo_isTrue_22 k3 Q n z0 z1 z2 z3 z4 z5 z6 z7 z8 z9) Q l1 l2 l3 l4 l5 l6 l7 l9 σ14))))))))))

def Mo_isTrue_3 (Q : Int → Mem → Prop) : Nat → Int → Int → Int → Int → Int → Int → Int → Mem → Prop
  | 0, _, _, _, _, _, _, _, _ => False
  | n + 1, l1, l2, l3, l4, l5, l6, l7, σ =>
  InR l7 ∧
  ((64 ≤ l7 →
    Q 1 σ) ∧
  (l7 < 64 →
    Mo_isCode l1 l7 σ (fun r3 σ3 =>
    ∃ nn, Mo_isTrue_22 (fun z0 z1 z2 z3 z4 z5 z6 z7 => Mo_isTrue_3 Q n z0 z1 z2 z3 z4 z5 z6 z7) Q nn l1 l2 l3 l4 l5 l6 l7 r3 0 σ3)))

def Mo_isTrue (l1 : Int) (l2 : Int) (l3 : Int) (l4 : Int) (l5 : Int) (l6 : Int) (σ : Mem) (Q : Int → Mem → Prop) : Prop :=
  ∃ nn, Mo_isTrue_3 Q nn l1 l2 l3 l4 l5 l6 0 σ

def Mo_addCut_225 (k141 : Int → Int → Int → Int → Mem → Prop) (Q : Mem → Prop) (l1 : Int) (l3 : Int) (l6 : Int) (l7 : Int) (σ : Mem) : Prop :=
  ∀ x1 : Int, x1 = (l7 + 1) →
  k141 l1 l3 l6 x1 σ

def Mo_addCut_141 (Q : Mem → Prop) : Nat → Int → Int → Int → Int → Mem → Prop
  | 0, _, _, _, _, _ => False
  | n + 1, l1, l3, l6, l7, σ =>
  0 ≤ l1 ∧ l1 < 4 ∧
  InR l7 ∧
  InR (σ 6 0 8 l1) ∧
  (((σ 6 0 8 l1) ≤ l7 →
    ∀ σ4 : Mem, σ4 = up σ 6 0 18 0 ((σ 6 0 18 0) + 1) →
    Q σ4) ∧
  (l7 < (σ 6 0 8 l1) →
    InR (iAnd (iShr l6 l7) 1) ∧
    (((iAnd (iShr l6 l7) 1) ≠ 1 →
      Mo_addCut_225 (fun z0 z1 z2 z3 z4 => Mo_addCut_141 Q n z0 z1 z2 z3 z4) Q l1 l3 l6 l7 σ) ∧
    ((iAnd (iShr l6 l7) 1) = 1 →
      0 ≤ (σ 6 0 18 0) ∧ (σ 6 0 18 0) < 200 ∧
      ∀ x8 : Int, x8 = ((3 * (σ 6 0 18 0)) + (σ 6 0 24 (σ 6 0 18 0))) →
      0 ≤ ((3 * l1) + l7) ∧ ((3 * l1) + l7) < 12 ∧
      0 ≤ x8 ∧ x8 < 600 ∧
      ∀ σ10 : Mem, σ10 = up σ 6 0 25 x8 (σ 6 0 9 ((3 * l1) + l7)) →
      Mo_figure l3 l7 σ10 (fun r11 σ11 =>
      0 ≤ x8 ∧ x8 < 600 ∧
      ∀ σ12 : Mem, σ12 = up σ11 6 0 26 x8 r11 →
      0 ≤ (σ12 6 0 18 0) ∧ (σ12 6 0 18 0) < 200 ∧
      0 ≤ (σ12 6 0 18 0) ∧ (σ12 6 0 18 0) < 200 ∧
      ∀ σ14 : Mem, σ14 = up σ12 6 0 24 (σ12 6 0 18 0) ((σ12 6 0 24 (σ12 6 0 18 0)) + 1) →
      Mo_addCut_225 (fun z0 z1 z2 z3 z4 => Mo_addCut_141 Q n z0 z1 z2 z3 z4) Q l1 l3 l6 l7 σ14)))))

def Mo_addCut_114 (Q : Mem → Prop) (l1 : Int) (l3 : Int) (l6 : Int) (s1 : Int) (s2 : Int) (σ : Mem) : Prop :=
  0 ≤ s1 ∧ s1 < 200 ∧
  ∀ σ1 : Mem, σ1 = up σ 6 0 22 s1 s2 →
  0 ≤ (σ1 6 0 18 0) ∧ (σ1 6 0 18 0) < 200 ∧
  ∀ σ2 : Mem, σ2 = up σ1 6 0 23 (σ1 6 0 18 0) (σ1 6 0 27 0) →
  0 ≤ (σ2 6 0 18 0) ∧ (σ2 6 0 18 0) < 200 ∧
  ∀ σ3 : Mem, σ3 = up σ2 6 0 24 (σ2 6 0 18 0) 0 →
  ∃ nn, Mo_addCut_141 Q nn l1 l3 l6 0 σ3

def Mo_addCut_57 (k15 : Int → Int → Int → Int → Int → Int → Int → Mem → Prop) (Q : Mem → Prop) (l1 : Int) (l2 : Int) (l3 : Int) (l4 : Int) (l5 : Int) (l6 : Int) (l7 : Int) (σ : Mem) : Prop :=
  ∀ x1 : Int, x1 = (l7 + 1) →
  k15 l1 l2 l3 l4 l5 l6 x1 σ

def Mo_addCut_15 (Q : Mem → Prop) : Nat → Int → Int → Int → Int → Int → Int → Int → Mem → Prop
  | 0, _, _, _, _, _, _, _, _ => False
  | n + 1, l1, l2, l3, l4, l5, l6, l7, σ =>
  0 ≤ l1 ∧ l1 < 4 ∧
  InR l7 ∧
  InR (σ 6 0 8 l1) ∧
  (((σ 6 0 8 l1) ≤ l7 →
    0 ≤ (σ 6 0 18 0) ∧ (σ 6 0 18 0) < 200 ∧
    (l4 = 0 ∨ l4 = 1) ∧
    ∀ σ4 : Mem, σ4 = up σ 6 0 19 (σ 6 0 18 0) l4 →
    0 ≤ (σ4 6 0 18 0) ∧ (σ4 6 0 18 0) < 200 ∧
    ∀ σ5 : Mem, σ5 = up σ4 6 0 20 (σ4 6 0 18 0) l1 →
    0 ≤ (σ5 6 0 18 0) ∧ (σ5 6 0 18 0) < 200 ∧
    ∀ σ6 : Mem, σ6 = up σ5 6 0 21 (σ5 6 0 18 0) l2 →
    InR l4 ∧
    ((l4 = 0 →
      Mo_addCut_114 Q l1 l3 l6 (σ6 6 0 18 0) (-4) σ6) ∧
    (l4 ≠ 0 →
      Mo_addCut_114 Q l1 l3 l6 (σ6 6 0 18 0) l5 σ6))) ∧
  (l7 < (σ 6 0 8 l1) →
    ∀ x8 : Int, x8 = (iAnd l6 (iXor (iShl 1 l7) (-1))) →
    Mo_isTrue l1 l2 l3 x8 l4 l5 σ (fun r9 σ9 =>
    InR r9 ∧
    ((r9 = 0 →
      Mo_addCut_57 (fun z0 z1 z2 z3 z4 z5 z6 z7 => Mo_addCut_15 Q n z0 z1 z2 z3 z4 z5 z6 z7) Q l1 l2 l3 l4 l5 l6 l7 σ9) ∧
    (r9 ≠ 0 →
      Mo_addCut_57 (fun z0 z1 z2 z3 z4 z5 z6 z7 => Mo_addCut_15 Q n z0 z1 z2 z3 z4 z5 z6 z7) Q l1 l2 l3 l4 l5 x8 l7 σ9)))))

def Mo_addCut (l1 : Int) (l2 : Int) (l3 : Int) (l4 : Int) (l5 : Int) (σ : Mem) (Q : Mem → Prop) : Prop :=
  0 ≤ l1 ∧ l1 < 4 ∧
  ∀ x2 : Int, x2 = ((iShl 1 (σ 6 0 8 l1)) - 1) →
  ∃ nn, Mo_addCut_15 Q nn l1 l2 l3 l4 l5 x2 0 σ

def Mo_allWeights_4 (Q : Int → Mem → Prop) : Nat → Int → Int → Mem → Prop
  | 0, _, _, _ => False
  | n + 1, l1, l2, σ =>
  InR l2 ∧
  InR (σ 6 0 5 0) ∧
  (((σ 6 0 5 0) ≤ l2 →
    Q l1 σ) ∧
  (l2 < (σ 6 0 5 0) →
    0 ≤ l2 ∧ l2 < 4 ∧
    ∀ x4 : Int, x4 = (l1 + (σ 6 0 6 l2)) →
    ∀ x5 : Int, x5 = (l2 + 1) →
    Mo_allWeights_4 Q n x4 x5 σ))

def Mo_allWeights (σ : Mem) (Q : Int → Mem → Prop) : Prop :=
  ∃ nn, Mo_allWeights_4 Q nn 0 0 σ

def Mo_firstPlan_2 (Q : Mem → Prop) : Nat → Int → Mem → Prop
  | 0, _, _ => False
  | n + 1, l1, σ =>
  InR l1 ∧
  ((6 ≤ l1 →
    Q σ) ∧
  (l1 < 6 →
    0 ≤ l1 ∧ l1 < 6 ∧
    ∀ σ3 : Mem, σ3 = up σ 6 0 40 l1 0 →
    ∀ x4 : Int, x4 = (l1 + 1) →
    Mo_firstPlan_2 Q n x4 σ3))

def Mo_firstPlan (σ : Mem) (Q : Mem → Prop) : Prop :=
  ∃ nn, Mo_firstPlan_2 Q nn 0 σ

def Mo_nextPlan_41 (Q : Int → Mem → Prop) (l1 : Int) (σ : Mem) : Prop :=
  InR l1 ∧
  ((0 ≤ l1 →
    0 ≤ l1 ∧ l1 < 6 ∧
    0 ≤ l1 ∧ l1 < 6 ∧
    ∀ σ3 : Mem, σ3 = up σ 6 0 40 l1 ((σ 6 0 40 l1) + 1) →
    Q 1 σ3) ∧
  (l1 < 0 →
    Q 0 σ))

def Mo_nextPlan_7 (Q : Int → Mem → Prop) : Nat → Int → Mem → Prop
  | 0, _, _ => False
  | n + 1, l1, σ =>
  InR l1 ∧
  ((l1 < 0 →
    Mo_nextPlan_41 Q l1 σ) ∧
  (0 ≤ l1 →
    0 ≤ l1 ∧ l1 < 6 ∧
    0 ≤ l1 ∧ l1 < 6 ∧
    InR (σ 6 0 40 l1) ∧
    InR ((σ 6 0 1 l1) - 1) ∧
    (((σ 6 0 40 l1) ≠ ((σ 6 0 1 l1) - 1) →
      Mo_nextPlan_41 Q l1 σ) ∧
    ((σ 6 0 40 l1) = ((σ 6 0 1 l1) - 1) →
      0 ≤ l1 ∧ l1 < 6 ∧
      ∀ σ6 : Mem, σ6 = up σ 6 0 40 l1 0 →
      ∀ x7 : Int, x7 = (l1 + (-1)) →
      Mo_nextPlan_7 Q n x7 σ6))))

def Mo_nextPlan (σ : Mem) (Q : Int → Mem → Prop) : Prop :=
  ∀ x1 : Int, x1 = ((σ 6 0 0 0) - 1) →
  ∃ nn, Mo_nextPlan_7 Q nn x1 σ

def Mo_priceOf_4 (Q : Int → Mem → Prop) : Nat → Nat → Int → Nat → Int → Int → Mem → Prop
  | 0, _, _, _, _, _, _ => False
  | n + 1, l1c, l1p, l1k, l2, l3, σ =>
  InR l3 ∧
  InR (σ 6 0 0 0) ∧
  (((σ 6 0 0 0) ≤ l3 →
    Mo_allWeights σ (fun r3 σ3 =>
    Q (l2 * r3) σ3)) ∧
  (l3 < (σ 6 0 0 0) →
    0 ≤ l3 ∧ l3 < 6 ∧
    0 ≤ ((4 * l3) + (σ l1c l1p l1k l3)) ∧ ((4 * l3) + (σ l1c l1p l1k l3)) < 24 ∧
    InR (σ 6 0 3 ((4 * l3) + (σ l1c l1p l1k l3))) ∧
    (((σ 6 0 3 ((4 * l3) + (σ l1c l1p l1k l3))) = 0 →
      0 ≤ l3 ∧ l3 < 6 ∧
      0 ≤ ((4 * l3) + (σ l1c l1p l1k l3)) ∧ ((4 * l3) + (σ l1c l1p l1k l3)) < 24 ∧
      ∀ x9 : Int, x9 = (l2 + (σ 6 0 2 ((4 * l3) + (σ l1c l1p l1k l3)))) →
      ∀ x10 : Int, x10 = (l3 + 1) →
      Mo_priceOf_4 Q n l1c l1p l1k x9 x10 σ) ∧
    ((σ 6 0 3 ((4 * l3) + (σ l1c l1p l1k l3))) ≠ 0 →
      Q (-1) σ))))

def Mo_priceOf (l1c : Nat) (l1p : Int) (l1k : Nat) (σ : Mem) (Q : Int → Mem → Prop) : Prop :=
  ∃ nn, Mo_priceOf_4 Q nn l1c l1p l1k 0 0 σ

def Mo_byCuts_106 (Q : Int → Mem → Prop) (l1 : Int) (σ : Mem) : Prop :=
  Q l1 σ

def Mo_byCuts_100 (k11 : Int → Int → Mem → Prop) (Q : Int → Mem → Prop) (l1 : Int) (l2 : Int) (σ : Mem) : Prop :=
  ∀ x1 : Int, x1 = (l2 + 1) →
  k11 l1 x1 σ

def Mo_byCuts_93 (k36 : Int → Int → Int → Int → Mem → Prop) (Q : Int → Mem → Prop) (l2 : Int) (l3 : Int) (l4 : Int) (s0 : Int) (σ : Mem) : Prop :=
  ∀ x1 : Int, x1 = (l4 + 1) →
  k36 s0 l2 l3 x1 σ

def Mo_byCuts_36 (k11 : Int → Int → Mem → Prop) (Q : Int → Mem → Prop) : Nat → Int → Int → Int → Int → Mem → Prop
  | 0, _, _, _, _, _ => False
  | n + 1, l1, l2, l3, l4, σ =>
  InR l4 ∧
  InR (σ 6 0 5 0) ∧
  (((σ 6 0 5 0) ≤ l4 →
    Mo_byCuts_100 k11 Q l1 l2 σ) ∧
  (l4 < (σ 6 0 5 0) →
    InR l1 ∧
    ((l1 < 0 →
      Mo_byCuts_100 k11 Q l1 l2 σ) ∧
    (0 ≤ l1 →
      ∀ x4 : Int, x4 = ((64 * ((4 * l2) + l4)) + l3) →
      0 ≤ x4 ∧ x4 < 1024 ∧
      InR (σ 6 0 38 x4) ∧
      (((σ 6 0 38 x4) = 0 →
        0 ≤ l4 ∧ l4 < 4 ∧
        0 ≤ x4 ∧ x4 < 1024 ∧
        Mo_byCuts_93 (fun z0 z1 z2 z3 z4 => Mo_byCuts_36 k11 Q n z0 z1 z2 z3 z4) Q l2 l3 l4 (l1 + ((σ 6 0 6 l4) * (σ 6 0 39 x4))) σ) ∧
      ((σ 6 0 38 x4) ≠ 0 →
        Mo_byCuts_93 (fun z0 z1 z2 z3 z4 => Mo_byCuts_36 k11 Q n z0 z1 z2 z3 z4) Q l2 l3 l4 (-1) σ))))))

def Mo_byCuts_11 (Q : Int → Mem → Prop) : Nat → Int → Int → Mem → Prop
  | 0, _, _, _ => False
  | n + 1, l1, l2, σ =>
  InR l2 ∧
  InR (σ 6 0 7 0) ∧
  (((σ 6 0 7 0) ≤ l2 →
    Mo_byCuts_106 Q l1 σ) ∧
  (l2 < (σ 6 0 7 0) →
    InR l1 ∧
    ((l1 < 0 →
      Mo_byCuts_106 Q l1 σ) ∧
    (0 ≤ l1 →
      Mo_codeOf l2 6 0 40 σ (fun r4 σ4 =>
      ∃ nn, Mo_byCuts_36 (fun z0 z1 z2 => Mo_byCuts_11 Q n z0 z1 z2) Q nn l1 l2 r4 0 σ4)))))

def Mo_byCuts (σ : Mem) (Q : Int → Mem → Prop) : Prop :=
  Mo_priceOf 6 0 40 σ (fun r1 σ1 =>
  ∃ nn, Mo_byCuts_11 Q nn r1 0 σ1)

def Mo_findMaster_79 (k15 : Int → Mem → Prop) (Q : Mem → Prop) (σ : Mem) : Prop :=
  Mo_nextPlan σ (fun r1 σ1 =>
  k15 r1 σ1)

def Mo_findMaster_55 (k15 : Int → Mem → Prop) (Q : Mem → Prop) : Nat → Int → Mem → Prop
  | 0, _, _ => False
  | n + 1, l3, σ =>
  InR l3 ∧
  ((6 ≤ l3 →
    Mo_findMaster_79 k15 Q σ) ∧
  (l3 < 6 →
    0 ≤ l3 ∧ l3 < 6 ∧
    0 ≤ l3 ∧ l3 < 6 ∧
    ∀ σ4 : Mem, σ4 = up σ 6 0 34 l3 (σ 6 0 40 l3) →
    ∀ x5 : Int, x5 = (l3 + 1) →
    Mo_findMaster_55 k15 Q n x5 σ4))

def Mo_findMaster_43 (k15 : Int → Mem → Prop) (Q : Mem → Prop) (l2 : Int) (σ : Mem) : Prop :=
  ∀ σ1 : Mem, σ1 = up σ 6 0 30 0 1 →
  ∀ σ2 : Mem, σ2 = up σ1 6 0 31 0 l2 →
  ∃ nn, Mo_findMaster_55 k15 Q nn 0 σ2

def Mo_findMaster_15 (Q : Mem → Prop) : Nat → Int → Mem → Prop
  | 0, _, _ => False
  | n + 1, l1, σ =>
  InR l1 ∧
  ((l1 = 0 →
    Q σ) ∧
  (l1 ≠ 0 →
    Mo_byCuts σ (fun r2 σ2 =>
    InR r2 ∧
    ((r2 < 0 →
      Mo_findMaster_79 (fun z0 z1 => Mo_findMaster_15 Q n z0 z1) Q σ2) ∧
    (0 ≤ r2 →
      InR (σ2 6 0 30 0) ∧
      (((σ2 6 0 30 0) = 0 →
        Mo_findMaster_43 (fun z0 z1 => Mo_findMaster_15 Q n z0 z1) Q r2 σ2) ∧
      ((σ2 6 0 30 0) ≠ 0 →
        InR r2 ∧
        InR (σ2 6 0 31 0) ∧
        (((σ2 6 0 31 0) ≤ r2 →
          Mo_findMaster_79 (fun z0 z1 => Mo_findMaster_15 Q n z0 z1) Q σ2) ∧
        (r2 < (σ2 6 0 31 0) →
          Mo_findMaster_43 (fun z0 z1 => Mo_findMaster_15 Q n z0 z1) Q r2 σ2)))))))))

def Mo_findMaster (σ : Mem) (Q : Mem → Prop) : Prop :=
  Mo_layCuts σ (fun σ1 =>
  ∀ σ2 : Mem, σ2 = up σ1 6 0 30 0 0 →
  Mo_firstPlan σ2 (fun σ3 =>
  ∃ nn, Mo_findMaster_15 Q nn 1 σ3))

def Mo_round_306 (Q : Mem → Prop) (s1 : Int) (σ : Mem) : Prop :=
  ∀ σ1 : Mem, σ1 = up σ 6 0 28 0 s1 →
  ∀ σ2 : Mem, σ2 = up σ1 6 0 27 0 ((σ1 6 0 27 0) + 1) →
  Q σ2

def Mo_round_305 (Q : Mem → Prop) (σ : Mem) : Prop :=
  Mo_round_306 Q 0 σ

def Mo_round_282 (Q : Mem → Prop) (σ : Mem) : Prop :=
  InR (σ 6 0 29 0) ∧
  (((σ 6 0 29 0) = 0 →
    Mo_round_305 Q σ) ∧
  ((σ 6 0 29 0) ≠ 0 →
    InR (σ 6 0 31 0) ∧
    InR (σ 6 0 32 0) ∧
    (((σ 6 0 31 0) < (σ 6 0 32 0) →
      Mo_round_305 Q σ) ∧
    ((σ 6 0 32 0) ≤ (σ 6 0 31 0) →
      Mo_round_306 Q 1 σ))))

def Mo_round_255 (Q : Mem → Prop) : Nat → Int → Mem → Prop
  | 0, _, _ => False
  | n + 1, l4, σ =>
  InR l4 ∧
  ((6 ≤ l4 →
    Mo_round_282 Q σ) ∧
  (l4 < 6 →
    0 ≤ l4 ∧ l4 < 6 ∧
    0 ≤ l4 ∧ l4 < 6 ∧
    ∀ σ4 : Mem, σ4 = up σ 6 0 33 l4 (σ 6 0 34 l4) →
    ∀ x5 : Int, x5 = (l4 + 1) →
    Mo_round_255 Q n x5 σ4))

def Mo_round_242 (Q : Mem → Prop) (l3 : Int) (σ : Mem) : Prop :=
  ∀ σ1 : Mem, σ1 = up σ 6 0 29 0 1 →
  ∀ σ2 : Mem, σ2 = up σ1 6 0 32 0 l3 →
  ∃ nn, Mo_round_255 Q nn 0 σ2

def Mo_round_211 (k67 : Int → Int → Int → Int → Int → Int → Mem → Prop) (Q : Mem → Prop) (l1 : Int) (l2 : Int) (l3 : Int) (l4 : Int) (l5 : Int) (l6 : Int) (σ : Mem) : Prop :=
  ∀ x1 : Int, x1 = (l6 + 1) →
  k67 l1 l2 l3 l4 l5 x1 σ

def Mo_round_206 (k67 : Int → Int → Int → Int → Int → Int → Mem → Prop) (Q : Mem → Prop) (l1 : Int) (l2 : Int) (l3 : Int) (l4 : Int) (l5 : Int) (l6 : Int) (l7 : Int) (s1 : Int) (s2 : Int) (s3 : Int) (s4 : Int) (σ : Mem) : Prop :=
  Mo_addCut s1 s2 s3 s4 l7 σ (fun σ1 =>
  Mo_round_211 k67 Q l1 l2 l3 l4 l5 l6 σ1)

def Mo_round_182 (k67 : Int → Int → Int → Int → Int → Int → Mem → Prop) (Q : Mem → Prop) (l1 : Int) (l3 : Int) (l4 : Int) (l5 : Int) (l6 : Int) (l7 : Int) (s0 : Int) (σ : Mem) : Prop :=
  InR s0 ∧
  ((s0 ≠ 0 →
    Mo_round_211 k67 Q l1 s0 l3 l4 l5 l6 σ) ∧
  (s0 = 0 →
    InR l7 ∧
    ((l7 = (-4) →
      Mo_round_206 k67 Q l1 s0 l3 l4 l5 l6 l7 l4 l6 l5 0 σ) ∧
    (l7 ≠ (-4) →
      Mo_round_206 k67 Q l1 s0 l3 l4 l5 l6 l7 l4 l6 l5 1 σ))))

def Mo_round_177 (k67 : Int → Int → Int → Int → Int → Int → Mem → Prop) (Q : Mem → Prop) (l1 : Int) (l3 : Int) (l4 : Int) (l5 : Int) (l6 : Int) (l7 : Int) (σ : Mem) : Prop :=
  Mo_round_182 k67 Q l1 l3 l4 l5 l6 l7 1 σ

def Mo_round_163 (k67 : Int → Int → Int → Int → Int → Int → Mem → Prop) (Q : Mem → Prop) (l1 : Int) (l2 : Int) (l3 : Int) (l4 : Int) (l5 : Int) (l6 : Int) (l7 : Int) (σ : Mem) : Prop :=
  InR l2 ∧
  ((l2 ≠ 0 →
    Mo_round_177 k67 Q l1 l3 l4 l5 l6 l7 σ) ∧
  (l2 = 0 →
    InR (σ 6 0 18 0) ∧
    (((σ 6 0 18 0) ≠ 200 →
      Mo_round_182 k67 Q l1 l3 l4 l5 l6 l7 0 σ) ∧
    ((σ 6 0 18 0) = 200 →
      Mo_round_177 k67 Q l1 l3 l4 l5 l6 l7 σ))))

def Mo_round_147 (k67 : Int → Int → Int → Int → Int → Int → Mem → Prop) (Q : Mem → Prop) (l1 : Int) (l2 : Int) (l4 : Int) (l5 : Int) (l6 : Int) (l7 : Int) (l8 : Int) (s0 : Int) (s1 : Int) (σ : Mem) : Prop :=
  ∀ x1 : Int, x1 = (s0 + s1) →
  InR l7 ∧
  ((l7 = (-4) →
    Mo_round_163 k67 Q l1 l2 x1 l4 l5 l6 l7 σ) ∧
  (l7 ≠ (-4) →
    InR l7 ∧
    InR l8 ∧
    ((l7 ≤ l8 →
      Mo_round_211 k67 Q l1 l2 x1 l4 l5 l6 σ) ∧
    (l8 < l7 →
      Mo_round_163 k67 Q l1 l2 x1 l4 l5 l6 l7 σ))))

def Mo_round_124 (k67 : Int → Int → Int → Int → Int → Int → Mem → Prop) (Q : Mem → Prop) (l2 : Int) (l3 : Int) (l4 : Int) (l5 : Int) (l6 : Int) (l7 : Int) (l8 : Int) (s0 : Int) (σ : Mem) : Prop :=
  InR l7 ∧
  ((l7 ≠ (-4) →
    0 ≤ l6 ∧ l6 < 4 ∧
    Mo_round_147 k67 Q s0 l2 l4 l5 l6 l7 l8 l3 ((σ 6 0 6 l6) * l7) σ) ∧
  (l7 = (-4) →
    Mo_round_147 k67 Q s0 l2 l4 l5 l6 l7 l8 l3 0 σ))

def Mo_round_123 (k67 : Int → Int → Int → Int → Int → Int → Mem → Prop) (Q : Mem → Prop) (l2 : Int) (l3 : Int) (l4 : Int) (l5 : Int) (l6 : Int) (l7 : Int) (l8 : Int) (σ : Mem) : Prop :=
  Mo_round_124 k67 Q l2 l3 l4 l5 l6 l7 l8 0 σ

def Mo_round_67 (k43 : Int → Int → Int → Int → Mem → Prop) (Q : Mem → Prop) : Nat → Int → Int → Int → Int → Int → Int → Mem → Prop
  | 0, _, _, _, _, _, _, _ => False
  | n + 1, l1, l2, l3, l4, l5, l6, σ =>
  InR l6 ∧
  InR (σ 6 0 5 0) ∧
  (((σ 6 0 5 0) ≤ l6 →
    ∀ x3 : Int, x3 = (l4 + 1) →
    k43 l1 l2 l3 x3 σ) ∧
  (l6 < (σ 6 0 5 0) →
    Mo_answerTo l4 l5 l6 σ (fun r4 σ4 =>
    0 ≤ ((64 * ((4 * l4) + l6)) + l5) ∧ ((64 * ((4 * l4) + l6)) + l5) < 1024 ∧
    ∀ x6 : Int, x6 = (σ4 6 0 39 ((64 * ((4 * l4) + l6)) + l5)) →
    InR l1 ∧
    ((l1 = 0 →
      Mo_round_123 (fun z0 z1 z2 z3 z4 z5 z6 => Mo_round_67 k43 Q n z0 z1 z2 z3 z4 z5 z6) Q l2 l3 l4 l5 l6 r4 x6 σ4) ∧
    (l1 ≠ 0 →
      InR r4 ∧
      ((r4 = (-4) →
        Mo_round_123 (fun z0 z1 z2 z3 z4 z5 z6 => Mo_round_67 k43 Q n z0 z1 z2 z3 z4 z5 z6) Q l2 l3 l4 l5 l6 r4 x6 σ4) ∧
      (r4 ≠ (-4) →
        Mo_round_124 (fun z0 z1 z2 z3 z4 z5 z6 => Mo_round_67 k43 Q n z0 z1 z2 z3 z4 z5 z6) Q l2 l3 l4 l5 l6 r4 x6 1 σ4)))))))

def Mo_round_43 (Q : Mem → Prop) : Nat → Int → Int → Int → Int → Mem → Prop
  | 0, _, _, _, _, _ => False
  | n + 1, l1, l2, l3, l4, σ =>
  InR l4 ∧
  InR (σ 6 0 7 0) ∧
  (((σ 6 0 7 0) ≤ l4 →
    InR l1 ∧
    ((l1 = 0 →
      Mo_round_282 Q σ) ∧
    (l1 ≠ 0 →
      InR (σ 6 0 29 0) ∧
      (((σ 6 0 29 0) = 0 →
        Mo_round_242 Q l3 σ) ∧
      ((σ 6 0 29 0) ≠ 0 →
        InR l3 ∧
        InR (σ 6 0 32 0) ∧
        (((σ 6 0 32 0) ≤ l3 →
          Mo_round_282 Q σ) ∧
        (l3 < (σ 6 0 32 0) →
          Mo_round_242 Q l3 σ))))))) ∧
  (l4 < (σ 6 0 7 0) →
    Mo_codeOf l4 6 0 34 σ (fun r7 σ7 =>
    ∃ nn, Mo_round_67 (fun z0 z1 z2 z3 z4 => Mo_round_43 Q n z0 z1 z2 z3 z4) Q nn l1 l2 l3 l4 r7 0 σ7)))

def Mo_round (σ : Mem) (Q : Mem → Prop) : Prop :=
  Mo_findMaster σ (fun σ1 =>
  InR (σ1 6 0 30 0) ∧
  (((σ1 6 0 30 0) ≠ 0 →
    Mo_priceOf 6 0 34 σ1 (fun r3 σ3 =>
    ∃ nn, Mo_round_43 Q nn 1 0 r3 0 σ3)) ∧
  ((σ1 6 0 30 0) = 0 →
    ∀ σ4 : Mem, σ4 = up σ1 6 0 28 0 2 →
    ∀ σ5 : Mem, σ5 = up σ4 6 0 27 0 ((σ4 6 0 27 0) + 1) →
    Q σ5)))

def Mo_run_62 (Q : Int → Mem → Prop) (s0 : Int) (σ : Mem) : Prop :=
  Q s0 σ

def Mo_run_37 (Q : Int → Mem → Prop) (σ : Mem) : Prop :=
  InR (σ 6 0 28 0) ∧
  (((σ 6 0 28 0) ≠ 1 →
    InR (σ 6 0 28 0) ∧
    (((σ 6 0 28 0) ≠ 2 →
      Mo_run_62 Q 2 σ) ∧
    ((σ 6 0 28 0) = 2 →
      Mo_run_62 Q 0 σ))) ∧
  ((σ 6 0 28 0) = 1 →
    Mo_run_62 Q 1 σ))

def Mo_run_15 (Q : Int → Mem → Prop) : Nat → Int → Int → Mem → Prop
  | 0, _, _, _ => False
  | n + 1, l1, l2, σ =>
  InR l2 ∧
  InR l1 ∧
  ((l1 ≤ l2 →
    Mo_run_37 Q σ) ∧
  (l2 < l1 →
    InR (σ 6 0 28 0) ∧
    (((σ 6 0 28 0) ≠ 0 →
      Mo_run_37 Q σ) ∧
    ((σ 6 0 28 0) = 0 →
      Mo_round σ (fun σ4 =>
      ∀ x5 : Int, x5 = (l2 + 1) →
      Mo_run_15 Q n l1 x5 σ4)))))

def Mo_run (l1 : Int) (σ : Mem) (Q : Int → Mem → Prop) : Prop :=
  Mo_beyond l1 1 50 σ (fun r1 σ1 =>
  InR r1 ∧
  ((r1 = 0 →
    ∃ nn, Mo_run_15 Q nn l1 0 σ1) ∧
  (r1 ≠ 0 →
    Q (-2) σ1)))

def Mo_told_95 (Q : Int → Mem → Prop) (s0 : Int) (σ : Mem) : Prop :=
  Q s0 σ

def Mo_told_78 (Q : Int → Mem → Prop) (s0 : Int) (σ : Mem) : Prop :=
  Q s0 σ

def Mo_told (l1 : Int) (σ : Mem) (Q : Int → Mem → Prop) : Prop :=
  InR l1 ∧
  ((l1 = 0 →
    Q (σ 6 0 27 0) σ) ∧
  ((l1 = 1 →
    Q (σ 6 0 18 0) σ) ∧
  ((l1 = 2 →
    InR (σ 6 0 30 0) ∧
    (((σ 6 0 30 0) = 0 →
      Mo_told_78 Q (-4) σ) ∧
    ((σ 6 0 30 0) ≠ 0 →
      Mo_told_78 Q (σ 6 0 31 0) σ))) ∧
  ((l1 = 3 →
    InR (σ 6 0 29 0) ∧
    (((σ 6 0 29 0) = 0 →
      Mo_told_95 Q (-4) σ) ∧
    ((σ 6 0 29 0) ≠ 0 →
      Mo_told_95 Q (σ 6 0 32 0) σ))) ∧
  ((l1 = 4 →
    Mo_allWeights σ (fun r4 σ4 =>
    Q r4 σ4)) ∧
  ((l1 = 5 →
    Q (σ 6 0 0 0) σ) ∧
  ((l1 = 6 →
    Q (σ 6 0 7 0) σ) ∧
  ((l1 = 7 →
    Q (σ 6 0 5 0) σ) ∧
  ((l1 = 8 →
    Q (σ 6 0 28 0) σ) ∧
  (l1 < 0 ∨ 8 < l1 →
    Q (-2) σ))))))))))

def Mo_best_34 (Q : Int → Mem → Prop) (s0 : Int) (σ : Mem) : Prop :=
  Q s0 σ

def Mo_best (l1 : Int) (σ : Mem) (Q : Int → Mem → Prop) : Prop :=
  Mo_beyond l1 0 ((σ 6 0 0 0) - 1) σ (fun r1 σ1 =>
  InR r1 ∧
  ((r1 = 0 →
    InR (σ1 6 0 29 0) ∧
    (((σ1 6 0 29 0) = 0 →
      Mo_best_34 Q (-4) σ1) ∧
    ((σ1 6 0 29 0) ≠ 0 →
      0 ≤ l1 ∧ l1 < 6 ∧
      Mo_best_34 Q (σ1 6 0 33 l1) σ1))) ∧
  (r1 ≠ 0 →
    Q (-1) σ1)))

def Mo_master_34 (Q : Int → Mem → Prop) (s0 : Int) (σ : Mem) : Prop :=
  Q s0 σ

def Mo_master (l1 : Int) (σ : Mem) (Q : Int → Mem → Prop) : Prop :=
  Mo_beyond l1 0 ((σ 6 0 0 0) - 1) σ (fun r1 σ1 =>
  InR r1 ∧
  ((r1 = 0 →
    InR (σ1 6 0 30 0) ∧
    (((σ1 6 0 30 0) = 0 →
      Mo_master_34 Q (-4) σ1) ∧
    ((σ1 6 0 30 0) ≠ 0 →
      0 ≤ l1 ∧ l1 < 6 ∧
      Mo_master_34 Q (σ1 6 0 34 l1) σ1))) ∧
  (r1 ≠ 0 →
    Q (-1) σ1)))

def Mo_share_45 (Q : Int → Mem → Prop) : Nat → Int → Int → Int → Mem → Prop
  | 0, _, _, _, _ => False
  | n + 1, l1, l2, l3, σ =>
  InR l3 ∧
  InR (σ 6 0 5 0) ∧
  (((σ 6 0 5 0) ≤ l3 →
    Q l2 σ) ∧
  (l3 < (σ 6 0 5 0) →
    0 ≤ l3 ∧ l3 < 4 ∧
    Mo_codeOf l1 6 0 33 σ (fun r4 σ4 =>
    Mo_answerTo l1 r4 l3 σ4 (fun r5 σ5 =>
    ∀ x6 : Int, x6 = (l2 + ((σ 6 0 6 l3) * r5)) →
    ∀ x7 : Int, x7 = (l3 + 1) →
    Mo_share_45 Q n l1 x6 x7 σ5))))

def Mo_share_16 (Q : Int → Mem → Prop) (l1 : Int) (σ : Mem) : Prop :=
  InR (σ 6 0 29 0) ∧
  (((σ 6 0 29 0) ≠ 0 →
    InR l1 ∧
    ((l1 ≠ (-4) →
      ∃ nn, Mo_share_45 Q nn l1 0 0 σ) ∧
    (l1 = (-4) →
      Mo_priceOf 6 0 33 σ (fun r4 σ4 =>
      Q r4 σ4)))) ∧
  ((σ 6 0 29 0) = 0 →
    Q (-4) σ))

def Mo_share (l1 : Int) (σ : Mem) (Q : Int → Mem → Prop) : Prop :=
  InR l1 ∧
  ((l1 = (-4) →
    Mo_share_16 Q l1 σ) ∧
  (l1 ≠ (-4) →
    Mo_noPart l1 σ (fun r3 σ3 =>
    InR r3 ∧
    ((r3 = 0 →
      Mo_share_16 Q l1 σ3) ∧
    (r3 ≠ 0 →
      Q (-1) σ3)))))

def Mo_ask (l1 : Int) (l2 : Int) (σ : Mem) (Q : Int → Mem → Prop) : Prop :=
  Mo_noValue l1 l2 σ (fun r1 σ1 =>
  InR r1 ∧
  ((r1 = 0 →
    0 ≤ l1 ∧ l1 < 6 ∧
    ∀ x4 : Int, x4 = (σ1 6 0 4 l1) →
    0 ≤ l1 ∧ l1 < 6 ∧
    ∀ σ5 : Mem, σ5 = up σ1 6 0 4 l1 l2 →
    Q x4 σ5) ∧
  (r1 ≠ 0 →
    Q (-1) σ1)))

def Mo_answer_16 (Q : Int → Mem → Prop) (σ : Mem) : Prop :=
  Q (-1) σ

def Mo_answer (l1 : Int) (l2 : Int) (σ : Mem) (Q : Int → Mem → Prop) : Prop :=
  Mo_noPart l1 σ (fun r1 σ1 =>
  InR r1 ∧
  ((r1 ≠ 0 →
    Mo_answer_16 Q σ1) ∧
  (r1 = 0 →
    Mo_noFuture l2 σ1 (fun r3 σ3 =>
    InR r3 ∧
    ((r3 = 0 →
      Mo_codeOf l1 6 0 4 σ3 (fun r5 σ5 =>
      Mo_answerTo l1 r5 l2 σ5 (fun r6 σ6 =>
      Q r6 σ6))) ∧
    (r3 ≠ 0 →
      Mo_answer_16 Q σ3))))))

def Mo_unit_69 (Q : Int → Mem → Prop) (s0 : Int) (σ : Mem) : Prop :=
  Q s0 σ

def Mo_unit_32 (Q : Int → Mem → Prop) (σ : Mem) : Prop :=
  Q (-1) σ

def Mo_unit (l1 : Int) (l2 : Int) (l3 : Int) (σ : Mem) (Q : Int → Mem → Prop) : Prop :=
  Mo_noPart l1 σ (fun r1 σ1 =>
  InR r1 ∧
  ((r1 ≠ 0 →
    Mo_unit_32 Q σ1) ∧
  (r1 = 0 →
    Mo_noFuture l2 σ1 (fun r3 σ3 =>
    InR r3 ∧
    ((r3 ≠ 0 →
      Mo_unit_32 Q σ3) ∧
    (r3 = 0 →
      0 ≤ l1 ∧ l1 < 4 ∧
      Mo_beyond l3 0 ((σ3 6 0 10 l1) - 1) σ3 (fun r6 σ6 =>
      InR r6 ∧
      ((r6 = 0 →
        Mo_codeOf l1 6 0 4 σ6 (fun r8 σ8 =>
        Mo_answerTo l1 r8 l2 σ8 (fun r9 σ9 =>
        InR r9 ∧
        ((r9 ≠ (-4) →
          0 ≤ l3 ∧ l3 < 4 ∧
          Mo_unit_69 Q (σ9 6 0 37 l3) σ9) ∧
        (r9 = (-4) →
          Mo_unit_69 Q (-4) σ9))))) ∧
      (r6 ≠ 0 →
        Mo_unit_32 Q σ6)))))))))

def Mo_cut_143 (Q : Int → Mem → Prop) (s0 : Int) (σ : Mem) : Prop :=
  Q s0 σ

def Mo_cut_74 (Q : Int → Mem → Prop) (s0 : Int) (σ : Mem) : Prop :=
  Q s0 σ

def Mo_cut (l1 : Int) (l2 : Int) (σ : Mem) (Q : Int → Mem → Prop) : Prop :=
  Mo_beyond l1 0 ((σ 6 0 18 0) - 1) σ (fun r1 σ1 =>
  InR r1 ∧
  ((r1 = 0 →
    InR l2 ∧
    ((l2 = 0 →
      0 ≤ l1 ∧ l1 < 200 ∧
      InR (σ1 6 0 19 l1) ∧
      (((σ1 6 0 19 l1) = 0 →
        Mo_cut_74 Q 0 σ1) ∧
      ((σ1 6 0 19 l1) ≠ 0 →
        Mo_cut_74 Q 1 σ1))) ∧
    ((l2 = 1 →
      0 ≤ l1 ∧ l1 < 200 ∧
      Q (σ1 6 0 20 l1) σ1) ∧
    ((l2 = 2 →
      0 ≤ l1 ∧ l1 < 200 ∧
      Q (σ1 6 0 21 l1) σ1) ∧
    ((l2 = 3 →
      0 ≤ l1 ∧ l1 < 200 ∧
      Q (σ1 6 0 22 l1) σ1) ∧
    ((l2 = 4 →
      0 ≤ l1 ∧ l1 < 200 ∧
      Q (σ1 6 0 24 l1) σ1) ∧
    ((l2 = 5 →
      0 ≤ l1 ∧ l1 < 200 ∧
      Q (σ1 6 0 23 l1) σ1) ∧
    ((l2 = 6 →
      0 ≤ l1 ∧ l1 < 200 ∧
      0 ≤ l1 ∧ l1 < 200 ∧
      Mo_codeOf (σ1 6 0 20 l1) 6 0 4 σ1 (fun r13 σ13 =>
      Mo_meets l1 (σ1 6 0 20 l1) r13 σ13 (fun r14 σ14 =>
      InR r14 ∧
      ((r14 = 0 →
        Mo_cut_143 Q 0 σ14) ∧
      (r14 ≠ 0 →
        Mo_cut_143 Q 1 σ14))))) ∧
    (l2 < 0 ∨ 6 < l2 →
      Q (-2) σ1))))))))) ∧
  (r1 ≠ 0 →
    Q (-1) σ1)))

def Mo_reason_61 (Q : Int → Mem → Prop) (s0 : Int) (σ : Mem) : Prop :=
  Q s0 σ

def Mo_reason (l1 : Int) (l2 : Int) (σ : Mem) (Q : Int → Mem → Prop) : Prop :=
  Mo_beyond l1 0 ((σ 6 0 18 0) - 1) σ (fun r1 σ1 =>
  InR r1 ∧
  ((r1 = 0 →
    0 ≤ l1 ∧ l1 < 200 ∧
    Mo_beyond l2 0 ((σ1 6 0 24 l1) - 1) σ1 (fun r4 σ4 =>
    InR r4 ∧
    ((r4 = 0 →
      0 ≤ ((3 * l1) + l2) ∧ ((3 * l1) + l2) < 600 ∧
      0 ≤ ((3 * l1) + l2) ∧ ((3 * l1) + l2) < 600 ∧
      Mo_reason_61 Q ((10 * (σ4 6 0 25 ((3 * l1) + l2))) + (σ4 6 0 26 ((3 * l1) + l2))) σ4) ∧
    (r4 ≠ 0 →
      Mo_reason_61 Q (-4) σ4)))) ∧
  (r1 ≠ 0 →
    Q (-1) σ1)))

def Mo_judge_217 (k91 : Int → Int → Mem → Prop) (Q : Int → Mem → Prop) (l1 : Int) (σ : Mem) : Prop :=
  Mo_nextPlan σ (fun r1 σ1 =>
  k91 l1 r1 σ1)

def Mo_judge_215 (k91 : Int → Int → Mem → Prop) (Q : Int → Mem → Prop) (l3 : Int) (σ : Mem) : Prop :=
  Mo_judge_217 k91 Q l3 σ

def Mo_judge_200 (k91 : Int → Int → Mem → Prop) (Q : Int → Mem → Prop) (l1 : Int) (l3 : Int) (σ : Mem) : Prop :=
  InR l3 ∧
  ((l3 < 0 →
    Mo_judge_217 k91 Q l1 σ) ∧
  (0 ≤ l3 →
    InR l1 ∧
    ((l1 = (-4) →
      Mo_judge_215 k91 Q l3 σ) ∧
    (l1 ≠ (-4) →
      InR l3 ∧
      InR l1 ∧
      ((l1 ≤ l3 →
        Mo_judge_217 k91 Q l1 σ) ∧
      (l3 < l1 →
        Mo_judge_215 k91 Q l3 σ))))))

def Mo_judge_194 (k107 : Int → Int → Int → Mem → Prop) (Q : Int → Mem → Prop) (l1 : Int) (l3 : Int) (l4 : Int) (σ : Mem) : Prop :=
  ∀ x1 : Int, x1 = (l4 + 1) →
  k107 l1 l3 x1 σ

def Mo_judge_187 (k123 : Int → Int → Int → Int → Mem → Prop) (Q : Int → Mem → Prop) (l1 : Int) (l4 : Int) (l5 : Int) (s0 : Int) (σ : Mem) : Prop :=
  ∀ x1 : Int, x1 = (l5 + 1) →
  k123 l1 s0 l4 x1 σ

def Mo_judge_123 (k107 : Int → Int → Int → Mem → Prop) (Q : Int → Mem → Prop) : Nat → Int → Int → Int → Int → Mem → Prop
  | 0, _, _, _, _, _ => False
  | n + 1, l1, l3, l4, l5, σ =>
  InR l5 ∧
  InR (σ 6 0 5 0) ∧
  (((σ 6 0 5 0) ≤ l5 →
    Mo_judge_194 k107 Q l1 l3 l4 σ) ∧
  (l5 < (σ 6 0 5 0) →
    InR l3 ∧
    ((l3 < 0 →
      Mo_judge_194 k107 Q l1 l3 l4 σ) ∧
    (0 ≤ l3 →
      Mo_codeOf l4 6 0 40 σ (fun r4 σ4 =>
      0 ≤ ((64 * ((4 * l4) + l5)) + r4) ∧ ((64 * ((4 * l4) + l5)) + r4) < 1024 ∧
      ∀ x6 : Int, x6 = (σ4 6 0 41 ((64 * ((4 * l4) + l5)) + r4)) →
      InR x6 ∧
      ((x6 ≠ (-4) →
        0 ≤ l5 ∧ l5 < 4 ∧
        Mo_judge_187 (fun z0 z1 z2 z3 z4 => Mo_judge_123 k107 Q n z0 z1 z2 z3 z4) Q l1 l4 l5 (l3 + ((σ4 6 0 6 l5) * x6)) σ4) ∧
      (x6 = (-4) →
        Mo_judge_187 (fun z0 z1 z2 z3 z4 => Mo_judge_123 k107 Q n z0 z1 z2 z3 z4) Q l1 l4 l5 (-1) σ4)))))))

def Mo_judge_107 (k91 : Int → Int → Mem → Prop) (Q : Int → Mem → Prop) : Nat → Int → Int → Int → Mem → Prop
  | 0, _, _, _, _ => False
  | n + 1, l1, l3, l4, σ =>
  InR l4 ∧
  InR (σ 6 0 7 0) ∧
  (((σ 6 0 7 0) ≤ l4 →
    Mo_judge_200 k91 Q l1 l3 σ) ∧
  (l4 < (σ 6 0 7 0) →
    InR l3 ∧
    ((l3 < 0 →
      Mo_judge_200 k91 Q l1 l3 σ) ∧
    (0 ≤ l3 →
      ∃ nn, Mo_judge_123 (fun z0 z1 z2 z3 => Mo_judge_107 k91 Q n z0 z1 z2 z3) Q nn l1 l3 l4 0 σ))))

def Mo_judge_91 (Q : Int → Mem → Prop) : Nat → Int → Int → Mem → Prop
  | 0, _, _, _ => False
  | n + 1, l1, l2, σ =>
  InR l2 ∧
  ((l2 = 0 →
    Q l1 σ) ∧
  (l2 ≠ 0 →
    Mo_priceOf 6 0 40 σ (fun r2 σ2 =>
    ∃ nn, Mo_judge_107 (fun z0 z1 z2 => Mo_judge_91 Q n z0 z1 z2) Q nn l1 r2 0 σ2)))

def Mo_judge_63 (k22 : Int → Int → Int → Mem → Prop) (Q : Int → Mem → Prop) (l1 : Int) (l2 : Int) (l3 : Int) (s1 : Int) (s2 : Int) (σ : Mem) : Prop :=
  0 ≤ s1 ∧ s1 < 1024 ∧
  ∀ σ1 : Mem, σ1 = up σ 6 0 41 s1 s2 →
  ∀ x2 : Int, x2 = (l3 + 1) →
  k22 l1 l2 x2 σ1

def Mo_judge_22 (k12 : Int → Int → Mem → Prop) (Q : Int → Mem → Prop) : Nat → Int → Int → Int → Mem → Prop
  | 0, _, _, _, _ => False
  | n + 1, l1, l2, l3, σ =>
  InR l3 ∧
  ((64 ≤ l3 →
    ∀ x3 : Int, x3 = (l2 + 1) →
    k12 l1 x3 σ) ∧
  (l3 < 64 →
    Mo_isCode l1 l3 σ (fun r4 σ4 =>
    InR r4 ∧
    ((r4 = 0 →
      Mo_judge_63 (fun z0 z1 z2 z3 => Mo_judge_22 k12 Q n z0 z1 z2 z3) Q l1 l2 l3 ((64 * ((4 * l1) + l2)) + l3) (-4) σ4) ∧
    (r4 ≠ 0 →
      Mo_answerTo l1 l3 l2 σ4 (fun r6 σ6 =>
      Mo_judge_63 (fun z0 z1 z2 z3 => Mo_judge_22 k12 Q n z0 z1 z2 z3) Q l1 l2 l3 ((64 * ((4 * l1) + l2)) + l3) r6 σ6))))))

def Mo_judge_12 (k2 : Int → Mem → Prop) (Q : Int → Mem → Prop) : Nat → Int → Int → Mem → Prop
  | 0, _, _, _ => False
  | n + 1, l1, l2, σ =>
  InR l2 ∧
  InR (σ 6 0 5 0) ∧
  (((σ 6 0 5 0) ≤ l2 →
    ∀ x3 : Int, x3 = (l1 + 1) →
    k2 x3 σ) ∧
  (l2 < (σ 6 0 5 0) →
    ∃ nn, Mo_judge_22 (fun z0 z1 z2 => Mo_judge_12 k2 Q n z0 z1 z2) Q nn l1 l2 0 σ))

def Mo_judge_2 (Q : Int → Mem → Prop) : Nat → Int → Mem → Prop
  | 0, _, _ => False
  | n + 1, l1, σ =>
  InR l1 ∧
  InR (σ 6 0 7 0) ∧
  (((σ 6 0 7 0) ≤ l1 →
    Mo_firstPlan σ (fun σ3 =>
    ∃ nn, Mo_judge_91 Q nn (-4) 1 σ3)) ∧
  (l1 < (σ 6 0 7 0) →
    ∃ nn, Mo_judge_12 (fun z0 z1 => Mo_judge_2 Q n z0 z1) Q nn l1 0 σ))

def Mo_judge (σ : Mem) (Q : Int → Mem → Prop) : Prop :=
  ∃ nn, Mo_judge_2 Q nn 0 σ

def Lw_law_811 (scr : Int → Int) (L : Int) (k18 : Int → Mem → Prop) (Q : Int → Mem → Prop) (l3 : Int) (σ : Mem) : Prop :=
  ∀ x1 : Int, x1 = (l3 + 6) →
  k18 x1 σ

def Lw_law_437 (scr : Int → Int) (L : Int) (k18 : Int → Mem → Prop) (Q : Int → Mem → Prop) (l3 : Int) (s0 : Int) (s2 : Int) (s3 : Int) (s4 : Int) (σ : Mem) : Prop :=
  0 ≤ (l3 + 4) ∧ (l3 + 4) < L ∧
  0 ≤ (l3 + 5) ∧ (l3 + 5) < L ∧
  Mo_weigh s2 s3 s4 (scr (l3 + 4)) (scr (l3 + 5)) σ (fun r3 σ3 =>
  InR s0 ∧
  InR r3 ∧
  ((s0 = r3 →
    Lw_law_811 scr L k18 Q l3 σ3) ∧
  (s0 ≠ r3 →
    Q 0 σ3)))

def Lw_law_400 (scr : Int → Int) (L : Int) (k18 : Int → Mem → Prop) (Q : Int → Mem → Prop) (l3 : Int) (s1 : Int) (s2 : Int) (s3 : Int) (σ : Mem) : Prop :=
  0 ≤ (l3 + 4) ∧ (l3 + 4) < L ∧
  0 ≤ (l3 + 5) ∧ (l3 + 5) < L ∧
  Sr_weigh s1 s2 s3 (scr (l3 + 4)) (scr (l3 + 5)) σ (fun r3 σ3 =>
  0 ≤ (l3 + 1) ∧ (l3 + 1) < L ∧
  0 ≤ (l3 + 2) ∧ (l3 + 2) < L ∧
  0 ≤ (l3 + 3) ∧ (l3 + 3) < L ∧
  InR (scr (l3 + 3)) ∧
  (((scr (l3 + 3)) = 0 →
    Lw_law_437 scr L k18 Q l3 r3 (scr (l3 + 1)) (scr (l3 + 2)) 0 σ3) ∧
  ((scr (l3 + 3)) ≠ 0 →
    Lw_law_437 scr L k18 Q l3 r3 (scr (l3 + 1)) (scr (l3 + 2)) 1 σ3)))

def Lw_law_18 (scr : Int → Int) (L : Int) (Q : Int → Mem → Prop) : Nat → Int → Mem → Prop
  | 0, _, _ => False
  | n + 1, l3, σ =>
  InR l3 ∧
  InR (L - 6) ∧
  (((L - 6) < l3 →
    Q 1 σ) ∧
  (l3 ≤ (L - 6) →
    0 ≤ l3 ∧ l3 < L ∧
    InR (iAnd (scr l3) 31) ∧
    (((iAnd (scr l3) 31) = 0 →
      0 ≤ (l3 + 1) ∧ (l3 + 1) < L ∧
      Sr_choice (scr (l3 + 1)) σ (fun r6 σ6 =>
      0 ≤ (l3 + 1) ∧ (l3 + 1) < L ∧
      Mo_choice (scr (l3 + 1)) σ6 (fun r8 σ8 =>
      InR r6 ∧
      InR r8 ∧
      ((r6 = r8 →
        Lw_law_811 scr L (fun z0 z1 => Lw_law_18 scr L Q n z0 z1) Q l3 σ8) ∧
      (r6 ≠ r8 →
        Q 0 σ8))))) ∧
    (((iAnd (scr l3) 31) = 1 →
      0 ≤ (l3 + 1) ∧ (l3 + 1) < L ∧
      0 ≤ (l3 + 2) ∧ (l3 + 2) < L ∧
      0 ≤ (l3 + 3) ∧ (l3 + 3) < L ∧
      Sr_price (scr (l3 + 1)) (scr (l3 + 2)) (scr (l3 + 3)) σ (fun r14 σ14 =>
      0 ≤ (l3 + 1) ∧ (l3 + 1) < L ∧
      0 ≤ (l3 + 2) ∧ (l3 + 2) < L ∧
      0 ≤ (l3 + 3) ∧ (l3 + 3) < L ∧
      Mo_price (scr (l3 + 1)) (scr (l3 + 2)) (scr (l3 + 3)) σ14 (fun r18 σ18 =>
      InR r14 ∧
      InR r18 ∧
      ((r14 = r18 →
        Lw_law_811 scr L (fun z0 z1 => Lw_law_18 scr L Q n z0 z1) Q l3 σ18) ∧
      (r14 ≠ r18 →
        Q 0 σ18))))) ∧
    (((iAnd (scr l3) 31) = 2 →
      0 ≤ (l3 + 1) ∧ (l3 + 1) < L ∧
      Sr_future (scr (l3 + 1)) σ (fun r22 σ22 =>
      0 ≤ (l3 + 1) ∧ (l3 + 1) < L ∧
      Mo_future (scr (l3 + 1)) σ22 (fun r24 σ24 =>
      InR r22 ∧
      InR r24 ∧
      ((r22 = r24 →
        Lw_law_811 scr L (fun z0 z1 => Lw_law_18 scr L Q n z0 z1) Q l3 σ24) ∧
      (r22 ≠ r24 →
        Q 0 σ24))))) ∧
    (((iAnd (scr l3) 31) = 3 →
      0 ≤ (l3 + 1) ∧ (l3 + 1) < L ∧
      0 ≤ (l3 + 2) ∧ (l3 + 2) < L ∧
      Sr_weight (scr (l3 + 1)) (scr (l3 + 2)) σ (fun r29 σ29 =>
      0 ≤ (l3 + 1) ∧ (l3 + 1) < L ∧
      0 ≤ (l3 + 2) ∧ (l3 + 2) < L ∧
      Mo_weight (scr (l3 + 1)) (scr (l3 + 2)) σ29 (fun r32 σ32 =>
      InR r29 ∧
      InR r32 ∧
      ((r29 = r32 →
        Lw_law_811 scr L (fun z0 z1 => Lw_law_18 scr L Q n z0 z1) Q l3 σ32) ∧
      (r29 ≠ r32 →
        Q 0 σ32))))) ∧
    (((iAnd (scr l3) 31) = 4 →
      Sr_part σ (fun r35 σ35 =>
      Mo_part σ35 (fun r36 σ36 =>
      InR r35 ∧
      InR r36 ∧
      ((r35 = r36 →
        Lw_law_811 scr L (fun z0 z1 => Lw_law_18 scr L Q n z0 z1) Q l3 σ36) ∧
      (r35 ≠ r36 →
        Q 0 σ36))))) ∧
    (((iAnd (scr l3) 31) = 5 →
      0 ≤ (l3 + 1) ∧ (l3 + 1) < L ∧
      0 ≤ (l3 + 2) ∧ (l3 + 2) < L ∧
      Sr_join (scr (l3 + 1)) (scr (l3 + 2)) σ (fun r41 σ41 =>
      0 ≤ (l3 + 1) ∧ (l3 + 1) < L ∧
      0 ≤ (l3 + 2) ∧ (l3 + 2) < L ∧
      Mo_join (scr (l3 + 1)) (scr (l3 + 2)) σ41 (fun r44 σ44 =>
      InR r41 ∧
      InR r44 ∧
      ((r41 = r44 →
        Lw_law_811 scr L (fun z0 z1 => Lw_law_18 scr L Q n z0 z1) Q l3 σ44) ∧
      (r41 ≠ r44 →
        Q 0 σ44))))) ∧
    (((iAnd (scr l3) 31) = 6 →
      0 ≤ (l3 + 1) ∧ (l3 + 1) < L ∧
      0 ≤ (l3 + 2) ∧ (l3 + 2) < L ∧
      0 ≤ (l3 + 3) ∧ (l3 + 3) < L ∧
      Sr_local (scr (l3 + 1)) (scr (l3 + 2)) (scr (l3 + 3)) σ (fun r50 σ50 =>
      0 ≤ (l3 + 1) ∧ (l3 + 1) < L ∧
      0 ≤ (l3 + 2) ∧ (l3 + 2) < L ∧
      0 ≤ (l3 + 3) ∧ (l3 + 3) < L ∧
      Mo_local (scr (l3 + 1)) (scr (l3 + 2)) (scr (l3 + 3)) σ50 (fun r54 σ54 =>
      InR r50 ∧
      InR r54 ∧
      ((r50 = r54 →
        Lw_law_811 scr L (fun z0 z1 => Lw_law_18 scr L Q n z0 z1) Q l3 σ54) ∧
      (r50 ≠ r54 →
        Q 0 σ54))))) ∧
    (((iAnd (scr l3) 31) = 7 →
      0 ≤ (l3 + 1) ∧ (l3 + 1) < L ∧
      0 ≤ (l3 + 2) ∧ (l3 + 2) < L ∧
      Sr_row (scr (l3 + 1)) (scr (l3 + 2)) σ (fun r59 σ59 =>
      0 ≤ (l3 + 1) ∧ (l3 + 1) < L ∧
      0 ≤ (l3 + 2) ∧ (l3 + 2) < L ∧
      Mo_row (scr (l3 + 1)) (scr (l3 + 2)) σ59 (fun r62 σ62 =>
      InR r59 ∧
      InR r62 ∧
      ((r59 = r62 →
        Lw_law_811 scr L (fun z0 z1 => Lw_law_18 scr L Q n z0 z1) Q l3 σ62) ∧
      (r59 ≠ r62 →
        Q 0 σ62))))) ∧
    (((iAnd (scr l3) 31) = 8 →
      0 ≤ (l3 + 1) ∧ (l3 + 1) < L ∧
      0 ≤ (l3 + 2) ∧ (l3 + 2) < L ∧
      0 ≤ (l3 + 3) ∧ (l3 + 3) < L ∧
      InR (scr (l3 + 3)) ∧
      (((scr (l3 + 3)) = 0 →
        Lw_law_400 scr L (fun z0 z1 => Lw_law_18 scr L Q n z0 z1) Q l3 (scr (l3 + 1)) (scr (l3 + 2)) 0 σ) ∧
      ((scr (l3 + 3)) ≠ 0 →
        Lw_law_400 scr L (fun z0 z1 => Lw_law_18 scr L Q n z0 z1) Q l3 (scr (l3 + 1)) (scr (l3 + 2)) 1 σ))) ∧
    (((iAnd (scr l3) 31) = 9 →
      0 ≤ (l3 + 1) ∧ (l3 + 1) < L ∧
      0 ≤ (l3 + 2) ∧ (l3 + 2) < L ∧
      0 ≤ (l3 + 3) ∧ (l3 + 3) < L ∧
      0 ≤ (l3 + 4) ∧ (l3 + 4) < L ∧
      Sr_shift (scr (l3 + 1)) (scr (l3 + 2)) (scr (l3 + 3)) (scr (l3 + 4)) σ (fun r73 σ73 =>
      0 ≤ (l3 + 1) ∧ (l3 + 1) < L ∧
      0 ≤ (l3 + 2) ∧ (l3 + 2) < L ∧
      0 ≤ (l3 + 3) ∧ (l3 + 3) < L ∧
      0 ≤ (l3 + 4) ∧ (l3 + 4) < L ∧
      Mo_shift (scr (l3 + 1)) (scr (l3 + 2)) (scr (l3 + 3)) (scr (l3 + 4)) σ73 (fun r78 σ78 =>
      InR r73 ∧
      InR r78 ∧
      ((r73 = r78 →
        Lw_law_811 scr L (fun z0 z1 => Lw_law_18 scr L Q n z0 z1) Q l3 σ78) ∧
      (r73 ≠ r78 →
        Q 0 σ78))))) ∧
    (((iAnd (scr l3) 31) = 10 →
      0 ≤ (l3 + 1) ∧ (l3 + 1) < L ∧
      Sr_run (scr (l3 + 1)) σ (fun r82 σ82 =>
      0 ≤ (l3 + 1) ∧ (l3 + 1) < L ∧
      Mo_run (scr (l3 + 1)) σ82 (fun r84 σ84 =>
      InR r82 ∧
      InR r84 ∧
      ((r82 = r84 →
        Lw_law_811 scr L (fun z0 z1 => Lw_law_18 scr L Q n z0 z1) Q l3 σ84) ∧
      (r82 ≠ r84 →
        Q 0 σ84))))) ∧
    (((iAnd (scr l3) 31) = 11 →
      0 ≤ (l3 + 1) ∧ (l3 + 1) < L ∧
      Sr_told (scr (l3 + 1)) σ (fun r88 σ88 =>
      0 ≤ (l3 + 1) ∧ (l3 + 1) < L ∧
      Mo_told (scr (l3 + 1)) σ88 (fun r90 σ90 =>
      InR r88 ∧
      InR r90 ∧
      ((r88 = r90 →
        Lw_law_811 scr L (fun z0 z1 => Lw_law_18 scr L Q n z0 z1) Q l3 σ90) ∧
      (r88 ≠ r90 →
        Q 0 σ90))))) ∧
    (((iAnd (scr l3) 31) = 12 →
      0 ≤ (l3 + 1) ∧ (l3 + 1) < L ∧
      Sr_best (scr (l3 + 1)) σ (fun r94 σ94 =>
      0 ≤ (l3 + 1) ∧ (l3 + 1) < L ∧
      Mo_best (scr (l3 + 1)) σ94 (fun r96 σ96 =>
      InR r94 ∧
      InR r96 ∧
      ((r94 = r96 →
        Lw_law_811 scr L (fun z0 z1 => Lw_law_18 scr L Q n z0 z1) Q l3 σ96) ∧
      (r94 ≠ r96 →
        Q 0 σ96))))) ∧
    (((iAnd (scr l3) 31) = 13 →
      0 ≤ (l3 + 1) ∧ (l3 + 1) < L ∧
      Sr_master (scr (l3 + 1)) σ (fun r100 σ100 =>
      0 ≤ (l3 + 1) ∧ (l3 + 1) < L ∧
      Mo_master (scr (l3 + 1)) σ100 (fun r102 σ102 =>
      InR r100 ∧
      InR r102 ∧
      ((r100 = r102 →
        Lw_law_811 scr L (fun z0 z1 => Lw_law_18 scr L Q n z0 z1) Q l3 σ102) ∧
      (r100 ≠ r102 →
        Q 0 σ102))))) ∧
    (((iAnd (scr l3) 31) = 14 →
      0 ≤ (l3 + 1) ∧ (l3 + 1) < L ∧
      Sr_share (scr (l3 + 1)) σ (fun r106 σ106 =>
      0 ≤ (l3 + 1) ∧ (l3 + 1) < L ∧
      Mo_share (scr (l3 + 1)) σ106 (fun r108 σ108 =>
      InR r106 ∧
      InR r108 ∧
      ((r106 = r108 →
        Lw_law_811 scr L (fun z0 z1 => Lw_law_18 scr L Q n z0 z1) Q l3 σ108) ∧
      (r106 ≠ r108 →
        Q 0 σ108))))) ∧
    (((iAnd (scr l3) 31) = 15 →
      0 ≤ (l3 + 1) ∧ (l3 + 1) < L ∧
      0 ≤ (l3 + 2) ∧ (l3 + 2) < L ∧
      Sr_ask (scr (l3 + 1)) (scr (l3 + 2)) σ (fun r113 σ113 =>
      0 ≤ (l3 + 1) ∧ (l3 + 1) < L ∧
      0 ≤ (l3 + 2) ∧ (l3 + 2) < L ∧
      Mo_ask (scr (l3 + 1)) (scr (l3 + 2)) σ113 (fun r116 σ116 =>
      InR r113 ∧
      InR r116 ∧
      ((r113 = r116 →
        Lw_law_811 scr L (fun z0 z1 => Lw_law_18 scr L Q n z0 z1) Q l3 σ116) ∧
      (r113 ≠ r116 →
        Q 0 σ116))))) ∧
    (((iAnd (scr l3) 31) = 16 →
      0 ≤ (l3 + 1) ∧ (l3 + 1) < L ∧
      0 ≤ (l3 + 2) ∧ (l3 + 2) < L ∧
      Sr_answer (scr (l3 + 1)) (scr (l3 + 2)) σ (fun r121 σ121 =>
      0 ≤ (l3 + 1) ∧ (l3 + 1) < L ∧
      0 ≤ (l3 + 2) ∧ (l3 + 2) < L ∧
      Mo_answer (scr (l3 + 1)) (scr (l3 + 2)) σ121 (fun r124 σ124 =>
      InR r121 ∧
      InR r124 ∧
      ((r121 = r124 →
        Lw_law_811 scr L (fun z0 z1 => Lw_law_18 scr L Q n z0 z1) Q l3 σ124) ∧
      (r121 ≠ r124 →
        Q 0 σ124))))) ∧
    (((iAnd (scr l3) 31) = 17 →
      0 ≤ (l3 + 1) ∧ (l3 + 1) < L ∧
      0 ≤ (l3 + 2) ∧ (l3 + 2) < L ∧
      0 ≤ (l3 + 3) ∧ (l3 + 3) < L ∧
      Sr_unit (scr (l3 + 1)) (scr (l3 + 2)) (scr (l3 + 3)) σ (fun r130 σ130 =>
      0 ≤ (l3 + 1) ∧ (l3 + 1) < L ∧
      0 ≤ (l3 + 2) ∧ (l3 + 2) < L ∧
      0 ≤ (l3 + 3) ∧ (l3 + 3) < L ∧
      Mo_unit (scr (l3 + 1)) (scr (l3 + 2)) (scr (l3 + 3)) σ130 (fun r134 σ134 =>
      InR r130 ∧
      InR r134 ∧
      ((r130 = r134 →
        Lw_law_811 scr L (fun z0 z1 => Lw_law_18 scr L Q n z0 z1) Q l3 σ134) ∧
      (r130 ≠ r134 →
        Q 0 σ134))))) ∧
    (((iAnd (scr l3) 31) = 18 →
      0 ≤ (l3 + 1) ∧ (l3 + 1) < L ∧
      0 ≤ (l3 + 2) ∧ (l3 + 2) < L ∧
      Sr_cut (scr (l3 + 1)) (scr (l3 + 2)) σ (fun r139 σ139 =>
      0 ≤ (l3 + 1) ∧ (l3 + 1) < L ∧
      0 ≤ (l3 + 2) ∧ (l3 + 2) < L ∧
      Mo_cut (scr (l3 + 1)) (scr (l3 + 2)) σ139 (fun r142 σ142 =>
      InR r139 ∧
      InR r142 ∧
      ((r139 = r142 →
        Lw_law_811 scr L (fun z0 z1 => Lw_law_18 scr L Q n z0 z1) Q l3 σ142) ∧
      (r139 ≠ r142 →
        Q 0 σ142))))) ∧
    (((iAnd (scr l3) 31) = 19 →
      0 ≤ (l3 + 1) ∧ (l3 + 1) < L ∧
      0 ≤ (l3 + 2) ∧ (l3 + 2) < L ∧
      Sr_reason (scr (l3 + 1)) (scr (l3 + 2)) σ (fun r147 σ147 =>
      0 ≤ (l3 + 1) ∧ (l3 + 1) < L ∧
      0 ≤ (l3 + 2) ∧ (l3 + 2) < L ∧
      Mo_reason (scr (l3 + 1)) (scr (l3 + 2)) σ147 (fun r150 σ150 =>
      InR r147 ∧
      InR r150 ∧
      ((r147 = r150 →
        Lw_law_811 scr L (fun z0 z1 => Lw_law_18 scr L Q n z0 z1) Q l3 σ150) ∧
      (r147 ≠ r150 →
        Q 0 σ150))))) ∧
    (((iAnd (scr l3) 31) = 20 →
      Sr_judge σ (fun r153 σ153 =>
      Mo_judge σ153 (fun r154 σ154 =>
      InR r153 ∧
      InR r154 ∧
      ((r153 = r154 →
        Lw_law_811 scr L (fun z0 z1 => Lw_law_18 scr L Q n z0 z1) Q l3 σ154) ∧
      (r153 ≠ r154 →
        Q 0 σ154))))) ∧
    ((iAnd (scr l3) 31) < 0 ∨ 20 < (iAnd (scr l3) 31) →
      Lw_law_811 scr L (fun z0 z1 => Lw_law_18 scr L Q n z0 z1) Q l3 σ))))))))))))))))))))))))

def Lw_law (scr : Int → Int) (L : Int) (σ : Mem) (Q : Int → Mem → Prop) : Prop :=
  ∃ nn, Lw_law_18 scr L Q nn 0 σ

