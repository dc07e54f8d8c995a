/-! ===== what the functions are made of ===== -/
def FU : Nat := 1000
def mo {β : Type} (o : Option Nat) (x : Option β) (f : Nat → Option β) : Option β := match o with
  | none => x
  | some a => f a
def bs {A R β : Type} (o : Option (A ⊕ R)) (f : A → Option β) (k : R → Option β) : Option β := match o with
  | none => none
  | some (.inl a) => f a
  | some (.inr r) => k r
def bsw {A R β : Type} (o : Option ((A ⊕ R) × St)) (f : A → St → Option β) (k : R → St → Option β) : Option β := match o with
  | none => none
  | some (.inl a, S) => f a S
  | some (.inr r, S) => k r S
theorem bs_in {A R β : Type} {o : Option (A ⊕ R)} {f : A → Option β} {k : R → Option β} {res : β} (h : bs o f k = some res) : (∃ a, o = some (.inl a) ∧ f a = some res) ∨ (∃ r, o = some (.inr r) ∧ k r = some res) := by
  match o, h with
  | some (.inl a), h => exact Or.inl ⟨a, rfl, h⟩
  | some (.inr r), h => exact Or.inr ⟨r, rfl, h⟩
theorem bsw_in {A R β : Type} {o : Option ((A ⊕ R) × St)} {f : A → St → Option β} {k : R → St → Option β} {res : β} (h : bsw o f k = some res) : (∃ a S, o = some (.inl a, S) ∧ f a S = some res) ∨ (∃ r S, o = some (.inr r, S) ∧ k r S = some res) := by
  match o, h with
  | some (.inl a, S), h => exact Or.inl ⟨a, S, rfl, h⟩
  | some (.inr r, S), h => exact Or.inr ⟨r, S, rfl, h⟩
-- X0_become: become([J)V, kind W
def bX0_become_1 (n : Nat) (t0 : Nat)  (rec : Int32 → St → Option ((Unit) × St)) (x2 : Int32) (S : St) : Option ((Unit) × St) :=
  (if (nI (2 ^ n)) ≤ x2 then some ((), S) else (if (nI (2 ^ n)) ≤ x2 then some ((), S) else gd (inb x2 (2 ^ n)) (gd (inb x2 (2 ^ n)) (gd (inb x2 (2 ^ n)) (rec (x2 + 1) (sJ (sJ S (31 + t0) (Int32.toNatClampNeg x2) (S.2 5 (Int32.toNatClampNeg x2))) (25 + t0) 0 (((sJ S (31 + t0) (Int32.toNatClampNeg x2) (S.2 5 (Int32.toNatClampNeg x2))).2 (25 + t0) 0) + ((sJ S (31 + t0) (Int32.toNatClampNeg x2) (S.2 5 (Int32.toNatClampNeg x2))).2 5 (Int32.toNatClampNeg x2)))))))))
def lX0_become_1 (n : Nat) (t0 : Nat)  : Nat → Int32 → St → Option ((Unit) × St)
  | 0, _, _ => none
  | k + 1, x2, S => bX0_become_1 n t0 (lX0_become_1 n t0 k) x2 S
def fX0_become (n : Nat) (lw : Nat) (S : St) : Option (Unit × St) :=
  bw (lX0_become_1 n lw FU (0 : Int32) (sJ S (25 + lw) 0 (0 : Int64))) (fun q3 S5 => some ((), (sI S5 (25 + lw) 0 (1 : Int32))))
-- X4_fits: fits(III)Z, kind O
def fX4_fits (p0 : Int32) (p1 : Int32) (p2 : Int32) : Option Bool :=
  (if (p0 &&& p1) = p1 then (if (p0 &&& p2) = 0 then some true else some false) else some false)
-- X0_sumFitting: sumFitting(II)J, kind R
def bX0_sumFitting_1 (n : Nat) (t0 : Nat) (x1 : Int32) (x2 : Int32) (S : St) (rec : Int64 → Int32 → Option (Int64)) (x3 : Int64) (x5 : Int32) : Option (Int64) :=
  (if (nI (2 ^ n)) ≤ x5 then some x3 else bo (fX4_fits x5 x1 x2) (fun r1 => (bif r1 then gd (inb x5 (2 ^ n)) (rec (x3 + (S.2 (31 + t0) (Int32.toNatClampNeg x5))) (x5 + 1)) else rec x3 (x5 + 1))))
def lX0_sumFitting_1 (n : Nat) (t0 : Nat) (x1 : Int32) (x2 : Int32) (S : St) : Nat → Int64 → Int32 → Option (Int64)
  | 0, _, _ => none
  | k + 1, x3, x5 => bX0_sumFitting_1 n t0 x1 x2 S (lX0_sumFitting_1 n t0 x1 x2 S k) x3 x5
def fX0_sumFitting (n : Nat) (lw : Nat) (p0 : Int32) (p1 : Int32) (S : St) : Option Int64 :=
  bo (lX0_sumFitting_1 n lw p0 p1 S FU (0 : Int64) (0 : Int32)) (fun q5 => some q5)
-- J6_bitCount_0f7a4: bitCount(I)I, kind O
def fJ6_bitCount_0f7a4 (p0 : Int32) : Option Int32 :=
  some ((((((((p0 - ((UInt32.toInt32 (Int32.toUInt32 p0 >>> (Int32.toUInt32 (1 : Int32) &&& Int32.toUInt32 31))) &&& (1431655765 : Int32))) &&& (858993459 : Int32)) + ((UInt32.toInt32 (Int32.toUInt32 (p0 - ((UInt32.toInt32 (Int32.toUInt32 p0 >>> (Int32.toUInt32 (1 : Int32) &&& Int32.toUInt32 31))) &&& (1431655765 : Int32))) >>> (Int32.toUInt32 (2 : Int32) &&& Int32.toUInt32 31))) &&& (858993459 : Int32))) + (UInt32.toInt32 (Int32.toUInt32 (((p0 - ((UInt32.toInt32 (Int32.toUInt32 p0 >>> (Int32.toUInt32 (1 : Int32) &&& Int32.toUInt32 31))) &&& (1431655765 : Int32))) &&& (858993459 : Int32)) + ((UInt32.toInt32 (Int32.toUInt32 (p0 - ((UInt32.toInt32 (Int32.toUInt32 p0 >>> (Int32.toUInt32 (1 : Int32) &&& Int32.toUInt32 31))) &&& (1431655765 : Int32))) >>> (Int32.toUInt32 (2 : Int32) &&& Int32.toUInt32 31))) &&& (858993459 : Int32))) >>> (Int32.toUInt32 (4 : Int32) &&& Int32.toUInt32 31)))) &&& (252645135 : Int32)) + (UInt32.toInt32 (Int32.toUInt32 (((((p0 - ((UInt32.toInt32 (Int32.toUInt32 p0 >>> (Int32.toUInt32 (1 : Int32) &&& Int32.toUInt32 31))) &&& (1431655765 : Int32))) &&& (858993459 : Int32)) + ((UInt32.toInt32 (Int32.toUInt32 (p0 - ((UInt32.toInt32 (Int32.toUInt32 p0 >>> (Int32.toUInt32 (1 : Int32) &&& Int32.toUInt32 31))) &&& (1431655765 : Int32))) >>> (Int32.toUInt32 (2 : Int32) &&& Int32.toUInt32 31))) &&& (858993459 : Int32))) + (UInt32.toInt32 (Int32.toUInt32 (((p0 - ((UInt32.toInt32 (Int32.toUInt32 p0 >>> (Int32.toUInt32 (1 : Int32) &&& Int32.toUInt32 31))) &&& (1431655765 : Int32))) &&& (858993459 : Int32)) + ((UInt32.toInt32 (Int32.toUInt32 (p0 - ((UInt32.toInt32 (Int32.toUInt32 p0 >>> (Int32.toUInt32 (1 : Int32) &&& Int32.toUInt32 31))) &&& (1431655765 : Int32))) >>> (Int32.toUInt32 (2 : Int32) &&& Int32.toUInt32 31))) &&& (858993459 : Int32))) >>> (Int32.toUInt32 (4 : Int32) &&& Int32.toUInt32 31)))) &&& (252645135 : Int32)) >>> (Int32.toUInt32 (8 : Int32) &&& Int32.toUInt32 31)))) + (UInt32.toInt32 (Int32.toUInt32 ((((((p0 - ((UInt32.toInt32 (Int32.toUInt32 p0 >>> (Int32.toUInt32 (1 : Int32) &&& Int32.toUInt32 31))) &&& (1431655765 : Int32))) &&& (858993459 : Int32)) + ((UInt32.toInt32 (Int32.toUInt32 (p0 - ((UInt32.toInt32 (Int32.toUInt32 p0 >>> (Int32.toUInt32 (1 : Int32) &&& Int32.toUInt32 31))) &&& (1431655765 : Int32))) >>> (Int32.toUInt32 (2 : Int32) &&& Int32.toUInt32 31))) &&& (858993459 : Int32))) + (UInt32.toInt32 (Int32.toUInt32 (((p0 - ((UInt32.toInt32 (Int32.toUInt32 p0 >>> (Int32.toUInt32 (1 : Int32) &&& Int32.toUInt32 31))) &&& (1431655765 : Int32))) &&& (858993459 : Int32)) + ((UInt32.toInt32 (Int32.toUInt32 (p0 - ((UInt32.toInt32 (Int32.toUInt32 p0 >>> (Int32.toUInt32 (1 : Int32) &&& Int32.toUInt32 31))) &&& (1431655765 : Int32))) >>> (Int32.toUInt32 (2 : Int32) &&& Int32.toUInt32 31))) &&& (858993459 : Int32))) >>> (Int32.toUInt32 (4 : Int32) &&& Int32.toUInt32 31)))) &&& (252645135 : Int32)) + (UInt32.toInt32 (Int32.toUInt32 (((((p0 - ((UInt32.toInt32 (Int32.toUInt32 p0 >>> (Int32.toUInt32 (1 : Int32) &&& Int32.toUInt32 31))) &&& (1431655765 : Int32))) &&& (858993459 : Int32)) + ((UInt32.toInt32 (Int32.toUInt32 (p0 - ((UInt32.toInt32 (Int32.toUInt32 p0 >>> (Int32.toUInt32 (1 : Int32) &&& Int32.toUInt32 31))) &&& (1431655765 : Int32))) >>> (Int32.toUInt32 (2 : Int32) &&& Int32.toUInt32 31))) &&& (858993459 : Int32))) + (UInt32.toInt32 (Int32.toUInt32 (((p0 - ((UInt32.toInt32 (Int32.toUInt32 p0 >>> (Int32.toUInt32 (1 : Int32) &&& Int32.toUInt32 31))) &&& (1431655765 : Int32))) &&& (858993459 : Int32)) + ((UInt32.toInt32 (Int32.toUInt32 (p0 - ((UInt32.toInt32 (Int32.toUInt32 p0 >>> (Int32.toUInt32 (1 : Int32) &&& Int32.toUInt32 31))) &&& (1431655765 : Int32))) >>> (Int32.toUInt32 (2 : Int32) &&& Int32.toUInt32 31))) &&& (858993459 : Int32))) >>> (Int32.toUInt32 (4 : Int32) &&& Int32.toUInt32 31)))) &&& (252645135 : Int32)) >>> (Int32.toUInt32 (8 : Int32) &&& Int32.toUInt32 31)))) >>> (Int32.toUInt32 (16 : Int32) &&& Int32.toUInt32 31)))) &&& (63 : Int32))
-- X0_sumOfSize: sumOfSize(I)J, kind R
def bX0_sumOfSize_1 (n : Nat) (t0 : Nat) (x1 : Int32) (S : St) (rec : Int64 → Int32 → Option (Int64)) (x2 : Int64) (x4 : Int32) : Option (Int64) :=
  (if (nI (2 ^ n)) ≤ x4 then some x2 else bo (fJ6_bitCount_0f7a4 x4) (fun r1 => (if r1 = x1 then gd (inb x4 (2 ^ n)) (rec (x2 + (S.2 (31 + t0) (Int32.toNatClampNeg x4))) (x4 + 1)) else rec x2 (x4 + 1))))
def lX0_sumOfSize_1 (n : Nat) (t0 : Nat) (x1 : Int32) (S : St) : Nat → Int64 → Int32 → Option (Int64)
  | 0, _, _ => none
  | k + 1, x2, x4 => bX0_sumOfSize_1 n t0 x1 S (lX0_sumOfSize_1 n t0 x1 S k) x2 x4
def fX0_sumOfSize (n : Nat) (lw : Nat) (p0 : Int32) (S : St) : Option Int64 :=
  bo (lX0_sumOfSize_1 n lw p0 S FU (0 : Int64) (0 : Int32)) (fun q5 => some q5)
-- X0_sumOfCounts: sumOfCounts()J, kind R
def bX0_sumOfCounts_1 (n : Nat) (t0 : Nat) (S : St) (rec : Int64 → Int32 → Option (Int64)) (x1 : Int64) (x3 : Int32) : Option (Int64) :=
  (if (nI (2 ^ n)) ≤ x3 then some x1 else bo (fJ6_bitCount_0f7a4 x3) (fun r1 => gd (inb x3 (2 ^ n)) (rec (x1 + ((Int32.toInt64 r1) * (S.2 (31 + t0) (Int32.toNatClampNeg x3)))) (x3 + 1))))
def lX0_sumOfCounts_1 (n : Nat) (t0 : Nat) (S : St) : Nat → Int64 → Int32 → Option (Int64)
  | 0, _, _ => none
  | k + 1, x1, x3 => bX0_sumOfCounts_1 n t0 S (lX0_sumOfCounts_1 n t0 S k) x1 x3
def fX0_sumOfCounts (n : Nat) (lw : Nat) (S : St) : Option Int64 :=
  bo (lX0_sumOfCounts_1 n lw S FU (0 : Int64) (0 : Int32)) (fun q4 => some q4)
-- X0_sumOfSquares: sumOfSquares()J, kind R
def bX0_sumOfSquares_1 (n : Nat) (t0 : Nat) (S : St) (rec : Int64 → Int32 → Option (Int64)) (x1 : Int64) (x3 : Int32) : Option (Int64) :=
  (if (nI (2 ^ n)) ≤ x3 then some x1 else bo (fJ6_bitCount_0f7a4 x3) (fun r1 => gd (inb x3 (2 ^ n)) (rec (x1 + (((Int32.toInt64 r1) * (Int32.toInt64 r1)) * (S.2 (31 + t0) (Int32.toNatClampNeg x3)))) (x3 + 1))))
def lX0_sumOfSquares_1 (n : Nat) (t0 : Nat) (S : St) : Nat → Int64 → Int32 → Option (Int64)
  | 0, _, _ => none
  | k + 1, x1, x3 => bX0_sumOfSquares_1 n t0 S (lX0_sumOfSquares_1 n t0 S k) x1 x3
def fX0_sumOfSquares (n : Nat) (lw : Nat) (S : St) : Option Int64 :=
  bo (lX0_sumOfSquares_1 n lw S FU (0 : Int64) (0 : Int32)) (fun q4 => some q4)
-- X0_apartness: apartness(II)J, kind R
def fX0_apartness (n : Nat) (lw : Nat) (p0 : Int32) (p1 : Int32) (S : St) : Option Int64 :=
  bo (fX0_sumFitting n lw p0 (0 : Int32) S) (fun r1 => bo (fX0_sumFitting n lw p1 (0 : Int32) S) (fun r3 => bo (fX0_sumFitting n lw (p0 ||| p1) (0 : Int32) S) (fun r5 => some ((r1 * r3) - (r5 * (S.2 (25 + lw) 0))))))
-- X1_put: put(IIII)V, kind W
def fX1_put (n : Nat) (p0 : Int32) (p1 : Int32) (p2 : Int32) (p3 : Int32) (S : St) : Option (Unit × St) :=
  gd (inb p0 n) (gd (inb p0 n) (gd (inb p0 n) (some ((), (sI (sI (sI S 7 (Int32.toNatClampNeg p0) p1) 8 (Int32.toNatClampNeg p0) p2) 9 (Int32.toNatClampNeg p0) p3)))))
-- X2_begin: begin(I)V, kind W
def bX2_begin_1 (n : Nat)  (rec : Int32 → St → Option ((Unit) × St)) (x2 : Int32) (S : St) : Option ((Unit) × St) :=
  (if (nI 36) ≤ x2 then some ((), S) else gd (inb x2 36) (rec (x2 + 1) (sJ S 10 (Int32.toNatClampNeg x2) (0 : Int64))))
def lX2_begin_1 (n : Nat)  : Nat → Int32 → St → Option ((Unit) × St)
  | 0, _, _ => none
  | k + 1, x2, S => bX2_begin_1 n (lX2_begin_1 n k) x2 S
def fX2_begin (n : Nat) (p0 : Int32) (S : St) : Option (Unit × St) :=
  bw (lX2_begin_1 n FU (0 : Int32) (sI S 6 0 (if (0 : Int32) < (if p0 < (6 : Int32) then p0 else (6 : Int32)) then (if p0 < (6 : Int32) then p0 else (6 : Int32)) else (0 : Int32)))) (fun q2 S4 => some ((), S4))
-- X4_isAmong: isAmong(III)Z, kind O
def fX4_isAmong (p0 : Int32) (p1 : Int32) (p2 : Int32) : Option Bool :=
  (if p0 < p1 then some false else (if p2 < p0 then some false else some true))
-- X2_add: add(IIJ)V, kind W
def fX2_add (n : Nat) (p0 : Int32) (p1 : Int32) (p2 : Int64) (S : St) : Option (Unit × St) :=
  bo (fX4_isAmong p0 (0 : Int32) ((S.1 6 0) - (1 : Int32))) (fun r1 => (bif r1 then bo (fX4_isAmong p1 (0 : Int32) ((S.1 6 0) - (1 : Int32))) (fun r3 => (bif r3 then gd (inb ((p0 * (6 : Int32)) + p1) 36) (gd (inb ((p0 * (6 : Int32)) + p1) 36) (some ((), (sJ S 10 (Int32.toNatClampNeg ((p0 * (6 : Int32)) + p1)) ((S.2 10 (Int32.toNatClampNeg ((p0 * (6 : Int32)) + p1))) + p2))))) else some ((), S))) else some ((), S)))
-- X2_alongLastRow: alongLastRow(I)J, kind R
def bX2_alongLastRow_1 (n : Nat) (x1 : Int32) (x2 : Int32) (S : St) (rec : Int64 → Int64 → Int32 → Option (Int64)) (x3 : Int64) (x5 : Int64) (x7 : Int32) : Option (Int64) :=
  (if x7 < 0 then some x5 else (if (x1 &&& ((1 : Int32) <<< (x7 &&& 31))) = 0 then rec x3 x5 (x7 + (-1)) else gd (inb (x2 + x7) 36) (gd (inb (x1 - ((1 : Int32) <<< (x7 &&& 31))) 64) (rec (-x3) (x5 + ((x3 * (S.2 10 (Int32.toNatClampNeg (x2 + x7)))) * (S.2 11 (Int32.toNatClampNeg (x1 - ((1 : Int32) <<< (x7 &&& 31))))))) (x7 + (-1))))))
def lX2_alongLastRow_1 (n : Nat) (x1 : Int32) (x2 : Int32) (S : St) : Nat → Int64 → Int64 → Int32 → Option (Int64)
  | 0, _, _, _ => none
  | k + 1, x3, x5, x7 => bX2_alongLastRow_1 n x1 x2 S (lX2_alongLastRow_1 n x1 x2 S k) x3 x5 x7
def fX2_alongLastRow (n : Nat) (p0 : Int32) (S : St) : Option Int64 :=
  bo (fJ6_bitCount_0f7a4 p0) (fun r1 => bo (lX2_alongLastRow_1 n p0 ((r1 - (1 : Int32)) * (6 : Int32)) S FU (1 : Int64) (0 : Int64) ((S.1 6 0) - (1 : Int32))) (fun q5 => some q5))
-- X2_determinant: determinant()J, kind W
def bX2_determinant_1 (n : Nat) (x1 : Int32)  (rec : Int32 → St → Option ((Unit) × St)) (x2 : Int32) (S : St) : Option ((Unit) × St) :=
  (if x1 < x2 then some ((), S) else bo (fX2_alongLastRow n x2 S) (fun r1 => gd (inb x2 64) (rec (x2 + 1) (sJ S 11 (Int32.toNatClampNeg x2) r1))))
def lX2_determinant_1 (n : Nat) (x1 : Int32)  : Nat → Int32 → St → Option ((Unit) × St)
  | 0, _, _ => none
  | k + 1, x2, S => bX2_determinant_1 n x1 (lX2_determinant_1 n x1 k) x2 S
def fX2_determinant (n : Nat) (S : St) : Option (Int64 × St) :=
  gd (inb (0 : Int32) 64) (bw (lX2_determinant_1 n (((1 : Int32) <<< (((sJ S 11 (Int32.toNatClampNeg (0 : Int32)) (1 : Int64)).1 6 0) &&& 31)) - (1 : Int32)) FU (1 : Int32) (sJ S 11 (Int32.toNatClampNeg (0 : Int32)) (1 : Int64))) (fun q4 S6 => gd (inb (((1 : Int32) <<< (((sJ S 11 (Int32.toNatClampNeg (0 : Int32)) (1 : Int64)).1 6 0) &&& 31)) - (1 : Int32)) 64) (some ((S6.2 11 (Int32.toNatClampNeg (((1 : Int32) <<< (((sJ S 11 (Int32.toNatClampNeg (0 : Int32)) (1 : Int64)).1 6 0) &&& 31)) - (1 : Int32)))), S6))))
-- X1_sumOfTrees: sumOfTrees(ILShunLots$Square;)J, kind W
def bX1_sumOfTrees_1 (n : Nat) (x1 : Int32)  (rec : Int32 → St → Option ((Unit) × St)) (x3 : Int32) (S : St) : Option ((Unit) × St) :=
  (if (nI n) ≤ x3 then some ((), S) else gd (inb x3 n) ((if x1 ≤ (S.1 7 (Int32.toNatClampNeg x3)) then rec (x3 + 1) S else gd (inb x3 n) ((if x1 ≤ (S.1 8 (Int32.toNatClampNeg x3)) then rec (x3 + 1) S else gd (inb x3 n) (gd (inb x3 n) (gd (inb x3 n) (bw (fX2_add n (S.1 7 (Int32.toNatClampNeg x3)) (S.1 7 (Int32.toNatClampNeg x3)) (Int32.toInt64 (S.1 9 (Int32.toNatClampNeg x3))) S) (fun r4 S6 => gd (inb x3 n) (gd (inb x3 n) (gd (inb x3 n) (bw (fX2_add n (S6.1 8 (Int32.toNatClampNeg x3)) (S6.1 8 (Int32.toNatClampNeg x3)) (Int32.toInt64 (S6.1 9 (Int32.toNatClampNeg x3))) S6) (fun r7 S9 => gd (inb x3 n) (gd (inb x3 n) (gd (inb x3 n) (bw (fX2_add n (S9.1 7 (Int32.toNatClampNeg x3)) (S9.1 8 (Int32.toNatClampNeg x3)) (Int32.toInt64 (-(S9.1 9 (Int32.toNatClampNeg x3)))) S9) (fun r10 S12 => gd (inb x3 n) (gd (inb x3 n) (gd (inb x3 n) (bw (fX2_add n (S12.1 8 (Int32.toNatClampNeg x3)) (S12.1 7 (Int32.toNatClampNeg x3)) (Int32.toInt64 (-(S12.1 9 (Int32.toNatClampNeg x3)))) S12) (fun r13 S15 => rec (x3 + 1) S15)))))))))))))))))))))
def lX1_sumOfTrees_1 (n : Nat) (x1 : Int32)  : Nat → Int32 → St → Option ((Unit) × St)
  | 0, _, _ => none
  | k + 1, x3, S => bX1_sumOfTrees_1 n x1 (lX1_sumOfTrees_1 n x1 k) x3 S
def fX1_sumOfTrees (n : Nat) (p0 : Int32) (S : St) : Option (Int64 × St) :=
  bw (fX2_begin n (p0 - (1 : Int32)) S) (fun r1 S3 => bw (lX1_sumOfTrees_1 n p0 FU (0 : Int32) S3) (fun q19 S21 => bw (fX2_determinant n S21) (fun r22 S24 => some (r22, S24))))
-- X4_has: has(II)Z, kind O
def fX4_has (p0 : Int32) (p1 : Int32) : Option Bool :=
  (if ((p0 >>> (p1 &&& 31)) &&& (1 : Int32)) = 0 then some false else some true)
-- X1_joinedOnce: joinedOnce(II)I, kind R
def bX1_joinedOnce_1 (n : Nat) (x2 : Int32) (S : St) (rec : Int32 → Int32 → Option (Int32)) (x3 : Int32) (x4 : Int32) : Option (Int32) :=
  (if (nI n) ≤ x4 then some x3 else gd (inb x4 n) (gd (inb x4 n) (bo (fX4_has x2 x4) (fun r1 => (bif r1 then (if (x3 &&& (((1 : Int32) <<< ((S.1 7 (Int32.toNatClampNeg x4)) &&& 31)) ||| ((1 : Int32) <<< ((S.1 8 (Int32.toNatClampNeg x4)) &&& 31)))) = 0 then rec x3 (x4 + 1) else rec (x3 ||| (((1 : Int32) <<< ((S.1 7 (Int32.toNatClampNeg x4)) &&& 31)) ||| ((1 : Int32) <<< ((S.1 8 (Int32.toNatClampNeg x4)) &&& 31)))) (x4 + 1)) else rec x3 (x4 + 1))))))
def lX1_joinedOnce_1 (n : Nat) (x2 : Int32) (S : St) : Nat → Int32 → Int32 → Option (Int32)
  | 0, _, _ => none
  | k + 1, x3, x4 => bX1_joinedOnce_1 n x2 S (lX1_joinedOnce_1 n x2 S k) x3 x4
def fX1_joinedOnce (n : Nat) (p0 : Int32) (p1 : Int32) (S : St) : Option Int32 :=
  bo (lX1_joinedOnce_1 n p1 S FU p0 (0 : Int32)) (fun q6 => some q6)
-- X1_isTree: isTree(II)Z, kind R
def bX1_isTree_1 (n : Nat) (x1 : Int32) (x2 : Int32) (S : St) (rec : Int32 → Int32 → Option (Int32)) (x3 : Int32) (x4 : Int32) : Option (Int32) :=
  (if x2 ≤ x4 then some x3 else bo (fX1_joinedOnce n x3 x1 S) (fun r3 => rec r3 (x4 + 1)))
def lX1_isTree_1 (n : Nat) (x1 : Int32) (x2 : Int32) (S : St) : Nat → Int32 → Int32 → Option (Int32)
  | 0, _, _ => none
  | k + 1, x3, x4 => bX1_isTree_1 n x1 x2 S (lX1_isTree_1 n x1 x2 S k) x3 x4
def fX1_isTree (n : Nat) (p0 : Int32) (p1 : Int32) (S : St) : Option Bool :=
  bo (fJ6_bitCount_0f7a4 p0) (fun r1 => (if r1 = (p1 - (1 : Int32)) then bo (lX1_isTree_1 n p0 p1 S FU (1 : Int32) (1 : Int32)) (fun q6 => (if q6 = (((1 : Int32) <<< (p1 &&& 31)) - (1 : Int32)) then some true else some false)) else some false))
-- X1_productOf: productOf(I)J, kind R
def bX1_productOf_1 (n : Nat) (x1 : Int32) (S : St) (rec : Int64 → Int32 → Option (Int64)) (x2 : Int64) (x4 : Int32) : Option (Int64) :=
  (if (nI n) ≤ x4 then some x2 else bo (fX4_has x1 x4) (fun r1 => (bif r1 then gd (inb x4 n) (rec (x2 * (Int32.toInt64 (S.1 9 (Int32.toNatClampNeg x4)))) (x4 + 1)) else rec x2 (x4 + 1))))
def lX1_productOf_1 (n : Nat) (x1 : Int32) (S : St) : Nat → Int64 → Int32 → Option (Int64)
  | 0, _, _ => none
  | k + 1, x2, x4 => bX1_productOf_1 n x1 S (lX1_productOf_1 n x1 S k) x2 x4
def fX1_productOf (n : Nat) (p0 : Int32) (S : St) : Option Int64 :=
  bo (lX1_productOf_1 n p0 S FU (1 : Int64) (0 : Int32)) (fun q5 => some q5)
-- X3_put: put(III)V, kind W
def fX3_put (n : Nat) (tb : Nat) (p0 : Int32) (p1 : Int32) (p2 : Int32) (S : St) : Option (Unit × St) :=
  gd (inb ((p0 * (nI n)) + p1) (n * n)) (gd (inb ((p1 * (nI n)) + p0) (n * n)) (some ((), (sI (sI S (19 + tb) (Int32.toNatClampNeg ((p0 * (nI n)) + p1)) p2) (19 + tb) (Int32.toNatClampNeg ((p1 * (nI n)) + p0)) p2))))
-- X3_at: at(II)I, kind R
def fX3_at (n : Nat) (tb : Nat) (p0 : Int32) (p1 : Int32) (S : St) : Option Int32 :=
  gd (inb ((p0 * (nI n)) + p1) (n * n)) (some (S.1 (19 + tb) (Int32.toNatClampNeg ((p0 * (nI n)) + p1))))
-- X3_layRow: layRow(IIILShunLots$Square;)V, kind W
def bX3_layRow_1 (n : Nat) (t0 : Nat) (x1 : Int32) (x2 : Int32) (x3 : Int32)  (rec : Int32 → Int32 → St → Option ((Unit) × St)) (x5 : Int32) (x6 : Int32) (S : St) : Option ((Unit) × St) :=
  (if (nI n) ≤ x6 then some ((), S) else bo (fX4_has x3 x6) (fun r1 => (bif r1 then bo (fX3_at n t0 x1 x6 S) (fun r3 => bw (fX2_add n x2 x5 (Int32.toInt64 r3) S) (fun r5 S7 => rec (x5 + 1) (x6 + 1) S7)) else rec x5 (x6 + 1) S)))
def lX3_layRow_1 (n : Nat) (t0 : Nat) (x1 : Int32) (x2 : Int32) (x3 : Int32)  : Nat → Int32 → Int32 → St → Option ((Unit) × St)
  | 0, _, _, _ => none
  | k + 1, x5, x6, S => bX3_layRow_1 n t0 x1 x2 x3 (lX3_layRow_1 n t0 x1 x2 x3 k) x5 x6 S
def fX3_layRow (n : Nat) (tb : Nat) (p0 : Int32) (p1 : Int32) (p2 : Int32) (S : St) : Option (Unit × St) :=
  bw (lX3_layRow_1 n tb p0 p1 p2 FU (0 : Int32) (0 : Int32) S) (fun q10 S12 => some ((), S12))
-- X3_worthOf: worthOf(IILShunLots$Square;)J, kind W
def bX3_worthOf_1 (n : Nat) (t0 : Nat) (x1 : Int32) (x2 : Int32)  (rec : Int32 → Int32 → St → Option ((Unit) × St)) (x4 : Int32) (x5 : Int32) (S : St) : Option ((Unit) × St) :=
  (if (nI n) ≤ x5 then some ((), S) else bo (fX4_has x1 x5) (fun r6 => (bif r6 then bw (fX3_layRow n t0 x5 x4 x1 S) (fun r8 S10 => bw (fX2_add n x4 x4 (Int32.toInt64 x2) S10) (fun r11 S13 => rec (x4 + 1) (x5 + 1) S13)) else rec x4 (x5 + 1) S)))
def lX3_worthOf_1 (n : Nat) (t0 : Nat) (x1 : Int32) (x2 : Int32)  : Nat → Int32 → Int32 → St → Option ((Unit) × St)
  | 0, _, _, _ => none
  | k + 1, x4, x5, S => bX3_worthOf_1 n t0 x1 x2 (lX3_worthOf_1 n t0 x1 x2 k) x4 x5 S
def fX3_worthOf (n : Nat) (tb : Nat) (p0 : Int32) (p1 : Int32) (S : St) : Option (Int64 × St) :=
  bo (fJ6_bitCount_0f7a4 p0) (fun r1 => bw (fX2_begin n r1 S) (fun r3 S5 => bw (lX3_worthOf_1 n tb p0 p1 FU (0 : Int32) (0 : Int32) S5) (fun q16 S18 => bw (fX2_determinant n S18) (fun r19 S21 => some (r19, S21)))))
-- X4_isPlace: isPlace(I)Z, kind O
def fX4_isPlace (p0 : Int32) : Option Bool :=
  bo (fX4_isAmong p0 (0 : Int32) (5 : Int32)) (fun r1 => some r1)
-- X4_isThing: isThing(I)Z, kind R
def fX4_isThing (n : Nat) (p0 : Int32) (S : St) : Option Bool :=
  bo (fX4_isAmong p0 (0 : Int32) ((nI n) - (1 : Int32))) (fun r1 => some r1)
-- X4_entry: entry(IIII)Z, kind W
def fX4_entry (n : Nat) (p0 : Int32) (p1 : Int32) (p2 : Int32) (p3 : Int32) (S : St) : Option (Bool × St) :=
  bo (fX4_isPlace p0) (fun r1 => (bif r1 then bo (fX4_isThing n p1 S) (fun r3 => (bif r3 then bo (fX4_isThing n p2 S) (fun r5 => (bif r5 then bo (fX4_isAmong p3 (-5 : Int32) (5 : Int32)) (fun r7 => (bif r7 then gd (inb p0 6) (bw (fX3_put n (Int32.toNatClampNeg p0) p1 p2 p3 S) (fun r9 S11 => some (true, S11))) else some (false, S))) else some (false, S))) else some (false, S))) else some (false, S)))
-- X4_told: told(III)I, kind R
def fX4_told (n : Nat) (p0 : Int32) (p1 : Int32) (p2 : Int32) (S : St) : Option Int32 :=
  bo (fX4_isPlace p0) (fun r1 => (bif r1 then bo (fX4_isThing n p1 S) (fun r3 => (bif r3 then bo (fX4_isThing n p2 S) (fun r5 => (bif r5 then gd (inb p0 6) (bo (fX3_at n (Int32.toNatClampNeg p0) p1 p2 S) (fun r7 => some r7)) else some (-10 : Int32))) else some (-10 : Int32))) else some (-10 : Int32)))
-- X4_isSet: isSet(I)Z, kind R
def fX4_isSet (n : Nat) (p0 : Int32) (S : St) : Option Bool :=
  bo (fX4_isAmong p0 (0 : Int32) ((nI (2 ^ n)) - (1 : Int32))) (fun r1 => some r1)
-- X4_worth: worth(II)J, kind W
def fX4_worth (n : Nat) (p0 : Int32) (p1 : Int32) (S : St) : Option (Int64 × St) :=
  bo (fX4_isPlace p0) (fun r1 => (bif r1 then bo (fX4_isSet n p1 S) (fun r3 => (bif r3 then gd (inb p0 6) (bw (fX3_worthOf n (Int32.toNatClampNeg p0) p1 (0 : Int32) S) (fun r5 S7 => some (r5, S7))) else some ((0 : Int64), S))) else some ((0 : Int64), S)))
-- X4_draftWorths: draftWorths(LShunLots$Table;)I, kind W
def bX4_draftWorths_1 (n : Nat) (t1 : Nat)  (rec : Int32 → St → Option (((Unit) ⊕ Int32) × St)) (x2 : Int32) (S : St) : Option (((Unit) ⊕ Int32) × St) :=
  (if (nI (2 ^ n)) ≤ x2 then some ((.inl ()), S) else bw (fX3_worthOf n t1 x2 (0 : Int32) S) (fun r1 S3 => gd (inb x2 (2 ^ n)) (gd (inb x2 (2 ^ n)) ((if 0 ≤ (lg_cmp ((sJ S3 5 (Int32.toNatClampNeg x2) r1).2 5 (Int32.toNatClampNeg x2)) (0 : Int64)) then rec (x2 + 1) (sJ S3 5 (Int32.toNatClampNeg x2) r1) else some ((.inr x2), (sJ S3 5 (Int32.toNatClampNeg x2) r1)))))))
def lX4_draftWorths_1 (n : Nat) (t1 : Nat)  : Nat → Int32 → St → Option (((Unit) ⊕ Int32) × St)
  | 0, _, _ => none
  | k + 1, x2, S => bX4_draftWorths_1 n t1 (lX4_draftWorths_1 n t1 k) x2 S
def fX4_draftWorths (n : Nat) (a0 : Nat) (S : St) : Option (Int32 × St) :=
  bsw (lX4_draftWorths_1 n a0 FU (0 : Int32) S) (fun q6 S8 => some ((-1 : Int32), S8)) (fun r9 S9 => some (r9, S9))
-- X4_why: why(I)I, kind W
def fX4_why (n : Nat) (p0 : Int32) (S : St) : Option (Int32 × St) :=
  bo (fX4_isPlace p0) (fun r1 => (bif r1 then gd (inb p0 6) (bw (fX4_draftWorths n (Int32.toNatClampNeg p0) S) (fun r3 S5 => some (r3, S5))) else some ((-1 : Int32), S)))
-- X4_whole: whole(I)J, kind W
def fX4_whole (n : Nat) (p0 : Int32) (S : St) : Option (Int64 × St) :=
  bo (fX4_isPlace p0) (fun r1 => (bif r1 then gd (inb p0 6) (bw (fX3_worthOf n (Int32.toNatClampNeg p0) ((nI (2 ^ n)) - (1 : Int32)) (1 : Int32) S) (fun r3 S5 => some (r3, S5))) else some ((0 : Int64), S)))
-- X4_commonDivisor: commonDivisor(JJ)J, kind O
def bX4_commonDivisor_1   (rec : Int64 → Int64 → Int32 → Option (Int64)) (x4 : Int64) (x6 : Int64) (x8 : Int32) : Option (Int64) :=
  (if (100 : Int32) ≤ x8 then some x4 else (if (lg_cmp x6 (0 : Int64)) = 0 then some x4 else gd (!(decide (x6 = 0))) (rec x6 (x4 - x4 / x6 * x6) (x8 + 1))))
def lX4_commonDivisor_1   : Nat → Int64 → Int64 → Int32 → Option (Int64)
  | 0, _, _, _ => none
  | k + 1, x4, x6, x8 => bX4_commonDivisor_1  (lX4_commonDivisor_1  k) x4 x6 x8
def fX4_commonDivisor (p0 : Int64) (p1 : Int64) : Option Int64 :=
  bo (lX4_commonDivisor_1 FU p0 p1 (0 : Int32)) (fun q3 => some q3)
-- X4_settle: settle(I)Z, kind W
def bX4_settle_1 (n : Nat) (x1 : Int32) (S : St) (rec : Int64 → Int32 → Option (Int64)) (x2 : Int64) (x4 : Int32) : Option (Int64) :=
  (if (nI (2 ^ n)) ≤ x4 then some x2 else gd (inb x4 (2 ^ n)) (bo (fX4_commonDivisor (S.2 5 (Int32.toNatClampNeg x4)) x2) (fun r1 => rec r1 (x4 + 1))))
def lX4_settle_1 (n : Nat) (x1 : Int32) (S : St) : Nat → Int64 → Int32 → Option (Int64)
  | 0, _, _ => none
  | k + 1, x2, x4 => bX4_settle_1 n x1 S (lX4_settle_1 n x1 S k) x2 x4
def bX4_settle_2 (n : Nat) (x1 : Int32) (x2 : Int64)  (rec : Int32 → St → Option (((Unit) ⊕ Bool) × St)) (x4 : Int32) (S : St) : Option (((Unit) ⊕ Bool) × St) :=
  (if (nI (2 ^ n)) ≤ x4 then some ((.inl ()), S) else gd (inb x4 (2 ^ n)) (gd (!(decide (x2 = 0))) (gd (inb x4 (2 ^ n)) (gd (inb x4 (2 ^ n)) ((if (lg_cmp ((sJ S 5 (Int32.toNatClampNeg x4) ((S.2 5 (Int32.toNatClampNeg x4)) / x2)).2 5 (Int32.toNatClampNeg x4)) (4000000 : Int64)) ≤ 0 then rec (x4 + 1) (sJ S 5 (Int32.toNatClampNeg x4) ((S.2 5 (Int32.toNatClampNeg x4)) / x2)) else some ((.inr false), (sJ S 5 (Int32.toNatClampNeg x4) ((S.2 5 (Int32.toNatClampNeg x4)) / x2)))))))))
def lX4_settle_2 (n : Nat) (x1 : Int32) (x2 : Int64)  : Nat → Int32 → St → Option (((Unit) ⊕ Bool) × St)
  | 0, _, _ => none
  | k + 1, x4, S => bX4_settle_2 n x1 x2 (lX4_settle_2 n x1 x2 k) x4 S
def fX4_settle (n : Nat) (p0 : Int32) (S : St) : Option (Bool × St) :=
  bo (lX4_settle_1 n p0 S FU (0 : Int64) (0 : Int32)) (fun q4 => (if 0 ≤ (lg_cmp q4 (1 : Int64)) then bsw (lX4_settle_2 n p0 q4 FU (0 : Int32) S) (fun q8 S10 => gd (inb p0 6) (bw (fX0_become n (Int32.toNatClampNeg p0) S10) (fun r11 S13 => some (true, S13)))) (fun r9 S9 => some (r9, S9)) else some (false, S)))
-- X4_shun: shun(II)Z, kind W
def fX4_shun (n : Nat) (p0 : Int32) (p1 : Int32) (S : St) : Option (Bool × St) :=
  bo (fX4_isPlace p0) (fun r1 => (bif r1 then bo (fX4_isPlace p1) (fun r3 => (bif r3 then gd (inb p0 6) (bw (fX4_draftWorths n (Int32.toNatClampNeg p0) S) (fun r5 S7 => (if r5 = (-1 : Int32) then bw (fX4_settle n p1 S7) (fun r8 S10 => (bif r8 then some (true, S10) else some (false, S10))) else some (false, S7)))) else some (false, S))) else some (false, S)))
-- X4_isPost: isPost(I)Z, kind O
def fX4_isPost (p0 : Int32) : Option Bool :=
  bo (fX4_isAmong p0 (0 : Int32) (4 : Int32)) (fun r1 => some r1)
-- X4_edge: edge(IIII)Z, kind W
def fX4_edge (n : Nat) (p0 : Int32) (p1 : Int32) (p2 : Int32) (p3 : Int32) (S : St) : Option (Bool × St) :=
  bo (fX4_isThing n p0 S) (fun r1 => (bif r1 then bo (fX4_isPost p1) (fun r3 => (bif r3 then bo (fX4_isPost p2) (fun r5 => (bif r5 then bo (fX4_isAmong p3 (0 : Int32) (9 : Int32)) (fun r7 => (bif r7 then bw (fX1_put n p0 p1 p2 p3 S) (fun r9 S11 => some (true, S11)) else some (false, S))) else some (false, S))) else some (false, S))) else some (false, S)))
-- X4_isPosts: isPosts(I)Z, kind O
def fX4_isPosts (p0 : Int32) : Option Bool :=
  bo (fX4_isAmong p0 (2 : Int32) (5 : Int32)) (fun r1 => some r1)
-- X4_all: all(I)J, kind W
def fX4_all (n : Nat) (p0 : Int32) (S : St) : Option (Int64 × St) :=
  bo (fX4_isPosts p0) (fun r1 => (bif r1 then bw (fX1_sumOfTrees n p0 S) (fun r3 S5 => some (r3, S5)) else some ((0 : Int64), S)))
-- X4_trees: trees(II)Z, kind W
def bX4_trees_1 (n : Nat) (x1 : Int32) (x2 : Int32)  (rec : Int32 → St → Option ((Unit) × St)) (x3 : Int32) (S : St) : Option ((Unit) × St) :=
  (if (nI (2 ^ n)) ≤ x3 then some ((), S) else bo (fX1_isTree n x3 x1 S) (fun r5 => (bif r5 then bo (fX1_productOf n x3 S) (fun r7 => gd (inb x3 (2 ^ n)) (rec (x3 + 1) (sJ S 5 (Int32.toNatClampNeg x3) r7))) else gd (inb x3 (2 ^ n)) (rec (x3 + 1) (sJ S 5 (Int32.toNatClampNeg x3) (0 : Int64))))))
def lX4_trees_1 (n : Nat) (x1 : Int32) (x2 : Int32)  : Nat → Int32 → St → Option ((Unit) × St)
  | 0, _, _ => none
  | k + 1, x3, S => bX4_trees_1 n x1 x2 (lX4_trees_1 n x1 x2 k) x3 S
def fX4_trees (n : Nat) (p0 : Int32) (p1 : Int32) (S : St) : Option (Bool × St) :=
  bo (fX4_isPosts p0) (fun r1 => (bif r1 then bo (fX4_isPlace p1) (fun r3 => (bif r3 then bw (lX4_trees_1 n p0 p1 FU (0 : Int32) S) (fun q11 S13 => bw (fX4_settle n p1 S13) (fun r14 S16 => some (r14, S16))) else some (false, S))) else some (false, S)))
-- X4_tell: tell(II)Z, kind W
def fX4_tell (n : Nat) (p0 : Int32) (p1 : Int32) (S : St) : Option (Bool × St) :=
  bo (fX4_isSet n p0 S) (fun r1 => (bif r1 then (if p1 < 0 then some (false, S) else (if (lg_cmp (Int32.toInt64 p1) (4000000 : Int64)) ≤ 0 then gd (inb p0 (2 ^ n)) (some (true, (sJ S 4 (Int32.toNatClampNeg p0) (Int32.toInt64 p1)))) else some (false, S))) else some (false, S)))
-- X4_hand: hand(I)Z, kind W
def fX4_hand (n : Nat) (p0 : Int32) (S : St) : Option (Bool × St) :=
  bo (fX4_isPlace p0) (fun r1 => (bif r1 then gd (cpok (0 : Int32) (0 : Int32) (nI (2 ^ n)) (2 ^ n) (2 ^ n)) (bw (fX4_settle n p0 (sC S 5 (va_cpy (S.2 4) (S.2 5) (Int32.toNatClampNeg (0 : Int32)) (Int32.toNatClampNeg (0 : Int32)) (Int32.toNatClampNeg (nI (2 ^ n)))))) (fun r3 S5 => some (r3, S5))) else some (false, S)))
-- X4_lawAt: lawAt(I)LShunLots$Law;, kind R
def fX4_lawAt (n : Nat) (p0 : Int32) (S : St) : Option (Option Nat) :=
  bo (fX4_isPlace p0) (fun r1 => (bif r1 then gd (inb p0 6) ((if (S.1 (25 + (Int32.toNatClampNeg p0)) 0) = 0 then some none else gd (inb p0 6) (some (some (Int32.toNatClampNeg p0))))) else some none))
-- X4_given: given(IIII)Z, kind W
def bX4_given_1 (n : Nat) (x2 : Int32) (x3 : Int32) (x4 : Int32) (t5 : Nat)  (rec : Int32 → St → Option ((Unit) × St)) (x6 : Int32) (S : St) : Option ((Unit) × St) :=
  (if (nI (2 ^ n)) ≤ x6 then some ((), S) else bo (fX4_fits x6 x2 x3) (fun r10 => (bif r10 then gd (inb x6 (2 ^ n)) (gd (inb x6 (2 ^ n)) (rec (x6 + 1) (sJ S 5 (Int32.toNatClampNeg x6) (S.2 (31 + t5) (Int32.toNatClampNeg x6))))) else gd (inb x6 (2 ^ n)) (rec (x6 + 1) (sJ S 5 (Int32.toNatClampNeg x6) (0 : Int64))))))
def lX4_given_1 (n : Nat) (x2 : Int32) (x3 : Int32) (x4 : Int32) (t5 : Nat)  : Nat → Int32 → St → Option ((Unit) × St)
  | 0, _, _ => none
  | k + 1, x6, S => bX4_given_1 n x2 x3 x4 t5 (lX4_given_1 n x2 x3 x4 t5 k) x6 S
def fX4_given (n : Nat) (p0 : Int32) (p1 : Int32) (p2 : Int32) (p3 : Int32) (S : St) : Option (Bool × St) :=
  bo (fX4_lawAt n p0 S) (fun r1 => mo r1 (some (false, S)) (fun lw3 => gd (decide (lw3 < 6)) (bo (fX4_isSet n p1 S) (fun r4 => (bif r4 then bo (fX4_isSet n p2 S) (fun r6 => (bif r6 then bo (fX4_isPlace p3) (fun r8 => (bif r8 then bw (lX4_given_1 n p1 p2 p3 lw3 FU (0 : Int32) S) (fun q14 S16 => bw (fX4_settle n p3 S16) (fun r17 S19 => some (r17, S19))) else some (false, S))) else some (false, S))) else some (false, S))))))
-- X4_halveDraft: halveDraft(I)V, kind W
def bX4_halveDraft_1 (n : Nat) (x1 : Int32)  (rec : Int32 → St → Option ((Unit) × St)) (x2 : Int32) (S : St) : Option ((Unit) × St) :=
  (if (nI (2 ^ n)) ≤ x2 then some ((), S) else (if (x2 &&& x1) = 0 then gd (inb x2 (2 ^ n)) (gd (inb (x2 ||| x1) (2 ^ n)) (gd (inb x2 (2 ^ n)) (rec (x2 + 1) (sJ S 5 (Int32.toNatClampNeg x2) (((2 : Int64) * (S.2 5 (Int32.toNatClampNeg x2))) + (S.2 5 (Int32.toNatClampNeg (x2 ||| x1)))))))) else rec (x2 + 1) S))
def lX4_halveDraft_1 (n : Nat) (x1 : Int32)  : Nat → Int32 → St → Option ((Unit) × St)
  | 0, _, _ => none
  | k + 1, x2, S => bX4_halveDraft_1 n x1 (lX4_halveDraft_1 n x1 k) x2 S
def fX4_halveDraft (n : Nat) (p0 : Int32) (S : St) : Option (Unit × St) :=
  bw (lX4_halveDraft_1 n p0 FU (0 : Int32) S) (fun q3 S5 => some ((), S5))
-- X4_thin: thin(III)Z, kind W
def bX4_thin_1 (n : Nat) (x2 : Int32) (x3 : Int32)  (rec : Int32 → St → Option ((Unit) × St)) (x5 : Int32) (S : St) : Option ((Unit) × St) :=
  (if (nI n) ≤ x5 then some ((), S) else bo (fX4_has x2 x5) (fun r8 => (bif r8 then bw (fX4_halveDraft n ((1 : Int32) <<< (x5 &&& 31)) S) (fun r10 S12 => rec (x5 + 1) S12) else rec (x5 + 1) S)))
def lX4_thin_1 (n : Nat) (x2 : Int32) (x3 : Int32)  : Nat → Int32 → St → Option ((Unit) × St)
  | 0, _, _ => none
  | k + 1, x5, S => bX4_thin_1 n x2 x3 (lX4_thin_1 n x2 x3 k) x5 S
def fX4_thin (n : Nat) (p0 : Int32) (p1 : Int32) (p2 : Int32) (S : St) : Option (Bool × St) :=
  bo (fX4_lawAt n p0 S) (fun r1 => mo r1 (some (false, S)) (fun lw3 => gd (decide (lw3 < 6)) (bo (fX4_isSet n p1 S) (fun r4 => (bif r4 then bo (fX4_isPlace p2) (fun r6 => (bif r6 then gd (cpok (0 : Int32) (0 : Int32) (nI (2 ^ n)) (2 ^ n) (2 ^ n)) (bw (lX4_thin_1 n p1 p2 FU (0 : Int32) (sC S 5 (va_cpy (S.2 (31 + lw3)) (S.2 5) (Int32.toNatClampNeg (0 : Int32)) (Int32.toNatClampNeg (0 : Int32)) (Int32.toNatClampNeg (nI (2 ^ n)))))) (fun q15 S17 => bw (fX4_settle n p2 S17) (fun r18 S20 => some (r18, S20)))) else some (false, S))) else some (false, S))))))
-- X4_part: part(III)Z, kind W
def bX4_part_1 (n : Nat) (x2 : Int32) (x3 : Int32) (t4 : Nat)  (rec : Int32 → St → Option ((Unit) × St)) (x5 : Int32) (S : St) : Option ((Unit) × St) :=
  (if (nI (2 ^ n)) ≤ x5 then some ((), S) else gd (inb x5 (2 ^ n)) (rec (x5 + 1) (sJ S 5 (Int32.toNatClampNeg x5) (0 : Int64))))
def lX4_part_1 (n : Nat) (x2 : Int32) (x3 : Int32) (t4 : Nat)  : Nat → Int32 → St → Option ((Unit) × St)
  | 0, _, _ => none
  | k + 1, x5, S => bX4_part_1 n x2 x3 t4 (lX4_part_1 n x2 x3 t4 k) x5 S
def bX4_part_2 (n : Nat) (x2 : Int32) (x3 : Int32) (t4 : Nat)  (rec : Int32 → St → Option ((Unit) × St)) (x5 : Int32) (S : St) : Option ((Unit) × St) :=
  (if (nI (2 ^ n)) ≤ x5 then some ((), S) else gd (inb (x5 &&& x2) (2 ^ n)) (gd (inb x5 (2 ^ n)) (gd (inb (x5 &&& x2) (2 ^ n)) (rec (x5 + 1) (sJ S 5 (Int32.toNatClampNeg (x5 &&& x2)) ((S.2 5 (Int32.toNatClampNeg (x5 &&& x2))) + (S.2 (31 + t4) (Int32.toNatClampNeg x5))))))))
def lX4_part_2 (n : Nat) (x2 : Int32) (x3 : Int32) (t4 : Nat)  : Nat → Int32 → St → Option ((Unit) × St)
  | 0, _, _ => none
  | k + 1, x5, S => bX4_part_2 n x2 x3 t4 (lX4_part_2 n x2 x3 t4 k) x5 S
def fX4_part (n : Nat) (p0 : Int32) (p1 : Int32) (p2 : Int32) (S : St) : Option (Bool × St) :=
  bo (fX4_lawAt n p0 S) (fun r1 => mo r1 (some (false, S)) (fun lw3 => gd (decide (lw3 < 6)) (bo (fX4_isSet n p1 S) (fun r4 => (bif r4 then bo (fX4_isPlace p2) (fun r6 => (bif r6 then bw (lX4_part_1 n p1 p2 lw3 FU (0 : Int32) S) (fun q9 S11 => bw (lX4_part_2 n p1 p2 lw3 FU (0 : Int32) S11) (fun q13 S15 => bw (fX4_settle n p2 S15) (fun r16 S18 => some (r16, S18)))) else some (false, S))) else some (false, S))))))
-- X4_other: other(III)Z, kind W
def bX4_other_1 (n : Nat) (x2 : Int32) (x3 : Int32) (t4 : Nat)  (rec : Int32 → St → Option ((Unit) × St)) (x5 : Int32) (S : St) : Option ((Unit) × St) :=
  (if (nI (2 ^ n)) ≤ x5 then some ((), S) else gd (inb x5 (2 ^ n)) (gd (inb (x5 ^^^ x2) (2 ^ n)) (rec (x5 + 1) (sJ S 5 (Int32.toNatClampNeg (x5 ^^^ x2)) (S.2 (31 + t4) (Int32.toNatClampNeg x5))))))
def lX4_other_1 (n : Nat) (x2 : Int32) (x3 : Int32) (t4 : Nat)  : Nat → Int32 → St → Option ((Unit) × St)
  | 0, _, _ => none
  | k + 1, x5, S => bX4_other_1 n x2 x3 t4 (lX4_other_1 n x2 x3 t4 k) x5 S
def fX4_other (n : Nat) (p0 : Int32) (p1 : Int32) (p2 : Int32) (S : St) : Option (Bool × St) :=
  bo (fX4_lawAt n p0 S) (fun r1 => mo r1 (some (false, S)) (fun lw3 => gd (decide (lw3 < 6)) (bo (fX4_isSet n p1 S) (fun r4 => (bif r4 then bo (fX4_isPlace p2) (fun r6 => (bif r6 then bw (lX4_other_1 n p1 p2 lw3 FU (0 : Int32) S) (fun q9 S11 => bw (fX4_settle n p2 S11) (fun r12 S14 => some (r12, S14))) else some (false, S))) else some (false, S))))))
-- X4_mix: mix(IIIII)Z, kind W
def bX4_mix_1 (n : Nat) (x5 : Int32) (t6 : Nat) (t7 : Nat) (x8 : Int64) (x10 : Int64)  (rec : Int32 → St → Option ((Unit) × St)) (x12 : Int32) (S : St) : Option ((Unit) × St) :=
  (if (nI (2 ^ n)) ≤ x12 then some ((), S) else gd (inb x12 (2 ^ n)) (gd (inb x12 (2 ^ n)) (gd (inb x12 (2 ^ n)) (rec (x12 + 1) (sJ S 5 (Int32.toNatClampNeg x12) (((S.2 (31 + t6) (Int32.toNatClampNeg x12)) * x8) + ((S.2 (31 + t7) (Int32.toNatClampNeg x12)) * x10)))))))
def lX4_mix_1 (n : Nat) (x5 : Int32) (t6 : Nat) (t7 : Nat) (x8 : Int64) (x10 : Int64)  : Nat → Int32 → St → Option ((Unit) × St)
  | 0, _, _ => none
  | k + 1, x12, S => bX4_mix_1 n x5 t6 t7 x8 x10 (lX4_mix_1 n x5 t6 t7 x8 x10 k) x12 S
def fX4_mix (n : Nat) (p0 : Int32) (p1 : Int32) (p2 : Int32) (p3 : Int32) (p4 : Int32) (S : St) : Option (Bool × St) :=
  bo (fX4_lawAt n p0 S) (fun r1 => mo r1 (bo (fX4_lawAt n p1 S) (fun r4 => mo r4 (some (false, S)) (fun lw6 => gd (decide (lw6 < 6)) (some (false, S))))) (fun lw3 => gd (decide (lw3 < 6)) (bo (fX4_lawAt n p1 S) (fun r7 => mo r7 (some (false, S)) (fun lw9 => gd (decide (lw9 < 6)) (bo (fX4_isPlace p4) (fun r10 => (bif r10 then bo (fX4_isAmong p2 (1 : Int32) (9 : Int32)) (fun r12 => (bif r12 then bo (fX4_isAmong p3 (1 : Int32) (9 : Int32)) (fun r14 => (bif r14 then bw (lX4_mix_1 n p4 lw3 lw9 ((Int32.toInt64 p2) * (S.2 (25 + lw9) 0)) ((Int32.toInt64 p3) * (S.2 (25 + lw3) 0)) FU (0 : Int32) S) (fun q17 S19 => bw (fX4_settle n p4 S19) (fun r20 S22 => some (r20, S22))) else some (false, S))) else some (false, S))) else some (false, S)))))))))
-- X4_share: share(II)J, kind R
def fX4_share (n : Nat) (p0 : Int32) (p1 : Int32) (S : St) : Option Int64 :=
  bo (fX4_lawAt n p0 S) (fun r1 => mo r1 (some (-1 : Int64)) (fun lw3 => gd (decide (lw3 < 6)) (bo (fX4_isSet n p1 S) (fun r4 => (bif r4 then gd (inb p1 (2 ^ n)) (some (S.2 (31 + lw3) (Int32.toNatClampNeg p1))) else some (-1 : Int64))))))
-- X4_isWhat: isWhat(I)Z, kind O
def fX4_isWhat (p0 : Int32) : Option Bool :=
  bo (fX4_isAmong p0 (0 : Int32) (1 : Int32)) (fun r1 => some r1)
-- X4_lowest: lowest(JJI)J, kind O
def fX4_lowest (p0 : Int64) (p1 : Int64) (p2 : Int32) : Option Int64 :=
  bo (fX4_commonDivisor (if 0 < p0 then p0 else -p0) p1) (fun r1 => (if 0 ≤ (lg_cmp r1 (1 : Int64)) then (if p2 = 0 then gd (!(decide (r1 = 0))) (some (p0 / r1)) else gd (!(decide (r1 = 0))) (some (p1 / r1))) else some (-1 : Int64)))
-- X4_chance: chance(III)J, kind R
def fX4_chance (n : Nat) (p0 : Int32) (p1 : Int32) (p2 : Int32) (S : St) : Option Int64 :=
  bo (fX4_lawAt n p0 S) (fun r1 => mo r1 (some (-1 : Int64)) (fun lw3 => gd (decide (lw3 < 6)) (bo (fX4_isSet n p1 S) (fun r4 => (bif r4 then bo (fX4_isWhat p2) (fun r6 => (bif r6 then gd (inb p1 (2 ^ n)) (bo (fX4_lowest (S.2 (31 + lw3) (Int32.toNatClampNeg p1)) (S.2 (25 + lw3) 0) p2) (fun r8 => some r8)) else some (-1 : Int64))) else some (-1 : Int64))))))
-- X4_within: within(III)J, kind R
def fX4_within (n : Nat) (p0 : Int32) (p1 : Int32) (p2 : Int32) (S : St) : Option Int64 :=
  bo (fX4_lawAt n p0 S) (fun r1 => mo r1 (some (-1 : Int64)) (fun lw3 => gd (decide (lw3 < 6)) (bo (fX4_isSet n p1 S) (fun r4 => (bif r4 then bo (fX4_isWhat p2) (fun r6 => (bif r6 then bo (fX0_sumFitting n lw3 p1 (0 : Int32) S) (fun r8 => bo (fX4_lowest r8 (S.2 (25 + lw3) 0) p2) (fun r10 => some r10)) else some (-1 : Int64))) else some (-1 : Int64))))))
-- X4_out: out(III)J, kind R
def fX4_out (n : Nat) (p0 : Int32) (p1 : Int32) (p2 : Int32) (S : St) : Option Int64 :=
  bo (fX4_lawAt n p0 S) (fun r1 => mo r1 (some (-1 : Int64)) (fun lw3 => gd (decide (lw3 < 6)) (bo (fX4_isSet n p1 S) (fun r4 => (bif r4 then bo (fX4_isWhat p2) (fun r6 => (bif r6 then bo (fX0_sumFitting n lw3 (0 : Int32) p1 S) (fun r8 => bo (fX4_lowest r8 (S.2 (25 + lw3) 0) p2) (fun r10 => some r10)) else some (-1 : Int64))) else some (-1 : Int64))))))
-- X4_isCount: isCount(I)Z, kind R
def fX4_isCount (n : Nat) (p0 : Int32) (S : St) : Option Bool :=
  bo (fX4_isAmong p0 (0 : Int32) (nI n)) (fun r1 => some r1)
-- X4_size: size(III)J, kind R
def fX4_size (n : Nat) (p0 : Int32) (p1 : Int32) (p2 : Int32) (S : St) : Option Int64 :=
  bo (fX4_lawAt n p0 S) (fun r1 => mo r1 (some (-1 : Int64)) (fun lw3 => gd (decide (lw3 < 6)) (bo (fX4_isCount n p1 S) (fun r4 => (bif r4 then bo (fX4_isWhat p2) (fun r6 => (bif r6 then bo (fX0_sumOfSize n lw3 p1 S) (fun r8 => bo (fX4_lowest r8 (S.2 (25 + lw3) 0) p2) (fun r10 => some r10)) else some (-1 : Int64))) else some (-1 : Int64))))))
-- X4_mean: mean(II)J, kind R
def fX4_mean (n : Nat) (p0 : Int32) (p1 : Int32) (S : St) : Option Int64 :=
  bo (fX4_lawAt n p0 S) (fun r1 => mo r1 (some (-1 : Int64)) (fun lw3 => gd (decide (lw3 < 6)) (bo (fX4_isWhat p1) (fun r4 => (bif r4 then bo (fX0_sumOfCounts n lw3 S) (fun r6 => bo (fX4_lowest r6 (S.2 (25 + lw3) 0) p1) (fun r8 => some r8)) else some (-1 : Int64))))))
-- X4_spread: spread(II)J, kind R
def fX4_spread (n : Nat) (p0 : Int32) (p1 : Int32) (S : St) : Option Int64 :=
  bo (fX4_lawAt n p0 S) (fun r1 => mo r1 (some (-1 : Int64)) (fun lw3 => gd (decide (lw3 < 6)) (bo (fX4_isWhat p1) (fun r4 => (bif r4 then bo (fX0_sumOfCounts n lw3 S) (fun r6 => bo (fX0_sumOfSquares n lw3 S) (fun r8 => bo (fX4_lowest ((r8 * (S.2 (25 + lw3) 0)) - (r6 * r6)) ((S.2 (25 + lw3) 0) * (S.2 (25 + lw3) 0)) p1) (fun r10 => some r10))) else some (-1 : Int64))))))
-- X4_both: both(IIII)J, kind R
def fX4_both (n : Nat) (p0 : Int32) (p1 : Int32) (p2 : Int32) (p3 : Int32) (S : St) : Option Int64 :=
  bo (fX4_lawAt n p0 S) (fun r1 => mo r1 (some (0 : Int64)) (fun lw3 => gd (decide (lw3 < 6)) (bo (fX4_isThing n p1 S) (fun r4 => (bif r4 then bo (fX4_isThing n p2 S) (fun r6 => (bif r6 then (if p1 = p2 then some (0 : Int64) else bo (fX4_isWhat p3) (fun r8 => (bif r8 then bo (fX0_apartness n lw3 ((1 : Int32) <<< (p1 &&& 31)) ((1 : Int32) <<< (p2 &&& 31)) S) (fun r10 => bo (fX4_lowest r10 ((S.2 (25 + lw3) 0) * (S.2 (25 + lw3) 0)) p3) (fun r12 => some r12)) else some (0 : Int64)))) else some (0 : Int64))) else some (0 : Int64))))))
-- X4_shuns: shuns(I)I, kind R
def bX4_shuns_2 (n : Nat) (t2 : Nat) (x3 : Int32) (S : St) (rec : Int32 → Option ((Unit) ⊕ Int32)) (x4 : Int32) : Option ((Unit) ⊕ Int32) :=
  (if x3 ≤ x4 then some (.inl ()) else bo (fX0_apartness n t2 ((1 : Int32) <<< (x3 &&& 31)) ((1 : Int32) <<< (x4 &&& 31)) S) (fun r4 => (if 0 ≤ (lg_cmp r4 (0 : Int64)) then rec (x4 + 1) else some (.inr (0 : Int32)))))
def lX4_shuns_2 (n : Nat) (t2 : Nat) (x3 : Int32) (S : St) : Nat → Int32 → Option ((Unit) ⊕ Int32)
  | 0, _ => none
  | k + 1, x4 => bX4_shuns_2 n t2 x3 S (lX4_shuns_2 n t2 x3 S k) x4
def bX4_shuns_1 (n : Nat) (t2 : Nat) (S : St) (rec : Int32 → Option ((Unit) ⊕ Int32)) (x3 : Int32) : Option ((Unit) ⊕ Int32) :=
  (if (nI n) ≤ x3 then some (.inl ()) else bs (lX4_shuns_2 n t2 x3 S FU (0 : Int32)) (fun q8 => rec (x3 + 1)) (fun r9 => some (.inr r9)))
def lX4_shuns_1 (n : Nat) (t2 : Nat) (S : St) : Nat → Int32 → Option ((Unit) ⊕ Int32)
  | 0, _ => none
  | k + 1, x3 => bX4_shuns_1 n t2 S (lX4_shuns_1 n t2 S k) x3
def fX4_shuns (n : Nat) (p0 : Int32) (S : St) : Option Int32 :=
  bo (fX4_lawAt n p0 S) (fun r1 => mo r1 (some (-1 : Int32)) (fun lw3 => gd (decide (lw3 < 6)) (bs (lX4_shuns_1 n lw3 S FU (1 : Int32)) (fun q11 => some (1 : Int32)) (fun r9 => some r9))))
-- X4_rises: rises(I)I, kind R
def bX4_rises_1 (n : Nat) (t2 : Nat) (S : St) (rec : Int32 → Int64 → Int32 → Option ((Unit) ⊕ Int32)) (x3 : Int32) (x4 : Int64) (x6 : Int32) : Option ((Unit) ⊕ Int32) :=
  (if (nI n) < x6 then some (.inl ()) else bo (fX0_sumOfSize n t2 x6 S) (fun r6 => (if x3 = 0 then (if 0 ≤ (lg_cmp r6 x4) then rec x3 r6 (x6 + 1) else rec (1 : Int32) r6 (x6 + 1)) else (if (lg_cmp r6 x4) ≤ 0 then (if 0 ≤ (lg_cmp r6 x4) then rec x3 r6 (x6 + 1) else rec (1 : Int32) r6 (x6 + 1)) else some (.inr (0 : Int32))))))
def lX4_rises_1 (n : Nat) (t2 : Nat) (S : St) : Nat → Int32 → Int64 → Int32 → Option ((Unit) ⊕ Int32)
  | 0, _, _, _ => none
  | k + 1, x3, x4, x6 => bX4_rises_1 n t2 S (lX4_rises_1 n t2 S k) x3 x4 x6
def fX4_rises (n : Nat) (p0 : Int32) (S : St) : Option Int32 :=
  bo (fX4_lawAt n p0 S) (fun r1 => mo r1 (some (-1 : Int32)) (fun lw3 => gd (decide (lw3 < 6)) (bo (fX0_sumOfSize n lw3 (0 : Int32) S) (fun r4 => bs (lX4_rises_1 n lw3 S FU (0 : Int32) r4 (1 : Int32)) (fun q13 => some (1 : Int32)) (fun r9 => some r9)))))
-- X4_greatest: greatest(I)I, kind R
def bX4_greatest_1 (n : Nat) (t2 : Nat) (S : St) (rec : Int32 → Int32 → Option (Int32)) (x3 : Int32) (x4 : Int32) : Option (Int32) :=
  (if (nI (2 ^ n)) ≤ x4 then some x3 else gd (inb x4 (2 ^ n)) (gd (inb x3 (2 ^ n)) ((if (lg_cmp (S.2 (31 + t2) (Int32.toNatClampNeg x4)) (S.2 (31 + t2) (Int32.toNatClampNeg x3))) ≤ 0 then rec x3 (x4 + 1) else rec x4 (x4 + 1)))))
def lX4_greatest_1 (n : Nat) (t2 : Nat) (S : St) : Nat → Int32 → Int32 → Option (Int32)
  | 0, _, _ => none
  | k + 1, x3, x4 => bX4_greatest_1 n t2 S (lX4_greatest_1 n t2 S k) x3 x4
def fX4_greatest (n : Nat) (p0 : Int32) (S : St) : Option Int32 :=
  bo (fX4_lawAt n p0 S) (fun r1 => mo r1 (some (-1 : Int32)) (fun lw3 => gd (decide (lw3 < 6)) (bo (lX4_greatest_1 n lw3 S FU (0 : Int32) (1 : Int32)) (fun q6 => some q6))))
-- X4_withBestThing: withBestThing(LShunLots$Law;I)I, kind R
def bX4_withBestThing_1 (n : Nat) (t1 : Nat) (x2 : Int32) (S : St) (rec : Int32 → Int32 → Option (Int32)) (x3 : Int32) (x4 : Int32) : Option (Int32) :=
  (if (nI n) ≤ x4 then some x3 else (if (x2 ||| ((1 : Int32) <<< (x4 &&& 31))) = x2 then rec x3 (x4 + 1) else (if x3 = x2 then rec (x2 ||| ((1 : Int32) <<< (x4 &&& 31))) (x4 + 1) else gd (inb (x2 ||| ((1 : Int32) <<< (x4 &&& 31))) (2 ^ n)) (gd (inb x3 (2 ^ n)) ((if (lg_cmp (S.2 (31 + t1) (Int32.toNatClampNeg (x2 ||| ((1 : Int32) <<< (x4 &&& 31))))) (S.2 (31 + t1) (Int32.toNatClampNeg x3))) ≤ 0 then rec x3 (x4 + 1) else rec (x2 ||| ((1 : Int32) <<< (x4 &&& 31))) (x4 + 1)))))))
def lX4_withBestThing_1 (n : Nat) (t1 : Nat) (x2 : Int32) (S : St) : Nat → Int32 → Int32 → Option (Int32)
  | 0, _, _ => none
  | k + 1, x3, x4 => bX4_withBestThing_1 n t1 x2 S (lX4_withBestThing_1 n t1 x2 S k) x3 x4
def fX4_withBestThing (n : Nat) (a0 : Nat) (p1 : Int32) (S : St) : Option Int32 :=
  bo (lX4_withBestThing_1 n a0 p1 S FU p1 (0 : Int32)) (fun q5 => some q5)
-- X4_greedy: greedy(II)I, kind R
def bX4_greedy_1 (n : Nat) (x2 : Int32) (t3 : Nat) (S : St) (rec : Int32 → Int32 → Option (Int32)) (x4 : Int32) (x5 : Int32) : Option (Int32) :=
  (if x2 ≤ x5 then some x4 else bo (fX4_withBestThing n t3 x4 S) (fun r6 => rec r6 (x5 + 1)))
def lX4_greedy_1 (n : Nat) (x2 : Int32) (t3 : Nat) (S : St) : Nat → Int32 → Int32 → Option (Int32)
  | 0, _, _ => none
  | k + 1, x4, x5 => bX4_greedy_1 n x2 t3 S (lX4_greedy_1 n x2 t3 S k) x4 x5
def fX4_greedy (n : Nat) (p0 : Int32) (p1 : Int32) (S : St) : Option Int32 :=
  bo (fX4_lawAt n p0 S) (fun r1 => mo r1 (some (-1 : Int32)) (fun lw3 => gd (decide (lw3 < 6)) (bo (fX4_isCount n p1 S) (fun r4 => (bif r4 then bo (lX4_greedy_1 n p1 lw3 S FU (0 : Int32) (0 : Int32)) (fun q9 => some q9) else some (-1 : Int32))))))
-- X4_same: same(II)I, kind R
def bX4_same_1 (n : Nat) (t3 : Nat) (t4 : Nat) (S : St) (rec : Int32 → Option ((Unit) ⊕ Int32)) (x5 : Int32) : Option ((Unit) ⊕ Int32) :=
  (if (nI (2 ^ n)) ≤ x5 then some (.inl ()) else gd (inb x5 (2 ^ n)) (gd (inb x5 (2 ^ n)) ((if (lg_cmp (S.2 (31 + t3) (Int32.toNatClampNeg x5)) (S.2 (31 + t4) (Int32.toNatClampNeg x5))) = 0 then rec (x5 + 1) else some (.inr (0 : Int32))))))
def lX4_same_1 (n : Nat) (t3 : Nat) (t4 : Nat) (S : St) : Nat → Int32 → Option ((Unit) ⊕ Int32)
  | 0, _ => none
  | k + 1, x5 => bX4_same_1 n t3 t4 S (lX4_same_1 n t3 t4 S k) x5
def fX4_same (n : Nat) (p0 : Int32) (p1 : Int32) (S : St) : Option Int32 :=
  bo (fX4_lawAt n p0 S) (fun r1 => mo r1 (bo (fX4_lawAt n p1 S) (fun r4 => mo r4 (some (-1 : Int32)) (fun lw6 => gd (decide (lw6 < 6)) (some (-1 : Int32))))) (fun lw3 => gd (decide (lw3 < 6)) (bo (fX4_lawAt n p1 S) (fun r7 => mo r7 (some (-1 : Int32)) (fun lw9 => gd (decide (lw9 < 6)) (bs (lX4_same_1 n lw3 lw9 S FU (0 : Int32)) (fun q12 => some (1 : Int32)) (fun r9 => some r9)))))))
-- X4_draw: draw(IJ)I, kind R
def bX4_draw_1 (n : Nat) (t4 : Nat) (S : St) (rec : Int64 → Int32 → Int32 → Option (Int32)) (x5 : Int64) (x7 : Int32) (x8 : Int32) : Option (Int32) :=
  (if (nI n) ≤ x8 then some x7 else bo (fX0_sumFitting n t4 x7 ((((1 : Int32) <<< (x8 &&& 31)) - (1 : Int32)) &&& (x7 ^^^ (-1 : Int32))) S) (fun r4 => bo (fX0_sumFitting n t4 (x7 ||| ((1 : Int32) <<< (x8 &&& 31))) ((((1 : Int32) <<< (x8 &&& 31)) - (1 : Int32)) &&& (x7 ^^^ (-1 : Int32))) S) (fun r6 => (if (lg_cmp r4 (0 : Int64)) ≤ 0 then rec ((x5 * (6364136223846793005 : Int64)) + (1442695040888963407 : Int64)) x7 (x8 + 1) else gd (!(decide (r4 = 0))) ((if 0 ≤ (lg_cmp ((UInt64.toInt64 (Int64.toUInt64 ((x5 * (6364136223846793005 : Int64)) + (1442695040888963407 : Int64)) >>> (Int64.toUInt64 (Int32.toInt64 (33 : Int32)) &&& Int64.toUInt64 63))) - (UInt64.toInt64 (Int64.toUInt64 ((x5 * (6364136223846793005 : Int64)) + (1442695040888963407 : Int64)) >>> (Int64.toUInt64 (Int32.toInt64 (33 : Int32)) &&& Int64.toUInt64 63))) / r4 * r4) r6) then rec ((x5 * (6364136223846793005 : Int64)) + (1442695040888963407 : Int64)) x7 (x8 + 1) else rec ((x5 * (6364136223846793005 : Int64)) + (1442695040888963407 : Int64)) (x7 ||| ((1 : Int32) <<< (x8 &&& 31))) (x8 + 1)))))))
def lX4_draw_1 (n : Nat) (t4 : Nat) (S : St) : Nat → Int64 → Int32 → Int32 → Option (Int32)
  | 0, _, _, _ => none
  | k + 1, x5, x7, x8 => bX4_draw_1 n t4 S (lX4_draw_1 n t4 S k) x5 x7 x8
def fX4_draw (n : Nat) (p0 : Int32) (p1 : Int64) (S : St) : Option Int32 :=
  bo (fX4_lawAt n p0 S) (fun r1 => mo r1 (some (-1 : Int32)) (fun lw3 => gd (decide (lw3 < 6)) (bo (lX4_draw_1 n lw3 S FU p1 (0 : Int32) (0 : Int32)) (fun q11 => some q11))))
-- X5_in: in(III)Z, kind O
def fX5_in (p0 : Int32) (p1 : Int32) (p2 : Int32) : Option Bool :=
  (if p0 < p1 then some false else (if p2 < p0 then some false else some true))
-- X5_isThing: isThing(I)Z, kind R
def fX5_isThing (n : Nat) (p0 : Int32) (S : St) : Option Bool :=
  bo (fX5_in p0 (0 : Int32) ((nI n) - (1 : Int32))) (fun r1 => some r1)
-- X5_isSet: isSet(I)Z, kind R
def fX5_isSet (n : Nat) (p0 : Int32) (S : St) : Option Bool :=
  bo (fX5_in p0 (0 : Int32) ((nI (2 ^ n)) - (1 : Int32))) (fun r1 => some r1)
-- X5_isPlace: isPlace(I)Z, kind O
def fX5_isPlace (p0 : Int32) : Option Bool :=
  bo (fX5_in p0 (0 : Int32) (5 : Int32)) (fun r1 => some r1)
-- X5_sizeOf: sizeOf(I)I, kind O
def bX5_sizeOf_1 (x0 : Int32)  (rec : Int32 → Int32 → Option (Int32)) (x1 : Int32) (x2 : Int32) : Option (Int32) :=
  (if (6 : Int32) ≤ x2 then some x1 else rec (x1 + ((x0 >>> (x2 &&& 31)) &&& (1 : Int32))) (x2 + 1))
def lX5_sizeOf_1 (x0 : Int32)  : Nat → Int32 → Int32 → Option (Int32)
  | 0, _, _ => none
  | k + 1, x1, x2 => bX5_sizeOf_1 x0 (lX5_sizeOf_1 x0 k) x1 x2
def fX5_sizeOf (p0 : Int32) : Option Int32 :=
  bo (lX5_sizeOf_1 p0 FU (0 : Int32) (0 : Int32)) (fun q2 => some q2)
-- X5_entry: entry(IIII)Z, kind W
def fX5_entry (n : Nat) (p0 : Int32) (p1 : Int32) (p2 : Int32) (p3 : Int32) (S : St) : Option (Bool × St) :=
  bo (fX5_isPlace p0) (fun r1 => (bif r1 then bo (fX5_isThing n p1 S) (fun r3 => (bif r3 then bo (fX5_isThing n p2 S) (fun r5 => (bif r5 then bo (fX5_in p3 (-5 : Int32) (5 : Int32)) (fun r7 => (bif r7 then gd (inb ((((36 : Int32) * p0) + ((6 : Int32) * p1)) + p2) 216) (gd (inb ((((36 : Int32) * p0) + ((6 : Int32) * p2)) + p1) 216) (some (true, (sI (sI S 37 (Int32.toNatClampNeg ((((36 : Int32) * p0) + ((6 : Int32) * p1)) + p2)) p3) 37 (Int32.toNatClampNeg ((((36 : Int32) * p0) + ((6 : Int32) * p2)) + p1)) p3)))) else some (false, S))) else some (false, S))) else some (false, S))) else some (false, S)))
-- X5_told: told(III)I, kind R
def fX5_told (n : Nat) (p0 : Int32) (p1 : Int32) (p2 : Int32) (S : St) : Option Int32 :=
  bo (fX5_isPlace p0) (fun r1 => (bif r1 then bo (fX5_isThing n p1 S) (fun r3 => (bif r3 then bo (fX5_isThing n p2 S) (fun r5 => (bif r5 then gd (inb ((((36 : Int32) * p0) + ((6 : Int32) * p1)) + p2) 216) (some (S.1 37 (Int32.toNatClampNeg ((((36 : Int32) * p0) + ((6 : Int32) * p1)) + p2)))) else some (-10 : Int32))) else some (-10 : Int32))) else some (-10 : Int32)))
-- X5_determinant: determinant(III)J, kind W
def bX5_determinant_1 (n : Nat) (x1 : Int32) (x2 : Int32) (x3 : Int32)  (rec : Int32 → Int32 → St → Option ((Int32) × St)) (x4 : Int32) (x5 : Int32) (S : St) : Option ((Int32) × St) :=
  (if (nI n) ≤ x5 then some (x4, S) else (if ((x2 >>> (x5 &&& 31)) &&& (1 : Int32)) = 0 then rec x4 (x5 + 1) S else gd (inb x4 6) (rec (x4 + 1) (x5 + 1) (sI S 38 (Int32.toNatClampNeg x4) x5))))
def lX5_determinant_1 (n : Nat) (x1 : Int32) (x2 : Int32) (x3 : Int32)  : Nat → Int32 → Int32 → St → Option ((Int32) × St)
  | 0, _, _, _ => none
  | k + 1, x4, x5, S => bX5_determinant_1 n x1 x2 x3 (lX5_determinant_1 n x1 x2 x3 k) x4 x5 S
def bX5_determinant_3 (n : Nat) (x1 : Int32) (x3 : Int32) (x4 : Int32) (x5 : Int32) (x6 : Int32)  (rec : Int32 → St → Option ((Unit) × St)) (x7 : Int32) (S : St) : Option ((Unit) × St) :=
  (if x4 ≤ x7 then some ((), S) else (if ((x5 >>> (x7 &&& 31)) &&& (1 : Int32)) = 0 then rec (x7 + 1) S else gd (inb x6 6) (gd (inb x7 6) (gd (inb ((((36 : Int32) * x1) + ((6 : Int32) * (S.1 38 (Int32.toNatClampNeg x6)))) + (S.1 38 (Int32.toNatClampNeg x7))) 216) ((if x6 = x7 then bo (fX5_sizeOf (x5 >>> ((x7 + (1 : Int32)) &&& 31))) (fun r13 => (if (r13 - r13 / (2 : Int32) * (2 : Int32)) = (1 : Int32) then gd (inb x5 64) ((if (1 : Int32) = 0 then gd (inb (x5 &&& (((1 : Int32) <<< (x7 &&& 31)) ^^^ (-1 : Int32))) 64) (gd (inb x5 64) (rec (x7 + 1) (sJ S 39 (Int32.toNatClampNeg x5) ((S.2 39 (Int32.toNatClampNeg x5)) + ((Int32.toInt64 ((S.1 37 (Int32.toNatClampNeg ((((36 : Int32) * x1) + ((6 : Int32) * (S.1 38 (Int32.toNatClampNeg x6)))) + (S.1 38 (Int32.toNatClampNeg x7))))) + x3)) * (S.2 39 (Int32.toNatClampNeg (x5 &&& (((1 : Int32) <<< (x7 &&& 31)) ^^^ (-1 : Int32)))))))))) else gd (inb (x5 &&& (((1 : Int32) <<< (x7 &&& 31)) ^^^ (-1 : Int32))) 64) (gd (inb x5 64) (rec (x7 + 1) (sJ S 39 (Int32.toNatClampNeg x5) ((S.2 39 (Int32.toNatClampNeg x5)) + ((-(Int32.toInt64 ((S.1 37 (Int32.toNatClampNeg ((((36 : Int32) * x1) + ((6 : Int32) * (S.1 38 (Int32.toNatClampNeg x6)))) + (S.1 38 (Int32.toNatClampNeg x7))))) + x3))) * (S.2 39 (Int32.toNatClampNeg (x5 &&& (((1 : Int32) <<< (x7 &&& 31)) ^^^ (-1 : Int32)))))))))))) else gd (inb x5 64) ((if (0 : Int32) = 0 then gd (inb (x5 &&& (((1 : Int32) <<< (x7 &&& 31)) ^^^ (-1 : Int32))) 64) (gd (inb x5 64) (rec (x7 + 1) (sJ S 39 (Int32.toNatClampNeg x5) ((S.2 39 (Int32.toNatClampNeg x5)) + ((Int32.toInt64 ((S.1 37 (Int32.toNatClampNeg ((((36 : Int32) * x1) + ((6 : Int32) * (S.1 38 (Int32.toNatClampNeg x6)))) + (S.1 38 (Int32.toNatClampNeg x7))))) + x3)) * (S.2 39 (Int32.toNatClampNeg (x5 &&& (((1 : Int32) <<< (x7 &&& 31)) ^^^ (-1 : Int32)))))))))) else gd (inb (x5 &&& (((1 : Int32) <<< (x7 &&& 31)) ^^^ (-1 : Int32))) 64) (gd (inb x5 64) (rec (x7 + 1) (sJ S 39 (Int32.toNatClampNeg x5) ((S.2 39 (Int32.toNatClampNeg x5)) + ((-(Int32.toInt64 ((S.1 37 (Int32.toNatClampNeg ((((36 : Int32) * x1) + ((6 : Int32) * (S.1 38 (Int32.toNatClampNeg x6)))) + (S.1 38 (Int32.toNatClampNeg x7))))) + x3))) * (S.2 39 (Int32.toNatClampNeg (x5 &&& (((1 : Int32) <<< (x7 &&& 31)) ^^^ (-1 : Int32)))))))))))))) else bo (fX5_sizeOf (x5 >>> ((x7 + (1 : Int32)) &&& 31))) (fun r8 => (if (r8 - r8 / (2 : Int32) * (2 : Int32)) = (1 : Int32) then gd (inb x5 64) ((if (1 : Int32) = 0 then gd (inb (x5 &&& (((1 : Int32) <<< (x7 &&& 31)) ^^^ (-1 : Int32))) 64) (gd (inb x5 64) (rec (x7 + 1) (sJ S 39 (Int32.toNatClampNeg x5) ((S.2 39 (Int32.toNatClampNeg x5)) + ((Int32.toInt64 ((S.1 37 (Int32.toNatClampNeg ((((36 : Int32) * x1) + ((6 : Int32) * (S.1 38 (Int32.toNatClampNeg x6)))) + (S.1 38 (Int32.toNatClampNeg x7))))) + (0 : Int32))) * (S.2 39 (Int32.toNatClampNeg (x5 &&& (((1 : Int32) <<< (x7 &&& 31)) ^^^ (-1 : Int32)))))))))) else gd (inb (x5 &&& (((1 : Int32) <<< (x7 &&& 31)) ^^^ (-1 : Int32))) 64) (gd (inb x5 64) (rec (x7 + 1) (sJ S 39 (Int32.toNatClampNeg x5) ((S.2 39 (Int32.toNatClampNeg x5)) + ((-(Int32.toInt64 ((S.1 37 (Int32.toNatClampNeg ((((36 : Int32) * x1) + ((6 : Int32) * (S.1 38 (Int32.toNatClampNeg x6)))) + (S.1 38 (Int32.toNatClampNeg x7))))) + (0 : Int32)))) * (S.2 39 (Int32.toNatClampNeg (x5 &&& (((1 : Int32) <<< (x7 &&& 31)) ^^^ (-1 : Int32)))))))))))) else gd (inb x5 64) ((if (0 : Int32) = 0 then gd (inb (x5 &&& (((1 : Int32) <<< (x7 &&& 31)) ^^^ (-1 : Int32))) 64) (gd (inb x5 64) (rec (x7 + 1) (sJ S 39 (Int32.toNatClampNeg x5) ((S.2 39 (Int32.toNatClampNeg x5)) + ((Int32.toInt64 ((S.1 37 (Int32.toNatClampNeg ((((36 : Int32) * x1) + ((6 : Int32) * (S.1 38 (Int32.toNatClampNeg x6)))) + (S.1 38 (Int32.toNatClampNeg x7))))) + (0 : Int32))) * (S.2 39 (Int32.toNatClampNeg (x5 &&& (((1 : Int32) <<< (x7 &&& 31)) ^^^ (-1 : Int32)))))))))) else gd (inb (x5 &&& (((1 : Int32) <<< (x7 &&& 31)) ^^^ (-1 : Int32))) 64) (gd (inb x5 64) (rec (x7 + 1) (sJ S 39 (Int32.toNatClampNeg x5) ((S.2 39 (Int32.toNatClampNeg x5)) + ((-(Int32.toInt64 ((S.1 37 (Int32.toNatClampNeg ((((36 : Int32) * x1) + ((6 : Int32) * (S.1 38 (Int32.toNatClampNeg x6)))) + (S.1 38 (Int32.toNatClampNeg x7))))) + (0 : Int32)))) * (S.2 39 (Int32.toNatClampNeg (x5 &&& (((1 : Int32) <<< (x7 &&& 31)) ^^^ (-1 : Int32))))))))))))))))))))
def lX5_determinant_3 (n : Nat) (x1 : Int32) (x3 : Int32) (x4 : Int32) (x5 : Int32) (x6 : Int32)  : Nat → Int32 → St → Option ((Unit) × St)
  | 0, _, _ => none
  | k + 1, x7, S => bX5_determinant_3 n x1 x3 x4 x5 x6 (lX5_determinant_3 n x1 x3 x4 x5 x6 k) x7 S
def bX5_determinant_2 (n : Nat) (x1 : Int32) (x3 : Int32) (x4 : Int32)  (rec : Int32 → St → Option ((Unit) × St)) (x5 : Int32) (S : St) : Option ((Unit) × St) :=
  (if ((1 : Int32) <<< (x4 &&& 31)) ≤ x5 then some ((), S) else bo (fX5_sizeOf x5) (fun r6 => gd (inb x5 64) (bw (lX5_determinant_3 n x1 x3 x4 x5 (r6 - (1 : Int32)) FU (0 : Int32) (sJ S 39 (Int32.toNatClampNeg x5) (0 : Int64))) (fun q21 S23 => rec (x5 + 1) S23))))
def lX5_determinant_2 (n : Nat) (x1 : Int32) (x3 : Int32) (x4 : Int32)  : Nat → Int32 → St → Option ((Unit) × St)
  | 0, _, _ => none
  | k + 1, x5, S => bX5_determinant_2 n x1 x3 x4 (lX5_determinant_2 n x1 x3 x4 k) x5 S
def fX5_determinant (n : Nat) (p0 : Int32) (p1 : Int32) (p2 : Int32) (S : St) : Option (Int64 × St) :=
  bw (lX5_determinant_1 n p0 p1 p2 FU (0 : Int32) (0 : Int32) S) (fun q3 S5 => gd (inb (0 : Int32) 64) (bw (lX5_determinant_2 n p0 p2 q3 FU (1 : Int32) (sJ S5 39 (Int32.toNatClampNeg (0 : Int32)) (1 : Int64))) (fun q25 S27 => gd (inb (((1 : Int32) <<< (q3 &&& 31)) - (1 : Int32)) 64) (some ((S27.2 39 (Int32.toNatClampNeg (((1 : Int32) <<< (q3 &&& 31)) - (1 : Int32)))), S27)))))
-- X5_worth: worth(II)J, kind W
def fX5_worth (n : Nat) (p0 : Int32) (p1 : Int32) (S : St) : Option (Int64 × St) :=
  bo (fX5_isPlace p0) (fun r1 => (bif r1 then bo (fX5_isSet n p1 S) (fun r3 => (bif r3 then bw (fX5_determinant n p0 p1 (0 : Int32) S) (fun r5 S7 => some (r5, S7)) else some ((0 : Int64), S))) else some ((0 : Int64), S)))
-- X5_why: why(I)I, kind W
def bX5_why_1 (n : Nat) (x1 : Int32)  (rec : Int32 → St → Option (((Unit) ⊕ Int32) × St)) (x2 : Int32) (S : St) : Option (((Unit) ⊕ Int32) × St) :=
  (if (nI (2 ^ n)) ≤ x2 then some ((.inl ()), S) else bo (fX5_isPlace x1) (fun r1 => (bif r1 then bw (fX5_determinant n x1 x2 (0 : Int32) S) (fun r3 S5 => (if 0 ≤ (lg_cmp r3 (0 : Int64)) then rec (x2 + 1) S5 else some ((.inr x2), S5))) else some ((.inl ()), S))))
def lX5_why_1 (n : Nat) (x1 : Int32)  : Nat → Int32 → St → Option (((Unit) ⊕ Int32) × St)
  | 0, _, _ => none
  | k + 1, x2, S => bX5_why_1 n x1 (lX5_why_1 n x1 k) x2 S
def fX5_why (n : Nat) (p0 : Int32) (S : St) : Option (Int32 × St) :=
  bsw (lX5_why_1 n p0 FU (0 : Int32) S) (fun q9 S11 => some ((-1 : Int32), S11)) (fun r9 S9 => some (r9, S9))
-- X5_whole: whole(I)J, kind W
def fX5_whole (n : Nat) (p0 : Int32) (S : St) : Option (Int64 × St) :=
  bo (fX5_isPlace p0) (fun r1 => (bif r1 then bw (fX5_determinant n p0 ((nI (2 ^ n)) - (1 : Int32)) (1 : Int32) S) (fun r3 S5 => some (r3, S5)) else some ((0 : Int64), S)))
-- X5_isLaw: isLaw(I)Z, kind R
def fX5_isLaw (n : Nat) (p0 : Int32) (S : St) : Option Bool :=
  bo (fX5_isPlace p0) (fun r1 => (bif r1 then gd (inb p0 6) ((if (S.1 43 (Int32.toNatClampNeg p0)) = 0 then some false else some true)) else some false))
-- X5_common: common(JJ)J, kind O
def bX5_common_1   (rec : Int64 → Int64 → Option (Int64)) (x4 : Int64) (x6 : Int64) : Option (Int64) :=
  (if (lg_cmp x6 (0 : Int64)) = 0 then some x4 else gd (!(decide (x6 = 0))) (rec x6 (x4 - x4 / x6 * x6)))
def lX5_common_1   : Nat → Int64 → Int64 → Option (Int64)
  | 0, _, _ => none
  | k + 1, x4, x6 => bX5_common_1  (lX5_common_1  k) x4 x6
def fX5_common (p0 : Int64) (p1 : Int64) : Option Int64 :=
  bo (lX5_common_1 FU p0 p1) (fun q2 => some q2)
-- X5_clear: clear()V, kind W
def bX5_clear_1 (n : Nat)  (rec : Int32 → St → Option ((Unit) × St)) (x1 : Int32) (S : St) : Option ((Unit) × St) :=
  (if (64 : Int32) ≤ x1 then some ((), S) else gd (inb x1 64) (rec (x1 + 1) (sJ S 41 (Int32.toNatClampNeg x1) (0 : Int64))))
def lX5_clear_1 (n : Nat)  : Nat → Int32 → St → Option ((Unit) × St)
  | 0, _, _ => none
  | k + 1, x1, S => bX5_clear_1 n (lX5_clear_1 n k) x1 S
def fX5_clear (n : Nat) (S : St) : Option (Unit × St) :=
  bw (lX5_clear_1 n FU (0 : Int32) S) (fun q2 S4 => some ((), S4))
-- X5_makes: makes(I)Z, kind W
def bX5_makes_1 (n : Nat) (x1 : Int32) (S : St) (rec : Int64 → Int32 → Option (Int64)) (x2 : Int64) (x4 : Int32) : Option (Int64) :=
  (if (nI (2 ^ n)) ≤ x4 then some x2 else gd (inb x4 64) (bo (fX5_common (S.2 41 (Int32.toNatClampNeg x4)) x2) (fun r1 => rec r1 (x4 + 1))))
def lX5_makes_1 (n : Nat) (x1 : Int32) (S : St) : Nat → Int64 → Int32 → Option (Int64)
  | 0, _, _ => none
  | k + 1, x2, x4 => bX5_makes_1 n x1 S (lX5_makes_1 n x1 S k) x2 x4
def bX5_makes_2 (n : Nat) (x1 : Int32) (x2 : Int64) (S : St) (rec : Int32 → Option ((Unit) ⊕ Bool)) (x4 : Int32) : Option ((Unit) ⊕ Bool) :=
  (if (nI (2 ^ n)) ≤ x4 then some (.inl ()) else gd (inb x4 64) (gd (!(decide (x2 = 0))) ((if (lg_cmp ((S.2 41 (Int32.toNatClampNeg x4)) / x2) (4000000 : Int64)) ≤ 0 then rec (x4 + 1) else some (.inr false)))))
def lX5_makes_2 (n : Nat) (x1 : Int32) (x2 : Int64) (S : St) : Nat → Int32 → Option ((Unit) ⊕ Bool)
  | 0, _ => none
  | k + 1, x4 => bX5_makes_2 n x1 x2 S (lX5_makes_2 n x1 x2 S k) x4
def bX5_makes_3 (n : Nat) (x1 : Int32) (x2 : Int64)  (rec : Int32 → St → Option ((Unit) × St)) (x4 : Int32) (S : St) : Option ((Unit) × St) :=
  (if (nI (2 ^ n)) ≤ x4 then some ((), S) else gd (inb x4 64) (gd (!(decide (x2 = 0))) (gd (inb (((64 : Int32) * x1) + x4) 384) (rec (x4 + 1) (sJ S 40 (Int32.toNatClampNeg (((64 : Int32) * x1) + x4)) ((S.2 41 (Int32.toNatClampNeg x4)) / x2))))))
def lX5_makes_3 (n : Nat) (x1 : Int32) (x2 : Int64)  : Nat → Int32 → St → Option ((Unit) × St)
  | 0, _, _ => none
  | k + 1, x4, S => bX5_makes_3 n x1 x2 (lX5_makes_3 n x1 x2 k) x4 S
def fX5_makes (n : Nat) (p0 : Int32) (S : St) : Option (Bool × St) :=
  bo (lX5_makes_1 n p0 S FU (0 : Int64) (0 : Int32)) (fun q4 => (if (lg_cmp q4 (0 : Int64)) = 0 then some (false, S) else bs (lX5_makes_2 n p0 q4 S FU (0 : Int32)) (fun q8 => bw (lX5_makes_3 n p0 q4 FU (0 : Int32) S) (fun q11 S13 => gd (inb p0 6) (some (true, (sI S13 43 (Int32.toNatClampNeg p0) (1 : Int32)))))) (fun r9 => some (r9, S))))
-- X5_shun: shun(II)Z, kind W
def bX5_shun_1 (n : Nat) (x1 : Int32) (x2 : Int32)  (rec : Int32 → St → Option ((Unit) × St)) (x3 : Int32) (S : St) : Option ((Unit) × St) :=
  (if (nI (2 ^ n)) ≤ x3 then some ((), S) else bw (fX5_determinant n x1 x3 (0 : Int32) S) (fun r11 S13 => gd (inb x3 64) (rec (x3 + 1) (sJ S13 41 (Int32.toNatClampNeg x3) r11))))
def lX5_shun_1 (n : Nat) (x1 : Int32) (x2 : Int32)  : Nat → Int32 → St → Option ((Unit) × St)
  | 0, _, _ => none
  | k + 1, x3, S => bX5_shun_1 n x1 x2 (lX5_shun_1 n x1 x2 k) x3 S
def fX5_shun (n : Nat) (p0 : Int32) (p1 : Int32) (S : St) : Option (Bool × St) :=
  bo (fX5_isPlace p0) (fun r1 => (bif r1 then bo (fX5_isPlace p1) (fun r3 => (bif r3 then bw (fX5_why n p0 S) (fun r5 S7 => (if r5 < 0 then bw (fX5_clear n S7) (fun r8 S10 => bw (lX5_shun_1 n p0 p1 FU (0 : Int32) S10) (fun q15 S17 => bw (fX5_makes n p1 S17) (fun r18 S20 => some (r18, S20)))) else some (false, S7))) else some (false, S))) else some (false, S)))
-- X5_edge: edge(IIII)Z, kind W
def fX5_edge (n : Nat) (p0 : Int32) (p1 : Int32) (p2 : Int32) (p3 : Int32) (S : St) : Option (Bool × St) :=
  bo (fX5_isThing n p0 S) (fun r1 => (bif r1 then bo (fX5_in p1 (0 : Int32) (4 : Int32)) (fun r3 => (bif r3 then bo (fX5_in p2 (0 : Int32) (4 : Int32)) (fun r5 => (bif r5 then bo (fX5_in p3 (0 : Int32) (9 : Int32)) (fun r7 => (bif r7 then gd (inb p0 6) (gd (inb p0 6) (gd (inb p0 6) (some (true, (sI (sI (sI S 44 (Int32.toNatClampNeg p0) p1) 45 (Int32.toNatClampNeg p0) p2) 46 (Int32.toNatClampNeg p0) p3))))) else some (false, S))) else some (false, S))) else some (false, S))) else some (false, S)))
-- X5_treeOf: treeOf(II)J, kind W
def bX5_treeOf_1 (n : Nat) (x1 : Int32) (x2 : Int32)  (rec : Int32 → St → Option ((Unit) × St)) (x3 : Int32) (S : St) : Option ((Unit) × St) :=
  (if (5 : Int32) ≤ x3 then some ((), S) else gd (inb x3 5) (rec (x3 + 1) (sI S 47 (Int32.toNatClampNeg x3) x3)))
def lX5_treeOf_1 (n : Nat) (x1 : Int32) (x2 : Int32)  : Nat → Int32 → St → Option ((Unit) × St)
  | 0, _, _ => none
  | k + 1, x3, S => bX5_treeOf_1 n x1 x2 (lX5_treeOf_1 n x1 x2 k) x3 S
def bX5_treeOf_3 (n : Nat) (x1 : Int32) (x2 : Int32) (x3 : Int64) (x5 : Int32) (x8 : Int32) (x9 : Int32)  (rec : Int32 → St → Option ((Unit) × St)) (x10 : Int32) (S : St) : Option ((Unit) × St) :=
  (if (5 : Int32) ≤ x10 then some ((), S) else gd (inb x10 5) ((if (S.1 47 (Int32.toNatClampNeg x10)) = x8 then gd (inb x10 5) (rec (x10 + 1) (sI S 47 (Int32.toNatClampNeg x10) x9)) else rec (x10 + 1) S)))
def lX5_treeOf_3 (n : Nat) (x1 : Int32) (x2 : Int32) (x3 : Int64) (x5 : Int32) (x8 : Int32) (x9 : Int32)  : Nat → Int32 → St → Option ((Unit) × St)
  | 0, _, _ => none
  | k + 1, x10, S => bX5_treeOf_3 n x1 x2 x3 x5 x8 x9 (lX5_treeOf_3 n x1 x2 x3 x5 x8 x9 k) x10 S
def bX5_treeOf_2 (n : Nat) (x1 : Int32) (x2 : Int32)  (rec : Int64 → Int32 → St → Option (((Int64) ⊕ Int64) × St)) (x3 : Int64) (x5 : Int32) (S : St) : Option (((Int64) ⊕ Int64) × St) :=
  (if (nI n) ≤ x5 then some ((.inl x3), S) else (if ((x1 >>> (x5 &&& 31)) &&& (1 : Int32)) = 0 then rec x3 (x5 + 1) S else gd (inb x5 6) (gd (inb x5 6) ((if x2 ≤ (S.1 44 (Int32.toNatClampNeg x5)) then some ((.inr (0 : Int64)), S) else (if x2 ≤ (S.1 45 (Int32.toNatClampNeg x5)) then some ((.inr (0 : Int64)), S) else gd (inb (S.1 44 (Int32.toNatClampNeg x5)) 5) (gd (inb (S.1 45 (Int32.toNatClampNeg x5)) 5) ((if (S.1 47 (Int32.toNatClampNeg (S.1 44 (Int32.toNatClampNeg x5)))) = (S.1 47 (Int32.toNatClampNeg (S.1 45 (Int32.toNatClampNeg x5)))) then some ((.inr (0 : Int64)), S) else gd (inb (S.1 45 (Int32.toNatClampNeg x5)) 5) (gd (inb (S.1 44 (Int32.toNatClampNeg x5)) 5) (bw (lX5_treeOf_3 n x1 x2 x3 x5 (S.1 47 (Int32.toNatClampNeg (S.1 45 (Int32.toNatClampNeg x5)))) (S.1 47 (Int32.toNatClampNeg (S.1 44 (Int32.toNatClampNeg x5)))) FU (0 : Int32) S) (fun q9 S11 => gd (inb x5 6) (rec (x3 * (Int32.toInt64 (S11.1 46 (Int32.toNatClampNeg x5)))) (x5 + 1) S11)))))))))))))
def lX5_treeOf_2 (n : Nat) (x1 : Int32) (x2 : Int32)  : Nat → Int64 → Int32 → St → Option (((Int64) ⊕ Int64) × St)
  | 0, _, _, _ => none
  | k + 1, x3, x5, S => bX5_treeOf_2 n x1 x2 (lX5_treeOf_2 n x1 x2 k) x3 x5 S
def fX5_treeOf (n : Nat) (p0 : Int32) (p1 : Int32) (S : St) : Option (Int64 × St) :=
  bo (fX5_sizeOf p0) (fun r1 => (if r1 = (p1 - (1 : Int32)) then bw (lX5_treeOf_1 n p0 p1 FU (0 : Int32) S) (fun q4 S6 => bsw (lX5_treeOf_2 n p0 p1 FU (1 : Int64) (0 : Int32) S6) (fun q17 S19 => some (q17, S19)) (fun r9 S9 => some (r9, S9))) else some ((0 : Int64), S)))
-- X5_all: all(I)J, kind W
def bX5_all_1 (n : Nat) (x1 : Int32)  (rec : Int64 → Int32 → St → Option ((Int64) × St)) (x2 : Int64) (x4 : Int32) (S : St) : Option ((Int64) × St) :=
  (if (nI (2 ^ n)) ≤ x4 then some (x2, S) else bo (fX5_in x1 (2 : Int32) (5 : Int32)) (fun r1 => (bif r1 then bw (fX5_treeOf n x4 x1 S) (fun r3 S5 => rec (x2 + r3) (x4 + 1) S5) else some (x2, S))))
def lX5_all_1 (n : Nat) (x1 : Int32)  : Nat → Int64 → Int32 → St → Option ((Int64) × St)
  | 0, _, _, _ => none
  | k + 1, x2, x4, S => bX5_all_1 n x1 (lX5_all_1 n x1 k) x2 x4 S
def fX5_all (n : Nat) (p0 : Int32) (S : St) : Option (Int64 × St) :=
  bw (lX5_all_1 n p0 FU (0 : Int64) (0 : Int32) S) (fun q8 S10 => some (q8, S10))
-- X5_trees: trees(II)Z, kind W
def bX5_trees_1 (n : Nat) (x1 : Int32) (x2 : Int32)  (rec : Int32 → St → Option ((Unit) × St)) (x3 : Int32) (S : St) : Option ((Unit) × St) :=
  (if (nI (2 ^ n)) ≤ x3 then some ((), S) else bw (fX5_treeOf n x3 x1 S) (fun r8 S10 => gd (inb x3 64) (rec (x3 + 1) (sJ S10 41 (Int32.toNatClampNeg x3) r8))))
def lX5_trees_1 (n : Nat) (x1 : Int32) (x2 : Int32)  : Nat → Int32 → St → Option ((Unit) × St)
  | 0, _, _ => none
  | k + 1, x3, S => bX5_trees_1 n x1 x2 (lX5_trees_1 n x1 x2 k) x3 S
def fX5_trees (n : Nat) (p0 : Int32) (p1 : Int32) (S : St) : Option (Bool × St) :=
  bo (fX5_in p0 (2 : Int32) (5 : Int32)) (fun r1 => (bif r1 then bo (fX5_isPlace p1) (fun r3 => (bif r3 then bw (fX5_clear n S) (fun r5 S7 => bw (lX5_trees_1 n p0 p1 FU (0 : Int32) S7) (fun q12 S14 => bw (fX5_makes n p1 S14) (fun r15 S17 => some (r15, S17)))) else some (false, S))) else some (false, S)))
-- X5_tell: tell(II)Z, kind W
def fX5_tell (n : Nat) (p0 : Int32) (p1 : Int32) (S : St) : Option (Bool × St) :=
  bo (fX5_isSet n p0 S) (fun r1 => (bif r1 then bo (fX5_in p1 (0 : Int32) (4000000 : Int32)) (fun r3 => (bif r3 then gd (inb p0 64) (some (true, (sJ S 42 (Int32.toNatClampNeg p0) (Int32.toInt64 p1)))) else some (false, S))) else some (false, S)))
-- X5_hand: hand(I)Z, kind W
def bX5_hand_1 (n : Nat) (x1 : Int32)  (rec : Int32 → St → Option ((Unit) × St)) (x2 : Int32) (S : St) : Option ((Unit) × St) :=
  (if (nI (2 ^ n)) ≤ x2 then some ((), S) else gd (inb x2 64) (gd (inb x2 64) (rec (x2 + 1) (sJ S 41 (Int32.toNatClampNeg x2) (S.2 42 (Int32.toNatClampNeg x2))))))
def lX5_hand_1 (n : Nat) (x1 : Int32)  : Nat → Int32 → St → Option ((Unit) × St)
  | 0, _, _ => none
  | k + 1, x2, S => bX5_hand_1 n x1 (lX5_hand_1 n x1 k) x2 S
def fX5_hand (n : Nat) (p0 : Int32) (S : St) : Option (Bool × St) :=
  bo (fX5_isPlace p0) (fun r1 => (bif r1 then bw (fX5_clear n S) (fun r3 S5 => bw (lX5_hand_1 n p0 FU (0 : Int32) S5) (fun q7 S9 => bw (fX5_makes n p0 S9) (fun r10 S12 => some (r10, S12)))) else some (false, S)))
-- X5_given: given(IIII)Z, kind W
def bX5_given_1 (n : Nat) (x1 : Int32) (x2 : Int32) (x3 : Int32) (x4 : Int32)  (rec : Int32 → St → Option ((Unit) × St)) (x5 : Int32) (S : St) : Option ((Unit) × St) :=
  (if (nI (2 ^ n)) ≤ x5 then some ((), S) else (if (x5 &&& x2) = x2 then (if (x5 &&& x3) = 0 then gd (inb (((64 : Int32) * x1) + x5) 384) (gd (inb x5 64) (rec (x5 + 1) (sJ S 41 (Int32.toNatClampNeg x5) (S.2 40 (Int32.toNatClampNeg (((64 : Int32) * x1) + x5)))))) else rec (x5 + 1) S) else rec (x5 + 1) S))
def lX5_given_1 (n : Nat) (x1 : Int32) (x2 : Int32) (x3 : Int32) (x4 : Int32)  : Nat → Int32 → St → Option ((Unit) × St)
  | 0, _, _ => none
  | k + 1, x5, S => bX5_given_1 n x1 x2 x3 x4 (lX5_given_1 n x1 x2 x3 x4 k) x5 S
def fX5_given (n : Nat) (p0 : Int32) (p1 : Int32) (p2 : Int32) (p3 : Int32) (S : St) : Option (Bool × St) :=
  bo (fX5_isLaw n p0 S) (fun r1 => (bif r1 then bo (fX5_isSet n p1 S) (fun r3 => (bif r3 then bo (fX5_isSet n p2 S) (fun r5 => (bif r5 then bo (fX5_isPlace p3) (fun r7 => (bif r7 then bw (fX5_clear n S) (fun r9 S11 => bw (lX5_given_1 n p0 p1 p2 p3 FU (0 : Int32) S11) (fun q15 S17 => bw (fX5_makes n p3 S17) (fun r18 S20 => some (r18, S20)))) else some (false, S))) else some (false, S))) else some (false, S))) else some (false, S)))
-- X5_canBe: canBe(III)Z, kind R
def fX5_canBe (n : Nat) (p0 : Int32) (p1 : Int32) (p2 : Int32) (S : St) : Option Bool :=
  bo (fX5_isLaw n p0 S) (fun r1 => (bif r1 then bo (fX5_isSet n p1 S) (fun r3 => (bif r3 then bo (fX5_isPlace p2) (fun r5 => (bif r5 then some true else some false)) else some false)) else some false))
-- X5_thin: thin(III)Z, kind W
def bX5_thin_2 (n : Nat) (x1 : Int32) (x2 : Int32) (x3 : Int32) (x4 : Int32)  (rec : Int32 → St → Option ((Unit) × St)) (x5 : Int32) (S : St) : Option ((Unit) × St) :=
  (if (nI (2 ^ n)) ≤ x5 then some ((), S) else (if (x5 &&& (x4 ^^^ (-1 : Int32))) = 0 then (if ((x4 &&& (x2 ^^^ (-1 : Int32))) &&& (x5 ^^^ (-1 : Int32))) = 0 then gd (inb x5 64) (gd (inb (((64 : Int32) * x1) + x4) 384) (bo (fX5_sizeOf x2) (fun r6 => bo (fX5_sizeOf (x4 &&& x2)) (fun r8 => gd (inb x5 64) (rec (x5 + 1) (sJ S 41 (Int32.toNatClampNeg x5) ((S.2 41 (Int32.toNatClampNeg x5)) + ((S.2 40 (Int32.toNatClampNeg (((64 : Int32) * x1) + x4))) <<< (Int32.toInt64 (r6 - r8) &&& 63))))))))) else rec (x5 + 1) S) else rec (x5 + 1) S))
def lX5_thin_2 (n : Nat) (x1 : Int32) (x2 : Int32) (x3 : Int32) (x4 : Int32)  : Nat → Int32 → St → Option ((Unit) × St)
  | 0, _, _ => none
  | k + 1, x5, S => bX5_thin_2 n x1 x2 x3 x4 (lX5_thin_2 n x1 x2 x3 x4 k) x5 S
def bX5_thin_1 (n : Nat) (x1 : Int32) (x2 : Int32) (x3 : Int32)  (rec : Int32 → St → Option ((Unit) × St)) (x4 : Int32) (S : St) : Option ((Unit) × St) :=
  (if (nI (2 ^ n)) ≤ x4 then some ((), S) else bw (lX5_thin_2 n x1 x2 x3 x4 FU (0 : Int32) S) (fun q13 S15 => rec (x4 + 1) S15))
def lX5_thin_1 (n : Nat) (x1 : Int32) (x2 : Int32) (x3 : Int32)  : Nat → Int32 → St → Option ((Unit) × St)
  | 0, _, _ => none
  | k + 1, x4, S => bX5_thin_1 n x1 x2 x3 (lX5_thin_1 n x1 x2 x3 k) x4 S
def fX5_thin (n : Nat) (p0 : Int32) (p1 : Int32) (p2 : Int32) (S : St) : Option (Bool × St) :=
  bo (fX5_canBe n p0 p1 p2 S) (fun r1 => (bif r1 then bw (fX5_clear n S) (fun r3 S5 => bw (lX5_thin_1 n p0 p1 p2 FU (0 : Int32) S5) (fun q17 S19 => bw (fX5_makes n p2 S19) (fun r20 S22 => some (r20, S22)))) else some (false, S)))
-- X5_part: part(III)Z, kind W
def bX5_part_1 (n : Nat) (x1 : Int32) (x2 : Int32) (x3 : Int32)  (rec : Int32 → St → Option ((Unit) × St)) (x4 : Int32) (S : St) : Option ((Unit) × St) :=
  (if (nI (2 ^ n)) ≤ x4 then some ((), S) else gd (inb (x4 &&& x2) 64) (gd (inb (((64 : Int32) * x1) + x4) 384) (gd (inb (x4 &&& x2) 64) (rec (x4 + 1) (sJ S 41 (Int32.toNatClampNeg (x4 &&& x2)) ((S.2 41 (Int32.toNatClampNeg (x4 &&& x2))) + (S.2 40 (Int32.toNatClampNeg (((64 : Int32) * x1) + x4)))))))))
def lX5_part_1 (n : Nat) (x1 : Int32) (x2 : Int32) (x3 : Int32)  : Nat → Int32 → St → Option ((Unit) × St)
  | 0, _, _ => none
  | k + 1, x4, S => bX5_part_1 n x1 x2 x3 (lX5_part_1 n x1 x2 x3 k) x4 S
def fX5_part (n : Nat) (p0 : Int32) (p1 : Int32) (p2 : Int32) (S : St) : Option (Bool × St) :=
  bo (fX5_canBe n p0 p1 p2 S) (fun r1 => (bif r1 then bw (fX5_clear n S) (fun r3 S5 => bw (lX5_part_1 n p0 p1 p2 FU (0 : Int32) S5) (fun q7 S9 => bw (fX5_makes n p2 S9) (fun r10 S12 => some (r10, S12)))) else some (false, S)))
-- X5_other: other(III)Z, kind W
def bX5_other_1 (n : Nat) (x1 : Int32) (x2 : Int32) (x3 : Int32)  (rec : Int32 → St → Option ((Unit) × St)) (x4 : Int32) (S : St) : Option ((Unit) × St) :=
  (if (nI (2 ^ n)) ≤ x4 then some ((), S) else gd (inb (((64 : Int32) * x1) + x4) 384) (gd (inb (x4 ^^^ x2) 64) (rec (x4 + 1) (sJ S 41 (Int32.toNatClampNeg (x4 ^^^ x2)) (S.2 40 (Int32.toNatClampNeg (((64 : Int32) * x1) + x4)))))))
def lX5_other_1 (n : Nat) (x1 : Int32) (x2 : Int32) (x3 : Int32)  : Nat → Int32 → St → Option ((Unit) × St)
  | 0, _, _ => none
  | k + 1, x4, S => bX5_other_1 n x1 x2 x3 (lX5_other_1 n x1 x2 x3 k) x4 S
def fX5_other (n : Nat) (p0 : Int32) (p1 : Int32) (p2 : Int32) (S : St) : Option (Bool × St) :=
  bo (fX5_canBe n p0 p1 p2 S) (fun r1 => (bif r1 then bw (fX5_clear n S) (fun r3 S5 => bw (lX5_other_1 n p0 p1 p2 FU (0 : Int32) S5) (fun q7 S9 => bw (fX5_makes n p2 S9) (fun r10 S12 => some (r10, S12)))) else some (false, S)))
-- X5_sum: sum(I)J, kind R
def bX5_sum_1 (n : Nat) (x1 : Int32) (S : St) (rec : Int64 → Int32 → Option (Int64)) (x2 : Int64) (x4 : Int32) : Option (Int64) :=
  (if (nI (2 ^ n)) ≤ x4 then some x2 else gd (inb (((64 : Int32) * x1) + x4) 384) (rec (x2 + (S.2 40 (Int32.toNatClampNeg (((64 : Int32) * x1) + x4)))) (x4 + 1)))
def lX5_sum_1 (n : Nat) (x1 : Int32) (S : St) : Nat → Int64 → Int32 → Option (Int64)
  | 0, _, _ => none
  | k + 1, x2, x4 => bX5_sum_1 n x1 S (lX5_sum_1 n x1 S k) x2 x4
def fX5_sum (n : Nat) (p0 : Int32) (S : St) : Option Int64 :=
  bo (lX5_sum_1 n p0 S FU (0 : Int64) (0 : Int32)) (fun q2 => some q2)
-- X5_mix: mix(IIIII)Z, kind W
def bX5_mix_1 (n : Nat) (x1 : Int32) (x2 : Int32) (x3 : Int32) (x4 : Int32) (x5 : Int32)  (rec : Int32 → St → Option ((Unit) × St)) (x6 : Int32) (S : St) : Option ((Unit) × St) :=
  (if (nI (2 ^ n)) ≤ x6 then some ((), S) else gd (inb (((64 : Int32) * x1) + x6) 384) (bo (fX5_sum n x2 S) (fun r14 => gd (inb (((64 : Int32) * x2) + x6) 384) (bo (fX5_sum n x1 S) (fun r16 => gd (inb x6 64) (rec (x6 + 1) (sJ S 41 (Int32.toNatClampNeg x6) ((((S.2 40 (Int32.toNatClampNeg (((64 : Int32) * x1) + x6))) * (Int32.toInt64 x3)) * r14) + (((S.2 40 (Int32.toNatClampNeg (((64 : Int32) * x2) + x6))) * (Int32.toInt64 x4)) * r16)))))))))
def lX5_mix_1 (n : Nat) (x1 : Int32) (x2 : Int32) (x3 : Int32) (x4 : Int32) (x5 : Int32)  : Nat → Int32 → St → Option ((Unit) × St)
  | 0, _, _ => none
  | k + 1, x6, S => bX5_mix_1 n x1 x2 x3 x4 x5 (lX5_mix_1 n x1 x2 x3 x4 x5 k) x6 S
def fX5_mix (n : Nat) (p0 : Int32) (p1 : Int32) (p2 : Int32) (p3 : Int32) (p4 : Int32) (S : St) : Option (Bool × St) :=
  bo (fX5_isLaw n p0 S) (fun r1 => (bif r1 then bo (fX5_isLaw n p1 S) (fun r3 => (bif r3 then bo (fX5_in p2 (1 : Int32) (9 : Int32)) (fun r5 => (bif r5 then bo (fX5_in p3 (1 : Int32) (9 : Int32)) (fun r7 => (bif r7 then bo (fX5_isPlace p4) (fun r9 => (bif r9 then bw (fX5_clear n S) (fun r11 S13 => bw (lX5_mix_1 n p0 p1 p2 p3 p4 FU (0 : Int32) S13) (fun q19 S21 => bw (fX5_makes n p4 S21) (fun r22 S24 => some (r22, S24)))) else some (false, S))) else some (false, S))) else some (false, S))) else some (false, S))) else some (false, S)))
-- X5_share: share(II)J, kind R
def fX5_share (n : Nat) (p0 : Int32) (p1 : Int32) (S : St) : Option Int64 :=
  bo (fX5_isLaw n p0 S) (fun r1 => (bif r1 then bo (fX5_isSet n p1 S) (fun r3 => (bif r3 then gd (inb (((64 : Int32) * p0) + p1) 384) (some (S.2 40 (Int32.toNatClampNeg (((64 : Int32) * p0) + p1)))) else some (-1 : Int64))) else some (-1 : Int64)))
-- X5_fraction: fraction(JJI)J, kind O
def fX5_fraction (p0 : Int64) (p1 : Int64) (p2 : Int32) : Option Int64 :=
  (if 0 ≤ (lg_cmp p0 (0 : Int64)) then bo (fX5_common p1 p0) (fun r1 => (if p2 = 0 then gd (!(decide (r1 = 0))) (some (p0 / r1)) else gd (!(decide (r1 = 0))) (some (p1 / r1)))) else bo (fX5_common p1 (-p0)) (fun r4 => (if p2 = 0 then gd (!(decide (r4 = 0))) (some (p0 / r4)) else gd (!(decide (r4 = 0))) (some (p1 / r4)))))
-- X5_isWhat: isWhat(I)Z, kind O
def fX5_isWhat (p0 : Int32) : Option Bool :=
  bo (fX5_in p0 (0 : Int32) (1 : Int32)) (fun r1 => some r1)
-- X5_chance: chance(III)J, kind R
def fX5_chance (n : Nat) (p0 : Int32) (p1 : Int32) (p2 : Int32) (S : St) : Option Int64 :=
  bo (fX5_isLaw n p0 S) (fun r1 => (bif r1 then bo (fX5_isSet n p1 S) (fun r3 => (bif r3 then bo (fX5_isWhat p2) (fun r5 => (bif r5 then gd (inb (((64 : Int32) * p0) + p1) 384) (bo (fX5_sum n p0 S) (fun r7 => bo (fX5_fraction (S.2 40 (Int32.toNatClampNeg (((64 : Int32) * p0) + p1))) r7 p2) (fun r9 => some r9))) else some (-1 : Int64))) else some (-1 : Int64))) else some (-1 : Int64)))
-- X5_sumOf: sumOf(III)J, kind R
def bX5_sumOf_1 (n : Nat) (x1 : Int32) (x2 : Int32) (x3 : Int32) (S : St) (rec : Int64 → Int32 → Option (Int64)) (x4 : Int64) (x6 : Int32) : Option (Int64) :=
  (if (nI (2 ^ n)) ≤ x6 then some x4 else (if (x6 &&& x2) = x2 then (if (x6 &&& x3) = 0 then gd (inb (((64 : Int32) * x1) + x6) 384) (rec (x4 + (S.2 40 (Int32.toNatClampNeg (((64 : Int32) * x1) + x6)))) (x6 + 1)) else rec x4 (x6 + 1)) else rec x4 (x6 + 1)))
def lX5_sumOf_1 (n : Nat) (x1 : Int32) (x2 : Int32) (x3 : Int32) (S : St) : Nat → Int64 → Int32 → Option (Int64)
  | 0, _, _ => none
  | k + 1, x4, x6 => bX5_sumOf_1 n x1 x2 x3 S (lX5_sumOf_1 n x1 x2 x3 S k) x4 x6
def fX5_sumOf (n : Nat) (p0 : Int32) (p1 : Int32) (p2 : Int32) (S : St) : Option Int64 :=
  bo (lX5_sumOf_1 n p0 p1 p2 S FU (0 : Int64) (0 : Int32)) (fun q4 => some q4)
-- X5_within: within(III)J, kind R
def fX5_within (n : Nat) (p0 : Int32) (p1 : Int32) (p2 : Int32) (S : St) : Option Int64 :=
  bo (fX5_isLaw n p0 S) (fun r1 => (bif r1 then bo (fX5_isSet n p1 S) (fun r3 => (bif r3 then bo (fX5_isWhat p2) (fun r5 => (bif r5 then bo (fX5_sumOf n p0 p1 (0 : Int32) S) (fun r7 => bo (fX5_sum n p0 S) (fun r9 => bo (fX5_fraction r7 r9 p2) (fun r11 => some r11))) else some (-1 : Int64))) else some (-1 : Int64))) else some (-1 : Int64)))
-- X5_out: out(III)J, kind R
def fX5_out (n : Nat) (p0 : Int32) (p1 : Int32) (p2 : Int32) (S : St) : Option Int64 :=
  bo (fX5_isLaw n p0 S) (fun r1 => (bif r1 then bo (fX5_isSet n p1 S) (fun r3 => (bif r3 then bo (fX5_isWhat p2) (fun r5 => (bif r5 then bo (fX5_sumOf n p0 (0 : Int32) p1 S) (fun r7 => bo (fX5_sum n p0 S) (fun r9 => bo (fX5_fraction r7 r9 p2) (fun r11 => some r11))) else some (-1 : Int64))) else some (-1 : Int64))) else some (-1 : Int64)))
-- X5_ofSize: ofSize(II)J, kind R
def bX5_ofSize_1 (n : Nat) (x1 : Int32) (x2 : Int32) (S : St) (rec : Int64 → Int32 → Option (Int64)) (x3 : Int64) (x5 : Int32) : Option (Int64) :=
  (if (nI (2 ^ n)) ≤ x5 then some x3 else bo (fX5_sizeOf x5) (fun r1 => (if r1 = x2 then gd (inb (((64 : Int32) * x1) + x5) 384) (rec (x3 + (S.2 40 (Int32.toNatClampNeg (((64 : Int32) * x1) + x5)))) (x5 + 1)) else rec x3 (x5 + 1))))
def lX5_ofSize_1 (n : Nat) (x1 : Int32) (x2 : Int32) (S : St) : Nat → Int64 → Int32 → Option (Int64)
  | 0, _, _ => none
  | k + 1, x3, x5 => bX5_ofSize_1 n x1 x2 S (lX5_ofSize_1 n x1 x2 S k) x3 x5
def fX5_ofSize (n : Nat) (p0 : Int32) (p1 : Int32) (S : St) : Option Int64 :=
  bo (lX5_ofSize_1 n p0 p1 S FU (0 : Int64) (0 : Int32)) (fun q5 => some q5)
-- X5_size: size(III)J, kind R
def fX5_size (n : Nat) (p0 : Int32) (p1 : Int32) (p2 : Int32) (S : St) : Option Int64 :=
  bo (fX5_isLaw n p0 S) (fun r1 => (bif r1 then bo (fX5_in p1 (0 : Int32) (nI n)) (fun r3 => (bif r3 then bo (fX5_isWhat p2) (fun r5 => (bif r5 then bo (fX5_ofSize n p0 p1 S) (fun r7 => bo (fX5_sum n p0 S) (fun r9 => bo (fX5_fraction r7 r9 p2) (fun r11 => some r11))) else some (-1 : Int64))) else some (-1 : Int64))) else some (-1 : Int64)))
-- X5_mean: mean(II)J, kind R
def bX5_mean_1 (n : Nat) (x1 : Int32) (x2 : Int32) (S : St) (rec : Int64 → Int32 → Option (Int64)) (x3 : Int64) (x5 : Int32) : Option (Int64) :=
  (if (nI n) < x5 then some x3 else bo (fX5_ofSize n x1 x5 S) (fun r5 => rec (x3 + ((Int32.toInt64 x5) * r5)) (x5 + 1)))
def lX5_mean_1 (n : Nat) (x1 : Int32) (x2 : Int32) (S : St) : Nat → Int64 → Int32 → Option (Int64)
  | 0, _, _ => none
  | k + 1, x3, x5 => bX5_mean_1 n x1 x2 S (lX5_mean_1 n x1 x2 S k) x3 x5
def fX5_mean (n : Nat) (p0 : Int32) (p1 : Int32) (S : St) : Option Int64 :=
  bo (fX5_isLaw n p0 S) (fun r1 => (bif r1 then bo (fX5_isWhat p1) (fun r3 => (bif r3 then bo (lX5_mean_1 n p0 p1 S FU (0 : Int64) (0 : Int32)) (fun q8 => bo (fX5_sum n p0 S) (fun r10 => bo (fX5_fraction q8 r10 p1) (fun r12 => some r12))) else some (-1 : Int64))) else some (-1 : Int64)))
-- X5_spread: spread(II)J, kind R
def bX5_spread_1 (n : Nat) (x1 : Int32) (x2 : Int32) (S : St) (rec : Int64 → Int64 → Int32 → Option (Int64 × Int64)) (x3 : Int64) (x5 : Int64) (x7 : Int32) : Option (Int64 × Int64) :=
  (if (nI n) < x7 then some (x3, x5) else bo (fX5_ofSize n x1 x7 S) (fun r5 => bo (fX5_ofSize n x1 x7 S) (fun r7 => rec (x3 + ((Int32.toInt64 x7) * r5)) (x5 + ((Int32.toInt64 (x7 * x7)) * r7)) (x7 + 1))))
def lX5_spread_1 (n : Nat) (x1 : Int32) (x2 : Int32) (S : St) : Nat → Int64 → Int64 → Int32 → Option (Int64 × Int64)
  | 0, _, _, _ => none
  | k + 1, x3, x5, x7 => bX5_spread_1 n x1 x2 S (lX5_spread_1 n x1 x2 S k) x3 x5 x7
def fX5_spread (n : Nat) (p0 : Int32) (p1 : Int32) (S : St) : Option Int64 :=
  bo (fX5_isLaw n p0 S) (fun r1 => (bif r1 then bo (fX5_isWhat p1) (fun r3 => (bif r3 then bo (lX5_spread_1 n p0 p1 S FU (0 : Int64) (0 : Int64) (0 : Int32)) (fun q10 => bo (fX5_sum n p0 S) (fun r12 => bo (fX5_fraction (((q10.2) * r12) - ((q10.1) * (q10.1))) (r12 * r12) p1) (fun r14 => some r14))) else some (-1 : Int64))) else some (-1 : Int64)))
-- X5_shunning: shunning(III)J, kind R
def fX5_shunning (n : Nat) (p0 : Int32) (p1 : Int32) (p2 : Int32) (S : St) : Option Int64 :=
  bo (fX5_sumOf n p0 ((1 : Int32) <<< (p1 &&& 31)) (0 : Int32) S) (fun r1 => bo (fX5_sumOf n p0 ((1 : Int32) <<< (p2 &&& 31)) (0 : Int32) S) (fun r3 => bo (fX5_sumOf n p0 (((1 : Int32) <<< (p1 &&& 31)) ||| ((1 : Int32) <<< (p2 &&& 31))) (0 : Int32) S) (fun r5 => bo (fX5_sum n p0 S) (fun r7 => some ((r1 * r3) - (r5 * r7))))))
-- X5_both: both(IIII)J, kind R
def fX5_both (n : Nat) (p0 : Int32) (p1 : Int32) (p2 : Int32) (p3 : Int32) (S : St) : Option Int64 :=
  bo (fX5_isLaw n p0 S) (fun r1 => (bif r1 then bo (fX5_isThing n p1 S) (fun r3 => (bif r3 then bo (fX5_isThing n p2 S) (fun r5 => (bif r5 then (if p1 = p2 then some (0 : Int64) else bo (fX5_isWhat p3) (fun r7 => (bif r7 then bo (fX5_sum n p0 S) (fun r9 => bo (fX5_shunning n p0 p1 p2 S) (fun r11 => bo (fX5_fraction r11 (r9 * r9) p3) (fun r13 => some r13))) else some (0 : Int64)))) else some (0 : Int64))) else some (0 : Int64))) else some (0 : Int64)))
-- X5_shuns: shuns(I)I, kind R
def bX5_shuns_2 (n : Nat) (x1 : Int32) (x2 : Int32) (S : St) (rec : Int32 → Option ((Unit) ⊕ Int32)) (x3 : Int32) : Option ((Unit) ⊕ Int32) :=
  (if x2 ≤ x3 then some (.inl ()) else bo (fX5_shunning n x1 x2 x3 S) (fun r3 => (if 0 ≤ (lg_cmp r3 (0 : Int64)) then rec (x3 + 1) else some (.inr (0 : Int32)))))
def lX5_shuns_2 (n : Nat) (x1 : Int32) (x2 : Int32) (S : St) : Nat → Int32 → Option ((Unit) ⊕ Int32)
  | 0, _ => none
  | k + 1, x3 => bX5_shuns_2 n x1 x2 S (lX5_shuns_2 n x1 x2 S k) x3
def bX5_shuns_1 (n : Nat) (x1 : Int32) (S : St) (rec : Int32 → Option ((Unit) ⊕ Int32)) (x2 : Int32) : Option ((Unit) ⊕ Int32) :=
  (if (nI n) ≤ x2 then some (.inl ()) else bs (lX5_shuns_2 n x1 x2 S FU (0 : Int32)) (fun q7 => rec (x2 + 1)) (fun r9 => some (.inr r9)))
def lX5_shuns_1 (n : Nat) (x1 : Int32) (S : St) : Nat → Int32 → Option ((Unit) ⊕ Int32)
  | 0, _ => none
  | k + 1, x2 => bX5_shuns_1 n x1 S (lX5_shuns_1 n x1 S k) x2
def fX5_shuns (n : Nat) (p0 : Int32) (S : St) : Option Int32 :=
  bo (fX5_isLaw n p0 S) (fun r1 => (bif r1 then bs (lX5_shuns_1 n p0 S FU (0 : Int32)) (fun q10 => some (1 : Int32)) (fun r9 => some r9) else some (-1 : Int32)))
-- X5_rises: rises(I)I, kind R
def bX5_rises_1 (n : Nat) (x1 : Int32) (S : St) (rec : Int32 → Option (Int32)) (x2 : Int32) : Option (Int32) :=
  (if (nI n) ≤ x2 then some x2 else bo (fX5_ofSize n x1 x2 S) (fun r3 => bo (fX5_ofSize n x1 (x2 + (1 : Int32)) S) (fun r5 => (if 0 < (lg_cmp r3 r5) then some x2 else rec (x2 + 1)))))
def lX5_rises_1 (n : Nat) (x1 : Int32) (S : St) : Nat → Int32 → Option (Int32)
  | 0, _ => none
  | k + 1, x2 => bX5_rises_1 n x1 S (lX5_rises_1 n x1 S k) x2
def bX5_rises_2 (n : Nat) (x1 : Int32) (S : St) (rec : Int32 → Option (Int32)) (x2 : Int32) : Option (Int32) :=
  (if (nI n) ≤ x2 then some x2 else bo (fX5_ofSize n x1 x2 S) (fun r11 => bo (fX5_ofSize n x1 (x2 + (1 : Int32)) S) (fun r13 => (if (lg_cmp r11 r13) < 0 then some x2 else rec (x2 + 1)))))
def lX5_rises_2 (n : Nat) (x1 : Int32) (S : St) : Nat → Int32 → Option (Int32)
  | 0, _ => none
  | k + 1, x2 => bX5_rises_2 n x1 S (lX5_rises_2 n x1 S k) x2
def fX5_rises (n : Nat) (p0 : Int32) (S : St) : Option Int32 :=
  bo (fX5_isLaw n p0 S) (fun r1 => (bif r1 then bo (lX5_rises_1 n p0 S FU (0 : Int32)) (fun q9 => bo (lX5_rises_2 n p0 S FU q9) (fun q17 => (if q17 = (nI n) then some (1 : Int32) else some (0 : Int32)))) else some (-1 : Int32)))
-- X5_greatest: greatest(I)I, kind R
def bX5_greatest_1 (n : Nat) (x1 : Int32) (S : St) (rec : Int32 → Int32 → Option (Int32)) (x2 : Int32) (x3 : Int32) : Option (Int32) :=
  (if (nI (2 ^ n)) ≤ x3 then some x2 else gd (inb (((64 : Int32) * x1) + x3) 384) (gd (inb (((64 : Int32) * x1) + x2) 384) ((if (lg_cmp (S.2 40 (Int32.toNatClampNeg (((64 : Int32) * x1) + x3))) (S.2 40 (Int32.toNatClampNeg (((64 : Int32) * x1) + x2)))) ≤ 0 then rec x2 (x3 + 1) else rec x3 (x3 + 1)))))
def lX5_greatest_1 (n : Nat) (x1 : Int32) (S : St) : Nat → Int32 → Int32 → Option (Int32)
  | 0, _, _ => none
  | k + 1, x2, x3 => bX5_greatest_1 n x1 S (lX5_greatest_1 n x1 S k) x2 x3
def fX5_greatest (n : Nat) (p0 : Int32) (S : St) : Option Int32 :=
  bo (fX5_isLaw n p0 S) (fun r1 => (bif r1 then bo (lX5_greatest_1 n p0 S FU (0 : Int32) (1 : Int32)) (fun q5 => some q5) else some (-1 : Int32)))
-- X5_greedy: greedy(II)I, kind R
def bX5_greedy_2 (n : Nat) (x1 : Int32) (x2 : Int32) (x3 : Int32) (x4 : Int32) (S : St) (rec : Int32 → Int32 → Option (Int32)) (x5 : Int32) (x6 : Int32) : Option (Int32) :=
  (if (nI n) ≤ x6 then some x5 else (if ((x3 >>> (x6 &&& 31)) &&& (1 : Int32)) = (1 : Int32) then rec x5 (x6 + 1) else (if x5 < 0 then rec x6 (x6 + 1) else gd (inb (((64 : Int32) * x1) + (x3 ||| ((1 : Int32) <<< (x6 &&& 31)))) 384) (gd (inb (((64 : Int32) * x1) + (x3 ||| ((1 : Int32) <<< (x5 &&& 31)))) 384) ((if (lg_cmp (S.2 40 (Int32.toNatClampNeg (((64 : Int32) * x1) + (x3 ||| ((1 : Int32) <<< (x6 &&& 31)))))) (S.2 40 (Int32.toNatClampNeg (((64 : Int32) * x1) + (x3 ||| ((1 : Int32) <<< (x5 &&& 31))))))) ≤ 0 then rec x5 (x6 + 1) else rec x6 (x6 + 1)))))))
def lX5_greedy_2 (n : Nat) (x1 : Int32) (x2 : Int32) (x3 : Int32) (x4 : Int32) (S : St) : Nat → Int32 → Int32 → Option (Int32)
  | 0, _, _ => none
  | k + 1, x5, x6 => bX5_greedy_2 n x1 x2 x3 x4 S (lX5_greedy_2 n x1 x2 x3 x4 S k) x5 x6
def bX5_greedy_1 (n : Nat) (x1 : Int32) (x2 : Int32) (S : St) (rec : Int32 → Int32 → Option (Int32)) (x3 : Int32) (x4 : Int32) : Option (Int32) :=
  (if x2 ≤ x4 then some x3 else bo (lX5_greedy_2 n x1 x2 x3 x4 S FU (-1 : Int32) (0 : Int32)) (fun q9 => rec (x3 ||| ((1 : Int32) <<< (q9 &&& 31))) (x4 + 1)))
def lX5_greedy_1 (n : Nat) (x1 : Int32) (x2 : Int32) (S : St) : Nat → Int32 → Int32 → Option (Int32)
  | 0, _, _ => none
  | k + 1, x3, x4 => bX5_greedy_1 n x1 x2 S (lX5_greedy_1 n x1 x2 S k) x3 x4
def fX5_greedy (n : Nat) (p0 : Int32) (p1 : Int32) (S : St) : Option Int32 :=
  bo (fX5_isLaw n p0 S) (fun r1 => (bif r1 then bo (fX5_in p1 (0 : Int32) (nI n)) (fun r3 => (bif r3 then bo (lX5_greedy_1 n p0 p1 S FU (0 : Int32) (0 : Int32)) (fun q12 => some q12) else some (-1 : Int32))) else some (-1 : Int32)))
-- X5_same: same(II)I, kind R
def bX5_same_1 (n : Nat) (x1 : Int32) (x2 : Int32) (S : St) (rec : Int32 → Option ((Unit) ⊕ Int32)) (x3 : Int32) : Option ((Unit) ⊕ Int32) :=
  (if (nI (2 ^ n)) ≤ x3 then some (.inl ()) else gd (inb (((64 : Int32) * x1) + x3) 384) (gd (inb (((64 : Int32) * x2) + x3) 384) ((if (lg_cmp (S.2 40 (Int32.toNatClampNeg (((64 : Int32) * x1) + x3))) (S.2 40 (Int32.toNatClampNeg (((64 : Int32) * x2) + x3)))) = 0 then rec (x3 + 1) else some (.inr (0 : Int32))))))
def lX5_same_1 (n : Nat) (x1 : Int32) (x2 : Int32) (S : St) : Nat → Int32 → Option ((Unit) ⊕ Int32)
  | 0, _ => none
  | k + 1, x3 => bX5_same_1 n x1 x2 S (lX5_same_1 n x1 x2 S k) x3
def fX5_same (n : Nat) (p0 : Int32) (p1 : Int32) (S : St) : Option Int32 :=
  bo (fX5_isLaw n p0 S) (fun r1 => (bif r1 then bo (fX5_isLaw n p1 S) (fun r3 => (bif r3 then bs (lX5_same_1 n p0 p1 S FU (0 : Int32)) (fun q7 => some (1 : Int32)) (fun r9 => some r9) else some (-1 : Int32))) else some (-1 : Int32)))
-- X5_draw: draw(IJ)I, kind R
def bX5_draw_1 (n : Nat) (x1 : Int32) (S : St) (rec : Int32 → Int32 → Int64 → Int32 → Option (Int32)) (x4 : Int32) (x5 : Int32) (x6 : Int64) (x8 : Int32) : Option (Int32) :=
  (if (nI n) ≤ x8 then some x4 else bo (fX5_sumOf n x1 x4 x5 S) (fun r3 => bo (fX5_sumOf n x1 (x4 ||| ((1 : Int32) <<< (x8 &&& 31))) x5 S) (fun r5 => gd (!(decide (r3 = 0))) ((if 0 ≤ (lg_cmp ((UInt64.toInt64 (Int64.toUInt64 ((x6 * (6364136223846793005 : Int64)) + (1442695040888963407 : Int64)) >>> (Int64.toUInt64 (Int32.toInt64 (33 : Int32)) &&& Int64.toUInt64 63))) - (UInt64.toInt64 (Int64.toUInt64 ((x6 * (6364136223846793005 : Int64)) + (1442695040888963407 : Int64)) >>> (Int64.toUInt64 (Int32.toInt64 (33 : Int32)) &&& Int64.toUInt64 63))) / r3 * r3) r5) then rec x4 (x5 ||| ((1 : Int32) <<< (x8 &&& 31))) ((x6 * (6364136223846793005 : Int64)) + (1442695040888963407 : Int64)) (x8 + 1) else rec (x4 ||| ((1 : Int32) <<< (x8 &&& 31))) x5 ((x6 * (6364136223846793005 : Int64)) + (1442695040888963407 : Int64)) (x8 + 1))))))
def lX5_draw_1 (n : Nat) (x1 : Int32) (S : St) : Nat → Int32 → Int32 → Int64 → Int32 → Option (Int32)
  | 0, _, _, _, _ => none
  | k + 1, x4, x5, x6, x8 => bX5_draw_1 n x1 S (lX5_draw_1 n x1 S k) x4 x5 x6 x8
def fX5_draw (n : Nat) (p0 : Int32) (p1 : Int64) (S : St) : Option Int32 :=
  bo (fX5_isLaw n p0 S) (fun r1 => (bif r1 then bo (lX5_draw_1 n p0 S FU (0 : Int32) (0 : Int32) p1 (0 : Int32)) (fun q9 => some q9) else some (-1 : Int32)))
