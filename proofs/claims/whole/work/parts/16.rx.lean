/-! THE RELATION: the class's objects in the picture stand for the reference's state s.
y k j: addresses by kind: 0 the fixed ones (0 the object, 1 world, 2 host, 3 wires, 4 seals, 5 came, 6 goes, 7, 8 their fields, 9 the stranger's row, 10 waiting, 11 seals' row, 12 cards, 13 terminals, 14 purchases, 15 answers, 16 made, 17 accounts, 18 debits),
1 messages, 2 their bytes, 3 cards, 4 what they were asked, 5 terminals, 6 their payments, 7 their batches, 8 the batches' rows, 9 accounts, 10 seals, 11 their rows, 12 purchases, 13 answers, 14 debits, 15 the lists' rows, 16 payments in a batch (by the reference's number).
n: how many: 0 cards, 1 terminals, 2 messages, 3 debits, 4 seals, 5 purchases, 6 answers, 7 batched, 8 the stranger's bytes, 9 message objects. cp: the rooms of the lists (12 .. 18; 20 + t the batch of terminal t). -/
def lyv (n cp : Nat → Nat) (k j : Nat) : Prop :=
  (k = 0 ∧ j ≤ 18) ∨ ((k = 1 ∨ k = 2) ∧ j < n 9) ∨ ((k = 3 ∨ k = 9) ∧ j < n 0) ∨ ((k = 5 ∨ k = 7) ∧ j < n 1) ∨ ((k = 10 ∨ k = 11) ∧ j < n 4) ∨ (k = 15 ∧ 12 ≤ j ∧ j ≤ 18 ∧ cp j ≠ 0) ∨ (k = 8 ∧ j < n 1 ∧ cp (20 + j) ≠ 0)
/-- the addresses are the class's own, and apart; whatever isn't in the picture may become its own -/
def RXa (A : Nat → Prop) (h : Hp) (y : Nat → Nat → Nat) (n cp : Nat → Nat) : Prop :=
  (∀ a, a ∉ h.1 → A a) ∧ (∀ k j, lyv n cp k j → A (y k j)) ∧ (∀ k j k' j', lyv n cp k j → lyv n cp k' j' → y k j = y k' j' → k = k' ∧ j = j') ∧
  (∀ j, j < n 0 → A (y 4 j)) ∧ (∀ j, j < n 1 → A (y 6 j)) ∧ (∀ j, j < n 5 → A (y 12 j)) ∧ (∀ j, j < n 6 → A (y 13 j)) ∧ (∀ j, j < n 3 → A (y 14 j)) ∧ ∀ j, j < n 7 → A (y 16 j)
def RXn (s : MS) (n cp : Nat → Nat) : Prop :=
  (s.1 21 = nI (n 0) ∧ n 0 ≤ 16) ∧ (s.1 36 = nI (n 1) ∧ n 1 ≤ 8) ∧ (s.1 6 = nI (n 2) ∧ n 2 ≤ n 9 ∧ n 9 ≤ 60) ∧ s.1 61 = nI (n 3) ∧ s.1 0 = nI (n 4) ∧ s.1 57 = nI (n 5) ∧ s.1 59 = nI (n 6) ∧ s.1 53 = nI (n 7) ∧ (s.1 20 = nI (n 8) ∧ n 8 ≤ 64) ∧
  (n 3 ≤ 512 ∧ n 4 ≤ 2048 ∧ n 5 ≤ 512 ∧ n 6 ≤ 512 ∧ n 7 ≤ 512) ∧ ∀ j, cp j ≤ 8192
/-- the fixed objects -/
def RXf (E : Ev) (h : Hp) (y : Nat → Nat → Nat) (s : MS) (n : Nat → Nat) : Prop :=
  xh_at h (y 0 0) (.inr (12, [.ref (y 0 1), .ref (y 0 2), .ref (y 0 9), .int (nI (n 8))])) ∧
  xh_at h (y 0 1) (.inr (11, [.ref (y 0 3), .ref (y 0 4), .ref (y 0 12), .ref (y 0 13), .ref (y 0 14), .ref (y 0 15), .ref (y 0 5), .ref (y 0 6)])) ∧
  xh_at h (y 0 2) (.inr (4, [.ref (y 0 1), .ref (y 0 17), .ref (y 0 18)])) ∧
  xh_at h (y 0 3) (.inr (10, [.ref (y 0 10), .int (nI (n 2))])) ∧
  (∃ fw, xh_at h (y 0 10) (.inl (E.1 3, 60, .inr (.inr (.inr (.inr fw))))) ∧ ∀ k, k < 60 → fw k = if k < n 9 then some (y 1 k) else none) ∧
  (∃ sz so nu, xh_at h (y 0 4) (.inr (8, [.ref (y 0 16), .ref (y 0 11), .int sz, .int so, .int nu]))) ∧
  (∃ f, xh_at h (y 0 11) (.inl (E.1 1, 8, .inr (.inl f)))) ∧
  (∃ a b c, xh_at h (y 0 5) (.inr (3, [.int a, .int b, .int c, .ref (y 0 7)]))) ∧
  (∃ a b c, xh_at h (y 0 6) (.inr (3, [.int a, .int b, .int c, .ref (y 0 8)]))) ∧
  (∃ f, xh_at h (y 0 7) (.inl (E.1 1, 12, .inr (.inl f)))) ∧
  (∃ f, xh_at h (y 0 8) (.inl (E.1 1, 12, .inr (.inl f)))) ∧
  (∃ f, xh_at h (y 0 9) (.inl (E.1 0, 64, .inl f)) ∧ ∀ k, k < n 8 → f k = s.2.2.1 19 k)
/-- what terminal t has in its batch: the reference's numbers -/
def bl (s : MS) (nb t : Nat) : List Nat := (List.range nb).filter (fun b => decide (s.2.2.1 54 b = nI t ∧ s.2.2.1 55 b = 0))
def RXl (E : Ev) (h : Hp) (y : Nat → Nat → Nat) (s : MS) (n cp : Nat → Nat) : Prop :=
  AL E h (y 0 12) (y 15 12) (n 0) (cp 12) (y 3) ∧ AL E h (y 0 13) (y 15 13) (n 1) (cp 13) (y 5) ∧ AL E h (y 0 14) (y 15 14) (n 5) (cp 14) (y 12) ∧ AL E h (y 0 15) (y 15 15) (n 6) (cp 15) (y 13) ∧ AL E h (y 0 16) (y 15 16) (n 4) (cp 16) (y 10) ∧ AL E h (y 0 17) (y 15 17) (n 0) (cp 17) (y 9) ∧ AL E h (y 0 18) (y 15 18) (n 3) (cp 18) (y 14) ∧
  (∀ t, t < n 1 → AL E h (y 7 t) (y 8 t) (bl s (n 7) t).length (cp (20 + t)) (fun j => y 16 ((bl s (n 7) t).getD j 0))) ∧ ∀ t, n 1 ≤ t → cp (20 + t) = 0
/-- a payment -/
def PAY (h : Hp) (p : Nat) (c k : Int32) (am un : Int64) (t w a : Int32) (sl : Int64) : Prop := xh_at h p (.inr (6, [.int c, .int k, .long am, .long un, .int t, .int w, .int a, .long sl]))
def RXm (E : Ev) (h : Hp) (y : Nat → Nat → Nat) (s : MS) (n : Nat → Nat) : Prop :=
  ∀ j, j < n 9 → ∃ a b c d sz f, xh_at h (y 1 j) (.inr (5, [.int a, .int b, .int c, .int d, .int sz, .ref (y 2 j)])) ∧ xh_at h (y 2 j) (.inl (E.1 0, 64, .inl f)) ∧ (j < n 2 → a = s.2.2.1 7 j ∧ b = s.2.2.1 8 j ∧ c = s.2.2.1 9 j ∧ d = s.2.2.1 10 j ∧ sz = s.2.2.1 11 j ∧ ∀ i, i < sz.toNatClampNeg → f i = s.2.2.1 12 (64 * j + i))
def RXc (h : Hp) (y : Nat → Nat → Nat) (s : MS) (n : Nat → Nat) : Prop :=
  ∀ j, j < n 0 → xh_at h (y 3 j) (.inr (2, [.ref (y 0 1), .int (nI j), .int (s.2.2.1 22 j), .long (s.2.2.2 23 j), .int (s.2.2.1 24 j), .int (s.2.2.1 27 j), .int (s.2.2.1 28 j), .int (s.2.2.1 29 j), .int (s.2.2.1 30 j), .int (s.2.2.1 35 j), .int (s.2.2.1 31 j), .ref (y 4 j)])) ∧
    (∃ c k am un t w a sl, PAY h (y 4 j) c k am un t w a sl ∧ (s.2.2.1 30 j = 2 → c = nI j ∧ k = s.2.2.1 27 j ∧ am = s.2.2.2 32 j ∧ un = s.2.2.2 33 j ∧ t.toInt64 = s.2.2.2 34 j)) ∧
    xh_at h (y 9 j) (.inr (1, [.long (s.2.2.2 25 j), .int (s.2.2.1 26 j)]))
def RXt (h : Hp) (y : Nat → Nat → Nat) (s : MS) (n : Nat → Nat) : Prop :=
  ∀ j, j < n 1 → ∃ wd, xh_at h (y 5 j) (.inr (9, [.ref (y 0 1), .int (nI j), .long (s.2.2.2 37 j), .long (s.2.2.2 38 j), .ref (y 7 j), .int (s.2.2.1 40 j), .long (s.2.2.2 39 j), .int (s.2.2.1 43 j), .int (s.2.2.1 46 j), .ref (y 6 j), .int (s.2.2.1 48 j), .int (s.2.2.1 51 j), .int (s.2.2.1 41 j), .int wd])) ∧
    (¬ s.2.2.1 41 j = 0 → wd.toInt64 = s.2.1 - s.2.2.2 42 j ∧ 0 ≤ wd ∧ wd ≤ 20) ∧
    ∃ c k am un t w a sl, PAY h (y 6 j) c k am un t w a sl ∧ (¬ s.2.2.1 41 j = 0 → t = nI j ∧ am = s.2.2.2 44 j ∧ un = s.2.2.2 45 j) ∧ ((s.2.2.1 41 j = 4 ∨ s.2.2.1 41 j = 6 ∨ s.2.2.1 41 j = 8 ∨ s.2.2.1 41 j = 10) → c = s.2.2.1 47 j) ∧ ((s.2.2.1 41 j = 6 ∨ s.2.2.1 41 j = 8 ∨ s.2.2.1 41 j = 10) → w = s.2.2.1 49 j) ∧ ((s.2.2.1 41 j = 8 ∨ s.2.2.1 41 j = 10) → k = s.2.2.1 50 j)
def RXs (E : Ev) (h : Hp) (y : Nat → Nat → Nat) (s : MS) (n : Nat → Nat) : Prop :=
  ∀ j, j < n 4 → ∃ (so nu len : Nat) (f : Nat → Int64), xh_at h (y 10 j) (.inr (7, [.int (nI so), .int (nI nu), .ref (y 11 j)])) ∧ xh_at h (y 11 j) (.inl (E.1 1, len, .inr (.inl f))) ∧ s.2.2.1 1 j = nI (256 * so + nu) ∧ s.2.2.1 2 j = nI len ∧ so ≤ 2 ∧ nu ≤ 255 ∧ len ≤ 8 ∧ ∀ i, i < len → f i = s.2.2.2 3 (12 * j + i)
/-- purchases, answers, debits, batches: their payments -/
def RXp (h : Hp) (y : Nat → Nat → Nat) (s : MS) (n : Nat → Nat) : Prop :=
  (∀ j, j < n 5 → ∃ c k am un t w a sl, PAY h (y 12 j) c k am un t w a sl ∧ s.2.2.2 58 (3 * j) = t.toInt64 ∧ s.2.2.2 58 (3 * j + 1) = am ∧ s.2.2.2 58 (3 * j + 2) = un) ∧
  (∀ j, j < n 6 → ∃ c k am un t w a sl, PAY h (y 13 j) c k am un t w a sl ∧ s.2.2.2 60 (7 * j) = c.toInt64 ∧ s.2.2.2 60 (7 * j + 1) = k.toInt64 ∧ s.2.2.2 60 (7 * j + 2) = am ∧ s.2.2.2 60 (7 * j + 3) = un ∧ s.2.2.2 60 (7 * j + 4) = t.toInt64 ∧ s.2.2.2 60 (7 * j + 5) = w.toInt64 ∧ s.2.2.2 60 (7 * j + 6) = a.toInt64) ∧
  (∀ j, j < n 3 → ∃ c k am un t w a sl, PAY h (y 14 j) c k am un t w a sl ∧ s.2.2.2 62 (7 * j) = c.toInt64 ∧ s.2.2.2 62 (7 * j + 1) = k.toInt64 ∧ s.2.2.2 62 (7 * j + 2) = am ∧ s.2.2.2 62 (7 * j + 3) = un ∧ s.2.2.2 62 (7 * j + 4) = t.toInt64 ∧ s.2.2.2 62 (7 * j + 5) = w.toInt64 ∧ s.2.2.2 62 (7 * j + 6) = a.toInt64) ∧
  (∀ j, j < n 7 → s.2.2.1 55 j = 0 → ∃ c k am un t w a sl, PAY h (y 16 j) c k am un t w a sl ∧ s.2.2.2 56 (7 * j) = c.toInt64 ∧ s.2.2.2 56 (7 * j + 1) = k.toInt64 ∧ s.2.2.2 56 (7 * j + 2) = am ∧ s.2.2.2 56 (7 * j + 3) = un ∧ s.2.2.2 56 (7 * j + 4) = t.toInt64 ∧ s.2.2.2 56 (7 * j + 5) = w.toInt64 ∧ s.2.2.2 56 (7 * j + 6) = sl ∧ t = s.2.2.1 54 j) ∧
  ∀ t, t < n 1 → ¬ s.2.2.1 41 t = 0 → (∀ j, j < n 1 → j ≠ t → y 6 j ≠ y 6 t) ∧ (∀ j, j < n 0 → y 4 j ≠ y 6 t) ∧ (∀ j, j < n 6 → y 13 j ≠ y 6 t) ∧ (∀ j, j < n 3 → y 14 j ≠ y 6 t) ∧ ∀ j, j < n 7 → s.2.2.1 55 j = 0 → y 16 j ≠ y 6 t
def RXo (E : Ev) (A : Nat → Prop) (h : Hp) (y : Nat → Nat → Nat) (s : MS) (n cp : Nat → Nat) : Prop :=
  RXa A h y n cp ∧ RXn s n cp ∧ RXf E h y s n ∧ RXl E h y s n cp ∧ RXm E h y s n ∧ RXc h y s n ∧ RXt h y s n ∧ RXs E h y s n ∧ RXp h y s n
/-- what the rest of the calls may still cost: each call some cells and slots, each seal some, and the lists' growth -/
def cpS (cp : Nat → Nat) : Nat := cp 12 + cp 13 + cp 14 + cp 15 + cp 16 + cp 17 + cp 18 + cp 20 + cp 21 + cp 22 + cp 23 + cp 24 + cp 25 + cp 26 + cp 27
def RXb (i : Nat) (n cp : Nat → Nat) (kc ks : Nat) : Prop := 20 * (512 - i) + 4 * (2048 - n 4) + 2 * (60 - n 9) ≤ kc ∧ 2000 * (512 - i) + 20 * (2048 - n 4) + 70 * (60 - n 9) + (491520 - 4 * cpS cp) ≤ ks
def RX : TRX := fun E A h x s i kc ks => ∃ y n cp, x = y 0 0 ∧ RXo E A h y s n cp ∧ RXb i n cp kc ks
