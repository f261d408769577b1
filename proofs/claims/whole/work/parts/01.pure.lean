/-! rows taken from kit/rows (pk_*), and the pure pictures: equal beginnings (cq_b), occurrences (cq_o), their count below a place (cq_C) -/
theorem pk_us {f : Nat → Int32} {k : Nat} {x : Int32} : upd f k x k = x := if_pos rfl
theorem pk_un {f : Nat → Int32} {k j : Nat} {x : Int32} (h : j ≠ k) : upd f k x j = f j := if_neg h
theorem pk_sub {a b : Nat} (h : b ≤ a) : nI a - nI b = nI (a - b) := by
  obtain ⟨c, rfl⟩ : ∃ c, a = c + b := ⟨a - b, by omega⟩
  rw [← nI_add, Int32.add_sub_cancel, Nat.add_sub_cancel]
theorem pk_m1 (n : Nat) : nI (n + 1) + (-1) = nI n := by
  rw [← nI_1, Int32.add_assoc, show (1 : Int32) + (-1) = 0 from rfl, Int32.add_zero]
theorem pk_sub_toInt {a b : Nat} (ha : a < 2 ^ 30) (hb : b < 2 ^ 30) : (nI a - nI b).toInt = (a : Int) - b := by
  rw [Int32.toInt_sub, nI_toInt (by omega), nI_toInt (by omega)]
  exact Int.bmod_eq_of_le (by omega) (by omega)
theorem pk_sneg {a b : Nat} (hb : b < 2 ^ 30) (h : a < b) : nI a - nI b < 0 := by
  rw [Int32.lt_iff_toInt_lt, pk_sub_toInt (by omega) hb, show (0 : Int32).toInt = 0 from by decide]
  omega
theorem pk_ix (x : Int32) {n : Nat} (hn : n < 2 ^ 31) : x < 0 ∨ nI n ≤ x ∨ ∃ j : Nat, j < n ∧ x = nI j := by
  by_cases h : x < 0
  · exact Or.inl h
  · obtain ⟨j, hj, rfl⟩ := nI_of h
    by_cases h2 : j < n
    · exact Or.inr (Or.inr ⟨j, h2, rfl⟩)
    · exact Or.inr (Or.inl (nI_le (by omega) hj))
theorem pk_le {x y : Int32} {A B : Prop} (a b : Nat) (f : a ≤ b → A) (g : b < a → B) (hx : x = nI a := by rfl) (hy : y = nI b := by rfl) (ha : a < 2 ^ 31 := by omega) (hb : b < 2 ^ 31 := by omega) : (x ≤ y → A) ∧ (¬ x ≤ y → B) := by
  subst hx hy
  rw [nI_leI ha hb]
  exact ⟨f, fun z => g (by omega)⟩
theorem pk_lt {x y : Int32} {A B : Prop} (a b : Nat) (f : a < b → A) (g : b ≤ a → B) (hx : x = nI a := by rfl) (hy : y = nI b := by rfl) (ha : a < 2 ^ 31 := by omega) (hb : b < 2 ^ 31 := by omega) : (x < y → A) ∧ (¬ x < y → B) := by
  subst hx hy
  rw [nI_ltI ha hb]
  exact ⟨f, fun z => g (by omega)⟩
theorem pk_eq {x y : Int32} {A B : Prop} (a b : Nat) (f : a = b → A) (g : a ≠ b → B) (hx : x = nI a := by rfl) (hy : y = nI b := by rfl) (ha : a < 2 ^ 31 := by omega) (hb : b < 2 ^ 31 := by omega) : (x = y → A) ∧ (¬ x = y → B) := by
  subst hx hy
  rw [nI_eq ha hb]
  exact ⟨f, g⟩
theorem pk_in {x : Int32} (n N : Nat) (h : n < N) (hx : x = nI n := by rfl) (hN : N < 2 ^ 31 := by omega) : vp_in x N := by
  subst hx
  exact vp_in_nI h hN
theorem pk_cl {x : Int32} (n : Nat) (hx : x = nI n := by rfl) (h : n < 2 ^ 31 := by omega) : x.toNatClampNeg = n := by
  subst hx
  exact nI_clamp h

/-! ints near zero, by their value -/
theorem cq_add {x y : Int32} (hx : -1000 ≤ x.toInt ∧ x.toInt ≤ 1000) (hy : -1000 ≤ y.toInt ∧ y.toInt ≤ 1000) : (x + y).toInt = x.toInt + y.toInt := by
  rw [Int32.toInt_add]
  exact Int.bmod_eq_of_le (by omega) (by omega)
theorem cq_sub {x y : Int32} (hx : -1000 ≤ x.toInt ∧ x.toInt ≤ 1000) (hy : -1000 ≤ y.toInt ∧ y.toInt ≤ 1000) : (x - y).toInt = x.toInt - y.toInt := by
  rw [Int32.toInt_sub]
  exact Int.bmod_eq_of_le (by omega) (by omega)
theorem cq_i1 : (1 : Int32).toInt = 1 := by decide
theorem cq_i0 : (0 : Int32).toInt = 0 := by decide
theorem cq_s {x : Int32} (hx : -1000 ≤ x.toInt ∧ x.toInt ≤ 1000) : (x + 1).toInt = x.toInt + 1 := by
  rw [cq_add hx (by rw [cq_i1]; omega), cq_i1]
theorem cq_nat {x : Int32} (h0 : 0 ≤ x.toInt) : x = nI x.toInt.toNat := by
  have hb : x.toInt < 2 ^ 31 := Int32.toInt_lt x
  apply Int32.toInt_inj.mp
  rw [nI_toInt (by omega)]
  omega
theorem cq_le {x y : Int32} : x ≤ y ↔ x.toInt ≤ y.toInt := Int32.le_iff_toInt_le
theorem cq_lt {x y : Int32} : x < y ↔ x.toInt < y.toInt := Int32.lt_iff_toInt_lt

/-! the pictures -/
def cq_B (b : Bool) : Int32 := if b then 1 else 0
theorem cq_Bn (b : Bool) : narrow .boolean (.int (cq_B b)) = .int (cq_B b) := by
  cases b <;> rfl
theorem cq_B0 {b : Bool} : cq_B b = 0 ↔ b = false := by
  cases b <;> decide
def cq_b (tx pt : Nat → Int32) (p n : Nat) : Bool := decide (∀ i, i < n → tx (p + i) = pt i)
def cq_o (tx pt : Nat → Int32) (ts ss p : Nat) : Bool := decide (0 < ss) && (decide (p + ss ≤ ts) && cq_b tx pt p ss)
theorem cq_bt {tx pt : Nat → Int32} {p n : Nat} (h : ∀ i, i < n → tx (p + i) = pt i) : cq_b tx pt p n = true := decide_eq_true h
theorem cq_bf {tx pt : Nat → Int32} {p n i : Nat} (hi : i < n) (h : ¬ tx (p + i) = pt i) : cq_b tx pt p n = false := decide_eq_false (fun z => h (z i hi))
theorem cq_o0 {tx pt : Nat → Int32} {ts p : Nat} : cq_o tx pt ts 0 p = false := rfl
theorem cq_of {tx pt : Nat → Int32} {ts ss p : Nat} (h : ts < p + ss) : cq_o tx pt ts ss p = false := by
  unfold cq_o
  rw [decide_eq_false (show ¬ p + ss ≤ ts by omega)]
  simp
theorem cq_ot {tx pt : Nat → Int32} {ts ss p : Nat} (h0 : 0 < ss) (h : p + ss ≤ ts) : cq_o tx pt ts ss p = cq_b tx pt p ss := by
  unfold cq_o
  rw [decide_eq_true h0, decide_eq_true h]
  simp
def cq_C (f : Nat → Bool) : Nat → Nat
  | 0 => 0
  | n + 1 => cq_C f n + (if f n then 1 else 0)
theorem cq_Ct {f : Nat → Bool} {n : Nat} (h : f n = true) : cq_C f (n + 1) = cq_C f n + 1 := by
  rw [cq_C, if_pos h]
theorem cq_Cf {f : Nat → Bool} {n : Nat} (h : f n = false) : cq_C f (n + 1) = cq_C f n := by
  rw [cq_C, if_neg (by rw [h]; decide)]; rfl
theorem cq_C1 (f : Nat → Bool) (n : Nat) : cq_C f n ≤ cq_C f (n + 1) := Nat.le_add_right _ _
theorem cq_Cm (f : Nat → Bool) {m n : Nat} (h : m ≤ n) : cq_C f m ≤ cq_C f n := by
  induction n with
  | zero => rw [Nat.le_zero.mp h]; exact Nat.le_refl _
  | succ n ih =>
    by_cases e : m = n + 1
    · rw [e]; exact Nat.le_refl _
    · exact Nat.le_trans (ih (by omega)) (cq_C1 f n)
theorem cq_Cl (f : Nat → Bool) (n : Nat) : cq_C f n ≤ n := by
  induction n with
  | zero => exact Nat.le_refl _
  | succ n ih =>
    cases h : f n with
    | false => rw [cq_Cf h]; omega
    | true => rw [cq_Ct h]; omega
